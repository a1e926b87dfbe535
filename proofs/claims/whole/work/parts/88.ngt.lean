/-! Nights: the model keeps and passes nights; a whole call: nights. -/
/-- the row behind the model's keeping -/
def kpF (g : Nat → Int32) (m : Nat) : Nat → Int32 :=
  if m < 10 then va_up (fun q => if 134 + 123 * m ≤ q ∧ q < 134 + 123 * m + 123 then g (q - (134 + 123 * m) + 11) else g q) 6 (nI (m + 1))
  else va_up (fun q => if 134 + 123 * 9 ≤ q ∧ q < 134 + 123 * 9 + 123 then va_up (fun q => if 134 ≤ q ∧ q < 1241 then g (q + 123) else g q) 6 (nI 9) (q - (134 + 123 * 9) + 11) else va_up (fun q => if 134 ≤ q ∧ q < 1241 then g (q + 123) else g q) 6 (nI 9) q) 6 (nI (9 + 1))
/-- the row behind so many nights of which so many moved -/
def ntF (gi : Nat → Nat) (n b N : Nat) (g : Nat → Int32) : Nat → Int32 := fun t => if 11 ≤ t ∧ t < 11 + n then g (11 + it gi b (t - 11)) else if t = 132 then g 132 + nI N else if t = 133 then g 133 + nI b else g t
theorem kp_old {g : Nat → Int32} {m t : Nat} (h : t < 134 ∨ 1364 ≤ t) (h6 : t ≠ 6) (hm : m ≤ 10) : kpF g m t = g t := by
  unfold kpF
  by_cases q : m < 10
  · rw [if_pos q, va_up_ne _ _ h6, if_neg (by omega)]
  · rw [if_neg q, va_up_ne _ _ h6, if_neg (by omega), va_up_ne _ _ h6, if_neg (by omega)]
theorem nt_names {gi : Nat → Nat} {n b N q : Nat} {g : Nat → Int32} (hq : q < n) : ntF gi n b N g (11 + q) = g (11 + it gi b q) := by
  unfold ntF
  rw [if_pos (by omega), Nat.add_sub_cancel_left]
theorem nt_day {gi : Nat → Nat} {n b N : Nat} {g : Nat → Int32} (hn : n ≤ 20) : ntF gi n b N g 132 = g 132 + nI N := by
  unfold ntF
  rw [if_neg (by omega), if_pos rfl]
theorem nt_moved {gi : Nat → Nat} {n b N : Nat} {g : Nat → Int32} (hn : n ≤ 20) : ntF gi n b N g 133 = g 133 + nI b := by
  unfold ntF
  rw [if_neg (by omega), if_neg (by omega), if_pos rfl]
theorem nt_out {gi : Nat → Nat} {n b N t : Nat} {g : Nat → Int32} (h : ¬ (11 ≤ t ∧ t < 11 + n)) (h1 : t ≠ 132) (h2 : t ≠ 133) : ntF gi n b N g t = g t := by
  unfold ntF
  rw [if_neg h, if_neg h1, if_neg h2]
theorem nt_add {gi : Nat → Nat} {n b b1 N N1 : Nat} {g : Nat → Int32} (hn : n ≤ 20) (hg : ∀ q, q < n → gi q < n) : ntF gi n b1 N1 (ntF gi n b N g) = ntF gi n (b + b1) (N + N1) g := funext fun t => by
  by_cases q : 11 ≤ t ∧ t < 11 + n
  · obtain ⟨j, rfl⟩ : ∃ j, t = 11 + j := ⟨t - 11, by omega⟩
    have hj : j < n := by omega
    rw [nt_names hj, nt_names (it_lt hg b1 hj), nt_names hj, it_add]
  · by_cases q1 : t = 132
    · rw [q1, nt_day hn, nt_day hn, nt_day hn, Int32.add_assoc, nI_add]
    · by_cases q2 : t = 133
      · rw [q2, nt_moved hn, nt_moved hn, nt_moved hn, Int32.add_assoc, nI_add]
      · rw [nt_out q q1 q2, nt_out q q1 q2, nt_out q q1 q2]
theorem nt_zero {gi : Nat → Nat} {n : Nat} {g : Nat → Int32} (hn : n ≤ 20) : ntF gi n 0 0 g = g := funext fun t => by
  by_cases q : 11 ≤ t ∧ t < 11 + n
  · obtain ⟨j, rfl⟩ : ∃ j, t = 11 + j := ⟨t - 11, by omega⟩
    rw [nt_names (by omega)]
    rfl
  · by_cases q1 : t = 132
    · rw [q1, nt_day hn]
      exact Int32.add_zero _
    · by_cases q2 : t = 133
      · rw [q2, nt_moved hn]
        exact Int32.add_zero _
      · rw [nt_out q q1 q2]
/-- but for the model's row and working fields two stores are one -/
def sE (s s' : ab_S) : Prop := (∀ k, k ≠ 11 → k ≠ 23 → sz s' k = sz s k) ∧ sy s' = sy s ∧ st s' = st s ∧ si s' = si s ∧ (∀ k, (k < 13 ∧ k ≠ 8) ∨ 21 < k ∨ k = 18 → sa s' k = sa s k) ∧ sA s' = sA s ∧ sb s' = sb s ∧ sB s' = sB s ∧ sq s' = sq s ∧ sn s' = sn s
theorem sE_refl (s : ab_S) : sE s s := ⟨fun _ _ _ => rfl, rfl, rfl, rfl, fun _ _ => rfl, rfl, rfl, rfl, rfl, rfl⟩
theorem sE_trans {s t u : ab_S} (h : sE s t) (h' : sE t u) : sE s u := by
  obtain ⟨a1, a2, a3, a4, a5, a6, a7, a8, a9, a10⟩ := h
  obtain ⟨b1, b2, b3, b4, b5, b6, b7, b8, b9, b10⟩ := h'
  exact ⟨fun k h1 h2 => (b1 k h1 h2).trans (a1 k h1 h2), b2.trans a2, b3.trans a3, b4.trans a4, fun k hk => (b5 k hk).trans (a5 k hk), b6.trans a6, b7.trans a7, b8.trans a8, b9.trans a9, b10.trans a10⟩
theorem sR.E {s s' : ab_S} (h : sR s s') (h18 : sa s' 18 = sa s 18) : sE s s' := by
  obtain ⟨a1, a2, a3, a4, a5, a6, a7, a8, a9, a10⟩ := h
  exact ⟨a1, a2, a3, a4, fun k hk => by
    by_cases e : k = 18
    · rw [e]
      exact h18
    · exact a5 k (by omega), a6, a7, a8, a9, a10⟩
theorem sE_pa8 {s : ab_S} {F : Nat → Int32} : sE s (pa s 8 F) := ⟨fun _ _ _ => rfl, rfl, rfl, rfl, fun q hq => va_up_ne _ _ (by omega), rfl, rfl, rfl, rfl, rfl⟩
theorem sE.D {s s' : ab_S} (h : sE s s') : sD s s' := by
  obtain ⟨a1, a2, a3, a4, a5, a6, a7, a8, a9, a10⟩ := h
  exact ⟨fun k _ _ _ _ h3 h4 => a1 k h3 h4, a3, fun k i _ => by rw [a4], fun k hk => a5 k (by omega), fun k i _ => by rw [a6], by rw [a7], a8, a9, a10⟩
theorem wrg_prm {nm p : Nat → Nat} {n : Nat} (hp : ∀ q, q < n → p q < n) (hi : ∀ a b, a < n → b < n → p a = p b → a = b) : wrg (fun q => nm (p q)) n = wrg nm n := by
  have e : ∀ v, ct (fun q => nm (p q)) n v = ct nm n v := fun v => fb_prm (P := fun q => nm q == v) hp hi
  unfold wrg
  simp only [e]
  exact fb_prm (P := fun q => decide (1 < ct nm n (nm q))) hp hi
section NGT
variable {X : (Nat → Int32) × Nat} {d k n nr bm np hs ml m : Nat} {u5 u6 : Option ab_V} {s : ab_S} {nm z f gi lo li : Nat → Nat} {st : Nat → Nat → Nat} {by' sg g : Nat → Int32}
theorem l268c (h : RW s n nm nr z st bm by') : ∀ (j k : Nat) (s1 : ab_S), k + j = nr → sR s s1 → sz s1 11 = sz s 11 → sz s1 23 = sz s 23 → sa s1 18 = sa s 18 → (∀ q, q < n → sa s1 13 q = nI (tof (fun r => lk (st r) bm (z r)) (fun r => ((by' r).toInt % ((lk (st r) bm (z r)).length : Int)).toNat) k q)) → ∃ s2 : ab_S, ab_at X (d + 2) 268 25 [some (.inr (9, 0)), some (.inl (.int (nI k)))] [] s1 = some (.inl none, s2) ∧ sR s s2 ∧ sz s2 11 = sz s 11 ∧ sz s2 23 = sz s 23 ∧ sa s2 18 = sa s 18 ∧ ∀ q, q < n → sa s2 13 q = nI (to_ nr z st bm by' q)
  | 0, k, s1, e, hs, h8, h9, hE, hT => by
    obtain rfl : k = nr := by omega
    refine ⟨s1, ?_, hs, h8, h9, hE, hT⟩
    have h' := h.same hs.known
    have h4 := h'.2.2.2.2.2.1
    rw [b268_25, h'.2.2.2.2.1, if_pos (nI_le (Nat.le_refl _) (by omega))]
  | j + 1, k, s1, e, hs, h8, h9, hE, hT => by
    have hk : k < nr := by omega
    have h' := h.same hs.known
    obtain ⟨t1, t2, t3, t4, t5, t6, t7, t8, t9, t10, t11, t12, t13, t14, t15⟩ := h'
    obtain ⟨O, N, T, g1, g2⟩ := r269 (X := X) (d := d) (s := s1) (byv := by' k) (t := tof (fun r => lk (st r) bm (z r)) (fun r => ((by' r).toInt % ((lk (st r) bm (z r)).length : Int)).toNat) k) (by omega) (t7 k hk) (t8 k hk) (t9 k hk) (t10 k hk) (t11 k hk) t2 t12 (by omega) t1 (t14 k hk) hT (fun q hq => tof_lt (fun r hr x hx => lk_lt (t10 r (by omega)) hx) hq)
    have hs1 : sR s1 (pa (pa (pa s1 15 O) 16 N) 13 T) := sR_trans (sR_pa (by omega) (by omega)) (sR_trans (sR_pa (by omega) (by omega)) (sR_pa (by omega) (by omega)))
    obtain ⟨s2, a1, a2, a3, a4, a6, a5⟩ := l268c h j (k + 1) (pa (pa (pa s1 15 O) 16 N) 13 T) (by omega) (sR_trans hs hs1) h8 h9 (by simp (disch := omega) only [E0]; exact hE) (fun q hq => by
      show sa (pa (pa (pa s1 15 O) 16 N) 13 T) 13 q = _
      simp (disch := omega) only [E0]
      exact g2 q hq)
    refine ⟨s2, ?_, a2, a3, a4, a6, a5⟩
    rw [← a1, b268_25, t5, if_neg (nI_ge hk (by omega)), g1, e_bU, nI_add]
theorem r268c (h : RW s n nm nr z st bm by') : ∃ s2 : ab_S, ab_ev X (d + 2) 268 [.inr (9, 0)] s = some (.inl none, s2) ∧ sR s s2 ∧ sz s2 11 = sz s 11 ∧ sz s2 23 = sz s 23 ∧ sa s2 18 = sa s 18 ∧ ∀ q, q < n → sa s2 13 q = nI (to_ nr z st bm by' q) := by
  obtain ⟨A, g1, g2⟩ := l268a (X := X) (d := d) h.1 h.2.1 n 0 (sa s 13) (by omega) (fun q hq => by omega)
  rw [pa_id] at g1
  obtain ⟨s2, a1, a2, a3, a4, a6, a5⟩ := l268c (X := X) (d := d) h nr 0 (pa s 13 A) (by omega) (sR_pa (by omega) (by omega)) rfl rfl (by simp (disch := omega) only [E0]) g2
  exact ⟨s2, by rw [b268, g1, a1], a2, a3, a4, a6, a5⟩
theorem r289e (h6 : sa s 8 6 = nI m) (hm : m ≤ 10) : ab_ev X d 289 [.inr (9, 0)] s = some (.inl none, pa s 8 (kpF (sa s 8) m)) ∧ KP (sa s 8) (kpF (sa s 8) m) m := by
  obtain ⟨H, g1, g2⟩ : ∃ H : Nat → Int32, ab_ev X d 289 [.inr (9, 0)] s = some (.inl none, pa s 8 H) ∧ H = kpF (sa s 8) m := by
    by_cases q : m < 10
    · obtain ⟨H, g1, g2⟩ := l289b (X := X) (d := d) (s := s) (k := m) (by omega) h6 123 0 (sa s 8) (by omega) (fun q => by rw [if_neg (by omega)])
      rw [pa_id] at g1
      refine ⟨va_up H 6 (nI (m + 1)), ?_, ?_⟩
      · rw [b289, h6, if_neg (fun z => by have := (nI_eq (by omega) (by omega)).mp z; omega)]
        exact g1
      · unfold kpF
        rw [if_pos q]
        congr 1
        exact funext g2
    · obtain rfl : m = 10 := by omega
      obtain ⟨H, g1, g2⟩ := l289a (X := X) (d := d) (s := s) h6 1107 134 (sa s 8) (by omega) (by omega) (fun q => by rw [if_neg (by omega)])
      rw [pa_id] at g1
      obtain ⟨H2, g3, g4⟩ := l289b (X := X) (d := d) (s := s) (g := va_up H 6 (nI 9)) (k := 9) (by omega) (va_up_self _ _ _) 123 0 (va_up H 6 (nI 9)) (by omega) (fun q => by rw [if_neg (by omega)])
      refine ⟨va_up H2 6 (nI (9 + 1)), ?_, ?_⟩
      · rw [b289, h6, if_pos rfl, g1]
        exact g3
      · unfold kpF
        rw [if_neg q]
        have eH : H = fun q => if 134 ≤ q ∧ q < 1241 then sa s 8 (q + 123) else sa s 8 q := funext g2
        rw [← eH]
        congr 1
        exact funext g4
  subst g2
  refine ⟨g1, ?_⟩
  obtain ⟨H2, q1, q2⟩ := r289 (X := X) (d := d) (s := s) h6 hm
  rw [g1] at q1
  have e1 := Option.some.inj q1
  have e2 : pa s 8 (kpF (sa s 8) m) = pa s 8 H2 := (Prod.mk.inj e1).2
  have e3 := congrArg (fun u => sa u 8) e2
  have e4 : kpF (sa s 8) m = H2 := by
    have a1 : sa (pa s 8 (kpF (sa s 8) m)) 8 = kpF (sa s 8) m := by simp (disch := omega) only [E0]
    have a2 : sa (pa s 8 H2) 8 = H2 := by simp (disch := omega) only [E0]
    rw [← a1, ← a2]
    exact e3
  rw [e4]
  exact q2
theorem l290a {x1 : Int32} (h : RW s n nm nr z st bm by') (h2 : ∀ k, k < n → sa s 13 k = nI (f k)) (hf : ∀ k, k < n → f k < n) (hi : ∀ a b, a < n → b < n → f a = f b → a = b) : ∀ (j i : Nat) (A : Nat → Int32), i + j = n → (∀ q, q < i → A (f q) = nI (nm q)) → ∃ A' : Nat → Int32, ab_at X (d + 1) 290 15 [some (.inr (9, 0)), some (.inl (.int x1)), some (.inl (.int (nI i)))] [] (pa s 19 A) = ab_at X (d + 1) 290 51 [some (.inr (9, 0)), some (.inl (.int x1)), some (.inl (.int (nI 0)))] [] (pa s 19 A') ∧ ∀ q, q < n → A' (f q) = nI (nm q)
  | 0, i, A, e, hA => by
    obtain rfl : i = n := by omega
    have hn := h.2.1
    have h1 : sa (pa s 19 A) 8 1 = nI i := h.1
    refine ⟨A, ?_, hA⟩
    rw [b290_15, r267 h1, e_bI, if_pos (nI_le (Nat.le_refl _) (by omega))]
  | j + 1, i, A, e, hA => by
    have hn := h.2.1
    have hin : i < n := by omega
    have h1 : sa (pa s 19 A) 8 1 = nI n := h.1
    have c1 := hf i hin
    obtain ⟨A', g1, g2⟩ := l290a (x1 := x1) h h2 hf hi j (i + 1) (va_up A (f i) (nI (nm i))) (by omega) (fun q hq => by
      by_cases e1 : q = i
      · rw [e1, va_up_self]
      · rw [va_up_ne _ _ (fun z => e1 (hi q i (by omega) hin z))]
        exact hA q (by omega))
    refine ⟨A', ?_, g2⟩
    rw [← g1, b290_15, r267 h1, e_bI, if_neg (nI_ge hin (by omega)), r_in (j := i) (by omega) (by decide), nI_add, r_in (j := 11 + i) (by omega) (by decide), nI_clamp (by omega), nI_clamp (by omega)]
    simp (disch := omega) only [E0, E1]
    rw [h2 i hin, h.2.2.1 i hin, r_in (j := f i) (by omega) (by decide), nI_clamp (by omega), nI_add]
theorem l290b {x1 : Int32} {A G0 : Nat → Int32} (hn : n ≤ 20) (h1 : G0 1 = nI n) : ∀ (j i : Nat) (G : Nat → Int32), i + j = n → (∀ t, G t = if 11 ≤ t ∧ t < 11 + i then A (t - 11) else G0 t) → ∃ G' : Nat → Int32, (∀ t, G' t = if 11 ≤ t ∧ t < 11 + n then A (t - 11) else G0 t) ∧ ab_at X (d + 1) 290 51 [some (.inr (9, 0)), some (.inl (.int x1)), some (.inl (.int (nI i)))] [] (pa (pa s 19 A) 8 G) = (if x1 = nI 0 then some (.inl (some (.inl (.int (nI 1)))), pa (pa s 19 A) 8 (va_up (va_up G' 133 (G' 133 + nI 1)) 132 (G' 132 + nI 1))) else some (.inl (some (.inl (.int (nI 0)))), pa (pa s 19 A) 8 (va_up (va_up G' 133 (G' 133 + nI 1)) 132 (G' 132 + nI 1))))
  | 0, i, G, e, hG => by
    obtain rfl : i = n := by omega
    have h1' : sa (pa (pa s 19 A) 8 G) 8 1 = nI i := by
      simp (disch := omega) only [E0]
      rw [hG, if_neg (by omega), h1]
    have e2 : va_up G 133 (G 133 + nI 1) 132 = G 132 := va_up_ne _ _ (by omega)
    refine ⟨G, hG, ?_⟩
    rw [b290_51, r267 h1', e_bI, if_pos (nI_le (Nat.le_refl _) (by omega))]
    simp (disch := omega) only [E0, E1]
    rw [e2]
  | j + 1, i, G, e, hG => by
    have hin : i < n := by omega
    have h1' : sa (pa (pa s 19 A) 8 G) 8 1 = nI n := by
      simp (disch := omega) only [E0]
      rw [hG, if_neg (by omega), h1]
    obtain ⟨G', g1, g2⟩ := l290b (x1 := x1) hn h1 j (i + 1) (va_up G (11 + i) (A i)) (by omega) (fun t => by
      by_cases e1 : t = 11 + i
      · rw [e1, va_up_self, if_pos (by omega), Nat.add_sub_cancel_left]
      · rw [va_up_ne _ _ e1, hG t]
        by_cases e2 : 11 ≤ t ∧ t < 11 + i
        · rw [if_pos e2, if_pos (by omega)]
        · rw [if_neg e2, if_neg (by omega)])
    refine ⟨G', g1, ?_⟩
    rw [← g2, b290_51, r267 h1', e_bI, if_neg (nI_ge hin (by omega)), r_in (j := i) (by omega) (by decide), nI_add, r_in (j := 11 + i) (by omega) (by decide), nI_clamp (by omega), nI_clamp (by omega), nI_add]
    simp (disch := omega) only [E0, E1]
theorem r291 (h : RW s n nm nr z st bm by') (hm : sa s 8 5 = nI ml) (h900 : ml ≤ 900) (hw : WL sg ml) (hl : LR sg (sa s 8) ml) : ∃ F : Nat → Int32, ab_ev X (d + 4) 291 [.inr (9, 0)] s = some (.inl (some (.inl (.int (if hld (rd (sa s 8 132) (sa s 8 133) (sa s 8 3) (nI (wrg nm n))) sg ml then nI 1 else nI 0)))), pa s 17 F) := by
  obtain ⟨F, g⟩ := r294 (X := X) (d := d) (s := s) (day := sa s 8 132) (moved := sa s 8 133) (wrong := nI (wrg nm n)) hm h900 hw hl
  refine ⟨F, ?_⟩
  rw [b291, r292 (d := d + 1) h, e_bI, g, e_bI]
  cases hld (rd (sa s 8 132) (sa s 8 133) (sa s 8 3) (nI (wrg nm n))) sg ml <;> rfl
/-- one night -/
theorem r290 (h : RW s n nm nr z st bm by') (hm : sa s 8 5 = nI ml) (h900 : ml ≤ 900) (hw : WL sg ml) (hl : LR sg (sa s 8) ml) : ∃ s' : ab_S, ab_ev X (d + 5) 290 [.inr (9, 0)] s = some (.inl (some (.inl (.int (nI (if hld (rd (sa s 8 132) (sa s 8 133) (sa s 8 3) (nI (wrg nm n))) sg ml then 0 else 1))))), s') ∧ sE s s' ∧ sa s' 8 = ntF (inv (to_ nr z st bm by') n) n (if hld (rd (sa s 8 132) (sa s 8 133) (sa s 8 3) (nI (wrg nm n))) sg ml then 0 else 1) 1 (sa s 8) ∧ sz s' 11 = sz s 11 ∧ sz s' 23 = sz s 23 := by
  have hn := h.2.1
  obtain ⟨F, g⟩ := r291 (X := X) (d := d) h hm h900 hw hl
  cases hh : hld (rd (sa s 8 132) (sa s 8 133) (sa s 8 3) (nI (wrg nm n))) sg ml with
  | true =>
    rw [hh, if_pos rfl] at g
    refine ⟨pa (pa s 17 F) 8 (va_up (sa s 8) 132 (sa s 8 132 + nI 1)), ?_, sE_trans ((sR_pa (by omega) (by omega)).E rfl) sE_pa8, ?_, rfl, rfl⟩
    · rw [b290, g, e_bI, if_neg (show ¬ nI 1 = nI 0 by decide), if_neg (show ¬ nI 1 = nI 0 by decide)]
      rfl
    · simp (disch := omega) only [E0]
      rw [if_pos trivial]
      funext t
      by_cases q : 11 ≤ t ∧ t < 11 + n
      · obtain ⟨j, rfl⟩ : ∃ j, t = 11 + j := ⟨t - 11, by omega⟩
        rw [nt_names (by omega), va_up_ne _ _ (by omega)]
        rfl
      · by_cases q1 : t = 132
        · rw [q1, nt_day hn, va_up_self]
        · rw [va_up_ne _ _ q1]
          by_cases q2 : t = 133
          · rw [q2, nt_moved hn]
            exact (Int32.add_zero _).symm
          · rw [nt_out q q1 q2]
  | false =>
    rw [hh, if_neg (by decide)] at g
    have h17 : RW (pa s 17 F) n nm nr z st bm by' := h.same rfl
    obtain ⟨s3, r1, r2, r3, r4, r18, r5⟩ := r268c (X := X) (d := d + 2) h17
    have h3 : RW s3 n nm nr z st bm by' := h17.same r2.known
    have e38 : sa s3 8 = sa s 8 := r2.known
    obtain ⟨A, a1, a2⟩ := l290a (X := X) (d := d + 4) (x1 := nI 0) h3 r5 h.to_lt h.to_inj n 0 (sa s3 19) (by omega) (fun q hq => by omega)
    rw [pa_id] at a1
    obtain ⟨G, b1, b2⟩ := l290b (X := X) (d := d + 4) (s := s3) (x1 := nI 0) (A := A) (G0 := sa s 8) hn h.1 n 0 (sa s 8) (by omega) (fun t => by rw [if_neg (by omega)])
    have e5 : pa (pa s3 19 A) 8 (sa s 8) = pa s3 19 A := by
      have := pa_id (pa s3 19 A) 8
      have e6 : sa (pa s3 19 A) 8 = sa s 8 := by
        simp (disch := omega) only [E0]
        exact e38
      rw [e6] at this
      exact this
    rw [e5, if_pos rfl] at b2
    refine ⟨pa (pa s3 19 A) 8 (va_up (va_up G 133 (G 133 + nI 1)) 132 (G 132 + nI 1)), ?_, sE_trans ((sR_pa (by omega) (by omega)).E rfl) (sE_trans (r2.E r18) (sE_trans ((sR_pa (k := 19) (by omega) (by omega)).E rfl) sE_pa8)), ?_, ?_, ?_⟩
    · rw [b290, g, e_bI, if_pos rfl, r1, e_bU, a1, b2]
      rfl
    · simp (disch := omega) only [E0]
      rw [if_neg (by decide)]
      funext t
      by_cases q : 11 ≤ t ∧ t < 11 + n
      · obtain ⟨j, rfl⟩ : ∃ j, t = 11 + j := ⟨t - 11, by omega⟩
        have hj : j < n := by omega
        rw [nt_names hj, va_up_ne _ _ (by omega), va_up_ne _ _ (by omega), b1, if_pos q, Nat.add_sub_cancel_left]
        obtain ⟨i1, i2⟩ := inv_lt h.to_lt h.to_inj hj
        have e7 := a2 _ i1
        rw [i2] at e7
        show A j = sa s 8 (11 + inv (to_ nr z st bm by') n j)
        rw [e7, h.2.2.1 _ i1]
      · by_cases q1 : t = 132
        · rw [q1, nt_day hn, va_up_self, b1, if_neg (by omega)]
        · rw [va_up_ne _ _ q1]
          by_cases q2 : t = 133
          · rw [q2, nt_moved hn, va_up_self, b1, if_neg (by omega)]
          · rw [va_up_ne _ _ q2, nt_out q q1 q2, b1, if_neg q]
    · show sz s3 11 = _
      rw [r3]
      rfl
    · show sz s3 23 = _
      rw [r4]
      rfl
/-- the row behind nights is a town's -/
theorem RW_nt {s' : ab_S} {b N : Nat} (h : RW s n nm nr z st bm by') (hg : ∀ q, q < n → gi q < n) (e : sa s' 8 = ntF gi n b N (sa s 8)) : RW s' n (fun q => nm (it gi b q)) nr z st bm by' := by
  obtain ⟨w1, w2, w3, w4, w5, w6, w7, w8, w9, w10, w11, w12, w13, w14, w15⟩ := h
  unfold RW
  rw [e]
  refine ⟨by rw [nt_out (by omega) (by omega) (by omega)]; exact w1, w2, fun q hq => by rw [nt_names hq]; exact w3 _ (it_lt hg b hq), fun q hq => w4 _ (it_lt hg b hq), by rw [nt_out (by omega) (by omega) (by omega)]; exact w5, w6, fun r hr => by rw [nt_out (by omega) (by omega) (by omega)]; exact w7 r hr, w8, fun r hr k hk => by have := w8 r hr; rw [nt_out (by omega) (by omega) (by omega)]; exact w9 r hr k hk, w10, w11, by rw [nt_out (by omega) (by omega) (by omega)]; exact w12, w13, fun r hr => by rw [nt_out (by omega) (by omega) (by omega)]; exact w14 r hr, w15⟩
theorem LR_nt {b N : Nat} (hn : n ≤ 20) (h : LR sg g ml) : LR sg (ntF gi n b N g) ml := fun q hq => by
  rw [nt_out (by omega) (by omega) (by omega)]
  exact h q hq
/-- when the law of a row holds -/
def mH (g : Nat → Int32) (sg : Nat → Int32) (ml w : Nat) : Int32 → Int32 → Bool := fun day moved => hld (rd day moved (g 3) (nI w)) sg ml
theorem l288 {N : Nat} (h : RW s n nm nr z st bm by') (hm : sa s 8 5 = nI ml) (h900 : ml ≤ 900) (hw : WL sg ml) (hl : LR sg (sa s 8) ml) (hN : N ≤ 999) : ∀ (j k : Nat) (t : ab_S), k + j = N → sE s t → sz t 11 = sz s 11 → sz t 23 = sz s 23 → sa t 8 = ntF (inv (to_ nr z st bm by') n) n (mvf (mH (sa s 8) sg ml (wrg nm n)) (sa s 8 132) (sa s 8 133) k) k (sa s 8) → ∃ t' : ab_S, ab_at X (d + 6) 288 31 [some (.inr (9, 0)), some (.inl (.int (nI N))), some (.inl (.int (nI (mvf (mH (sa s 8) sg ml (wrg nm n)) (sa s 8 132) (sa s 8 133) k)))), some (.inl (.int (nI k)))] [] t = some (.inl (some (.inl (.int (nI (mvf (mH (sa s 8) sg ml (wrg nm n)) (sa s 8 132) (sa s 8 133) N))))), t') ∧ sE s t' ∧ sz t' 11 = sz s 11 ∧ sz t' 23 = sz s 23 ∧ sa t' 8 = ntF (inv (to_ nr z st bm by') n) n (mvf (mH (sa s 8) sg ml (wrg nm n)) (sa s 8 132) (sa s 8 133) N) N (sa s 8)
  | 0, k, t, e, h1, h11, h23, h2 => by
    obtain rfl : k = N := by omega
    exact ⟨t, by rw [b288_31, if_pos (nI_le (Nat.le_refl _) (by omega))], h1, h11, h23, h2⟩
  | j + 1, k, t, e, h1, h11, h23, h2 => by
    have hn := h.2.1
    have hg : ∀ q, q < n → inv (to_ nr z st bm by') n q < n := fun q hq => (inv_lt h.to_lt h.to_inj hq).1
    have hgi : ∀ a b, a < n → b < n → inv (to_ nr z st bm by') n a = inv (to_ nr z st bm by') n b → a = b := fun a b ha hb e => by
      have q1 := (inv_lt h.to_lt h.to_inj ha).2
      have q2 := (inv_lt h.to_lt h.to_inj hb).2
      rw [← q1, ← q2, e]
    have hRt := RW_nt h hg h2
    have h5 : sa t 8 5 = nI ml := by rw [h2, nt_out (by omega) (by omega) (by omega)]; exact hm
    have hlt : LR sg (sa t 8) ml := by rw [h2]; exact LR_nt hn hl
    obtain ⟨t1, g1, g2, g3, g4, g5⟩ := r290 (X := X) (d := d) hRt h5 h900 hw hlt
    have ew : wrg (fun q => nm (it (inv (to_ nr z st bm by') n) (mvf (mH (sa s 8) sg ml (wrg nm n)) (sa s 8 132) (sa s 8 133) k) q)) n = wrg nm n := wrg_prm (p := it (inv (to_ nr z st bm by') n) (mvf (mH (sa s 8) sg ml (wrg nm n)) (sa s 8 132) (sa s 8 133) k)) (fun q hq => it_lt hg _ hq) (fun a b ha hb => it_inj hg hgi _ ha hb)
    have e132 : sa t 8 132 = sa s 8 132 + nI k := by rw [h2, nt_day hn]
    have e133 : sa t 8 133 = sa s 8 133 + nI (mvf (mH (sa s 8) sg ml (wrg nm n)) (sa s 8 132) (sa s 8 133) k) := by rw [h2, nt_moved hn]
    have e3 : sa t 8 3 = sa s 8 3 := by rw [h2, nt_out (by omega) (by omega) (by omega)]
    rw [ew, e132, e133, e3] at g1 g3
    have hs : mvf (mH (sa s 8) sg ml (wrg nm n)) (sa s 8 132) (sa s 8 133) (k + 1) = mvf (mH (sa s 8) sg ml (wrg nm n)) (sa s 8 132) (sa s 8 133) k + (if hld (rd (sa s 8 132 + nI k) (sa s 8 133 + nI (mvf (mH (sa s 8) sg ml (wrg nm n)) (sa s 8 132) (sa s 8 133) k)) (sa s 8 3) (nI (wrg nm n))) sg ml then 0 else 1) := rfl
    rw [h2, nt_add hn hg, ← hs] at g3
    obtain ⟨t', i1, i2⟩ := l288 h hm h900 hw hl hN j (k + 1) t1 (by omega) (sE_trans h1 g2) (g4.trans h11) (g5.trans h23) g3
    refine ⟨t', ?_, i2⟩
    rw [← i1, b288_31, if_neg (nI_ge (by omega) (by omega)), g1, e_bI, nI_add, nI_add, ← hs]
/-- the law of a town and of its row -/
theorem mH_eq (hl : si s 8 0 = nI ml) (h900 : ml ≤ 900) (hp : si s 3 0 = g 3) {w : Nat} : lwH s 0 (nI w) = mH g (sA s 6 0) ml w := by
  funext day moved
  unfold lwH mH
  rw [hl, nI_clamp (by omega), hp]
/-- nights of the class' town, and of the row -/
theorem CW.nights {i N : Nat} (h : CW s i g n nr np hs ml m by' nm z st bm lo li) (hi : i ≤ 1) (hN : N ≤ 999) : ∃ s1 : ab_S, ab_ev X (d + 5) 113 [.inr (2, i), .inl (.int (nI N)), .inr (6, 0)] s = some (.inl (some (.inl (.int (nI (mvf (mH g (sA s 6 i) ml (wrg nm n)) (g 132) (g 133) N))))), s1) ∧ sD s s1 ∧ (∀ q, q ≠ i → ∀ k, si s1 k q = si s k q) ∧ (∀ q, q ≠ i → ∀ k, sA s1 k q = sA s k q) ∧ sA s1 6 i = sA s 6 i ∧ sa s1 8 = sa s 8 ∧ sb s1 = sb s ∧ (∀ k, k ≠ 8 → k ≠ 9 → sz s1 k = sz s k) ∧ CW s1 i (ntF (inv (to_ nr z st bm by') n) n (mvf (mH g (sA s 6 i) ml (wrg nm n)) (g 132) (g 133) N) N (kpF g m)) n nr np hs ml (min m 9 + 1) by' (fun q => nm (it (inv (to_ nr z st bm by') n) (mvf (mH g (sA s 6 i) ml (wrg nm n)) (g 132) (g 133) N) q)) z st bm lo li := by
  have hT := h.TW
  obtain ⟨hKC, hGC, hHS, hL0, hLW, hWS, hPE, hm, hg6, hDR⟩ := id h
  have hn := hKC.2.1
  have h10 : m ≤ 10 := hDR.1
  have h48 : nr ≤ 4 ∧ np ≤ 8 := ⟨hKC.2.2.2.1, hKC.2.2.2.2.2.1⟩
  obtain ⟨d4, d5⟩ := h.day
  have hg : ∀ q, q < n → inv (to_ nr z st bm by') n q < n := fun q hq => (inv_lt hT.to_lt hT.to_inj hq).1
  have hgf : ∀ q, q < n → inv (to_ nr z st bm by') n (to_ nr z st bm by' q) = q := fun q hq => inv_f hT.to_inj hq
  have eH : lwH s i (nI (wrg nm n)) = mH g (sA s 6 i) ml (wrg nm n) := by
    funext day moved
    unfold lwH mH
    rw [hLW.1, nI_clamp (by have := hLW.2.2.1; omega), hKC.2.2.2.2.1, hGC.2.2.1]
  obtain ⟨F, G, s0, c1, c2, c3, c4⟩ := c_passNights (X := X) (d := d) (N := N) hT hm h10 hLW.1 hLW.2.2.1 hLW.2.2.2.1 hN
  rw [eH, d4, d5] at c1 c3
  obtain ⟨b, hb⟩ : ∃ b, b = mvf (mH g (sA s 6 i) ml (wrg nm n)) (g 132) (g 133) N := ⟨_, rfl⟩
  rw [← hb] at c1 c3 ⊢
  have hbN : b ≤ N := by rw [hb]; exact mvf_le _ _ _ N
  have e0 : si s0 = si s := c2.2.2.2.1
  have e1 : sA s0 = sA (wA s 7 i F) := c2.2.2.2.2.2.1
  have hG : ∀ q, q < n → G q = nI (nm (it (inv (to_ nr z st bm by') n) b q)) := fun q hq => by
    rw [c3 q hq, n_negi (by omega), ah_neg hT.to_lt hT.to_inj hgf hq]
  obtain ⟨s1, hs1⟩ : ∃ s1, s1 = nt (wi (wi (wA s0 0 i G) 4 i (g 132 + nI N)) 5 i (g 133 + nI b)) i m (nI 1) (nI N) (nI b) (nI 0) := ⟨_, rfl⟩
  have hX : ∀ k q, k ≠ 4 → k ≠ 5 → k ≠ 9 → si s1 k q = si s k q := fun k q h4 h5 h9 => by
    rw [hs1, nt_si h9]
    simp (disch := omega) only [E0]
    rw [e0]
  have hY : ∀ k, k ≠ 0 → k ≠ 7 → k ≠ 8 → sA s1 k = sA s k := fun k h0 h7 h8 => by
    rw [hs1, nt_sA h8]
    simp (disch := omega) only [E0]
    rw [e1]
    simp (disch := omega) only [E0]
  have hKP := fun (d : Nat) => (r289e (X := X) (d := d) (s := pa s 8 g) (m := m) (by simp (disch := omega) only [E0]; exact hg6) h10).2
  have e88 : sa (pa s 8 g) 8 = g := by simp (disch := omega) only [E0]
  rw [e88] at hKP
  have hK := hKP 0
  have e2 : ∀ t, t < 134 → t ≠ 6 → kpF g m t = g t := fun t h1 h2 => kp_old (Or.inl h1) h2 h10
  refine ⟨s1, ?_, ?_, fun q hq k => ?_, fun q hq k => ?_, congrFun (hY 6 (by omega) (by omega) (by omega)) i, ?_, ?_, ?_, ?_⟩
  · rw [c1, hs1]
  · rw [hs1]
    refine sD_trans (sD_wA (i := i) (k := 7) (F := F) hi) (sD_trans c2.V.D (sD_trans (sD_wA hi) (sD_trans (sD_wi hi (by decide)) (sD_trans (sD_wi hi (by decide)) (sD_nt hi)))))
  · by_cases q4 : k = 4
    · subst q4
      rw [hs1, nt_si (by decide)]
      simp (disch := omega) only [E0]
      rw [e0]
    · by_cases q5 : k = 5
      · subst q5
        rw [hs1, nt_si (by decide)]
        simp (disch := omega) only [E0]
        rw [e0]
      · by_cases q9 : k = 9
        · subst q9
          rw [hs1]
          unfold nt
          simp (disch := omega) only [E0]
          rw [e0]
        · exact hX k q q4 q5 q9
  · by_cases q0 : k = 0
    · subst q0
      rw [hs1, nt_sA (by decide)]
      simp (disch := omega) only [E0]
      rw [e1]
      simp (disch := omega) only [E0]
    · by_cases q7 : k = 7
      · subst q7
        rw [hs1, nt_sA (by decide)]
        simp (disch := omega) only [E0]
        rw [e1]
        simp (disch := omega) only [E0]
      · by_cases q8 : k = 8
        · subst q8
          rw [hs1]
          unfold nt
          simp (disch := omega) only [E0]
          rw [e1]
          simp (disch := omega) only [E0]
        · rw [hY k q0 q7 q8]
  · rw [hs1]
    show sa s0 8 = _
    rw [c2.2.2.2.2.1 8 (by omega)]
    rfl
  · rw [hs1]
    show sb s0 = _
    rw [c2.2.2.2.2.2.2.1]
    rfl
  · intro k h8 h9
    rw [hs1]
    show sz s0 k = _
    rw [c2.1 k h8 h9]
    rfl
  · have f0 : ∀ q, q < n → st_ (ntF (inv (to_ nr z st bm by') n) n b N (kpF g m)) 11 q = nI (nm (it (inv (to_ nr z st bm by') n) b q)) := fun q hq => by
      have hq' := it_lt hg b hq
      rw [st_at (by omega), nt_names hq, e2 _ (by omega) (by omega)]
      have := hWS.1 _ hq'
      rw [st_at (by omega)] at this
      exact this
    have f1 : ∀ t, 20 ≤ t → t ≠ 121 → t ≠ 122 → st_ (ntF (inv (to_ nr z st bm by') n) n b N (kpF g m)) 11 t = st_ g 11 t := fun t h1 h2 h3 => by
      by_cases q : t < 123
      · rw [st_at q, st_at q, nt_out (by omega) (by omega) (by omega), e2 _ (by omega) (by omega)]
      · unfold st_
        rw [if_neg q, if_neg q]
    have f2 : st_ (ntF (inv (to_ nr z st bm by') n) n b N (kpF g m)) 11 121 = g 132 + nI N := by rw [st_at (by omega), nt_day hn, e2 _ (by omega) (by omega)]
    have f3 : st_ (ntF (inv (to_ nr z st bm by') n) n b N (kpF g m)) 11 122 = g 133 + nI b := by rw [st_at (by omega), nt_moved hn, e2 _ (by omega) (by omega)]
    have hw' : WSp n nr np hs (st_ (ntF (inv (to_ nr z st bm by') n) n b N (kpF g m)) 11) (fun q => nm (it (inv (to_ nr z st bm by') n) b q)) z st bm lo li := hWS.names f0 (fun q hq => hWS.2.1 _ (it_lt hg b hq)) f1 h48
    refine h.deed (k := nI 1) (a := nI N) (b := nI b) (c := nI 0) hK (fun q a1 a2 a3 a4 => hX q i a1 a2 a4) (congrFun (hY 5 (by omega) (by omega) (by omega)) i) (congrFun (hY 6 (by omega) (by omega) (by omega)) i) ?_ ?_ (fun q hq => nt_out (by omega) (by omega) (by omega)) hw' ?_ ?_
    · rw [hs1, nt_si9 h10]
    · rw [hs1, nt_sA8]
      simp (disch := omega) only [E0]
      rw [e1]
      simp (disch := omega) only [E0]
    · refine hPE.names hn (fun q hq => ?_) (hX 6 i (by omega) (by omega) (by omega)) (congrFun (hY 4 (by omega) (by omega) (by omega)) i) (congrFun (hY 3 (by omega) (by omega) (by omega)) i) (congrFun (hY 1 (by omega) (by omega) (by omega)) i) (congrFun (hY 2 (by omega) (by omega) (by omega)) i) ?_ ?_ f1 h48
      · show sA s1 0 i q = _
        rw [hs1, nt_sA (by decide)]
        simp (disch := omega) only [E0]
        rw [hG q hq, f0 q hq]
      · show si s1 4 i = _
        rw [f2, hs1, nt_si (by decide)]
        simp (disch := omega) only [E0]
      · show si s1 5 i = _
        rw [f3, hs1, nt_si (by decide)]
        simp (disch := omega) only [E0]
    · refine ⟨_, Or.inl ⟨rfl, _, z, st, bm, lo, li, hw', rfl⟩, ?_⟩
      have g1 : ∀ t, 20 ≤ t → t ≠ 121 → t ≠ 122 → (if t < n then nI (nm (it (inv (to_ nr z st bm by') n) b (ah (to_ nr z st bm by') n t (nI b).toInt))) else if t = 121 then st_ (ntF (inv (to_ nr z st bm by') n) n b N (kpF g m)) 11 121 - nI N else if t = 122 then st_ (ntF (inv (to_ nr z st bm by') n) n b N (kpF g m)) 11 122 - nI b else st_ (ntF (inv (to_ nr z st bm by') n) n b N (kpF g m)) 11 t) = st_ g 11 t := fun t h1 h2 h3 => by rw [if_neg (by omega), if_neg h2, if_neg h3, f1 t h1 h2 h3]
      refine ⟨fun q hq => ?_, (g1 20 (by omega) (by omega) (by omega)).symm, fun r hr => (g1 _ (by omega) (by omega) (by omega)).symm, fun r hr y hy ey k hk => (g1 _ (by omega) (by omega) (by omega)).symm, fun q hq => ⟨(g1 _ (by omega) (by omega) (by omega)).symm, (g1 _ (by omega) (by omega) (by omega)).symm⟩, ?_, ?_⟩
      · show _ = (if q < n then nI (nm (it (inv (to_ nr z st bm by') n) b (ah (to_ nr z st bm by') n q (nI b).toInt))) else _)
        rw [if_pos hq, nI_toInt (by omega), ah_nat hT.to_lt hT.to_inj hq, it_back hT.to_lt hgf b hq]
        exact hWS.1 q hq
      · show _ = (if 121 < n then _ else if 121 = 121 then st_ (ntF (inv (to_ nr z st bm by') n) n b N (kpF g m)) 11 121 - nI N else _)
        rw [if_neg (by omega), if_pos rfl, f2, Int32.add_sub_cancel, st_at (by omega)]
      · show _ = (if 122 < n then _ else if 122 = 121 then _ else if 122 = 122 then st_ (ntF (inv (to_ nr z st bm by') n) n b N (kpF g m)) 11 122 - nI b else _)
        rw [if_neg (by omega), if_neg (by omega), if_pos rfl, f3, Int32.add_sub_cancel, st_at (by omega)]
theorem CW.same {s' : ab_S} {i : Nat} (h : CW s i g n nr np hs ml m by' nm z st bm lo li) (h1 : ∀ k, si s' k i = si s k i) (h2 : ∀ k, k ≠ 7 → sA s' k i = sA s k i) : CW s' i g n nr np hs ml m by' nm z st bm lo li := by
  unfold CW KC PE at h ⊢
  simp only [h1, h2 0 (by decide), h2 1 (by decide), h2 2 (by decide), h2 3 (by decide), h2 4 (by decide), h2 5 (by decide), h2 6 (by decide), h2 8 (by decide)]
  exact h
theorem o111 (h : CW s 0 (sa s 8) n nr np hs ml m by' nm z st bm lo li) (hk : k + 5 < X.2) (hX : X.2 < 2 ^ 31) : ∃ (s2 : ab_S) (v5 v6 : Option ab_V), sZ s s2 ∧ ab_at X (d + 31) 360 878 [some (.inr (14, 0)), some (.inr (0, 0)), some (.inr (9, 0)), some (.inr (15, 0)), some (.inl (.int (nI k))), u5, u6, none] [] s = ab_at X (d + 31) 360 23 [some (.inr (14, 0)), some (.inr (0, 0)), some (.inr (9, 0)), some (.inr (15, 0)), some (.inl (.int (nI (k + 6)))), v5, v6, none] [] s2 := by
  obtain ⟨⟨hT, hR⟩, p1, p2, p3, p4, p5, p6, p7⟩ := id h.PW
  obtain ⟨hcn, hn, t3, t4, -⟩ := id hT
  have hr1 : sa (ths s) 8 1 = nI n := hR.1
  have hr2 : sa (ths s) 8 2 = nI nr := hR.2.2.2.2.1
  have hr3 : sa (ths s) 8 3 = nI np := p2
  have hr4 : sa (ths s) 8 4 = nI hs := p5
  obtain ⟨hKC, hGC, hHS, hL0, hLW, hWS, hPE, hm, hg6, hDR⟩ := id h
  have h10 : m ≤ 10 := hDR.1
  have h48 : nr ≤ 4 ∧ np ≤ 8 := ⟨hKC.2.2.2.1, hKC.2.2.2.2.2.1⟩
  have i_1 : (nI 1).toInt = 1 := by decide
  have j_1 : (lN 1).toInt = 1 := by decide
  have i_99 : (nI 99).toInt = 99 := by decide
  have j_99 : (lN 99).toInt = 99 := by decide
  by_cases h1 : inR (X.1 (k + 1)).toInt 1 99 = true
  rotate_left
  · have cc : ab_ev X (d + 30) 111 [.inr (0, 0), .inl (.int (X.1 (k + 1))), .inr (15, 0)] s = some (.inl (some (.inl (.int (nI 1)))), ths s) := by
      rw [b111, b112, c_n103, i_1, i_99, if_neg h1, e_xU, e_px, e_xI]
      rfl
    have r : ab_ev X (d + 30) 288 [.inr (9, 0), .inl (.int (X.1 (k + 1)))] (ths s) = some (.inl (some (.inl (.int (nI 0)))), pz (ths s) 11 (nI 1)) := by
      have hr1 : sa (pz (ths s) 11 (nI 0)) 8 1 = nI n := hR.1
      rw [b288, r232, j_of, j_1, j_99, if_neg h1, e_bI, if_pos rfl, b233, e_bI, pz2]
    exact ⟨_, _, _, Or.inl (Or.inr (sV_pz (by omega)).X), w878 hk hX cc r rfl (fun q => absurd q (by decide))⟩
  obtain ⟨N, hN, ev⟩ := inS_rep (x := X.1 (k + 1)) (n := 100) (inS_def.mpr (by have := inR_iff.mp h1; omega))
  obtain ⟨s1, c1, c2, c3, c4, c5, c6, c7, c8, c9⟩ := h.nights (X := X) (d := d + 23) (N := N) (by decide) (by omega)
  obtain ⟨b, hb⟩ : ∃ b, b = mvf (mH (sa s 8) (sA s 6 0) ml (wrg nm n)) (sa s 8 132) (sa s 8 133) N := ⟨_, rfl⟩
  rw [← hb] at c1 c9
  have cc : ab_ev X (d + 30) 111 [.inr (0, 0), .inl (.int (X.1 (k + 1))), .inr (15, 0)] s = some (.inl (some (.inl (.int (nI 0)))), pb s1 3 (va_up (sb s1 3) 0 (nI b).toInt64)) := by
    rw [b111, b112, c_n103, i_1, i_99, if_pos h1, e_bU, ev, c1, e_bI, e_bI]
  obtain ⟨sM, hsM⟩ : ∃ sM, sM = pz (pb s1 3 (va_up (sb s1 3) 0 (nI b).toInt64)) 11 (nI 0) := ⟨_, rfl⟩
  have e8 : sa sM 8 = sa s 8 := by rw [hsM]; exact c6
  have d1 : sD s sM := by
    rw [hsM]
    exact sD_trans c2 (sD_trans sV_pb.D (sV_pz (by omega)).D)
  obtain ⟨q1, hK⟩ := r289e (X := X) (d := d + 29) (s := sM) (m := m) (by rw [e8]; exact hg6) h10
  rw [e8] at q1 hK
  obtain ⟨sK, hsK⟩ : ∃ sK, sK = pa sM 8 (kpF (sa s 8) m) := ⟨_, rfl⟩
  have eK : sa sK 8 = kpF (sa s 8) m := by rw [hsK]; simp (disch := omega) only [E0]
  have hRK : RW sK n nm nr z st bm by' := by
    obtain ⟨w1, w2, w3, w4, w5, w6, w7, w8, w9, w10, w11, w12, w13, w14, w15⟩ := hR
    unfold RW
    rw [eK]
    refine ⟨by rw [kp_old (by omega) (by omega) h10]; exact w1, w2, fun q hq => by rw [kp_old (by omega) (by omega) h10]; exact w3 q hq, w4, by rw [kp_old (by omega) (by omega) h10]; exact w5, w6, fun q hq => by rw [kp_old (by omega) (by omega) h10]; exact w7 q hq, w8, fun q hq y hy => by have := w8 q hq; rw [kp_old (by omega) (by omega) h10]; exact w9 q hq y hy, w10, w11, by rw [kp_old (by omega) (by omega) h10]; exact w12, w13, fun q hq => by rw [kp_old (by omega) (by omega) h10]; exact w14 q hq, w15⟩
  have hLK : LR (sA s 6 0) (sa sK 8) ml := fun q hq => by
    rw [eK, kp_old (by omega) (by omega) h10]
    exact hLW.2.2.2.2 q hq
  have h5K : sa sK 8 5 = nI ml := by rw [eK, kp_old (by omega) (by omega) h10]; exact hLW.2.1
  obtain ⟨t, l1, l2, l3, -, l4⟩ := l288 (X := X) (d := d + 24) (N := N) hRK h5K hLW.2.2.1 hLW.2.2.2.1 hLK (by omega) N 0 sK (by omega) (sE_refl _) rfl rfl (nt_zero hn).symm
  have em : mvf (mH (sa sK 8) (sA s 6 0) ml (wrg nm n)) (sa sK 8 132) (sa sK 8 133) N = b := by
    rw [hb]
    unfold mH
    rw [eK, kp_old (by omega) (by omega) h10, kp_old (by omega) (by omega) h10, kp_old (by omega) (by omega) h10]
  rw [em] at l1 l4
  rw [eK] at l4
  have r : ab_ev X (d + 30) 288 [.inr (9, 0), .inl (.int (X.1 (k + 1)))] (pb s1 3 (va_up (sb s1 3) 0 (nI b).toInt64)) = some (.inl (some (.inl (.int (nI b)))), t) := by
    have l1' : ab_at X (d + 30) 288 31 [some (.inr (9, 0)), some (.inl (.int (nI N))), some (.inl (.int (nI 0))), some (.inl (.int (nI 0)))] [] sK = _ := l1
    rw [b288, ← hsM, r232, j_of, j_1, j_99, if_pos h1, e_bI, if_neg (show ¬ nI 1 = nI 0 by decide), q1, e_bU, ev, ← hsK, l1']
  have esM : si sM = si s1 ∧ sA sM = sA s1 := by rw [hsM]; exact ⟨rfl, rfl⟩
  have esK : si sK = si s1 ∧ sA sK = sA s1 := by rw [hsK]; exact esM
  have hC : CW t 0 (sa t 8) n nr np hs ml (min m 9 + 1) by' (fun q => nm (it (inv (to_ nr z st bm by') n) b q)) z st bm lo li := by
    rw [l4]
    exact c9.same (fun q => by rw [l2.2.2.2.1, esK.1]) (fun q _ => by rw [l2.2.2.2.2.2.1, esK.2])
  have e9 : sz t 11 = nI 0 := by
    rw [l3, hsK, hsM]
    simp (disch := omega) only [E0]
  have e10 : sb t 3 0 = (nI b).toInt64 := by
    rw [l2.2.2.2.2.2.2.1, hsK, hsM]
    simp (disch := omega) only [E0]
    rw [va_up_self]
  exact ⟨t, _, _, Or.inr ⟨sD_trans d1 (sD_trans (by rw [hsK]; exact sD_pa8) l2.D), _, _, _, _, _, _, _, _, _, _, _, _, _, hC⟩, w878 hk hX cc r e9 (fun _ => e10)⟩
end NGT
