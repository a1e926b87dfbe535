/-! A town's text, as both read it. -/
def tfC (c c' : ab_S) : Prop := (∀ k, k = 0 ∨ 7 < k → sz c' k = sz c k) ∧ (∀ k i, 9 < k ∨ i ≠ 1 → si c' k i = si c k i) ∧ sa c' = sa c ∧ (∀ k i, 8 < k ∨ i ≠ 1 → sA c' k i = sA c k i) ∧ c'.2.2.2.2.2.2 = c.2.2.2.2.2.2
def tfM (m m' : ab_S) : Prop := (∀ k, k < 12 ∨ (19 < k ∧ k ≠ 22) → sz m' k = sz m k) ∧ (∀ k, k ≠ 9 → sa m' k = sa m k) ∧ si m' = si m ∧ m'.2.2.2.2.2 = m.2.2.2.2.2
theorem tfC.t {a b c : ab_S} (h : tfC a b) (h' : dfC b c) : tfC a c := ⟨fun k h1 => (h'.1 k (by omega) (by omega) (by omega) (by omega) (by omega)).trans (h.1 k h1), fun k i q => (h'.2.1 k i q).trans (h.2.1 k i q), h'.2.2.1.trans h.2.2.1, fun k i q => (h'.2.2.2.1 k i q).trans (h.2.2.2.1 k i q), h'.2.2.2.2.trans h.2.2.2.2⟩
theorem tfM.t {a b c : ab_S} (h : tfM a b) (h' : dfM b c) : tfM a c := ⟨fun k h1 => (h'.1 k (by omega)).trans (h.1 k h1), fun k q => (h'.2.1 k q).trans (h.2.1 k q), h'.2.2.1.trans h.2.2.1, h'.2.2.2.trans h.2.2.2⟩
/-- the class' draft, emptied -/
def clr (s : ab_S) (L : Nat) : ab_S := wi (wi (wi (wi (wi (wi (wi (wi (wi (wi (pz (pz (pz (pz (pz s 4 (nI L)) 1 (nI 0)) 6 (nI 0)) 2 (nI 0)) 3 (-nI 1)) 0 1 (nI 0)) 1 1 (nI 0)) 2 1 (nI 9)) 3 1 (nI 0)) 4 1 (nI 0)) 5 1 (nI 0)) 6 1 (nI 0)) 7 1 (nI 0)) 8 1 (nI 0)) 9 1 (nI 0)
theorem clr_f (s : ab_S) (L : Nat) : tfC s (clr s L) ∧ sz (clr s L) 4 = nI L ∧ sz (clr s L) 1 = nI 0 ∧ sz (clr s L) 6 = nI 0 ∧ sz (clr s L) 2 = nI 0 ∧ sz (clr s L) 3 = -nI 1 ∧ (∀ k, k < 10 → k ≠ 2 → si (clr s L) k 1 = nI 0) ∧ si (clr s L) 2 1 = nI 9 := by
  unfold clr
  refine ⟨⟨fun k hk => ?_, fun k i h => ?_, rfl, fun _ _ _ => rfl, rfl⟩, ?_, ?_, ?_, ?_, ?_, fun k hk h2 => ?_, ?_⟩
  · simp (disch := omega) only [E0]
  · by_cases q : k = 9
    · subst q
      simp (disch := omega) only [E0]
    by_cases q : k = 8
    · subst q
      simp (disch := omega) only [E0]
    by_cases q : k = 7
    · subst q
      simp (disch := omega) only [E0]
    by_cases q : k = 6
    · subst q
      simp (disch := omega) only [E0]
    by_cases q : k = 5
    · subst q
      simp (disch := omega) only [E0]
    by_cases q : k = 4
    · subst q
      simp (disch := omega) only [E0]
    by_cases q : k = 3
    · subst q
      simp (disch := omega) only [E0]
    by_cases q : k = 2
    · subst q
      simp (disch := omega) only [E0]
    by_cases q : k = 1
    · subst q
      simp (disch := omega) only [E0]
    by_cases q : k = 0
    · subst q
      simp (disch := omega) only [E0]
    simp (disch := omega) only [E0]
  · simp (disch := omega) only [E0]
  · simp (disch := omega) only [E0]
  · simp (disch := omega) only [E0]
  · simp (disch := omega) only [E0]
  · simp (disch := omega) only [E0]
  · rcases (show k = 0 ∨ k = 1 ∨ k = 3 ∨ k = 4 ∨ k = 5 ∨ k = 6 ∨ k = 7 ∨ k = 8 ∨ k = 9 by omega) with rfl | rfl | rfl | rfl | rfl | rfl | rfl | rfl | rfl <;> simp (disch := omega) only [E0]
  · simp (disch := omega) only [E0]
section TWP
variable {X : (Nat → Int32) × Nat} {D E L p n : Nat} {c m c' m' s : ab_S}
theorem GD.must (hG : GD L p c m) (hD : 6 ≤ D) (hE : 6 ≤ E) : ∃ c' m' : ab_S, ab_ev X D 54 [.inr (1, 0), .inr (10, 4)] c = some (.inl none, c') ∧ ab_ev X E 239 [.inr (9, 0), .inr (11, 1)] m = some (.inl none, m') ∧ fC c c' ∧ fM m m' ∧ ((∃ p', p < p' ∧ GD L p' c' m') ∨ BD c' m') := by
  obtain ⟨d, rfl⟩ : ∃ d, D = d + 1 := ⟨D - 1, by omega⟩
  obtain ⟨e, rfl⟩ : ∃ e, E = e + 2 := ⟨E - 2, by omega⟩
  by_cases q : st c 0 = 4
  · obtain ⟨c1, m1, p1, a1, a2, a3, a4, a5, a6⟩ := hG.adv (X := X) (D := d) (E := e) (by omega) (by omega) (by omega)
    have t4 : ab_ev X (e + 1) 240 [.inr (9, 0), .inr (11, 1)] m = some (.inl (some (.inl (.int (nI 1)))), m1) := hG.tky (i := 4) (by decide) (by decide) (by decide) (by omega) q a3
    refine ⟨c1, m1, ?_, ?_, a5, a6, Or.inl ⟨p1, a1, a4⟩⟩
    · rw [b54, if_pos q, a2, e_bU]
    · rw [b239, t4, e_bI, if_neg (show ¬ nI 1 = nI 0 by decide)]
  · have t4 : ab_ev X (e + 1) 240 [.inr (9, 0), .inr (11, 1)] m = some (.inl (some (.inl (.int (nI 0)))), m) := hG.tkn (i := 4) (by decide) (by decide) (by decide) (by omega) q
    obtain ⟨c1, m1, g1, g2, g3, g4, g5⟩ := hG.ref (X := X) (D := d) (E := e + 1) (f := 2) (by omega) (by omega)
    refine ⟨c1, m1, ?_, ?_, g4, g5, Or.inr g3⟩
    · rw [b54, if_neg q, g1, e_bU]
    · rw [b239, t4, e_bI, if_pos rfl, g2, e_bU]
theorem l57 {x1 : Int32} {q : Nat} (hq : q ≤ 20) (h1 : si c 1 1 = nI q) : ∀ (j k : Nat) (F : Nat → Int32), k + j = q → (∀ i, i < k → F i = nI i) → ∃ H : Nat → Int32, ab_at X (D + 1) 57 16 [some (.inr (2, 1)), some (.inl (.int x1)), some (.inl (.int (nI k)))] [] (wA c 0 1 F) = some (.inl none, wA c 0 1 H) ∧ ∀ i, i < q → H i = nI i
  | 0, k, F, e, hF => by
    obtain rfl : k = q := by omega
    have h2 : si (wA c 0 1 F) 1 1 = nI k := h1
    exact ⟨F, by rw [b57_16, h2, if_pos (nI_le (Nat.le_refl _) (by omega))], hF⟩
  | j + 1, k, F, e, hF => by
    have h2 : si (wA c 0 1 F) 1 1 = nI q := h1
    obtain ⟨H, g1, g2⟩ := l57 (x1 := x1) hq h1 j (k + 1) (va_up F k (nI k)) (by omega) (fun i hi => by
      by_cases w : i = k
      · rw [w, va_up_self]
      · rw [va_up_ne _ _ w]
        exact hF i (by omega))
    refine ⟨H, ?_, g2⟩
    rw [b57_16, h2, if_neg (nI_ge (by omega) (by omega)), put19 (by omega), e_bU, nI_add]
    simp (disch := omega) only [E0, E1]
    exact g1
/-- so many streets, whatever number was read -/
theorem c57t (x : Int32) (hD : 1 ≤ D) : ∃ (q : Nat) (c' : ab_S), q ≤ 20 ∧ (∀ n, n ≤ 20 → x = nI n → q = n) ∧ ab_ev X D 57 [.inr (2, 1), .inl (.int x)] c = some (.inl none, c') ∧ dfC c c' ∧ sz c' = sz c ∧ st c' = st c ∧ sa c' = sa c ∧ si c' 1 1 = nI q ∧ (∀ k, k < q → sA c' 0 1 k = nI k) ∧ (∀ k, k ≠ 1 → si c' k 1 = si c k 1) := by
  obtain ⟨d, rfl⟩ : ∃ d, D = d + 1 := ⟨D - 1, by omega⟩
  obtain ⟨q, hq, hq2, hx⟩ : ∃ q : Nat, q ≤ 20 ∧ (∀ n, n ≤ 20 → x = nI n → q = n) ∧ (if nI 0 < (if nI 20 < x then nI 20 else x) then (if nI 20 < x then nI 20 else x) else nI 0) = nI q := by
    by_cases h : nI 20 < x
    · refine ⟨20, Nat.le_refl _, fun n hn e => ?_, ?_⟩
      · rw [e] at h
        exact absurd h (nI_nlt hn (by omega))
      · rw [if_pos h, if_pos (by decide)]
    · rw [if_neg h]
      by_cases h0 : nI 0 < x
      · rw [n_gtn x (by omega)] at h h0
        have e := n_rep x (by omega)
        have e2 : x.toNatClampNeg = x.toInt.toNat := rfl
        refine ⟨x.toInt.toNat, by omega, fun n hn e3 => ?_, ?_⟩
        · rw [e3, i_nI (by omega)]
          omega
        · rw [if_pos ((n_gtn x (by omega)).mpr h0), ← e2]
          exact e
      · refine ⟨0, by omega, fun n hn e3 => ?_, if_neg h0⟩
        rw [e3] at h0
        rcases Nat.eq_zero_or_pos n with z | z
        · exact z.symm
        · exact absurd (nI_lt z (by omega)) h0
  have h1 : si (wi c 1 1 (nI q)) 1 1 = nI q := by simp (disch := omega) only [E0]
  obtain ⟨H, g1, g2⟩ := l57 (X := X) (D := d) (c := wi c 1 1 (nI q)) (x1 := x) hq h1 q 0 (sA (wi c 1 1 (nI q)) 0 1) (Nat.zero_add _) (fun i hi => absurd hi (by omega))
  rw [wA_id] at g1
  refine ⟨q, wA (wi c 1 1 (nI q)) 0 1 H, hq, hq2, ?_, (dfC_wi (k := 1) (by omega)).t (dfC_wA (k := 0) (by omega)), rfl, rfl, rfl, h1, fun k hk => ?_, fun k hk => ?_⟩
  · rw [b57, c_min', e_bI, c_max', e_bI, ← g1]
    rw [← hx]
  · simp (disch := omega) only [E0]
    exact g2 k hk
  · simp (disch := omega) only [E0]
/-- the model's names -/
theorem l105 {x1 : Int32} {g : Nat → Int32} : ∀ (j t : Nat) (G : Nat → Int32), t + j = 20 → (∀ q, G q = if 11 ≤ q ∧ q < 11 + t then nI (q - 11) else g q) → ∃ H : Nat → Int32, ab_at X (E + 1) 231 105 [some (.inr (9, 0)), some (.inl (.int x1)), some (.inl (.int (nI t)))] [] (pa m 9 G) = ab_at X (E + 1) 231 105 [some (.inr (9, 0)), some (.inl (.int x1)), some (.inl (.int (nI 20)))] [] (pa m 9 H) ∧ ∀ q, H q = if 11 ≤ q ∧ q < 31 then nI (q - 11) else g q
  | 0, t, G, e, hG => by
    obtain rfl : t = 20 := by omega
    exact ⟨G, rfl, hG⟩
  | j + 1, t, G, e, hG => by
    obtain ⟨H, g1, g2⟩ := l105 j (t + 1) (va_up G (11 + t) (nI t)) (by omega) (fun q => by
      by_cases w : q = 11 + t
      · rw [w, va_up_self, if_pos (by omega), Nat.add_sub_cancel_left]
      · rw [va_up_ne _ _ w, hG q]
        by_cases w2 : 11 ≤ q ∧ q < 11 + t
        · rw [if_pos w2, if_pos (by omega)]
        · rw [if_neg w2, if_neg (by omega)])
    refine ⟨H, ?_, g2⟩
    rw [← g1, b231_105, if_neg (nI_ge (by omega) (by omega)), nI_add, r_in (j := 11 + t) (by omega) (by decide), nI_clamp (by omega), nI_add]
    simp (disch := omega) only [E0, E1]
/-- the model's row, emptied -/
theorem l52 {x1 : Int32} : ∀ (j t : Nat) (G : Nat → Int32), t + j = 2300 → (∀ q, q < t → G q = nI 0) → ∃ H : Nat → Int32, ab_at X (E + 1) 231 52 [some (.inr (9, 0)), some (.inl (.int x1)), some (.inl (.int (nI t)))] [] (pa m 9 G) = ab_at X (E + 1) 231 52 [some (.inr (9, 0)), some (.inl (.int x1)), some (.inl (.int (nI 2300)))] [] (pa m 9 H) ∧ ∀ q, q < 2300 → H q = nI 0
  | 0, t, G, e, hG => by
    obtain rfl : t = 2300 := by omega
    exact ⟨G, rfl, hG⟩
  | j + 1, t, G, e, hG => by
    obtain ⟨H, g1, g2⟩ := l52 j (t + 1) (va_up G t (nI 0)) (by omega) (fun q hq => by
      by_cases w : q = t
      · rw [w, va_up_self]
      · rw [va_up_ne _ _ w]
        exact hG q (by omega))
    refine ⟨H, ?_, g2⟩
    rw [← g1, b231_52, if_neg (nI_ge (by omega) (by omega)), r_in (j := t) (by omega) (by decide), nI_clamp (by omega), nI_add]
    simp (disch := omega) only [E0, E1]
/-- both read the text -/
theorem town_pair (hL : L ≤ 900) (s t : ab_S) (hT : ∀ q, q < L → sa s 0 q = sa t 12 q) (hD : 34 ≤ D) (hE : 35 ≤ E) : ∃ c' m' : ab_S, ab_ev X D 40 [.inr (1, 0), .inl (.int (nI L)), .inr (2, 1)] s = some (.inl none, c') ∧ ab_at X E 231 52 [some (.inr (9, 0)), some (.inl (.int (nI L))), some (.inl (.int (nI 0)))] [] (pz (pz (pz (pz (pz t 13 (nI L)) 12 (nI 0)) 14 (nI 0)) 18 (nI 0)) 22 (nI 0)) = ab_at X E 231 131 [some (.inr (9, 0)), some (.inl (.int (nI L))), some (.inl (.int (nI 20)))] [] m' ∧ tfC s c' ∧ tfM t m' ∧ sz c' 1 = nI 0 ∧ sz m' 12 = nI 0 ∧ ((∃ n p', SG L p' n c' m' ∧ st c' 0 = 0 ∧ sz c' 3 = -nI 1) ∨ BD c' m') := by
  obtain ⟨d, rfl⟩ : ∃ d, D = d + 1 := ⟨D - 1, by omega⟩
  obtain ⟨e, rfl⟩ : ∃ e, E = e + 1 := ⟨E - 1, by omega⟩
  obtain ⟨u, hu⟩ : ∃ u, u = pz (pz (pz (pz (pz t 13 (nI L)) 12 (nI 0)) 14 (nI 0)) 18 (nI 0)) 22 (nI 0) := ⟨_, rfl⟩
  have u13 : sz u 13 = nI L := by
    rw [hu]
    simp (disch := omega) only [E0]
  have u12 : sz u 12 = nI 0 := by
    rw [hu]
    simp (disch := omega) only [E0]
  have u14 : sz u 14 = nI 0 := by
    rw [hu]
    simp (disch := omega) only [E0]
  have u18 : sz u 18 = nI 0 := by
    rw [hu]
    simp (disch := omega) only [E0]
  have u22 : sz u 22 = nI 0 := by
    rw [hu]
    simp (disch := omega) only [E0]
  have fu : tfM t u := by
    rw [hu]
    exact ⟨fun k hk => by simp (disch := omega) only [E0], fun _ _ => rfl, rfl, rfl⟩
  rw [← hu]
  obtain ⟨H, z1, z2⟩ := l52 (X := X) (E := e) (m := u) (x1 := nI L) 2300 0 (sa u 9) (by omega) (fun q hq => absurd hq (by omega))
  rw [pa_id] at z1
  obtain ⟨f0, c4, c1', c6, c2', c3', ck, c2k⟩ := clr_f s L
  obtain ⟨c0, hc0⟩ : ∃ c0, c0 = clr s L := ⟨_, rfl⟩
  rw [← hc0] at f0 c4 c1' c6 c2' c3' ck c2k
  obtain ⟨m0, hm0⟩ : ∃ m0, m0 = pa u 9 (va_up H 4 (nI 9)) := ⟨_, rfl⟩
  have fm0 : dfM u m0 := by
    rw [hm0]
    exact dfM_pa
  have m09 : sa m0 9 = va_up H 4 (nI 9) := by
    rw [hm0]
    simp (disch := omega) only [E0]
  have hT0 : ∀ q, q < L → sa c0 0 q = sa m0 12 q := fun q hq => by
    rw [f0.2.2.1, fm0.2.1 12 (by omega), fu.2.1 12 (by omega)]
    exact hT q hq
  obtain ⟨c1, m1, p1, -, a2, a3, a4, a5, a6⟩ := GD_adv (X := X) (D := d) (E := e) (c := c0) (m := m0) hL (Nat.zero_le L) c2' (by rw [hm0]; exact u18) c4 (by rw [hm0]; exact u13) hT0 c6 (by rw [hm0]; exact u14) c3' (by omega) (by omega)
  obtain ⟨c2, m2, g1, g2, g3, g4, g5⟩ := a4.must (X := X) (D := d) (E := e) (by omega) (by omega)
  have e40 : ab_ev X (d + 1) 40 [.inr (1, 0), .inl (.int (nI L)), .inr (2, 1)] s = ab_bI (ab_ev X d 56 [.inr (1, 0), .inl (.int (nI 1)), .inl (.int (nI 20))] c2) (fun r7 s6 => ab_bU (ab_ev X d 57 [.inr (2, 1), .inl (.int r7)] s6) (fun s8 => ab_bU (ab_ev X d 59 [.inr (1, 0), .inr (2, 1)] s8) (fun s9 => ab_at X (d + 1) 40 66 [some (.inr (1, 0)), some (.inl (.int (nI L))), some (.inr (2, 1)), some (.inl (.int (nI 0)))] [] s9) ab_px) ab_px) ab_px := by
    have e41 : ab_ev X d 41 [.inr (2, 1)] (pz (pz (pz (pz (pz s 4 (nI L)) 1 (nI 0)) 6 (nI 0)) 2 (nI 0)) 3 (-nI 1)) = some (.inl none, c0) := by
      obtain ⟨d', rfl⟩ : ∃ d', d = d' + 1 := ⟨d - 1, by omega⟩
      rw [b41, b42, e_bU, hc0]
      rfl
    rw [b40, c_min _ _ (by omega) (by omega), Nat.min_eq_left hL, e_bI, e41, e_bU, a2, e_bU, g1, e_bU]
  have e52 : ab_at X (e + 1) 231 52 [some (.inr (9, 0)), some (.inl (.int (nI L))), some (.inl (.int (nI 2300)))] [] (pa u 9 H) = ab_bI (ab_ev X e 243 [.inr (9, 0), .inl (.int (nI 1)), .inl (.int (nI 20))] m2) (fun r4 s3 => ab_at X (e + 1) 231 105 [some (.inr (9, 0)), some (.inl (.int (nI L))), some (.inl (.int (nI 0)))] [] (pa s3 9 (va_up (sa s3 9) 1 r4))) ab_px := by
    have em : pa (pa u 9 H) 9 (va_up (sa (pa u 9 H) 9) 4 (nI 9)) = m0 := by
      simp (disch := omega) only [E0, E1]
      exact hm0.symm
    rw [b231_52, if_pos (nI_le (Nat.le_refl _) (by omega)), em, a3, e_bU, g2, e_bU]
  rw [e40, z1, e52]
  have f2 : tfC s c2 := (f0.t a5.d).t g3.d
  have k2 : tfM t m2 := ((fu.t fm0).t a6.d).t g4.d
  have s12 : ∀ z : ab_S, dfC c2 z → sz z 1 = nI 0 := fun z hz => by
    rw [hz.1 1 (by omega) (by omega) (by omega) (by omega) (by omega), g3.1 1 (by omega) (by omega) (by omega) (by omega) (by omega), a5.1 1 (by omega) (by omega) (by omega) (by omega) (by omega)]
    exact c1'
  have s22 : ∀ z : ab_S, dfM m2 z → sz z 12 = nI 0 := fun z hz => by
    rw [hz.1 12 (by omega), g4.1 12 (by omega), a6.1 12 (by omega), hm0]
    exact u12
  -- what follows a fault
  have bad : ∀ (c3 m3 : ab_S) (r r' : Int32), BD c3 m3 → dfC c2 c3 → dfM m2 m3 → ∃ c' m' : ab_S, ab_bU (ab_ev X d 57 [.inr (2, 1), .inl (.int r)] c3) (fun s8 => ab_bU (ab_ev X d 59 [.inr (1, 0), .inr (2, 1)] s8) (fun s9 => ab_at X (d + 1) 40 66 [some (.inr (1, 0)), some (.inl (.int (nI L))), some (.inr (2, 1)), some (.inl (.int (nI 0)))] [] s9) ab_px) ab_px = some (.inl none, c') ∧ ab_at X (e + 1) 231 105 [some (.inr (9, 0)), some (.inl (.int (nI L))), some (.inl (.int (nI 0)))] [] (pa m3 9 (va_up (sa m3 9) 1 r')) = ab_at X (e + 1) 231 131 [some (.inr (9, 0)), some (.inl (.int (nI L))), some (.inl (.int (nI 20)))] [] m' ∧ tfC s c' ∧ tfM t m' ∧ sz c' 1 = nI 0 ∧ sz m' 12 = nI 0 ∧ ((∃ n p', SG L p' n c' m' ∧ st c' 0 = 0 ∧ sz c' 3 = -nI 1) ∨ BD c' m') := fun c3 m3 r r' hb hc hm => by
    obtain ⟨q, c4, -, -, w1, w2, w3, -⟩ := c57t (X := X) (D := d) (c := c3) r (by omega)
    obtain ⟨G, y1, y2⟩ := l105 (X := X) (E := e) (m := m3) (x1 := nI L) (g := va_up (sa m3 9) 1 r') 20 0 (va_up (sa m3 9) 1 r') (by omega) (fun q => by rw [if_neg (by omega)])
    have hb4 : BD c4 (pa m3 9 G) := hb.of (by rw [w3]) (by rw [w3]) rfl rfl
    obtain ⟨c5, m5, v1, v2, v3, v4, v5⟩ := SR.stop (X := X) (D := d) (E := e) (L := L) (p := L) (n := 0) (Or.inr hb4) (by omega) (by omega)
    have hb5 : BD c5 m5 := by
      rcases v5 with ⟨p', h1, h2⟩ | h
      · have := h2.1.2.1
        omega
      · exact h
    have F1 := (hc.t w2).t v3
    have F2 := (hm.t dfM_pa).t v4
    refine ⟨c5, m5, ?_, ?_, f2.t F1, k2.t F2, s12 _ F1, s22 _ F2, Or.inr hb5⟩
    · rw [w1, e_bU, v1, e_bU, b40_66, if_neg hb5.nc]
      split <;> rfl
    · rw [y1, b231_105, if_pos (nI_le (Nat.le_refl _) (by omega)), v2, e_bU]
  rcases g5 with ⟨p2, -, q2⟩ | hb
  · obtain ⟨c3, m3, r, b1, b2, b3, b4⟩ := q2.num (X := X) (D := d) (E := e) (lo := 1) (hi := 20) (by omega) (by omega) (by omega) (by omega)
    rw [b1, e_bI]
    rcases b4 with ⟨n, p3, e1, e2, e3, e4, e5, e6, e7, e8, e9⟩ | ⟨e1, e2⟩
    · rw [e8, e_bI]
      obtain ⟨q, c4, hq, hq2, w1, w2, w3, w4, w5, w6, w7, w8⟩ := c57t (X := X) (D := d) (c := c3) r (by omega)
      obtain rfl : q = n := hq2 n e4 e7
      obtain ⟨G, y1, y2⟩ := l105 (X := X) (E := e) (m := m3) (x1 := nI L) (g := va_up (sa m3 9) 1 (nI q)) 20 0 (va_up (sa m3 9) 1 (nI q)) (by omega) (fun t => by rw [if_neg (by omega)])
      have hS : SG L p3 q c4 (pa m3 9 G) := by
        refine ⟨e9.of w3 w4 (by rw [w5]) (fun _ _ _ => rfl) rfl, ?_, ?_⟩
        · have ek : ∀ k, k ≠ 1 → si c4 k 1 = si c0 k 1 := fun k hk => by
            rw [w8 k hk, fC_si b2, fC_si g3, fC_si a5]
          have eg : ∀ t, t ≠ 1 → ¬ (11 ≤ t ∧ t < 31) → sa (pa m3 9 G) 9 t = va_up H 4 (nI 9) t := fun t h1 h2 => by
            simp (disch := omega) only [E0]
            rw [y2 t, if_neg h2, va_up_ne _ _ h1, fM_sa b3, fM_sa g4, fM_sa a6, m09]
          have e0 : ∀ t, t < 2300 → t ≠ 1 → t ≠ 4 → ¬ (11 ≤ t ∧ t < 31) → sa (pa m3 9 G) 9 t = nI 0 := fun t h1 h2 h3 h4 => by
            rw [eg t h2 h4, va_up_ne _ _ h3]
            exact z2 t h1
          refine ⟨⟨w6, ?_, e3, e4⟩, fun k hk => ⟨k, hk, w7 k hk, ?_⟩, ⟨0, by decide, ?_, e0 31 (by omega) (by omega) (by omega) (by omega)⟩, ⟨0, by omega, ?_, e0 2 (by omega) (by omega) (by omega) (by omega), fun r hr => absurd hr (by omega), fun r _ hr => e0 _ (by omega) (by omega) (by omega) (by omega)⟩, ⟨0, 9, by omega, by omega, ?_, e0 3 (by omega) (by omega) (by omega) (by omega), ?_, ?_, fun r hr => absurd hr (by omega)⟩, ⟨0, ?_, e0 5 (by omega) (by omega) (by omega) (by omega), by omega, ⟨fun k hk => ?_, fun h => absurd h (by omega)⟩, fun k hk => absurd hk (by omega)⟩, ?_, ?_, ?_, ?_, e0 6 (by omega) (by omega) (by omega) (by omega)⟩
          · simp (disch := omega) only [E0]
            rw [y2 1, if_neg (by omega), va_up_self]
          · simp (disch := omega) only [E0]
            rw [y2 (11 + k), if_pos (by omega), Nat.add_sub_cancel_left]
          · rw [ek 6 (by omega)]
            exact ck 6 (by omega) (by omega)
          · rw [ek 7 (by omega)]
            exact ck 7 (by omega) (by omega)
          · rw [ek 3 (by omega)]
            exact ck 3 (by omega) (by omega)
          · rw [ek 2 (by omega)]
            exact c2k
          · rw [eg 4 (by omega) (by omega), va_up_self]
          · rw [ek 8 (by omega)]
            exact ck 8 (by omega) (by omega)
          · obtain rfl : k = 0 := by omega
            exact ⟨[], rfl, by decide⟩
          · rw [ek 0 (by omega), ck 0 (by omega) (by omega), e0 0 (by omega) (by omega) (by omega) (by omega)]
          · rw [ek 4 (by omega), ck 4 (by omega) (by omega), e0 132 (by omega) (by omega) (by omega) (by omega)]
          · rw [ek 5 (by omega), ck 5 (by omega) (by omega), e0 133 (by omega) (by omega) (by omega) (by omega)]
          · rw [ek 9 (by omega)]
            exact ck 9 (by omega) (by omega)
        · show sz m3 22 = nI 0
          rw [b3.1 22 (by omega), g4.1 22 (by omega), a6.1 22 (by omega), hm0]
          exact u22
      obtain ⟨c5, m5, v1, v2, v3, v4, v5⟩ := SR.stop (X := X) (D := d) (E := e) (L := L) (p := p3) (n := q) (Or.inl ⟨p3, Nat.le_refl _, hS⟩) (by omega) (by omega)
      have F1 : dfC c2 c5 := (b2.d.t w2).t v3
      have F2 : dfM m2 m5 := (b3.d.t dfM_pa).t v4
      have E1' : ab_bU (ab_ev X d 57 [.inr (2, 1), .inl (.int r)] c3) (fun s8 => ab_bU (ab_ev X d 59 [.inr (1, 0), .inr (2, 1)] s8) (fun s9 => ab_at X (d + 1) 40 66 [some (.inr (1, 0)), some (.inl (.int (nI L))), some (.inr (2, 1)), some (.inl (.int (nI 0)))] [] s9) ab_px) ab_px = ab_at X (d + 1) 40 66 [some (.inr (1, 0)), some (.inl (.int (nI L))), some (.inr (2, 1)), some (.inl (.int (nI 0)))] [] c5 := by
        rw [w1, e_bU, v1, e_bU]
      have E2' : ab_at X (e + 1) 231 105 [some (.inr (9, 0)), some (.inl (.int (nI L))), some (.inl (.int (nI 0)))] [] (pa m3 9 (va_up (sa m3 9) 1 (nI q))) = ab_at X (e + 1) 231 131 [some (.inr (9, 0)), some (.inl (.int (nI L))), some (.inl (.int (nI 20)))] [] m5 := by
        rw [y1, b231_105, if_pos (nI_le (Nat.le_refl _) (by omega)), v2, e_bU]
      rw [E1', E2']
      rcases v5 with ⟨p5, h1, h2⟩ | h
      · obtain ⟨c6, m6, i1, i2, i3, i4, i5⟩ := lines (X := X) (L := L) (n := q) (x1 := nI L) (y1 := nI L) (y2 := nI 20) (L - p5 + 1) d e 0 c5 m5 p5 (by omega) (by omega) (by omega) (Nat.zero_le _) h2
        refine ⟨c6, m6, i1, i2, f2.t (F1.t i3), k2.t (F2.t i4), s12 _ (F1.t i3), s22 _ (F2.t i4), ?_⟩
        rcases i5 with ⟨p6, j1, j2⟩ | j
        · refine Or.inl ⟨q, p6, j1, j2, ?_⟩
          exact j1.1.2.2.2.2.2.2.2.2.2.2.2.2.2.2
        · exact Or.inr j
      · refine ⟨c5, m5, ?_, rfl, f2.t F1, k2.t F2, s12 _ F1, s22 _ F2, Or.inr h⟩
        rw [b40_66, if_neg h.nc]
        split <;> rfl
    · rw [e2, e_bI]
      exact bad c3 m3 r (nI 1) e1 b2.d b3.d
  · rw [c56b hb.nc (by omega), e_bI, r243b hb.nm (by omega), e_bI]
    exact bad c2 m2 (sz c2 7) (nI 1) hb (dfC_refl _) (dfM_refl _)
end TWP
