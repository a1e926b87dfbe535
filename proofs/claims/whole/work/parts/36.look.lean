/-! What the class' outlook holds when it has looked. -/
/-- but for the outlook two stores are one -/
def sO (s s' : ab_S) : Prop := (∀ k, k ≠ 8 → k ≠ 9 → sz s' k = sz s k) ∧ sy s' = sy s ∧ st s' = st s ∧ si s' = si s ∧ (∀ k, k = 0 ∨ 6 < k → sa s' k = sa s k) ∧ sA s' = sA s ∧ sb s' = sb s ∧ sB s' = sB s ∧ sq s' = sq s ∧ sn s' = sn s
theorem sO_refl (s : ab_S) : sO s s := ⟨fun _ _ _ => rfl, rfl, rfl, rfl, fun _ _ => rfl, rfl, rfl, rfl, rfl, rfl⟩
theorem sO_trans {s t u : ab_S} (h : sO s t) (h' : sO t u) : sO s u := by
  obtain ⟨a1, a2, a3, a4, a5, a6, a7, a8, a9, a10⟩ := h
  obtain ⟨b1, b2, b3, b4, b5, b6, b7, b8, b9, b10⟩ := h'
  exact ⟨fun k h1 h2 => (b1 k h1 h2).trans (a1 k h1 h2), b2.trans a2, b3.trans a3, b4.trans a4, fun k hk => (b5 k hk).trans (a5 k hk), b6.trans a6, b7.trans a7, b8.trans a8, b9.trans a9, b10.trans a10⟩
theorem sO_pa {s : ab_S} {k : Nat} {F : Nat → Int32} (h1 : 1 ≤ k) (h6 : k ≤ 6) : sO s (pa s k F) := ⟨fun _ _ _ => rfl, rfl, rfl, rfl, fun j hj => va_up_ne _ _ (by omega), rfl, rfl, rfl, rfl, rfl⟩
theorem sO_pz {s : ab_S} {k : Nat} {v : Int32} (h : k = 8 ∨ k = 9) : sO s (pz s k v) := ⟨fun j h1 h2 => va_up_ne _ _ (by omega), rfl, rfl, rfl, fun _ _ => rfl, rfl, rfl, rfl, rfl, rfl⟩
/-- a town of the class: its streets, names, rounds -/
def TW (s : ab_S) (i n : Nat) (nm : Nat → Nat) (nr : Nat) (z : Nat → Nat) (st : Nat → Nat → Nat) (bm : Nat) (by' : Nat → Int32) : Prop :=
  si s 1 i = nI n ∧ n ≤ 20 ∧ (∀ k, k < n → sA s 0 i k = nI (nm k)) ∧ (∀ k, k < n → nm k < n) ∧ si s 7 i = nI nr ∧ nr ≤ 4 ∧ (∀ r, r < nr → sA s 4 i r = nI (z r)) ∧ (∀ r, r < nr → z r ≤ 20) ∧ (∀ r, r < nr → ∀ k, k < z r → sA s 3 i (20 * r + k) = nI (st r k)) ∧ (∀ r, r < nr → ∀ k, k < z r → st r k < n) ∧ (∀ r, r < nr → ∀ a b, a < z r → b < z r → st r a = st r b → a = b) ∧ si s 6 i = nI bm ∧ bm < 2 ^ 20 ∧ (∀ r, r < nr → sA s 5 i r = by' r) ∧ (∀ r, r < nr → -100 ≤ (by' r).toInt ∧ (by' r).toInt ≤ 100)
theorem TW.same {s s' : ab_S} {i n : Nat} {nm : Nat → Nat} {nr : Nat} {z : Nat → Nat} {st : Nat → Nat → Nat} {bm : Nat} {by' : Nat → Int32} (h : TW s i n nm nr z st bm by') (h1 : si s' = si s) (h2 : sA s' = sA s) : TW s' i n nm nr z st bm by' := by
  unfold TW at h ⊢
  rw [h1, h2]
  exact h
/-- where a sign goes by a move -/
def to_ (nr : Nat) (z : Nat → Nat) (st : Nat → Nat → Nat) (bm : Nat) (by' : Nat → Int32) : Nat → Nat := tof (fun r => lk (st r) bm (z r)) (fun r => ((by' r).toInt % ((lk (st r) bm (z r)).length : Int)).toNat) nr
/-- from where a sign comes -/
def inv (f : Nat → Nat) (n t : Nat) : Nat := fst (fun q => f q == t) n
theorem inv_f {f : Nat → Nat} {n : Nat} (hi : ∀ a b, a < n → b < n → f a = f b → a = b) {q : Nat} (hq : q < n) : inv f n (f q) = q := by
  refine fst_eq hq (by simp) (fun j hj => ?_)
  have : ¬ f j = f q := fun e => by have := hi j q (by omega) hq e; omega
  simpa using this
theorem inv_lt {f : Nat → Nat} {n : Nat} (hf : ∀ k, k < n → f k < n) (hi : ∀ a b, a < n → b < n → f a = f b → a = b) {t : Nat} (ht : t < n) : inv f n t < n ∧ f (inv f n t) = t := by
  obtain ⟨q, hq, rfl⟩ := prm_onto hf hi ht
  rw [inv_f hi hq]
  exact ⟨hq, rfl⟩
/-- the outlook, of a town and of where signs then hang -/
def OL (s : ab_S) (n : Nat) (nm f src : Nat → Nat) : Prop := sz s 8 = nI n ∧ sz s 9 = nI (sh_s nm n) ∧ (∀ k, k < n → sa s 1 k = nI (nm k)) ∧ (∀ k, k < n → sa s 2 k = nI (f k)) ∧ (∀ k, k < n → sa s 3 k = nI (inv f n k)) ∧ (∀ k, k < n → sa s 4 k = nI (src k))
section LOOK
variable {X : (Nat → Int32) × Nat} {d i n : Nat} {s : ab_S} {nm : Nat → Nat} {nr : Nat} {z : Nat → Nat} {st : Nat → Nat → Nat} {bm : Nat} {by' : Nat → Int32}
theorem TW.to_lt (h : TW s i n nm nr z st bm by') : ∀ k, k < n → to_ nr z st bm by' k < n := fun k hk => tof_lt (fun r hr x hx => lk_lt (h.2.2.2.2.2.2.2.2.2.1 r hr) hx) hk
theorem TW.to_inj (h : TW s i n nm nr z st bm by') : ∀ a b, a < n → b < n → to_ nr z st bm by' a = to_ nr z st bm by' b → a = b := fun a b _ _ e => tof_inj (fun r hr => lk_nodup (h.2.2.2.2.2.2.2.2.2.2.1 r hr)) e
theorem l17a (h8 : sz s 8 = nI n) (hn : n ≤ 20) : ∀ (j k : Nat) (A B : Nat → Int32), k + j = n → (∀ q, q < k → A q = nI q ∧ B q = nI q) → ∃ A' B' : Nat → Int32, ab_at X (d + 1) 17 29 [some (.inr (6, 0)), some (.inr (2, i)), some (.inl (.int (nI k)))] [] (pa (pa s 4 A) 2 B) = ab_at X (d + 1) 17 63 [some (.inr (6, 0)), some (.inr (2, i)), some (.inl (.int (nI 0)))] [] (pa (pa s 4 A') 2 B') ∧ ∀ q, q < n → A' q = nI q ∧ B' q = nI q
  | 0, k, A, B, e, h => by
    obtain rfl : k = n := by omega
    refine ⟨A, B, ?_, h⟩
    rw [b17_29]
    simp (disch := omega) only [E0]
    rw [h8, if_pos (nI_le (Nat.le_refl _) (by omega))]
  | j + 1, k, A, B, e, h => by
    have hk : k < n := by omega
    obtain ⟨A', B', g1, g2⟩ := l17a h8 hn j (k + 1) (va_up A k (nI k)) (va_up B k (nI k)) (by omega) (fun q hq => by
      by_cases h5 : q = k
      · rw [h5, va_up_self, va_up_self]
        exact ⟨rfl, rfl⟩
      · rw [va_up_ne _ _ h5, va_up_ne _ _ h5]
        exact h q (by omega))
    refine ⟨A', B', ?_, g2⟩
    rw [← g1, b17_29]
    simp (disch := omega) only [E0]
    rw [h8, if_neg (nI_ge hk (by omega)), put31 (by omega), e_bU, put29 (by omega), e_bU, nI_add]
    simp (disch := omega) only [E0, E1]
    have e9 : pa (pa (pa (pa s 4 A) 2 B) 4 (va_up A k (nI k))) 2 (va_up B k (nI k)) = pa (pa s 4 (va_up A k (nI k))) 2 (va_up B k (nI k)) := by
      rw [pa_sw (s := pa s 4 A) (k := 2) (j := 4) (by decide)]
      simp only [E1]
    rw [e9]
theorem l17b (h : TW s i n nm nr z st bm by') : ∀ (j k : Nat) (s1 : ab_S), k + j = nr → sO s s1 → sz s1 8 = nI n → (∀ q, q < n → sa s1 2 q = nI (tof (fun r => lk (st r) bm (z r)) (fun r => ((by' r).toInt % ((lk (st r) bm (z r)).length : Int)).toNat) k q)) → ∃ s2 : ab_S, ab_at X (d + 3) 17 63 [some (.inr (6, 0)), some (.inr (2, i)), some (.inl (.int (nI k)))] [] s1 = ab_at X (d + 3) 17 88 [some (.inr (6, 0)), some (.inr (2, i)), some (.inl (.int (nI 0)))] [] s2 ∧ sO s s2 ∧ sz s2 8 = nI n ∧ sz s2 9 = sz s1 9 ∧ sa s2 1 = sa s1 1 ∧ sa s2 4 = sa s1 4 ∧ ∀ q, q < n → sa s2 2 q = nI (to_ nr z st bm by' q)
  | 0, k, s1, e, hs, h8, hT => by
    obtain rfl : k = nr := by omega
    refine ⟨s1, ?_, hs, h8, rfl, rfl, rfl, hT⟩
    have h' := h.same hs.2.2.2.1 hs.2.2.2.2.2.1
    have h4 := h'.2.2.2.2.2.1
    rw [b17_63, h'.2.2.2.2.1, if_pos (nI_le (Nat.le_refl _) (by omega))]
  | j + 1, k, s1, e, hs, h8, hT => by
    have hk : k < nr := by omega
    have h' := h.same hs.2.2.2.1 hs.2.2.2.2.2.1
    obtain ⟨t1, t2, t3, t4, t5, t6, t7, t8, t9, t10, t11, t12, t13, t14, t15⟩ := h'
    obtain ⟨O, N, T, g1, g2⟩ := c_goRound (X := X) (d := d) (s := s1) (byv := by' k) (t := tof (fun r => lk (st r) bm (z r)) (fun r => ((by' r).toInt % ((lk (st r) bm (z r)).length : Int)).toNat) k) (by omega) (t7 k hk) (t8 k hk) (t9 k hk) (t10 k hk) (t11 k hk) t2 t12 (by omega) h8 (t14 k hk) (t15 k hk).1 (t15 k hk).2 hT (fun q hq => tof_lt (fun r hr x hx => lk_lt (t10 r (by omega)) hx) hq)
    have hs1 : sO s1 (pa (pa (pa s1 5 O) 6 N) 2 T) := sO_trans (sO_pa (by omega) (by omega)) (sO_trans (sO_pa (by omega) (by omega)) (sO_pa (by omega) (by omega)))
    obtain ⟨s2, a1, a2, a3, a4, a5, a6, a7⟩ := l17b h j (k + 1) (pa (pa (pa s1 5 O) 6 N) 2 T) (by omega) (sO_trans hs hs1) h8 (fun q hq => by
      show sa (pa (pa (pa s1 5 O) 6 N) 2 T) 2 q = _
      simp (disch := omega) only [E0]
      exact g2 q hq)
    refine ⟨s2, ?_, a2, a3, a4, ?_, ?_, a7⟩
    · rw [← a1, b17_63, t5, if_neg (nI_ge hk (by omega)), g1, e_bU, nI_add]
    · rw [a5]
      simp (disch := omega) only [E0]
    · rw [a6]
      simp (disch := omega) only [E0]
theorem l17c {f : Nat → Nat} (h8 : sz s 8 = nI n) (hn : n ≤ 20) (h2 : ∀ q, q < n → sa s 2 q = nI (f q)) (hf : ∀ k, k < n → f k < n) (hi : ∀ a b, a < n → b < n → f a = f b → a = b) : ∀ (j k : Nat) (A : Nat → Int32), k + j = n → (∀ q, q < k → A (f q) = nI q) → ∃ A' : Nat → Int32, ab_at X (d + 1) 17 88 [some (.inr (6, 0)), some (.inr (2, i)), some (.inl (.int (nI k)))] [] (pa s 3 A) = some (.inl none, pa s 3 A') ∧ ∀ q, q < n → A' (f q) = nI q
  | 0, k, A, e, h => by
    obtain rfl : k = n := by omega
    refine ⟨A, ?_, h⟩
    rw [b17_88]
    simp (disch := omega) only [E0]
    rw [h8, if_pos (nI_le (Nat.le_refl _) (by omega))]
  | j + 1, k, A, e, h => by
    have hk : k < n := by omega
    have hs := hf k hk
    obtain ⟨A', g1, g2⟩ := l17c h8 hn h2 hf hi j (k + 1) (va_up A (f k) (nI k)) (by omega) (fun q hq => by
      by_cases h5 : q = k
      · rw [h5, va_up_self]
      · rw [va_up_ne _ _ (fun e => h5 (hi q k (by omega) hk e))]
        exact h q (by omega))
    refine ⟨A', ?_, g2⟩
    rw [← g1, b17_88]
    simp (disch := omega) only [E0, h8, nI_leI, if_neg, at29, e_bI, h2 k hk, put30, e_bU, nI_add, E1]
/-- the outlook looks at a town -/
theorem c_look (h : TW s i n nm nr z st bm by') : ∃ s' : ab_S, ab_ev X (d + 3) 17 [.inr (6, 0), .inr (2, i)] s = some (.inl none, s') ∧ sO s s' ∧ OL s' n nm (to_ nr z st bm by') (fun q => q) := by
  obtain ⟨t1, t2, t3, t4, t5, t6, t7, t8, t9, t10, t11, t12, t13, t14, t15⟩ := id h
  have e1 : ab_ev X (d + 2) 8 [.inr (2, i)] (pz s 8 (si s 1 i)) = _ := c_shared (s := pz s 8 (si s 1 i)) (n := n) (nm := nm) t1 t2 t3 t4
  have e2 : ab_ev X (d + 2) 18 [.inr (28, 0), .inr (19, i)] (pz (pz s 8 (nI n)) 9 (nI (sh_s nm n))) = _ := c_fill (n := 20) (F := sa s 1) (G := sA s 0 i) (s' := pa (pz (pz s 8 (nI n)) 9 (nI (sh_s nm n))) 1 (va_cpy (sA s 0 i) (sa s 1) 0 0 20)) rfl rfl rfl rfl rfl rfl (by decide) rfl
  obtain ⟨A, B, g1, g2⟩ := l17a (X := X) (d := d + 2) (i := i) (s := pa (pz (pz s 8 (nI n)) 9 (nI (sh_s nm n))) 1 (va_cpy (sA s 0 i) (sa s 1) 0 0 20)) (n := n) rfl t2 n 0 (sa s 4) (sa s 2) (by omega) (fun q hq => by omega)
  have hs0 : sO s (pa (pa (pa (pz (pz s 8 (nI n)) 9 (nI (sh_s nm n))) 1 (va_cpy (sA s 0 i) (sa s 1) 0 0 20)) 4 A) 2 B) := sO_trans (sO_pz (Or.inl rfl)) (sO_trans (sO_pz (Or.inr rfl)) (sO_trans (sO_pa (by omega) (by omega)) (sO_trans (sO_pa (by omega) (by omega)) (sO_pa (by omega) (by omega)))))
  obtain ⟨s2, b1, b2, b3, b4, b5, b6, b7⟩ := l17b (X := X) (d := d) h nr 0 _ (by omega) hs0 rfl (fun q hq => (g2 q hq).2)
  obtain ⟨C, c1, c2⟩ := l17c (X := X) (d := d + 2) (i := i) (s := s2) b3 t2 b7 h.to_lt h.to_inj n 0 (sa s2 3) (by omega) (fun q hq => by omega)
  rw [pa_id] at c1
  refine ⟨pa s2 3 C, ?_, sO_trans b2 (sO_pa (by omega) (by omega)), b3, ?_, ?_, ?_, ?_, ?_⟩
  · rw [b17, e1, e_bI, t1, e2, e_bU]
    have e3 : pa (pa (pa (pz (pz s 8 (nI n)) 9 (nI (sh_s nm n))) 1 (va_cpy (sA s 0 i) (sa s 1) 0 0 20)) 4 (sa s 4)) 2 (sa s 2) = pa (pz (pz s 8 (nI n)) 9 (nI (sh_s nm n))) 1 (va_cpy (sA s 0 i) (sa s 1) 0 0 20) := by
      have q1 : pa (pa (pz (pz s 8 (nI n)) 9 (nI (sh_s nm n))) 1 (va_cpy (sA s 0 i) (sa s 1) 0 0 20)) 4 (sa s 4) = pa (pz (pz s 8 (nI n)) 9 (nI (sh_s nm n))) 1 (va_cpy (sA s 0 i) (sa s 1) 0 0 20) := pa_id _ 4
      rw [q1]
      exact pa_id _ 2
    rw [e3] at g1
    rw [g1, b1, c1]
  · show sz s2 9 = _
    rw [b4]
    rfl
  · intro k hk
    show sa s2 1 k = _
    rw [b5]
    show va_cpy (sA s 0 i) (sa s 1) 0 0 20 k = _
    unfold va_cpy
    rw [if_pos (by omega), Nat.zero_add, Nat.sub_zero]
    exact t3 k hk
  · intro k hk
    exact b7 k hk
  · intro k hk
    show C k = _
    obtain ⟨q, hq, rfl⟩ := prm_onto h.to_lt h.to_inj hk
    rw [inv_f h.to_inj hq]
    exact c2 q hq
  · intro k hk
    show sa s2 4 k = _
    rw [b6]
    exact (g2 k hk).1
end LOOK
