/-! Letters and nights: whether all letters fit, by the model. -/
theorem zb (q : Nat) : (0 : Nat).testBit q = false := Nat.zero_testBit q
/-- each letter has a night of its own -/
def MT (b : Nat → Nat → Bool) (m N : Nat) : Prop := ∃ h : Nat → Nat, (∀ i, i < m → h i < N ∧ b i (h i) = true) ∧ ∀ i j, i < m → j < m → h i = h j → i = j
theorem MT_HL {b : Nat → Nat → Bool} {m N : Nat} (h : MT b m N) : HL b m N := by
  obtain ⟨h, h1, h2⟩ := h
  intro S
  exact inj_ct (h := h) (fun i hi hS => ⟨(h1 i hi).1, un_iff.mpr ⟨i, hi, hS, (h1 i hi).2⟩⟩) (fun i j hi hj _ _ e => h2 i j hi hj e)
theorem HL_yes {b : Nat → Nat → Bool} {m N : Nat} {A : Nat → Int32} (hm : m ≤ 8) (hP : PM b m N 0 A) (ho : ∀ i, i < m → ow N 0 A i) : MT b m N := by
  have h1 : ∀ i, i < m → ∃ q, q < N ∧ A q = nI i ∧ b i q = true := fun i hi => by
    obtain ⟨q, hq, -, e⟩ := ho i hi
    rcases hP.1 q hq (zb q) with h | ⟨i', hi', e', hb⟩
    · rw [e] at h
      exact absurd h (n_m1 _ (by omega))
    · rw [e] at e'
      have := (nI_eq (by omega) (by omega)).mp e'
      rw [← this] at hb
      exact ⟨q, hq, e, hb⟩
  have hc : ∃ h : Nat → Nat, ∀ i, i < m → h i < N ∧ A (h i) = nI i ∧ b i (h i) = true := by
    refine ⟨fun i => fst (fun q => decide (A q = nI i) && b i q) N, fun i hi => ?_⟩
    obtain ⟨q, hq, e, hb⟩ := h1 i hi
    have hlt : fst (fun q => decide (A q = nI i) && b i q) N < N := by
      rcases Nat.lt_or_ge (fst (fun q => decide (A q = nI i) && b i q) N) N with h | h
      · exact h
      · have h2 : (decide (A q = nI i) && b i q) = false := fst_no (fun q => decide (A q = nI i) && b i q) N q (by omega)
        rw [decide_eq_true e, hb] at h2
        cases h2
    have h3 : (decide (A (fst (fun q => decide (A q = nI i) && b i q) N) = nI i) && b i (fst (fun q => decide (A q = nI i) && b i q) N)) = true := fst_yes (fun q => decide (A q = nI i) && b i q) N hlt
    have h4 := Bool.and_eq_true_iff.mp h3
    exact ⟨hlt, of_decide_eq_true h4.1, h4.2⟩
  obtain ⟨h, hh⟩ := hc
  refine ⟨h, fun i hi => ⟨(hh i hi).1, (hh i hi).2.2⟩, fun i j hi hj e => ?_⟩
  have a := (hh i hi).2.1
  have b := (hh j hj).2.1
  rw [e, b] at a
  exact ((nI_eq (by omega) (by omega)).mp a).symm
theorem HL_no {b : Nat → Nat → Bool} {m N k W' : Nat} {A : Nat → Int32} (hm : m ≤ 8) (hk : k < m) (hno : ¬ ow N 0 A k) (hP : PM b m N 0 A) (h1 : ∀ q, q < N → b k q = true → W'.testBit q = true) (h2 : ∀ q, q < N → W'.testBit q = true → (0 : Nat).testBit q = false → ∃ i, i < m ∧ A q = nI i ∧ ∀ q', q' < N → b i q' = true → W'.testBit q' = true) : ¬ HL b m N := by
  intro h
  obtain ⟨S, hS⟩ : ∃ S : Nat → Bool, S = fun i => decide (i = k ∨ 0 < fb_ct (fun q => W'.testBit q && decide (A q = nI i)) N) := ⟨_, rfl⟩
  have S_iff : ∀ i, S i = true ↔ i = k ∨ ∃ q, q < N ∧ W'.testBit q = true ∧ A q = nI i := fun i => by
    rw [hS]
    show decide (i = k ∨ 0 < fb_ct (fun q => W'.testBit q && decide (A q = nI i)) N) = true ↔ _
    rw [decide_eq_true_iff, fb_ct_pos]
    constructor
    · rintro (h | ⟨q, hq, h⟩)
      · exact Or.inl h
      · have := Bool.and_eq_true_iff.mp h
        exact Or.inr ⟨q, hq, this.1, of_decide_eq_true this.2⟩
    · rintro (h | ⟨q, hq, h, h'⟩)
      · exact Or.inl h
      · exact Or.inr ⟨q, hq, by show (W'.testBit q && decide (A q = nI i)) = true; rw [h, decide_eq_true h']; rfl⟩
  have a1 : fb_ct (un b S m) N ≤ fb_ct (fun q => W'.testBit q) N := fb_ct_sub (fun q hq hu => by
    obtain ⟨i, hi, hi2, hb⟩ := un_iff.mp hu
    rcases (S_iff i).mp hi2 with rfl | ⟨p, hp, hp2, hp3⟩
    · exact h1 q hq hb
    · obtain ⟨i', hi', e, hc⟩ := h2 p hp hp2 (zb p)
      rw [hp3] at e
      have := (nI_eq (by omega) (by omega)).mp e
      rw [← this] at hc
      exact hc q hq hb)
  have a2 : fb_ct (fun q => W'.testBit q) N ≤ fb_ct (fun i => if i = k then false else S i) m := by
    refine inj_ct (h := fun q => (A q).toNatClampNeg) (fun q hq hh => ?_) (fun q q' hq hq' hh hh' e => ?_)
    · obtain ⟨i, hi, e, -⟩ := h2 q hq hh (zb q)
      have e2 : (A q).toNatClampNeg = i := by rw [e, nI_clamp (by omega)]
      refine ⟨by show (A q).toNatClampNeg < m; omega, ?_⟩
      show (if (A q).toNatClampNeg = k then false else S (A q).toNatClampNeg) = true
      rw [e2, if_neg (fun z => hno ⟨q, hq, zb q, by rw [e, z]⟩)]
      exact (S_iff i).mpr (Or.inr ⟨q, hq, hh, e⟩)
    · obtain ⟨i, hi, ei, -⟩ := h2 q hq hh (zb q)
      obtain ⟨i', hi', ei', -⟩ := h2 q' hq' hh' (zb q')
      have e2 : (A q).toNatClampNeg = (A q').toNatClampNeg := e
      rw [ei, ei', nI_clamp (by omega), nI_clamp (by omega)] at e2
      exact hP.2 q q' i hq hq' (zb q) (zb q') ei (by rw [ei', e2]) hi
  have a3 := fb_ct_upd S false hk
  rw [(S_iff k).mpr (Or.inl rfl), if_pos rfl, if_neg (show ¬ false = true by decide)] at a3
  have a4 := h S
  omega
section FIT
variable {X : (Nat → Int32) × Nat} {d m N : Nat} {s : ab_S} {M c : Nat → Nat}
theorem l334a {x1 x2 : Int32} : ∀ (j k : Nat) (A : Nat → Int32), k + j = 60 → (∀ q, q < k → A q = -nI 1) → ∃ A' : Nat → Int32, ab_at X (d + 1) 334 2 [some (.inr (9, 0)), some (.inl (.int x1)), some (.inl (.int x2)), some (.inl (.int (nI k)))] [] (pa s 20 A) = ab_at X (d + 1) 334 23 [some (.inr (9, 0)), some (.inl (.int x1)), some (.inl (.int x2)), some (.inl (.int (nI 0)))] [] (pa s 20 A') ∧ ∀ q, q < 60 → A' q = -nI 1
  | 0, k, A, e, h => by
    obtain rfl : k = 60 := by omega
    exact ⟨A, by rw [b334_2, if_pos (nI_le (Nat.le_refl _) (by omega))], h⟩
  | j + 1, k, A, e, h => by
    obtain ⟨A', g1, g2⟩ := l334a (x1 := x1) (x2 := x2) j (k + 1) (va_up A k (-nI 1)) (by omega) (fun q hq => by
      by_cases h5 : q = k
      · rw [h5, va_up_self]
      · rw [va_up_ne _ _ h5]
        exact h q (by omega))
    refine ⟨A', ?_, g2⟩
    rw [← g1, b334_2, if_neg (nI_ge (by omega) (by omega)), r_in (j := k) (by omega) (by decide), nI_clamp (by omega), nI_add]
    simp (disch := omega) only [E0, E1]
theorem l334b (hm : m ≤ 8) (h0 : 0 < N) (hN : N ≤ 60) (h21 : ∀ i, i < m → sa s 21 i = fx c i) (h1 : ∀ i, i < m → sb s 1 i = lN (M i)) (hM : ∀ i, i < m → M i < 2 ^ 60) : ∀ (j k : Nat) (A : Nat → Int32) (y : Int64), k + j = m → PM (bb M c) m N 0 A → (∀ i, i < m → (ow N 0 A i ↔ i < k)) → ∃ (A' : Nat → Int32) (y' : Int64) (r : Nat), ab_at X (d + m + 2) 334 23 [some (.inr (9, 0)), some (.inl (.int (nI (N - 1)))), some (.inl (.int (nI m))), some (.inl (.int (nI k)))] [] (py (pa s 20 A) 0 y) = some (.inl (some (.inl (.int (nI r)))), py (pa s 20 A') 0 y') ∧ ((r = 1 ∧ MT (bb M c) m N) ∨ (r = 0 ∧ ¬ HL (bb M c) m N))
  | 0, k, A, y, e, hP, ho => by
    obtain rfl : k = m := by omega
    exact ⟨A, y, 1, by rw [b334_23, if_pos (nI_le (Nat.le_refl _) (by omega))], Or.inl ⟨rfl, HL_yes hm hP (fun i hi => (ho i hi).mpr hi)⟩⟩
  | j + 1, k, A, y, e, hP, ho => by
    have hk : k < m := by omega
    have hno : ¬ ow N 0 A k := fun z => by
      have := (ho k hk).mp z
      omega
    obtain ⟨r, W', A', g1, g2⟩ := r335 (X := X) (d := d) (s := s) hm h0 hN h21 h1 hM m k 0 A hk (by decide) hP hno (ms_le hm hP)
    have e1 : py (py (pa s 20 A) 0 y) 0 (lN 0) = kst s A 0 := by
      unfold kst
      simp only [E1]
    rw [b334_23, if_neg (nI_ge (by omega) (by omega)), e1, g1, e_bI]
    rcases g2.2.2 with ⟨rfl, rfl, h3, h4⟩ | ⟨rfl, h3, h4, h5⟩
    · exact ⟨A', lN W', 0, by rw [if_pos rfl]; rfl, Or.inr ⟨rfl, HL_no hm hk hno hP h3 h4⟩⟩
    · rw [if_neg (show ¬ nI 1 = nI 0 by decide), nI_add]
      exact l334b hm h0 hN h21 h1 hM j (k + 1) A' (lN W') (by omega) h4 (fun i hi => by
        rw [h5 i hi, ho i hi]
        omega)
/-- whether all letters fit, in the first N nights -/
theorem r334 (hm : m ≤ 8) (h0 : 0 < N) (hN : N ≤ 60) (h21 : ∀ i, i < m → sa s 21 i = fx c i) (h1 : ∀ i, i < m → sb s 1 i = lN (M i)) (hM : ∀ i, i < m → M i < 2 ^ 60) : ∃ (A' : Nat → Int32) (y' : Int64) (r : Nat), ab_ev X (d + m + 2) 334 [.inr (9, 0), .inl (.int (nI (N - 1))), .inl (.int (nI m))] s = some (.inl (some (.inl (.int (nI r)))), py (pa s 20 A') 0 y') ∧ ((r = 1 ∧ MT (bb M c) m N) ∨ (r = 0 ∧ ¬ HL (bb M c) m N)) := by
  obtain ⟨A, g1, g2⟩ := l334a (X := X) (d := d + m + 1) (s := s) (x1 := nI (N - 1)) (x2 := nI m) 60 0 (sa s 20) (by omega) (fun q hq => by omega)
  rw [pa_id] at g1
  have hP : PM (bb M c) m N 0 A := ⟨fun q hq _ => Or.inl (g2 q (by omega)), fun q q' i hq _ _ _ e => by
    rw [g2 q (by omega)] at e
    exact fun _ hi => absurd e.symm (n_m1 _ (by omega))⟩
  obtain ⟨A', y', r, i1, i2⟩ := l334b (X := X) (d := d) (s := s) hm h0 hN h21 h1 hM m 0 A (sy (pa s 20 A) 0) (by omega) hP (fun i hi => by
    constructor
    · rintro ⟨q, hq, -, e⟩
      rw [g2 q (by omega)] at e
      exact absurd e.symm (n_m1 _ (by omega))
    · intro z
      omega)
  rw [py_id] at i1
  exact ⟨A', y', r, by rw [b334, g1]; exact i1, i2⟩
end FIT
