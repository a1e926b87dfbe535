/-! A line, as both read one; all lines. -/
section LIN
variable {X : (Nat → Int32) × Nat} {D E L p n : Nat} {c m c' m' : ab_S}
theorem SG.line (h : SG L p n c m) (hD : 33 ≤ D) (hE : 34 ≤ E) : ∃ (c' m' : ab_S), ab_ev X D 60 [.inr (1, 0), .inr (2, 1)] c = some (.inl none, c') ∧ ab_ev X E 246 [.inr (9, 0)] m = some (.inl none, m') ∧ dfC c c' ∧ dfM m m' ∧ ((∃ p', p < p' ∧ SG L p' n c' m') ∨ BD c' m') := by
  obtain ⟨d, rfl⟩ : ∃ d, D = d + 1 := ⟨D - 1, by omega⟩
  obtain ⟨f, rfl⟩ : ∃ f, E = f + 2 := ⟨E - 2, by omega⟩
  have hG := h.1
  have n10 : ¬ nI 1 = nI 0 := by decide
  have w5 : ab_ev X (f + 1) 241 [.inr (9, 0), .inr (11, 2)] m = some (.inl (some (.inl (.int (if st c 0 = 5 then nI 1 else nI 0)))), m) := hG.word (i := 5) (by decide) (by decide) (by decide) (by omega)
  have w9 : ab_ev X (f + 1) 241 [.inr (9, 0), .inr (11, 6)] m = some (.inl (some (.inl (.int (if st c 0 = 9 then nI 1 else nI 0)))), m) := hG.word (i := 9) (by decide) (by decide) (by decide) (by omega)
  have w11 : ab_ev X (f + 1) 241 [.inr (9, 0), .inr (11, 8)] m = some (.inl (some (.inl (.int (if st c 0 = 11 then nI 1 else nI 0)))), m) := hG.word (i := 11) (by decide) (by decide) (by decide) (by omega)
  have t8 : ¬ st c 0 = 8 → ab_ev X (f + 1) 240 [.inr (9, 0), .inr (11, 5)] m = some (.inl (some (.inl (.int (nI 0)))), m) := fun q => hG.tkn (i := 8) (by decide) (by decide) (by decide) (by omega) q
  have t10 : ¬ st c 0 = 10 → ab_ev X (f + 1) 240 [.inr (9, 0), .inr (11, 7)] m = some (.inl (some (.inl (.int (nI 0)))), m) := fun q => hG.tkn (i := 10) (by decide) (by decide) (by decide) (by omega) q
  have t12 : ¬ st c 0 = 12 → ab_ev X (f + 1) 240 [.inr (9, 0), .inr (11, 9)] m = some (.inl (some (.inl (.int (nI 0)))), m) := fun q => hG.tkn (i := 12) (by decide) (by decide) (by decide) (by omega) q
  by_cases q5 : st c 0 = 5
  · obtain ⟨c2, m2, a1, a2, a3, a4, a5⟩ := h.round (X := X) (D := d) (E := f + 1) q5 (by omega) (by omega)
    obtain ⟨c3, m3, s1, s2, s3, s4, s5⟩ := a5.stop (X := X) (D := d) (E := f + 1) (by omega) (by omega)
    refine ⟨c3, m3, ?_, ?_, a3.t s3, a4.t s4, s5⟩
    · rw [b60, if_pos q5, a1, e_bU, s1, e_bU]
    · rw [b246, w5, if_pos q5, e_bI, if_neg n10, a2, e_bU, s2, e_bU]
  rw [if_neg q5] at w5
  by_cases q8 : st c 0 = 8
  · obtain ⟨c1, c2, m1, m2, r, r', a1, a2, a3, a4, a5, a6, a7⟩ := h.blind (X := X) (D := d) (E := f) q8 (by omega) (by omega)
    obtain ⟨c3, m3, s1, s2, s3, s4, s5⟩ := a7.stop (X := X) (D := d) (E := f + 1) (by omega) (by omega)
    refine ⟨c3, m3, ?_, ?_, a5.t s3, a6.t s4, s5⟩
    · rw [b60, if_neg q5, if_pos q8, a1, e_bU, a2, e_bI, b66, e_bU, s1, e_bU]
    · rw [b246, w5, e_bI, if_pos rfl, a3, e_bI, if_neg n10, a4, e_bI, s2, e_bU]
  by_cases q9 : st c 0 = 9
  · obtain ⟨c2, m2, a1, a2, a3, a4, a5⟩ := h.person (X := X) (D := d) (E := f + 1) q9 (by omega) (by omega)
    obtain ⟨c3, m3, s1, s2, s3, s4, s5⟩ := a5.stop (X := X) (D := d) (E := f + 1) (by omega) (by omega)
    refine ⟨c3, m3, ?_, ?_, a3.t s3, a4.t s4, s5⟩
    · rw [b60, if_neg q5, if_neg q8, if_pos q9, a1, e_bU, s1, e_bU]
    · rw [b246, w5, e_bI, if_pos rfl, t8 q8, e_bI, if_pos rfl, w9, if_pos q9, e_bI, if_neg n10, a2, e_bU, s2, e_bU]
  rw [if_neg q9] at w9
  by_cases q10 : st c 0 = 10
  · obtain ⟨c1, c2, c3, c4, m1, m2, r, r', a1, a2, a3, a4, a5, a6, a7, a8, a9⟩ := h.sign (X := X) (D := d) (E := f) q10 (by omega) (by omega)
    obtain ⟨c5, m5, s1, s2, s3, s4, s5⟩ := a9.stop (X := X) (D := d) (E := f + 1) (by omega) (by omega)
    refine ⟨c5, m5, ?_, ?_, a7.t s3, a8.t s4, s5⟩
    · rw [b60, if_neg q5, if_neg q8, if_neg q9, if_pos q10, a1, e_bU, a2, e_bI, a3, e_bI, a4, e_bU, s1, e_bU]
    · rw [b246, w5, e_bI, if_pos rfl, t8 q8, e_bI, if_pos rfl, w9, e_bI, if_pos rfl, a5, e_bI, if_neg n10, a6, e_bU, s2, e_bU]
  by_cases q11 : st c 0 = 11
  · rw [if_pos q11] at w11
    by_cases h0 : si c 3 1 = nI 0
    · obtain ⟨c1, c2, m2, r, a1, a2, a3, a4, a5, a6⟩ := h.houses (X := X) (D := d) (E := f) q11 h0 (by omega) (by omega)
      obtain ⟨c5, m5, s1, s2, s3, s4, s5⟩ := a6.stop (X := X) (D := d) (E := f + 1) (by omega) (by omega)
      refine ⟨c5, m5, ?_, ?_, a4.t s3, a5.t s4, s5⟩
      · rw [b60, if_neg q5, if_neg q8, if_neg q9, if_neg q10, if_pos q11, if_pos h0, a1, e_bU, a2, e_bI, s1, e_bU]
      · rw [b246, w5, e_bI, if_pos rfl, t8 q8, e_bI, if_pos rfl, w9, e_bI, if_pos rfl, t10 q10, e_bI, if_pos rfl, w11, e_bI, if_neg n10, a3, e_bU, s2, e_bU]
    · obtain ⟨np, hs, h1, h2, h3, h4, h5, h6, h7⟩ := h.2.1.2.2.2.2.1
      have hp : 0 < np := by
        rcases Nat.eq_zero_or_pos np with z | z
        · rw [z] at h3
          exact absurd h3 h0
        · exact z
      obtain ⟨c1, m1, g1, g2, g3, g4, g5⟩ := hG.ref (X := X) (D := d) (E := f) (f := 2) (by omega) (by omega)
      obtain ⟨c5, m5, s1, s2, s3, s4, s5⟩ := SR.stop (X := X) (D := d) (E := f + 1) (L := L) (p := p) (n := n) (Or.inr g3) (by omega) (by omega)
      refine ⟨c5, m5, ?_, ?_, g4.d.t s3, g5.d.t s4, s5⟩
      · rw [b60, if_neg q5, if_neg q8, if_neg q9, if_neg q10, if_pos q11, if_neg h0, if_neg (show ¬ st c 0 = 12 by omega), g1, e_bU, s1, e_bU]
      · rw [b246, w5, e_bI, if_pos rfl, t8 q8, e_bI, if_pos rfl, w9, e_bI, if_pos rfl, t10 q10, e_bI, if_pos rfl, w11, e_bI, if_neg n10, b253, h4, if_neg (nI_ge hp (by omega)), g2, e_bU, if_neg g3.nm, e_bU, s2, e_bU]
  rw [if_neg q11] at w11
  by_cases q12 : st c 0 = 12
  · obtain ⟨c1, c2, m1, m2, a1, a2, a3, a4, a5, a6, a7⟩ := h.rest (X := X) (D := d) (E := f) q12 (by omega) (by omega)
    obtain ⟨c5, m5, s1, s2, s3, s4, s5⟩ := a7.stop (X := X) (D := d) (E := f + 1) (by omega) (by omega)
    refine ⟨c5, m5, ?_, ?_, a5.t s3, a6.t s4, s5⟩
    · rw [b60, if_neg q5, if_neg q8, if_neg q9, if_neg q10, if_neg q11, if_pos q12, a1, e_bU, b42, e_bU, a2, e_bU, s1, e_bU]
    · rw [b246, w5, e_bI, if_pos rfl, t8 q8, e_bI, if_pos rfl, w9, e_bI, if_pos rfl, t10 q10, e_bI, if_pos rfl, w11, e_bI, if_pos rfl, a3, e_bI, if_neg n10, a4, e_bU, s2, e_bU]
  obtain ⟨c1, m1, g1, g2, g3, g4, g5⟩ := hG.ref (X := X) (D := d) (E := f + 1) (f := 2) (by omega) (by omega)
  obtain ⟨c5, m5, s1, s2, s3, s4, s5⟩ := SR.stop (X := X) (D := d) (E := f + 1) (L := L) (p := p) (n := n) (Or.inr g3) (by omega) (by omega)
  refine ⟨c5, m5, ?_, ?_, g4.d.t s3, g5.d.t s4, s5⟩
  · rw [b60, if_neg q5, if_neg q8, if_neg q9, if_neg q10, if_neg q11, if_neg q12, g1, e_bU, s1, e_bU]
  · rw [b246, w5, e_bI, if_pos rfl, t8 q8, e_bI, if_pos rfl, w9, e_bI, if_pos rfl, t10 q10, e_bI, if_pos rfl, w11, e_bI, if_pos rfl, t12 q12, e_bI, if_pos rfl, g2, e_bU, s2, e_bU]
/-- all lines: the model goes on at 131 in m' -/
theorem lines {x1 y1 y2 : Int32} : ∀ (j D E i : Nat) (c m : ab_S) (p : Nat), 33 ≤ D → 34 ≤ E → L - p < j → i ≤ p → SG L p n c m → ∃ c' m' : ab_S, ab_at X (D + 1) 40 66 [some (.inr (1, 0)), some (.inl (.int x1)), some (.inr (2, 1)), some (.inl (.int (nI i)))] [] c = some (.inl none, c') ∧ ab_at X (E + 1) 231 131 [some (.inr (9, 0)), some (.inl (.int y1)), some (.inl (.int y2))] [] m = ab_at X (E + 1) 231 131 [some (.inr (9, 0)), some (.inl (.int y1)), some (.inl (.int y2))] [] m' ∧ dfC c c' ∧ dfM m m' ∧ ((∃ p', SG L p' n c' m' ∧ st c' 0 = 0) ∨ BD c' m') := by
  intro j
  induction j with
  | zero =>
    intro D E i c m p hD hE hj
    omega
  | succ j ih =>
    intro D E i c m p hD hE hj hi h
    have hG := h.1
    have hL := hG.1
    have hpL := hG.2.1
    by_cases q : st c 0 = 0
    · refine ⟨c, m, ?_, rfl, dfC_refl c, dfM_refl m, Or.inl ⟨p, h, q⟩⟩
      rw [b40_66, if_pos hG.2.2.1, if_pos q]
      split <;> rfl
    · have hp := hG.pL q
      have q' : ¬ sz m 16 = nI 0 := fun z => q (hG.no.mpr z)
      obtain ⟨c1, m1, a1, a2, a3, a4, a5⟩ := h.line (X := X) (D := D) (E := E) hD hE
      have e1 : ab_at X (D + 1) 40 66 [some (.inr (1, 0)), some (.inl (.int x1)), some (.inr (2, 1)), some (.inl (.int (nI i)))] [] c = ab_at X (D + 1) 40 66 [some (.inr (1, 0)), some (.inl (.int x1)), some (.inr (2, 1)), some (.inl (.int (nI (i + 1))))] [] c1 := by
        rw [b40_66, if_neg (nI_ge (by omega) (by omega)), if_pos hG.2.2.1, if_neg q, a1, e_bU, nI_add]
      have e2 : ab_at X (E + 1) 231 131 [some (.inr (9, 0)), some (.inl (.int y1)), some (.inl (.int y2))] [] m = ab_at X (E + 1) 231 131 [some (.inr (9, 0)), some (.inl (.int y1)), some (.inl (.int y2))] [] m1 := by
        rw [b231_131, if_pos hG.2.2.2.1, if_neg q', a2, e_bU]
      rw [e1, e2]
      rcases a5 with ⟨p', w1, w2⟩ | w
      · obtain ⟨c2, m2, g1, g2, g3, g4, g5⟩ := ih D E (i + 1) c1 m1 p' hD hE (by omega) (by omega) w2
        exact ⟨c2, m2, g1, g2, a3.t g3, a4.t g4, g5⟩
      · refine ⟨c1, m1, ?_, rfl, a3, a4, Or.inr w⟩
        rw [b40_66, if_neg w.nc]
        split <;> rfl
end LIN
