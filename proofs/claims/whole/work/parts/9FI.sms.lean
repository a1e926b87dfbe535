/-! Sums, whole. -/
section SMS
variable {X : (Nat → Int32) × Nat} {D E L p k ml e : Nat} {c m c' m' : ab_S} {σ σ' : List Bool}
/-- sums -/
theorem sum_lp (hk : k ≤ 6) (hA : PRS X L k (8 + 3 * (6 - k)) (2 * (6 - k) + 2) 76 261 false) : ∀ (j D E i : Nat) (u4 u1 : Option ab_V) (c m : ab_S) (p ml e : Nat) (σ : List Bool), 9 + 3 * (6 - k) ≤ D + 1 → 9 + 3 * (6 - k) ≤ E + 1 → L - p ≤ j → i ≤ p → QL L p k c m ml (false :: σ) → ml + e ≤ p → σ.length + (2 * (6 - k) + 3) ≤ 39 → ∃ c' m' : ab_S, ab_at X (D + 1) 75 8 [some (.inr (1, 0)), some (.inr (4, 1)), some (.inl (.int (nI k))), some (.inl (.int (nI i))), u4] [] c = some (.inl none, c') ∧ ab_at X (E + 1) 260 4 [some (.inr (9, 0)), u1] [] m = some (.inl none, m') ∧ fCL c c' ∧ fML m m' ∧ RL L p k e c' m' (false :: σ) := by
  intro j
  induction j with
  | zero =>
    intro D E i u4 u1 c m p ml e σ hD hE hj hi h hl h39
    have hG := h.1
    have hL := hG.1
    have hpL := hG.2.1
    have q0 : st c 0 = 0 := by
      by_cases q : st c 0 = 0
      · exact q
      · have := hG.pL q
        omega
    have s25 := hG.sgn (X := X) (E := E) (i := 25) (x := nI 43) (by decide) (by decide) (by decide) (by decide)
    have s26 := hG.sgn (X := X) (E := E) (i := 26) (x := nI 45) (by decide) (by decide) (by decide) (by decide)
    rw [if_neg (by omega)] at s25 s26
    refine ⟨c, m, ?_, ?_, fCL_refl c, fML_refl m, Or.inl ⟨p, ml, Nat.le_refl _, hl, h⟩⟩
    · rw [b75_8, if_pos hG.2.2.1, if_neg (show ¬ st c 0 = 25 by omega), if_neg (show ¬ st c 0 = 26 by omega)]
      split <;> rfl
    · rw [b260_4, s25, e_bI, if_pos rfl, s26, e_bI, if_pos rfl]
  | succ j ih =>
    intro D E i u4 u1 c m p ml e σ hD hE hj hi h hl h39
    have hG := h.1
    have hL := hG.1
    have hpL := hG.2.1
    have s25 := hG.sgn (X := X) (E := E) (i := 25) (x := nI 43) (by decide) (by decide) (by decide) (by decide)
    have s26 := hG.sgn (X := X) (E := E) (i := 26) (x := nI 45) (by decide) (by decide) (by decide) (by decide)
    by_cases q5 : st c 0 = 25
    · have q := q5
      have hp := hG.pL (by omega)
      rw [if_pos q] at s25
      have hch : sz m 16 = nI 43 := (hG.ch (i := 25) (by decide) (by decide) (by decide)).mp q
      have etl : ab_tl (st c 0) = -nI 6 := by rw [q]; decide
      obtain ⟨c1, m1, p1, g1, g2, g3, g4, g5, g6⟩ := hG.adv (X := X) (D := D) (E := E) (by omega) (by omega) (by omega)
      obtain ⟨c2, m2, b1, b2, b3, b4, b5⟩ := hA D E c1 m1 p1 ml (e + 1) (false :: σ) (by omega) (by omega) (h.tok g4 g5 g6) (by omega) (by rw [List.length_cons]; omega)
      obtain ⟨c3, m3, w1, w2, w3, w4, w5⟩ := b5.add (X := X) (D := D) (E := E) (x := -nI 6) (y := nI 10) (σ' := false :: σ) (by decide) (by decide) (by decide) rfl (by rw [List.length_cons]; omega) (by omega)
      have e1 : ab_at X (D + 1) 75 8 [some (.inr (1, 0)), some (.inr (4, 1)), some (.inl (.int (nI k))), some (.inl (.int (nI i))), u4] [] c = ab_at X (D + 1) 75 8 [some (.inr (1, 0)), some (.inr (4, 1)), some (.inl (.int (nI k))), some (.inl (.int (nI (i + 1)))), some (.inl (.int (-nI 6)))] [] c3 := by
        rw [b75_8, if_neg (nI_ge (by omega) (by omega)), if_pos hG.2.2.1, if_pos q, g2, e_bU, b1, e_bU, etl, w1, e_bU, nI_add]
      have e2 : ab_at X (E + 1) 260 4 [some (.inr (9, 0)), u1] [] m = ab_at X (E + 1) 260 4 [some (.inr (9, 0)), some (.inl (.int (nI 43)))] [] m3 := by
        rw [b260_4, s25, e_bI, if_neg (show ¬ nI 1 = nI 0 by decide), g3, e_bU, b2, e_bU, hch, if_pos rfl, w2, e_bU]
      rw [e1, e2]
      rcases w5 with ⟨p3, ml3, a1, a2, a3⟩ | w
      · obtain ⟨c4, m4, y1, y2, y3, y4, y5⟩ := ih D E (i + 1) _ _ c3 m3 p3 ml3 e σ hD hE (by omega) (by omega) a3 a2 h39
        refine ⟨c4, m4, y1, y2, ((g5.L.t b3).t w3).t y3, ((g6.L.t b4).t w4).t y4, ?_⟩
        rcases y5 with ⟨p5, ml5, z1, z2, z3⟩ | y
        · exact Or.inl ⟨p5, ml5, by omega, z2, z3⟩
        · exact Or.inr y
      · refine ⟨c3, m3, ?_, ?_, (g5.L.t b3).t w3, (g6.L.t b4).t w4, Or.inr w⟩
        · rw [b75_8, if_neg w.nc]
          split <;> rfl
        · rw [b260_4, r259b w.nm, e_bI, if_pos rfl, r259b w.nm, e_bI, if_pos rfl]
    · by_cases q : st c 0 = 26
      · have hp := hG.pL (by omega)
        rw [if_pos q] at s26
        rw [if_neg q5] at s25
        have hch : sz m 16 = nI 45 := (hG.ch (i := 26) (by decide) (by decide) (by decide)).mp q
        have etl : ab_tl (st c 0) = -nI 7 := by rw [q]; decide
        obtain ⟨c1, m1, p1, g1, g2, g3, g4, g5, g6⟩ := hG.adv (X := X) (D := D) (E := E) (by omega) (by omega) (by omega)
        obtain ⟨c2, m2, b1, b2, b3, b4, b5⟩ := hA D E c1 m1 p1 ml (e + 1) (false :: σ) (by omega) (by omega) (h.tok g4 g5 g6) (by omega) (by rw [List.length_cons]; omega)
        obtain ⟨c3, m3, w1, w2, w3, w4, w5⟩ := b5.add (X := X) (D := D) (E := E) (x := -nI 7) (y := nI 11) (σ' := false :: σ) (by decide) (by decide) (by decide) rfl (by rw [List.length_cons]; omega) (by omega)
        have e1 : ab_at X (D + 1) 75 8 [some (.inr (1, 0)), some (.inr (4, 1)), some (.inl (.int (nI k))), some (.inl (.int (nI i))), u4] [] c = ab_at X (D + 1) 75 8 [some (.inr (1, 0)), some (.inr (4, 1)), some (.inl (.int (nI k))), some (.inl (.int (nI (i + 1)))), some (.inl (.int (-nI 7)))] [] c3 := by
          rw [b75_8, if_neg (nI_ge (by omega) (by omega)), if_pos hG.2.2.1, if_neg q5, if_pos q, g2, e_bU, b1, e_bU, etl, w1, e_bU, nI_add]
        have e2 : ab_at X (E + 1) 260 4 [some (.inr (9, 0)), u1] [] m = ab_at X (E + 1) 260 4 [some (.inr (9, 0)), some (.inl (.int (nI 45)))] [] m3 := by
          rw [b260_4, s25, e_bI, if_pos rfl, s26, e_bI, if_neg (show ¬ nI 1 = nI 0 by decide), g3, e_bU, b2, e_bU, hch, if_neg (show ¬ nI 45 = nI 43 by decide), w2, e_bU]
        rw [e1, e2]
        rcases w5 with ⟨p3, ml3, a1, a2, a3⟩ | w
        · obtain ⟨c4, m4, y1, y2, y3, y4, y5⟩ := ih D E (i + 1) _ _ c3 m3 p3 ml3 e σ hD hE (by omega) (by omega) a3 a2 h39
          refine ⟨c4, m4, y1, y2, ((g5.L.t b3).t w3).t y3, ((g6.L.t b4).t w4).t y4, ?_⟩
          rcases y5 with ⟨p5, ml5, z1, z2, z3⟩ | y
          · exact Or.inl ⟨p5, ml5, by omega, z2, z3⟩
          · exact Or.inr y
        · refine ⟨c3, m3, ?_, ?_, (g5.L.t b3).t w3, (g6.L.t b4).t w4, Or.inr w⟩
          · rw [b75_8, if_neg w.nc]
            split <;> rfl
          · rw [b260_4, r259b w.nm, e_bI, if_pos rfl, r259b w.nm, e_bI, if_pos rfl]
      · rw [if_neg q5] at s25
        rw [if_neg q] at s26
        refine ⟨c, m, ?_, ?_, fCL_refl c, fML_refl m, Or.inl ⟨p, ml, Nat.le_refl _, hl, h⟩⟩
        · rw [b75_8, if_pos hG.2.2.1, if_neg q5, if_neg q]
          split <;> rfl
        · rw [b260_4, s25, e_bI, if_pos rfl, s26, e_bI, if_pos rfl]
theorem sums (hk : k ≤ 6) (hA : PRS X L k (8 + 3 * (6 - k)) (2 * (6 - k) + 2) 76 261 false) : PRS X L k (9 + 3 * (6 - k)) (2 * (6 - k) + 3) 75 260 false := by
  intro D E c m p ml e σ hD hE h hl h39
  obtain ⟨d, rfl⟩ : ∃ d, D = d + 1 := ⟨D - 1, by omega⟩
  obtain ⟨f, rfl⟩ : ∃ f, E = f + 1 := ⟨E - 1, by omega⟩
  obtain ⟨c1, m1, b1, b2, b3, b4, b5⟩ := hA d f c m p ml e σ (by omega) (by omega) h hl (by omega)
  rw [b75, b1, e_bU, b260, b2, e_bU]
  rcases b5 with ⟨p3, ml3, a1, a2, a3⟩ | w
  · obtain ⟨c4, m4, y1, y2, y3, y4, y5⟩ := sum_lp hk hA (L - p3) d f 0 none none c1 m1 p3 ml3 e σ (by omega) (by omega) (Nat.le_refl _) (Nat.zero_le _) a3 a2 h39
    refine ⟨c4, m4, y1, y2, b3.t y3, b4.t y4, ?_⟩
    rcases y5 with ⟨p5, ml5, z1, z2, z3⟩ | y
    · exact Or.inl ⟨p5, ml5, by omega, z2, z3⟩
    · exact Or.inr y
  · refine ⟨c1, m1, ?_, ?_, b3, b4, Or.inr w⟩
    · rw [b75_8, if_neg w.nc]
      split <;> rfl
    · rw [b260_4, r259b w.nm, e_bI, if_pos rfl, r259b w.nm, e_bI, if_pos rfl]
theorem sum_all : ∀ (r k : Nat), k + r = 6 → PRS X L k (9 + 3 * (6 - k)) (2 * (6 - k) + 3) 75 260 false
  | 0, k, h => sums (by omega) (term (by omega) (atom (by omega) (fun q => absurd q (by omega))))
  | r + 1, k, h => sums (by omega) (term (by omega) (atom (by omega) (fun _ => sum_all r (k + 1) (by omega))))
end SMS
