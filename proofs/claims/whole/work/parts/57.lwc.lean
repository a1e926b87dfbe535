/-! One call of the law. -/
section LWC
variable {X : (Nat → Int32) × Nat} {d k : Nat} {u5 u6 : Option ab_V} {s s1 s2 : ab_S}
theorem w260 {v : Int32} {b : Int32} (hk : k + 5 < X.2) (hX : X.2 < 2 ^ 31) (hc : ab_ev X d 0 [.inr (0, 0), .inl (.int (X.1 (k + 1))), .inl (.int (X.1 (k + 2))), .inl (.int (X.1 (k + 3))), .inl (.int (X.1 (k + 4))), .inl (.int (X.1 (k + 5)))] s = some (.inl (some (.inl (.int v))), s1)) (hr : ab_ev X d 230 [.inr (9, 0), .inl (.int (X.1 (k + 1))), .inl (.int (X.1 (k + 2))), .inl (.int (X.1 (k + 3))), .inl (.int (X.1 (k + 4))), .inl (.int (X.1 (k + 5)))] s1 = some (.inl (some (.inl (.int b))), s2)) (he : v = b) : ab_at X (d + 1) 360 260 [some (.inr (14, 0)), some (.inr (0, 0)), some (.inr (9, 0)), some (.inr (15, 0)), some (.inl (.int (nI k))), u5, u6, none] [] s = ab_at X (d + 1) 360 23 [some (.inr (14, 0)), some (.inr (0, 0)), some (.inr (9, 0)), some (.inr (15, 0)), some (.inl (.int (nI (k + 6)))), u5, u6, none] [] s2 := by
  have e1 : nI k + nI 1 = nI (k + 1) := nI_add k 1
  have c1 : ¬ (nI (k + 1) < nI 0 ∨ X.2 ≤ (nI (k + 1)).toNatClampNeg) := n_in (by omega) hX
  have t1 : (nI (k + 1)).toNatClampNeg = k + 1 := nI_clamp (by omega)
  have g1 : ¬ (nI (k + 1) < nI 0 ∨ X.2 ≤ k + 1) := by rwa [t1] at c1
  have e2 : nI k + nI 2 = nI (k + 2) := nI_add k 2
  have c2 : ¬ (nI (k + 2) < nI 0 ∨ X.2 ≤ (nI (k + 2)).toNatClampNeg) := n_in (by omega) hX
  have t2 : (nI (k + 2)).toNatClampNeg = k + 2 := nI_clamp (by omega)
  have g2 : ¬ (nI (k + 2) < nI 0 ∨ X.2 ≤ k + 2) := by rwa [t2] at c2
  have e3 : nI k + nI 3 = nI (k + 3) := nI_add k 3
  have c3 : ¬ (nI (k + 3) < nI 0 ∨ X.2 ≤ (nI (k + 3)).toNatClampNeg) := n_in (by omega) hX
  have t3 : (nI (k + 3)).toNatClampNeg = k + 3 := nI_clamp (by omega)
  have g3 : ¬ (nI (k + 3) < nI 0 ∨ X.2 ≤ k + 3) := by rwa [t3] at c3
  have e4 : nI k + nI 4 = nI (k + 4) := nI_add k 4
  have c4 : ¬ (nI (k + 4) < nI 0 ∨ X.2 ≤ (nI (k + 4)).toNatClampNeg) := n_in (by omega) hX
  have t4 : (nI (k + 4)).toNatClampNeg = k + 4 := nI_clamp (by omega)
  have g4 : ¬ (nI (k + 4) < nI 0 ∨ X.2 ≤ k + 4) := by rwa [t4] at c4
  have e5 : nI k + nI 5 = nI (k + 5) := nI_add k 5
  have c5 : ¬ (nI (k + 5) < nI 0 ∨ X.2 ≤ (nI (k + 5)).toNatClampNeg) := n_in (by omega) hX
  have t5 : (nI (k + 5)).toNatClampNeg = k + 5 := nI_clamp (by omega)
  have g5 : ¬ (nI (k + 5) < nI 0 ∨ X.2 ≤ k + 5) := by rwa [t5] at c5
  rw [b360_260, e1, e2, e3, e4, e5, if_neg c1, if_neg c2, if_neg c3, if_neg c4, if_neg c5, t1, t2, t3, t4, t5, hc, e_bI, if_neg g1, if_neg g2, if_neg g3, if_neg g4, if_neg g5, hr, e_bI]
  rw [if_pos he, b360_3211, nI_add]
theorem w333 {v : Int32} {b : Int32} (hk : k + 5 < X.2) (hX : X.2 < 2 ^ 31) (hc : ab_ev X d 38 [.inr (0, 0), .inl (.int (X.1 (k + 1))), .inr (15, 0)] s = some (.inl (some (.inl (.int v))), s1)) (hr : ab_ev X d 231 [.inr (9, 0), .inl (.int (X.1 (k + 1)))] s1 = some (.inl (some (.inl (.int b))), s2)) (ht : sz s2 11 = v) (ho : v = nI 0 → sb s2 3 0 = b.toInt64) : ab_at X (d + 1) 360 333 [some (.inr (14, 0)), some (.inr (0, 0)), some (.inr (9, 0)), some (.inr (15, 0)), some (.inl (.int (nI k))), u5, u6, none] [] s = ab_at X (d + 1) 360 23 [some (.inr (14, 0)), some (.inr (0, 0)), some (.inr (9, 0)), some (.inr (15, 0)), some (.inl (.int (nI (k + 6)))), some (.inl (.int v)), some (.inl (.int b)), none] [] s2 := by
  have e1 : nI k + nI 1 = nI (k + 1) := nI_add k 1
  have c1 : ¬ (nI (k + 1) < nI 0 ∨ X.2 ≤ (nI (k + 1)).toNatClampNeg) := n_in (by omega) hX
  have t1 : (nI (k + 1)).toNatClampNeg = k + 1 := nI_clamp (by omega)
  have g1 : ¬ (nI (k + 1) < nI 0 ∨ X.2 ≤ k + 1) := by rwa [t1] at c1
  rw [b360_333, e1, if_neg c1, t1, hc, e_bI, if_neg g1, hr, e_bI, b229, e_bI, ht]
  rw [if_pos rfl]
  by_cases hv : v = nI 0
  · rw [if_pos hv, if_pos (show lg_cmp _ _ = nI 0 from (lg_cmp_eq _ _).mpr (ho hv)), b360_3211, nI_add]
  · rw [if_neg hv, b360_3211, nI_add]
theorem w389 {v : Int32} {b : Int32} (hk : k + 5 < X.2) (hX : X.2 < 2 ^ 31) (hc : ab_ev X d 4 [.inr (0, 0), .inl (.int (X.1 (k + 1)))] s = some (.inl (some (.inl (.int v))), s1)) (hr : ab_ev X d 264 [.inr (9, 0), .inl (.int (X.1 (k + 1)))] s1 = some (.inl (some (.inl (.int b))), s2)) (he : v = b) : ab_at X (d + 1) 360 389 [some (.inr (14, 0)), some (.inr (0, 0)), some (.inr (9, 0)), some (.inr (15, 0)), some (.inl (.int (nI k))), u5, u6, none] [] s = ab_at X (d + 1) 360 23 [some (.inr (14, 0)), some (.inr (0, 0)), some (.inr (9, 0)), some (.inr (15, 0)), some (.inl (.int (nI (k + 6)))), u5, u6, none] [] s2 := by
  have e1 : nI k + nI 1 = nI (k + 1) := nI_add k 1
  have c1 : ¬ (nI (k + 1) < nI 0 ∨ X.2 ≤ (nI (k + 1)).toNatClampNeg) := n_in (by omega) hX
  have t1 : (nI (k + 1)).toNatClampNeg = k + 1 := nI_clamp (by omega)
  have g1 : ¬ (nI (k + 1) < nI 0 ∨ X.2 ≤ k + 1) := by rwa [t1] at c1
  rw [b360_389, e1, if_neg c1, t1, hc, e_bI, if_neg g1, hr, e_bI]
  rw [if_pos he, b360_3211, nI_add]
theorem w414 {v : Int32} {b : Int32} (hk : k + 5 < X.2) (hX : X.2 < 2 ^ 31) (hc : ab_ev X d 84 [.inr (0, 0), .inl (.int (X.1 (k + 1))), .inl (.int (X.1 (k + 2))), .inr (15, 0)] s = some (.inl (some (.inl (.int v))), s1)) (hr : ab_ev X d 265 [.inr (9, 0), .inl (.int (X.1 (k + 1))), .inl (.int (X.1 (k + 2)))] s1 = some (.inl (some (.inl (.int b))), s2)) (ht : sz s2 11 = v) (ho : v = nI 0 → sb s2 3 0 = b.toInt64) : ab_at X (d + 1) 360 414 [some (.inr (14, 0)), some (.inr (0, 0)), some (.inr (9, 0)), some (.inr (15, 0)), some (.inl (.int (nI k))), u5, u6, none] [] s = ab_at X (d + 1) 360 23 [some (.inr (14, 0)), some (.inr (0, 0)), some (.inr (9, 0)), some (.inr (15, 0)), some (.inl (.int (nI (k + 6)))), some (.inl (.int v)), some (.inl (.int b)), none] [] s2 := by
  have e1 : nI k + nI 1 = nI (k + 1) := nI_add k 1
  have c1 : ¬ (nI (k + 1) < nI 0 ∨ X.2 ≤ (nI (k + 1)).toNatClampNeg) := n_in (by omega) hX
  have t1 : (nI (k + 1)).toNatClampNeg = k + 1 := nI_clamp (by omega)
  have g1 : ¬ (nI (k + 1) < nI 0 ∨ X.2 ≤ k + 1) := by rwa [t1] at c1
  have e2 : nI k + nI 2 = nI (k + 2) := nI_add k 2
  have c2 : ¬ (nI (k + 2) < nI 0 ∨ X.2 ≤ (nI (k + 2)).toNatClampNeg) := n_in (by omega) hX
  have t2 : (nI (k + 2)).toNatClampNeg = k + 2 := nI_clamp (by omega)
  have g2 : ¬ (nI (k + 2) < nI 0 ∨ X.2 ≤ k + 2) := by rwa [t2] at c2
  rw [b360_414, e1, e2, if_neg c1, if_neg c2, t1, t2, hc, e_bI, if_neg g1, if_neg g2, hr, e_bI, b229, e_bI, ht]
  rw [if_pos rfl]
  by_cases hv : v = nI 0
  · rw [if_pos hv, if_pos (show lg_cmp _ _ = nI 0 from (lg_cmp_eq _ _).mpr (ho hv)), b360_3211, nI_add]
  · rw [if_neg hv, b360_3211, nI_add]
theorem w482 {v : Int32} {b : Int32} (hk : k + 5 < X.2) (hX : X.2 < 2 ^ 31) (hc : ab_ev X d 89 [.inr (0, 0), .inl (.int (X.1 (k + 1))), .inl (.int (X.1 (k + 2))), .inr (15, 0)] s = some (.inl (some (.inl (.int v))), s1)) (hr : ab_ev X d 273 [.inr (9, 0), .inl (.int (X.1 (k + 1))), .inl (.int (X.1 (k + 2)))] s1 = some (.inl (some (.inl (.int b))), s2)) (ht : sz s2 11 = v) (ho : v = nI 0 → sb s2 3 0 = b.toInt64) : ab_at X (d + 1) 360 482 [some (.inr (14, 0)), some (.inr (0, 0)), some (.inr (9, 0)), some (.inr (15, 0)), some (.inl (.int (nI k))), u5, u6, none] [] s = ab_at X (d + 1) 360 23 [some (.inr (14, 0)), some (.inr (0, 0)), some (.inr (9, 0)), some (.inr (15, 0)), some (.inl (.int (nI (k + 6)))), some (.inl (.int v)), some (.inl (.int b)), none] [] s2 := by
  have e1 : nI k + nI 1 = nI (k + 1) := nI_add k 1
  have c1 : ¬ (nI (k + 1) < nI 0 ∨ X.2 ≤ (nI (k + 1)).toNatClampNeg) := n_in (by omega) hX
  have t1 : (nI (k + 1)).toNatClampNeg = k + 1 := nI_clamp (by omega)
  have g1 : ¬ (nI (k + 1) < nI 0 ∨ X.2 ≤ k + 1) := by rwa [t1] at c1
  have e2 : nI k + nI 2 = nI (k + 2) := nI_add k 2
  have c2 : ¬ (nI (k + 2) < nI 0 ∨ X.2 ≤ (nI (k + 2)).toNatClampNeg) := n_in (by omega) hX
  have t2 : (nI (k + 2)).toNatClampNeg = k + 2 := nI_clamp (by omega)
  have g2 : ¬ (nI (k + 2) < nI 0 ∨ X.2 ≤ k + 2) := by rwa [t2] at c2
  rw [b360_482, e1, e2, if_neg c1, if_neg c2, t1, t2, hc, e_bI, if_neg g1, if_neg g2, hr, e_bI, b229, e_bI, ht]
  rw [if_pos rfl]
  by_cases hv : v = nI 0
  · rw [if_pos hv, if_pos (show lg_cmp _ _ = nI 0 from (lg_cmp_eq _ _).mpr (ho hv)), b360_3211, nI_add]
  · rw [if_neg hv, b360_3211, nI_add]
theorem w550 {v : Int32} {b : Int32} (hk : k + 5 < X.2) (hX : X.2 < 2 ^ 31) (hc : ab_ev X d 93 [.inr (0, 0), .inl (.int (X.1 (k + 1))), .inl (.int (X.1 (k + 2))), .inr (15, 0)] s = some (.inl (some (.inl (.int v))), s1)) (hr : ab_ev X d 275 [.inr (9, 0), .inl (.int (X.1 (k + 1))), .inl (.int (X.1 (k + 2)))] s1 = some (.inl (some (.inl (.int b))), s2)) (ht : sz s2 11 = v) (ho : v = nI 0 → sb s2 3 0 = b.toInt64) : ab_at X (d + 1) 360 550 [some (.inr (14, 0)), some (.inr (0, 0)), some (.inr (9, 0)), some (.inr (15, 0)), some (.inl (.int (nI k))), u5, u6, none] [] s = ab_at X (d + 1) 360 23 [some (.inr (14, 0)), some (.inr (0, 0)), some (.inr (9, 0)), some (.inr (15, 0)), some (.inl (.int (nI (k + 6)))), some (.inl (.int v)), some (.inl (.int b)), none] [] s2 := by
  have e1 : nI k + nI 1 = nI (k + 1) := nI_add k 1
  have c1 : ¬ (nI (k + 1) < nI 0 ∨ X.2 ≤ (nI (k + 1)).toNatClampNeg) := n_in (by omega) hX
  have t1 : (nI (k + 1)).toNatClampNeg = k + 1 := nI_clamp (by omega)
  have g1 : ¬ (nI (k + 1) < nI 0 ∨ X.2 ≤ k + 1) := by rwa [t1] at c1
  have e2 : nI k + nI 2 = nI (k + 2) := nI_add k 2
  have c2 : ¬ (nI (k + 2) < nI 0 ∨ X.2 ≤ (nI (k + 2)).toNatClampNeg) := n_in (by omega) hX
  have t2 : (nI (k + 2)).toNatClampNeg = k + 2 := nI_clamp (by omega)
  have g2 : ¬ (nI (k + 2) < nI 0 ∨ X.2 ≤ k + 2) := by rwa [t2] at c2
  rw [b360_550, e1, e2, if_neg c1, if_neg c2, t1, t2, hc, e_bI, if_neg g1, if_neg g2, hr, e_bI, b229, e_bI, ht]
  rw [if_pos rfl]
  by_cases hv : v = nI 0
  · rw [if_pos hv, if_pos (show lg_cmp _ _ = nI 0 from (lg_cmp_eq _ _).mpr (ho hv)), b360_3211, nI_add]
  · rw [if_neg hv, b360_3211, nI_add]
theorem w618 {v : Int32} {b : Int32} (hk : k + 5 < X.2) (hX : X.2 < 2 ^ 31) (hc : ab_ev X d 96 [.inr (0, 0), .inl (.int (X.1 (k + 1))), .inr (15, 0)] s = some (.inl (some (.inl (.int v))), s1)) (hr : ab_ev X d 277 [.inr (9, 0), .inl (.int (X.1 (k + 1)))] s1 = some (.inl (some (.inl (.int b))), s2)) (ht : sz s2 11 = v) (ho : v = nI 0 → sb s2 3 0 = b.toInt64) : ab_at X (d + 1) 360 618 [some (.inr (14, 0)), some (.inr (0, 0)), some (.inr (9, 0)), some (.inr (15, 0)), some (.inl (.int (nI k))), u5, u6, none] [] s = ab_at X (d + 1) 360 23 [some (.inr (14, 0)), some (.inr (0, 0)), some (.inr (9, 0)), some (.inr (15, 0)), some (.inl (.int (nI (k + 6)))), some (.inl (.int v)), some (.inl (.int b)), none] [] s2 := by
  have e1 : nI k + nI 1 = nI (k + 1) := nI_add k 1
  have c1 : ¬ (nI (k + 1) < nI 0 ∨ X.2 ≤ (nI (k + 1)).toNatClampNeg) := n_in (by omega) hX
  have t1 : (nI (k + 1)).toNatClampNeg = k + 1 := nI_clamp (by omega)
  have g1 : ¬ (nI (k + 1) < nI 0 ∨ X.2 ≤ k + 1) := by rwa [t1] at c1
  rw [b360_618, e1, if_neg c1, t1, hc, e_bI, if_neg g1, hr, e_bI, b229, e_bI, ht]
  rw [if_pos rfl]
  by_cases hv : v = nI 0
  · rw [if_pos hv, if_pos (show lg_cmp _ _ = nI 0 from (lg_cmp_eq _ _).mpr (ho hv)), b360_3211, nI_add]
  · rw [if_neg hv, b360_3211, nI_add]
theorem w674 {v : Int32} {b : Int32} (hk : k + 5 < X.2) (hX : X.2 < 2 ^ 31) (hc : ab_ev X d 100 [.inr (0, 0), .inl (.int (X.1 (k + 1))), .inl (.int (X.1 (k + 2))), .inr (15, 0)] s = some (.inl (some (.inl (.int v))), s1)) (hr : ab_ev X d 279 [.inr (9, 0), .inl (.int (X.1 (k + 1))), .inl (.int (X.1 (k + 2)))] s1 = some (.inl (some (.inl (.int b))), s2)) (ht : sz s2 11 = v) (ho : v = nI 0 → sb s2 3 0 = b.toInt64) : ab_at X (d + 1) 360 674 [some (.inr (14, 0)), some (.inr (0, 0)), some (.inr (9, 0)), some (.inr (15, 0)), some (.inl (.int (nI k))), u5, u6, none] [] s = ab_at X (d + 1) 360 23 [some (.inr (14, 0)), some (.inr (0, 0)), some (.inr (9, 0)), some (.inr (15, 0)), some (.inl (.int (nI (k + 6)))), some (.inl (.int v)), some (.inl (.int b)), none] [] s2 := by
  have e1 : nI k + nI 1 = nI (k + 1) := nI_add k 1
  have c1 : ¬ (nI (k + 1) < nI 0 ∨ X.2 ≤ (nI (k + 1)).toNatClampNeg) := n_in (by omega) hX
  have t1 : (nI (k + 1)).toNatClampNeg = k + 1 := nI_clamp (by omega)
  have g1 : ¬ (nI (k + 1) < nI 0 ∨ X.2 ≤ k + 1) := by rwa [t1] at c1
  have e2 : nI k + nI 2 = nI (k + 2) := nI_add k 2
  have c2 : ¬ (nI (k + 2) < nI 0 ∨ X.2 ≤ (nI (k + 2)).toNatClampNeg) := n_in (by omega) hX
  have t2 : (nI (k + 2)).toNatClampNeg = k + 2 := nI_clamp (by omega)
  have g2 : ¬ (nI (k + 2) < nI 0 ∨ X.2 ≤ k + 2) := by rwa [t2] at c2
  rw [b360_674, e1, e2, if_neg c1, if_neg c2, t1, t2, hc, e_bI, if_neg g1, if_neg g2, hr, e_bI, b229, e_bI, ht]
  rw [if_pos rfl]
  by_cases hv : v = nI 0
  · rw [if_pos hv, if_pos (show lg_cmp _ _ = nI 0 from (lg_cmp_eq _ _).mpr (ho hv)), b360_3211, nI_add]
  · rw [if_neg hv, b360_3211, nI_add]
theorem w742 {v : Int32} {b : Int32} (hk : k + 5 < X.2) (hX : X.2 < 2 ^ 31) (hc : ab_ev X d 105 [.inr (0, 0), .inl (.int (X.1 (k + 1))), .inl (.int (X.1 (k + 2))), .inr (15, 0)] s = some (.inl (some (.inl (.int v))), s1)) (hr : ab_ev X d 286 [.inr (9, 0), .inl (.int (X.1 (k + 1))), .inl (.int (X.1 (k + 2)))] s1 = some (.inl (some (.inl (.int b))), s2)) (ht : sz s2 11 = v) (ho : v = nI 0 → sb s2 3 0 = b.toInt64) : ab_at X (d + 1) 360 742 [some (.inr (14, 0)), some (.inr (0, 0)), some (.inr (9, 0)), some (.inr (15, 0)), some (.inl (.int (nI k))), u5, u6, none] [] s = ab_at X (d + 1) 360 23 [some (.inr (14, 0)), some (.inr (0, 0)), some (.inr (9, 0)), some (.inr (15, 0)), some (.inl (.int (nI (k + 6)))), some (.inl (.int v)), some (.inl (.int b)), none] [] s2 := by
  have e1 : nI k + nI 1 = nI (k + 1) := nI_add k 1
  have c1 : ¬ (nI (k + 1) < nI 0 ∨ X.2 ≤ (nI (k + 1)).toNatClampNeg) := n_in (by omega) hX
  have t1 : (nI (k + 1)).toNatClampNeg = k + 1 := nI_clamp (by omega)
  have g1 : ¬ (nI (k + 1) < nI 0 ∨ X.2 ≤ k + 1) := by rwa [t1] at c1
  have e2 : nI k + nI 2 = nI (k + 2) := nI_add k 2
  have c2 : ¬ (nI (k + 2) < nI 0 ∨ X.2 ≤ (nI (k + 2)).toNatClampNeg) := n_in (by omega) hX
  have t2 : (nI (k + 2)).toNatClampNeg = k + 2 := nI_clamp (by omega)
  have g2 : ¬ (nI (k + 2) < nI 0 ∨ X.2 ≤ k + 2) := by rwa [t2] at c2
  rw [b360_742, e1, e2, if_neg c1, if_neg c2, t1, t2, hc, e_bI, if_neg g1, if_neg g2, hr, e_bI, b229, e_bI, ht]
  rw [if_pos rfl]
  by_cases hv : v = nI 0
  · rw [if_pos hv, if_pos (show lg_cmp _ _ = nI 0 from (lg_cmp_eq _ _).mpr (ho hv)), b360_3211, nI_add]
  · rw [if_neg hv, b360_3211, nI_add]
theorem w810 {v : Int32} {b : Int32} (hk : k + 5 < X.2) (hX : X.2 < 2 ^ 31) (hc : ab_ev X d 109 [.inr (0, 0), .inl (.int (X.1 (k + 1))), .inl (.int (X.1 (k + 2))), .inr (15, 0)] s = some (.inl (some (.inl (.int v))), s1)) (hr : ab_ev X d 287 [.inr (9, 0), .inl (.int (X.1 (k + 1))), .inl (.int (X.1 (k + 2)))] s1 = some (.inl (some (.inl (.int b))), s2)) (ht : sz s2 11 = v) (ho : v = nI 0 → sb s2 3 0 = b.toInt64) : ab_at X (d + 1) 360 810 [some (.inr (14, 0)), some (.inr (0, 0)), some (.inr (9, 0)), some (.inr (15, 0)), some (.inl (.int (nI k))), u5, u6, none] [] s = ab_at X (d + 1) 360 23 [some (.inr (14, 0)), some (.inr (0, 0)), some (.inr (9, 0)), some (.inr (15, 0)), some (.inl (.int (nI (k + 6)))), some (.inl (.int v)), some (.inl (.int b)), none] [] s2 := by
  have e1 : nI k + nI 1 = nI (k + 1) := nI_add k 1
  have c1 : ¬ (nI (k + 1) < nI 0 ∨ X.2 ≤ (nI (k + 1)).toNatClampNeg) := n_in (by omega) hX
  have t1 : (nI (k + 1)).toNatClampNeg = k + 1 := nI_clamp (by omega)
  have g1 : ¬ (nI (k + 1) < nI 0 ∨ X.2 ≤ k + 1) := by rwa [t1] at c1
  have e2 : nI k + nI 2 = nI (k + 2) := nI_add k 2
  have c2 : ¬ (nI (k + 2) < nI 0 ∨ X.2 ≤ (nI (k + 2)).toNatClampNeg) := n_in (by omega) hX
  have t2 : (nI (k + 2)).toNatClampNeg = k + 2 := nI_clamp (by omega)
  have g2 : ¬ (nI (k + 2) < nI 0 ∨ X.2 ≤ k + 2) := by rwa [t2] at c2
  rw [b360_810, e1, e2, if_neg c1, if_neg c2, t1, t2, hc, e_bI, if_neg g1, if_neg g2, hr, e_bI, b229, e_bI, ht]
  rw [if_pos rfl]
  by_cases hv : v = nI 0
  · rw [if_pos hv, if_pos (show lg_cmp _ _ = nI 0 from (lg_cmp_eq _ _).mpr (ho hv)), b360_3211, nI_add]
  · rw [if_neg hv, b360_3211, nI_add]
theorem w878 {v : Int32} {b : Int32} (hk : k + 5 < X.2) (hX : X.2 < 2 ^ 31) (hc : ab_ev X d 111 [.inr (0, 0), .inl (.int (X.1 (k + 1))), .inr (15, 0)] s = some (.inl (some (.inl (.int v))), s1)) (hr : ab_ev X d 288 [.inr (9, 0), .inl (.int (X.1 (k + 1)))] s1 = some (.inl (some (.inl (.int b))), s2)) (ht : sz s2 11 = v) (ho : v = nI 0 → sb s2 3 0 = b.toInt64) : ab_at X (d + 1) 360 878 [some (.inr (14, 0)), some (.inr (0, 0)), some (.inr (9, 0)), some (.inr (15, 0)), some (.inl (.int (nI k))), u5, u6, none] [] s = ab_at X (d + 1) 360 23 [some (.inr (14, 0)), some (.inr (0, 0)), some (.inr (9, 0)), some (.inr (15, 0)), some (.inl (.int (nI (k + 6)))), some (.inl (.int v)), some (.inl (.int b)), none] [] s2 := by
  have e1 : nI k + nI 1 = nI (k + 1) := nI_add k 1
  have c1 : ¬ (nI (k + 1) < nI 0 ∨ X.2 ≤ (nI (k + 1)).toNatClampNeg) := n_in (by omega) hX
  have t1 : (nI (k + 1)).toNatClampNeg = k + 1 := nI_clamp (by omega)
  have g1 : ¬ (nI (k + 1) < nI 0 ∨ X.2 ≤ k + 1) := by rwa [t1] at c1
  rw [b360_878, e1, if_neg c1, t1, hc, e_bI, if_neg g1, hr, e_bI, b229, e_bI, ht]
  rw [if_pos rfl]
  by_cases hv : v = nI 0
  · rw [if_pos hv, if_pos (show lg_cmp _ _ = nI 0 from (lg_cmp_eq _ _).mpr (ho hv)), b360_3211, nI_add]
  · rw [if_neg hv, b360_3211, nI_add]
theorem w934 {v : Int32} {b : Int32} (hk : k + 5 < X.2) (hX : X.2 < 2 ^ 31) (hc : ab_ev X d 5 [.inr (0, 0)] s = some (.inl (some (.inl (.int v))), s1)) (hr : ab_ev X d 298 [.inr (9, 0)] s1 = some (.inl (some (.inl (.int b))), s2)) (he : v = b) : ab_at X (d + 1) 360 934 [some (.inr (14, 0)), some (.inr (0, 0)), some (.inr (9, 0)), some (.inr (15, 0)), some (.inl (.int (nI k))), u5, u6, none] [] s = ab_at X (d + 1) 360 23 [some (.inr (14, 0)), some (.inr (0, 0)), some (.inr (9, 0)), some (.inr (15, 0)), some (.inl (.int (nI (k + 6)))), u5, u6, none] [] s2 := by
  rw [b360_934, hc, e_bI, hr, e_bI]
  rw [if_pos he, b360_3211, nI_add]
theorem w947 {v : Int32} {b : Int32} (hk : k + 5 < X.2) (hX : X.2 < 2 ^ 31) (hc : ab_ev X d 117 [.inr (0, 0), .inl (.int (X.1 (k + 1))), .inr (15, 0)] s = some (.inl (some (.inl (.int v))), s1)) (hr : ab_ev X d 299 [.inr (9, 0), .inl (.int (X.1 (k + 1)))] s1 = some (.inl (some (.inl (.int b))), s2)) (ht : sz s2 11 = v) (ho : v = nI 0 → sb s2 3 0 = b.toInt64) : ab_at X (d + 1) 360 947 [some (.inr (14, 0)), some (.inr (0, 0)), some (.inr (9, 0)), some (.inr (15, 0)), some (.inl (.int (nI k))), u5, u6, none] [] s = ab_at X (d + 1) 360 23 [some (.inr (14, 0)), some (.inr (0, 0)), some (.inr (9, 0)), some (.inr (15, 0)), some (.inl (.int (nI (k + 6)))), some (.inl (.int v)), some (.inl (.int b)), none] [] s2 := by
  have e1 : nI k + nI 1 = nI (k + 1) := nI_add k 1
  have c1 : ¬ (nI (k + 1) < nI 0 ∨ X.2 ≤ (nI (k + 1)).toNatClampNeg) := n_in (by omega) hX
  have t1 : (nI (k + 1)).toNatClampNeg = k + 1 := nI_clamp (by omega)
  have g1 : ¬ (nI (k + 1) < nI 0 ∨ X.2 ≤ k + 1) := by rwa [t1] at c1
  rw [b360_947, e1, if_neg c1, t1, hc, e_bI, if_neg g1, hr, e_bI, b229, e_bI, ht]
  rw [if_pos rfl]
  by_cases hv : v = nI 0
  · rw [if_pos hv, if_pos (show lg_cmp _ _ = nI 0 from (lg_cmp_eq _ _).mpr (ho hv)), b360_3211, nI_add]
  · rw [if_neg hv, b360_3211, nI_add]
theorem w1003 {v : Int32} {b : Int32} (hk : k + 5 < X.2) (hX : X.2 < 2 ^ 31) (hc : ab_ev X d 119 [.inr (0, 0), .inl (.int (X.1 (k + 1))), .inr (15, 0)] s = some (.inl (some (.inl (.int v))), s1)) (hr : ab_ev X d 300 [.inr (9, 0), .inl (.int (X.1 (k + 1)))] s1 = some (.inl (some (.inl (.int b))), s2)) (ht : sz s2 11 = v) (ho : v = nI 0 → sb s2 3 0 = b.toInt64) : ab_at X (d + 1) 360 1003 [some (.inr (14, 0)), some (.inr (0, 0)), some (.inr (9, 0)), some (.inr (15, 0)), some (.inl (.int (nI k))), u5, u6, none] [] s = ab_at X (d + 1) 360 23 [some (.inr (14, 0)), some (.inr (0, 0)), some (.inr (9, 0)), some (.inr (15, 0)), some (.inl (.int (nI (k + 6)))), some (.inl (.int v)), some (.inl (.int b)), none] [] s2 := by
  have e1 : nI k + nI 1 = nI (k + 1) := nI_add k 1
  have c1 : ¬ (nI (k + 1) < nI 0 ∨ X.2 ≤ (nI (k + 1)).toNatClampNeg) := n_in (by omega) hX
  have t1 : (nI (k + 1)).toNatClampNeg = k + 1 := nI_clamp (by omega)
  have g1 : ¬ (nI (k + 1) < nI 0 ∨ X.2 ≤ k + 1) := by rwa [t1] at c1
  rw [b360_1003, e1, if_neg c1, t1, hc, e_bI, if_neg g1, hr, e_bI, b229, e_bI, ht]
  rw [if_pos rfl]
  by_cases hv : v = nI 0
  · rw [if_pos hv, if_pos (show lg_cmp _ _ = nI 0 from (lg_cmp_eq _ _).mpr (ho hv)), b360_3211, nI_add]
  · rw [if_neg hv, b360_3211, nI_add]
theorem w1059 {v : Int32} {b : Int32} (hk : k + 5 < X.2) (hX : X.2 < 2 ^ 31) (hc : ab_ev X d 122 [.inr (0, 0), .inl (.int (X.1 (k + 1))), .inl (.int (X.1 (k + 2))), .inr (15, 0)] s = some (.inl (some (.inl (.int v))), s1)) (hr : ab_ev X d 301 [.inr (9, 0), .inl (.int (X.1 (k + 1))), .inl (.int (X.1 (k + 2)))] s1 = some (.inl (some (.inl (.int b))), s2)) (ht : sz s2 11 = v) (ho : v = nI 0 → sb s2 3 0 = b.toInt64) : ab_at X (d + 1) 360 1059 [some (.inr (14, 0)), some (.inr (0, 0)), some (.inr (9, 0)), some (.inr (15, 0)), some (.inl (.int (nI k))), u5, u6, none] [] s = ab_at X (d + 1) 360 23 [some (.inr (14, 0)), some (.inr (0, 0)), some (.inr (9, 0)), some (.inr (15, 0)), some (.inl (.int (nI (k + 6)))), some (.inl (.int v)), some (.inl (.int b)), none] [] s2 := by
  have e1 : nI k + nI 1 = nI (k + 1) := nI_add k 1
  have c1 : ¬ (nI (k + 1) < nI 0 ∨ X.2 ≤ (nI (k + 1)).toNatClampNeg) := n_in (by omega) hX
  have t1 : (nI (k + 1)).toNatClampNeg = k + 1 := nI_clamp (by omega)
  have g1 : ¬ (nI (k + 1) < nI 0 ∨ X.2 ≤ k + 1) := by rwa [t1] at c1
  have e2 : nI k + nI 2 = nI (k + 2) := nI_add k 2
  have c2 : ¬ (nI (k + 2) < nI 0 ∨ X.2 ≤ (nI (k + 2)).toNatClampNeg) := n_in (by omega) hX
  have t2 : (nI (k + 2)).toNatClampNeg = k + 2 := nI_clamp (by omega)
  have g2 : ¬ (nI (k + 2) < nI 0 ∨ X.2 ≤ k + 2) := by rwa [t2] at c2
  rw [b360_1059, e1, e2, if_neg c1, if_neg c2, t1, t2, hc, e_bI, if_neg g1, if_neg g2, hr, e_bI, b229, e_bI, ht]
  rw [if_pos rfl]
  by_cases hv : v = nI 0
  · rw [if_pos hv, if_pos (show lg_cmp _ _ = nI 0 from (lg_cmp_eq _ _).mpr (ho hv)), b360_3211, nI_add]
  · rw [if_neg hv, b360_3211, nI_add]
theorem w1127 {v : Int32} {b : Int32} (hk : k + 5 < X.2) (hX : X.2 < 2 ^ 31) (hc : ab_ev X d 125 [.inr (0, 0), .inl (.int (X.1 (k + 1))), .inl (.int (X.1 (k + 2))), .inr (15, 0)] s = some (.inl (some (.inl (.int v))), s1)) (hr : ab_ev X d 302 [.inr (9, 0), .inl (.int (X.1 (k + 1))), .inl (.int (X.1 (k + 2)))] s1 = some (.inl (some (.inl (.int b))), s2)) (ht : sz s2 11 = v) (ho : v = nI 0 → sb s2 3 0 = b.toInt64) : ab_at X (d + 1) 360 1127 [some (.inr (14, 0)), some (.inr (0, 0)), some (.inr (9, 0)), some (.inr (15, 0)), some (.inl (.int (nI k))), u5, u6, none] [] s = ab_at X (d + 1) 360 23 [some (.inr (14, 0)), some (.inr (0, 0)), some (.inr (9, 0)), some (.inr (15, 0)), some (.inl (.int (nI (k + 6)))), some (.inl (.int v)), some (.inl (.int b)), none] [] s2 := by
  have e1 : nI k + nI 1 = nI (k + 1) := nI_add k 1
  have c1 : ¬ (nI (k + 1) < nI 0 ∨ X.2 ≤ (nI (k + 1)).toNatClampNeg) := n_in (by omega) hX
  have t1 : (nI (k + 1)).toNatClampNeg = k + 1 := nI_clamp (by omega)
  have g1 : ¬ (nI (k + 1) < nI 0 ∨ X.2 ≤ k + 1) := by rwa [t1] at c1
  have e2 : nI k + nI 2 = nI (k + 2) := nI_add k 2
  have c2 : ¬ (nI (k + 2) < nI 0 ∨ X.2 ≤ (nI (k + 2)).toNatClampNeg) := n_in (by omega) hX
  have t2 : (nI (k + 2)).toNatClampNeg = k + 2 := nI_clamp (by omega)
  have g2 : ¬ (nI (k + 2) < nI 0 ∨ X.2 ≤ k + 2) := by rwa [t2] at c2
  rw [b360_1127, e1, e2, if_neg c1, if_neg c2, t1, t2, hc, e_bI, if_neg g1, if_neg g2, hr, e_bI, b229, e_bI, ht]
  rw [if_pos rfl]
  by_cases hv : v = nI 0
  · rw [if_pos hv, if_pos (show lg_cmp _ _ = nI 0 from (lg_cmp_eq _ _).mpr (ho hv)), b360_3211, nI_add]
  · rw [if_neg hv, b360_3211, nI_add]
theorem w1195 {v : Int32} {b : Int32} (hk : k + 5 < X.2) (hX : X.2 < 2 ^ 31) (hc : ab_ev X d 130 [.inr (0, 0), .inl (.int (X.1 (k + 1))), .inl (.int (X.1 (k + 2))), .inl (.int (X.1 (k + 3))), .inr (15, 0)] s = some (.inl (some (.inl (.int v))), s1)) (hr : ab_ev X d 304 [.inr (9, 0), .inl (.int (X.1 (k + 1))), .inl (.int (X.1 (k + 2))), .inl (.int (X.1 (k + 3)))] s1 = some (.inl (some (.inl (.int b))), s2)) (ht : sz s2 11 = v) (ho : v = nI 0 → sb s2 3 0 = b.toInt64) : ab_at X (d + 1) 360 1195 [some (.inr (14, 0)), some (.inr (0, 0)), some (.inr (9, 0)), some (.inr (15, 0)), some (.inl (.int (nI k))), u5, u6, none] [] s = ab_at X (d + 1) 360 23 [some (.inr (14, 0)), some (.inr (0, 0)), some (.inr (9, 0)), some (.inr (15, 0)), some (.inl (.int (nI (k + 6)))), some (.inl (.int v)), some (.inl (.int b)), none] [] s2 := by
  have e1 : nI k + nI 1 = nI (k + 1) := nI_add k 1
  have c1 : ¬ (nI (k + 1) < nI 0 ∨ X.2 ≤ (nI (k + 1)).toNatClampNeg) := n_in (by omega) hX
  have t1 : (nI (k + 1)).toNatClampNeg = k + 1 := nI_clamp (by omega)
  have g1 : ¬ (nI (k + 1) < nI 0 ∨ X.2 ≤ k + 1) := by rwa [t1] at c1
  have e2 : nI k + nI 2 = nI (k + 2) := nI_add k 2
  have c2 : ¬ (nI (k + 2) < nI 0 ∨ X.2 ≤ (nI (k + 2)).toNatClampNeg) := n_in (by omega) hX
  have t2 : (nI (k + 2)).toNatClampNeg = k + 2 := nI_clamp (by omega)
  have g2 : ¬ (nI (k + 2) < nI 0 ∨ X.2 ≤ k + 2) := by rwa [t2] at c2
  have e3 : nI k + nI 3 = nI (k + 3) := nI_add k 3
  have c3 : ¬ (nI (k + 3) < nI 0 ∨ X.2 ≤ (nI (k + 3)).toNatClampNeg) := n_in (by omega) hX
  have t3 : (nI (k + 3)).toNatClampNeg = k + 3 := nI_clamp (by omega)
  have g3 : ¬ (nI (k + 3) < nI 0 ∨ X.2 ≤ k + 3) := by rwa [t3] at c3
  rw [b360_1195, e1, e2, e3, if_neg c1, if_neg c2, if_neg c3, t1, t2, t3, hc, e_bI, if_neg g1, if_neg g2, if_neg g3, hr, e_bI, b229, e_bI, ht]
  rw [if_pos rfl]
  by_cases hv : v = nI 0
  · rw [if_pos hv, if_pos (show lg_cmp _ _ = nI 0 from (lg_cmp_eq _ _).mpr (ho hv)), b360_3211, nI_add]
  · rw [if_neg hv, b360_3211, nI_add]
theorem w1275 {v : Int32} {b : Int32} (hk : k + 5 < X.2) (hX : X.2 < 2 ^ 31) (hc : ab_ev X d 133 [.inr (0, 0), .inl (.int (X.1 (k + 1))), .inl (.int (X.1 (k + 2))), .inr (15, 0)] s = some (.inl (some (.inl (.int v))), s1)) (hr : ab_ev X d 305 [.inr (9, 0), .inl (.int (X.1 (k + 1))), .inl (.int (X.1 (k + 2)))] s1 = some (.inl (some (.inl (.int b))), s2)) (ht : sz s2 11 = v) (ho : v = nI 0 → sb s2 3 0 = b.toInt64) : ab_at X (d + 1) 360 1275 [some (.inr (14, 0)), some (.inr (0, 0)), some (.inr (9, 0)), some (.inr (15, 0)), some (.inl (.int (nI k))), u5, u6, none] [] s = ab_at X (d + 1) 360 23 [some (.inr (14, 0)), some (.inr (0, 0)), some (.inr (9, 0)), some (.inr (15, 0)), some (.inl (.int (nI (k + 6)))), some (.inl (.int v)), some (.inl (.int b)), none] [] s2 := by
  have e1 : nI k + nI 1 = nI (k + 1) := nI_add k 1
  have c1 : ¬ (nI (k + 1) < nI 0 ∨ X.2 ≤ (nI (k + 1)).toNatClampNeg) := n_in (by omega) hX
  have t1 : (nI (k + 1)).toNatClampNeg = k + 1 := nI_clamp (by omega)
  have g1 : ¬ (nI (k + 1) < nI 0 ∨ X.2 ≤ k + 1) := by rwa [t1] at c1
  have e2 : nI k + nI 2 = nI (k + 2) := nI_add k 2
  have c2 : ¬ (nI (k + 2) < nI 0 ∨ X.2 ≤ (nI (k + 2)).toNatClampNeg) := n_in (by omega) hX
  have t2 : (nI (k + 2)).toNatClampNeg = k + 2 := nI_clamp (by omega)
  have g2 : ¬ (nI (k + 2) < nI 0 ∨ X.2 ≤ k + 2) := by rwa [t2] at c2
  rw [b360_1275, e1, e2, if_neg c1, if_neg c2, t1, t2, hc, e_bI, if_neg g1, if_neg g2, hr, e_bI, b229, e_bI, ht]
  rw [if_pos rfl]
  by_cases hv : v = nI 0
  · rw [if_pos hv, if_pos (show lg_cmp _ _ = nI 0 from (lg_cmp_eq _ _).mpr (ho hv)), b360_3211, nI_add]
  · rw [if_neg hv, b360_3211, nI_add]
theorem w1343 {v : Int32} {b : Int32} (hk : k + 5 < X.2) (hX : X.2 < 2 ^ 31) (hc : ab_ev X d 137 [.inr (0, 0), .inl (.int (X.1 (k + 1))), .inr (15, 0)] s = some (.inl (some (.inl (.int v))), s1)) (hr : ab_ev X d 306 [.inr (9, 0), .inl (.int (X.1 (k + 1)))] s1 = some (.inl (some (.inl (.int b))), s2)) (ht : sz s2 11 = v) (ho : v = nI 0 → sb s2 3 0 = b.toInt64) : ab_at X (d + 1) 360 1343 [some (.inr (14, 0)), some (.inr (0, 0)), some (.inr (9, 0)), some (.inr (15, 0)), some (.inl (.int (nI k))), u5, u6, none] [] s = ab_at X (d + 1) 360 23 [some (.inr (14, 0)), some (.inr (0, 0)), some (.inr (9, 0)), some (.inr (15, 0)), some (.inl (.int (nI (k + 6)))), some (.inl (.int v)), some (.inl (.int b)), none] [] s2 := by
  have e1 : nI k + nI 1 = nI (k + 1) := nI_add k 1
  have c1 : ¬ (nI (k + 1) < nI 0 ∨ X.2 ≤ (nI (k + 1)).toNatClampNeg) := n_in (by omega) hX
  have t1 : (nI (k + 1)).toNatClampNeg = k + 1 := nI_clamp (by omega)
  have g1 : ¬ (nI (k + 1) < nI 0 ∨ X.2 ≤ k + 1) := by rwa [t1] at c1
  rw [b360_1343, e1, if_neg c1, t1, hc, e_bI, if_neg g1, hr, e_bI, b229, e_bI, ht]
  rw [if_pos rfl]
  by_cases hv : v = nI 0
  · rw [if_pos hv, if_pos (show lg_cmp _ _ = nI 0 from (lg_cmp_eq _ _).mpr (ho hv)), b360_3211, nI_add]
  · rw [if_neg hv, b360_3211, nI_add]
theorem w1399 {v : Int32} {b : Int32} (hk : k + 5 < X.2) (hX : X.2 < 2 ^ 31) (hc : ab_ev X d 140 [.inr (0, 0), .inl (.int (X.1 (k + 1))), .inl (.int (X.1 (k + 2))), .inl (.int (X.1 (k + 3))), .inr (15, 0)] s = some (.inl (some (.inl (.int v))), s1)) (hr : ab_ev X d 307 [.inr (9, 0), .inl (.int (X.1 (k + 1))), .inl (.int (X.1 (k + 2))), .inl (.int (X.1 (k + 3)))] s1 = some (.inl (some (.inl (.int b))), s2)) (ht : sz s2 11 = v) (ho : v = nI 0 → sb s2 3 0 = b.toInt64) : ab_at X (d + 1) 360 1399 [some (.inr (14, 0)), some (.inr (0, 0)), some (.inr (9, 0)), some (.inr (15, 0)), some (.inl (.int (nI k))), u5, u6, none] [] s = ab_at X (d + 1) 360 23 [some (.inr (14, 0)), some (.inr (0, 0)), some (.inr (9, 0)), some (.inr (15, 0)), some (.inl (.int (nI (k + 6)))), some (.inl (.int v)), some (.inl (.int b)), none] [] s2 := by
  have e1 : nI k + nI 1 = nI (k + 1) := nI_add k 1
  have c1 : ¬ (nI (k + 1) < nI 0 ∨ X.2 ≤ (nI (k + 1)).toNatClampNeg) := n_in (by omega) hX
  have t1 : (nI (k + 1)).toNatClampNeg = k + 1 := nI_clamp (by omega)
  have g1 : ¬ (nI (k + 1) < nI 0 ∨ X.2 ≤ k + 1) := by rwa [t1] at c1
  have e2 : nI k + nI 2 = nI (k + 2) := nI_add k 2
  have c2 : ¬ (nI (k + 2) < nI 0 ∨ X.2 ≤ (nI (k + 2)).toNatClampNeg) := n_in (by omega) hX
  have t2 : (nI (k + 2)).toNatClampNeg = k + 2 := nI_clamp (by omega)
  have g2 : ¬ (nI (k + 2) < nI 0 ∨ X.2 ≤ k + 2) := by rwa [t2] at c2
  have e3 : nI k + nI 3 = nI (k + 3) := nI_add k 3
  have c3 : ¬ (nI (k + 3) < nI 0 ∨ X.2 ≤ (nI (k + 3)).toNatClampNeg) := n_in (by omega) hX
  have t3 : (nI (k + 3)).toNatClampNeg = k + 3 := nI_clamp (by omega)
  have g3 : ¬ (nI (k + 3) < nI 0 ∨ X.2 ≤ k + 3) := by rwa [t3] at c3
  rw [b360_1399, e1, e2, e3, if_neg c1, if_neg c2, if_neg c3, t1, t2, t3, hc, e_bI, if_neg g1, if_neg g2, if_neg g3, hr, e_bI, b229, e_bI, ht]
  rw [if_pos rfl]
  by_cases hv : v = nI 0
  · rw [if_pos hv, if_pos (show lg_cmp _ _ = nI 0 from (lg_cmp_eq _ _).mpr (ho hv)), b360_3211, nI_add]
  · rw [if_neg hv, b360_3211, nI_add]
theorem w1479 {v : Int32} {b : Int32} (hk : k + 5 < X.2) (hX : X.2 < 2 ^ 31) (hc : ab_ev X d 143 [.inr (0, 0), .inl (.int (X.1 (k + 1))), .inr (15, 0)] s = some (.inl (some (.inl (.int v))), s1)) (hr : ab_ev X d 308 [.inr (9, 0), .inl (.int (X.1 (k + 1)))] s1 = some (.inl (some (.inl (.int b))), s2)) (ht : sz s2 11 = v) (ho : v = nI 0 → sb s2 3 0 = b.toInt64) : ab_at X (d + 1) 360 1479 [some (.inr (14, 0)), some (.inr (0, 0)), some (.inr (9, 0)), some (.inr (15, 0)), some (.inl (.int (nI k))), u5, u6, none] [] s = ab_at X (d + 1) 360 23 [some (.inr (14, 0)), some (.inr (0, 0)), some (.inr (9, 0)), some (.inr (15, 0)), some (.inl (.int (nI (k + 6)))), some (.inl (.int v)), some (.inl (.int b)), none] [] s2 := by
  have e1 : nI k + nI 1 = nI (k + 1) := nI_add k 1
  have c1 : ¬ (nI (k + 1) < nI 0 ∨ X.2 ≤ (nI (k + 1)).toNatClampNeg) := n_in (by omega) hX
  have t1 : (nI (k + 1)).toNatClampNeg = k + 1 := nI_clamp (by omega)
  have g1 : ¬ (nI (k + 1) < nI 0 ∨ X.2 ≤ k + 1) := by rwa [t1] at c1
  rw [b360_1479, e1, if_neg c1, t1, hc, e_bI, if_neg g1, hr, e_bI, b229, e_bI, ht]
  rw [if_pos rfl]
  by_cases hv : v = nI 0
  · rw [if_pos hv, if_pos (show lg_cmp _ _ = nI 0 from (lg_cmp_eq _ _).mpr (ho hv)), b360_3211, nI_add]
  · rw [if_neg hv, b360_3211, nI_add]
theorem w1535 {v : Int32} {b : Int32} (hk : k + 5 < X.2) (hX : X.2 < 2 ^ 31) (hc : ab_ev X d 148 [.inr (0, 0), .inl (.int (X.1 (k + 1))), .inl (.int (X.1 (k + 2))), .inr (15, 0)] s = some (.inl (some (.inl (.int v))), s1)) (hr : ab_ev X d 309 [.inr (9, 0), .inl (.int (X.1 (k + 1))), .inl (.int (X.1 (k + 2)))] s1 = some (.inl (some (.inl (.int b))), s2)) (ht : sz s2 11 = v) (ho : v = nI 0 → sb s2 3 0 = b.toInt64) : ab_at X (d + 1) 360 1535 [some (.inr (14, 0)), some (.inr (0, 0)), some (.inr (9, 0)), some (.inr (15, 0)), some (.inl (.int (nI k))), u5, u6, none] [] s = ab_at X (d + 1) 360 23 [some (.inr (14, 0)), some (.inr (0, 0)), some (.inr (9, 0)), some (.inr (15, 0)), some (.inl (.int (nI (k + 6)))), some (.inl (.int v)), some (.inl (.int b)), none] [] s2 := by
  have e1 : nI k + nI 1 = nI (k + 1) := nI_add k 1
  have c1 : ¬ (nI (k + 1) < nI 0 ∨ X.2 ≤ (nI (k + 1)).toNatClampNeg) := n_in (by omega) hX
  have t1 : (nI (k + 1)).toNatClampNeg = k + 1 := nI_clamp (by omega)
  have g1 : ¬ (nI (k + 1) < nI 0 ∨ X.2 ≤ k + 1) := by rwa [t1] at c1
  have e2 : nI k + nI 2 = nI (k + 2) := nI_add k 2
  have c2 : ¬ (nI (k + 2) < nI 0 ∨ X.2 ≤ (nI (k + 2)).toNatClampNeg) := n_in (by omega) hX
  have t2 : (nI (k + 2)).toNatClampNeg = k + 2 := nI_clamp (by omega)
  have g2 : ¬ (nI (k + 2) < nI 0 ∨ X.2 ≤ k + 2) := by rwa [t2] at c2
  rw [b360_1535, e1, e2, if_neg c1, if_neg c2, t1, t2, hc, e_bI, if_neg g1, if_neg g2, hr, e_bI, b229, e_bI, ht]
  rw [if_pos rfl]
  by_cases hv : v = nI 0
  · rw [if_pos hv, if_pos (show lg_cmp _ _ = nI 0 from (lg_cmp_eq _ _).mpr (ho hv)), b360_3211, nI_add]
  · rw [if_neg hv, b360_3211, nI_add]
theorem w1603 {v : Int32} {b : Int32} (hk : k + 5 < X.2) (hX : X.2 < 2 ^ 31) (hc : ab_ev X d 155 [.inr (0, 0), .inl (.int (X.1 (k + 1))), .inr (15, 0)] s = some (.inl (some (.inl (.int v))), s1)) (hr : ab_ev X d 316 [.inr (9, 0), .inl (.int (X.1 (k + 1)))] s1 = some (.inl (some (.inl (.int b))), s2)) (ht : sz s2 11 = v) (ho : v = nI 0 → sb s2 3 0 = b.toInt64) : ab_at X (d + 1) 360 1603 [some (.inr (14, 0)), some (.inr (0, 0)), some (.inr (9, 0)), some (.inr (15, 0)), some (.inl (.int (nI k))), u5, u6, none] [] s = ab_at X (d + 1) 360 23 [some (.inr (14, 0)), some (.inr (0, 0)), some (.inr (9, 0)), some (.inr (15, 0)), some (.inl (.int (nI (k + 6)))), some (.inl (.int v)), some (.inl (.int b)), none] [] s2 := by
  have e1 : nI k + nI 1 = nI (k + 1) := nI_add k 1
  have c1 : ¬ (nI (k + 1) < nI 0 ∨ X.2 ≤ (nI (k + 1)).toNatClampNeg) := n_in (by omega) hX
  have t1 : (nI (k + 1)).toNatClampNeg = k + 1 := nI_clamp (by omega)
  have g1 : ¬ (nI (k + 1) < nI 0 ∨ X.2 ≤ k + 1) := by rwa [t1] at c1
  rw [b360_1603, e1, if_neg c1, t1, hc, e_bI, if_neg g1, hr, e_bI, b229, e_bI, ht]
  rw [if_pos rfl]
  by_cases hv : v = nI 0
  · rw [if_pos hv, if_pos (show lg_cmp _ _ = nI 0 from (lg_cmp_eq _ _).mpr (ho hv)), b360_3211, nI_add]
  · rw [if_neg hv, b360_3211, nI_add]
theorem w1659 {v : Int32} {b : Int32} (hk : k + 5 < X.2) (hX : X.2 < 2 ^ 31) (hc : ab_ev X d 157 [.inr (0, 0), .inl (.int (X.1 (k + 1))), .inl (.int (X.1 (k + 2))), .inr (15, 0)] s = some (.inl (some (.inl (.int v))), s1)) (hr : ab_ev X d 317 [.inr (9, 0), .inl (.int (X.1 (k + 1))), .inl (.int (X.1 (k + 2)))] s1 = some (.inl (some (.inl (.int b))), s2)) (ht : sz s2 11 = v) (ho : v = nI 0 → sb s2 3 0 = b.toInt64) : ab_at X (d + 1) 360 1659 [some (.inr (14, 0)), some (.inr (0, 0)), some (.inr (9, 0)), some (.inr (15, 0)), some (.inl (.int (nI k))), u5, u6, none] [] s = ab_at X (d + 1) 360 23 [some (.inr (14, 0)), some (.inr (0, 0)), some (.inr (9, 0)), some (.inr (15, 0)), some (.inl (.int (nI (k + 6)))), some (.inl (.int v)), some (.inl (.int b)), none] [] s2 := by
  have e1 : nI k + nI 1 = nI (k + 1) := nI_add k 1
  have c1 : ¬ (nI (k + 1) < nI 0 ∨ X.2 ≤ (nI (k + 1)).toNatClampNeg) := n_in (by omega) hX
  have t1 : (nI (k + 1)).toNatClampNeg = k + 1 := nI_clamp (by omega)
  have g1 : ¬ (nI (k + 1) < nI 0 ∨ X.2 ≤ k + 1) := by rwa [t1] at c1
  have e2 : nI k + nI 2 = nI (k + 2) := nI_add k 2
  have c2 : ¬ (nI (k + 2) < nI 0 ∨ X.2 ≤ (nI (k + 2)).toNatClampNeg) := n_in (by omega) hX
  have t2 : (nI (k + 2)).toNatClampNeg = k + 2 := nI_clamp (by omega)
  have g2 : ¬ (nI (k + 2) < nI 0 ∨ X.2 ≤ k + 2) := by rwa [t2] at c2
  rw [b360_1659, e1, e2, if_neg c1, if_neg c2, t1, t2, hc, e_bI, if_neg g1, if_neg g2, hr, e_bI, b229, e_bI, ht]
  rw [if_pos rfl]
  by_cases hv : v = nI 0
  · rw [if_pos hv, if_pos (show lg_cmp _ _ = nI 0 from (lg_cmp_eq _ _).mpr (ho hv)), b360_3211, nI_add]
  · rw [if_neg hv, b360_3211, nI_add]
theorem w1727 {v : Int64} {b : Int64} (hk : k + 5 < X.2) (hX : X.2 < 2 ^ 31) (hc : ab_ev X d 16 [.inr (0, 0)] s = some (.inl (some (.inl (.long v))), s1)) (hr : ab_ev X d 319 [.inr (9, 0)] s1 = some (.inl (some (.inl (.long b))), s2)) (he : v = b) : ab_at X (d + 1) 360 1727 [some (.inr (14, 0)), some (.inr (0, 0)), some (.inr (9, 0)), some (.inr (15, 0)), some (.inl (.int (nI k))), u5, u6, none] [] s = ab_at X (d + 1) 360 23 [some (.inr (14, 0)), some (.inr (0, 0)), some (.inr (9, 0)), some (.inr (15, 0)), some (.inl (.int (nI (k + 6)))), u5, u6, none] [] s2 := by
  rw [b360_1727, hc, e_bJ, hr, e_bJ]
  rw [if_pos (show lg_cmp _ _ = nI 0 from (lg_cmp_eq _ _).mpr he), b360_3211, nI_add]
theorem w1741 {v : Int64} {b : Int64} (hk : k + 5 < X.2) (hX : X.2 < 2 ^ 31) (hc : ab_ev X d 29 [.inr (0, 0)] s = some (.inl (some (.inl (.long v))), s1)) (hr : ab_ev X d 322 [.inr (9, 0)] s1 = some (.inl (some (.inl (.long b))), s2)) (he : v = b) : ab_at X (d + 1) 360 1741 [some (.inr (14, 0)), some (.inr (0, 0)), some (.inr (9, 0)), some (.inr (15, 0)), some (.inl (.int (nI k))), u5, u6, none] [] s = ab_at X (d + 1) 360 23 [some (.inr (14, 0)), some (.inr (0, 0)), some (.inr (9, 0)), some (.inr (15, 0)), some (.inl (.int (nI (k + 6)))), u5, u6, none] [] s2 := by
  rw [b360_1741, hc, e_bJ, hr, e_bJ]
  rw [if_pos (show lg_cmp _ _ = nI 0 from (lg_cmp_eq _ _).mpr he), b360_3211, nI_add]
theorem w1755 {v : Int32} {b : Int64} (hk : k + 5 < X.2) (hX : X.2 < 2 ^ 31) (hc : ab_ev X d 161 [.inr (0, 0), .inl (.int (X.1 (k + 1))), .inr (15, 0)] s = some (.inl (some (.inl (.int v))), s1)) (hr : ab_ev X d 324 [.inr (9, 0), .inl (.int (X.1 (k + 1)))] s1 = some (.inl (some (.inl (.long b))), s2)) (ht : sz s2 11 = v) (ho : v = nI 0 → sb s2 3 0 = b) : ab_at X (d + 1) 360 1755 [some (.inr (14, 0)), some (.inr (0, 0)), some (.inr (9, 0)), some (.inr (15, 0)), some (.inl (.int (nI k))), u5, u6, none] [] s = ab_at X (d + 1) 360 23 [some (.inr (14, 0)), some (.inr (0, 0)), some (.inr (9, 0)), some (.inr (15, 0)), some (.inl (.int (nI (k + 6)))), some (.inl (.int v)), some (.inl (.long b)), none] [] s2 := by
  have e1 : nI k + nI 1 = nI (k + 1) := nI_add k 1
  have c1 : ¬ (nI (k + 1) < nI 0 ∨ X.2 ≤ (nI (k + 1)).toNatClampNeg) := n_in (by omega) hX
  have t1 : (nI (k + 1)).toNatClampNeg = k + 1 := nI_clamp (by omega)
  have g1 : ¬ (nI (k + 1) < nI 0 ∨ X.2 ≤ k + 1) := by rwa [t1] at c1
  rw [b360_1755, e1, if_neg c1, t1, hc, e_bI, if_neg g1, hr, e_bJ, b229, e_bI, ht]
  rw [if_pos rfl]
  by_cases hv : v = nI 0
  · rw [if_pos hv, if_pos (show lg_cmp _ _ = nI 0 from (lg_cmp_eq _ _).mpr (ho hv)), b360_3211, nI_add]
  · rw [if_neg hv, b360_3211, nI_add]
theorem w1810 {v : Int32} {b : Int64} (hk : k + 5 < X.2) (hX : X.2 < 2 ^ 31) (hc : ab_ev X d 165 [.inr (0, 0), .inl (.int (X.1 (k + 1))), .inl (.int (X.1 (k + 2))), .inr (15, 0)] s = some (.inl (some (.inl (.int v))), s1)) (hr : ab_ev X d 327 [.inr (9, 0), .inl (.int (X.1 (k + 1))), .inl (.int (X.1 (k + 2)))] s1 = some (.inl (some (.inl (.long b))), s2)) (ht : sz s2 11 = v) (ho : v = nI 0 → sb s2 3 0 = b) : ab_at X (d + 1) 360 1810 [some (.inr (14, 0)), some (.inr (0, 0)), some (.inr (9, 0)), some (.inr (15, 0)), some (.inl (.int (nI k))), u5, u6, none] [] s = ab_at X (d + 1) 360 23 [some (.inr (14, 0)), some (.inr (0, 0)), some (.inr (9, 0)), some (.inr (15, 0)), some (.inl (.int (nI (k + 6)))), some (.inl (.int v)), some (.inl (.long b)), none] [] s2 := by
  have e1 : nI k + nI 1 = nI (k + 1) := nI_add k 1
  have c1 : ¬ (nI (k + 1) < nI 0 ∨ X.2 ≤ (nI (k + 1)).toNatClampNeg) := n_in (by omega) hX
  have t1 : (nI (k + 1)).toNatClampNeg = k + 1 := nI_clamp (by omega)
  have g1 : ¬ (nI (k + 1) < nI 0 ∨ X.2 ≤ k + 1) := by rwa [t1] at c1
  have e2 : nI k + nI 2 = nI (k + 2) := nI_add k 2
  have c2 : ¬ (nI (k + 2) < nI 0 ∨ X.2 ≤ (nI (k + 2)).toNatClampNeg) := n_in (by omega) hX
  have t2 : (nI (k + 2)).toNatClampNeg = k + 2 := nI_clamp (by omega)
  have g2 : ¬ (nI (k + 2) < nI 0 ∨ X.2 ≤ k + 2) := by rwa [t2] at c2
  rw [b360_1810, e1, e2, if_neg c1, if_neg c2, t1, t2, hc, e_bI, if_neg g1, if_neg g2, hr, e_bJ, b229, e_bI, ht]
  rw [if_pos rfl]
  by_cases hv : v = nI 0
  · rw [if_pos hv, if_pos (show lg_cmp _ _ = nI 0 from (lg_cmp_eq _ _).mpr (ho hv)), b360_3211, nI_add]
  · rw [if_neg hv, b360_3211, nI_add]
theorem w1877 {v : Int32} {b : Int32} (hk : k + 5 < X.2) (hX : X.2 < 2 ^ 31) (hc : ab_ev X d 167 [.inr (0, 0), .inl (.int (X.1 (k + 1))), .inr (15, 0)] s = some (.inl (some (.inl (.int v))), s1)) (hr : ab_ev X d 328 [.inr (9, 0), .inl (.int (X.1 (k + 1)))] s1 = some (.inl (some (.inl (.int b))), s2)) (ht : sz s2 11 = v) (ho : v = nI 0 → sb s2 3 0 = b.toInt64) : ab_at X (d + 1) 360 1877 [some (.inr (14, 0)), some (.inr (0, 0)), some (.inr (9, 0)), some (.inr (15, 0)), some (.inl (.int (nI k))), u5, u6, none] [] s = ab_at X (d + 1) 360 23 [some (.inr (14, 0)), some (.inr (0, 0)), some (.inr (9, 0)), some (.inr (15, 0)), some (.inl (.int (nI (k + 6)))), some (.inl (.int v)), some (.inl (.int b)), none] [] s2 := by
  have e1 : nI k + nI 1 = nI (k + 1) := nI_add k 1
  have c1 : ¬ (nI (k + 1) < nI 0 ∨ X.2 ≤ (nI (k + 1)).toNatClampNeg) := n_in (by omega) hX
  have t1 : (nI (k + 1)).toNatClampNeg = k + 1 := nI_clamp (by omega)
  have g1 : ¬ (nI (k + 1) < nI 0 ∨ X.2 ≤ k + 1) := by rwa [t1] at c1
  rw [b360_1877, e1, if_neg c1, t1, hc, e_bI, if_neg g1, hr, e_bI, b229, e_bI, ht]
  rw [if_pos rfl]
  by_cases hv : v = nI 0
  · rw [if_pos hv, if_pos (show lg_cmp _ _ = nI 0 from (lg_cmp_eq _ _).mpr (ho hv)), b360_3211, nI_add]
  · rw [if_neg hv, b360_3211, nI_add]
theorem w1933 {v : Int32} {b : Int32} (hk : k + 5 < X.2) (hX : X.2 < 2 ^ 31) (hc : ab_ev X d 169 [.inr (0, 0), .inl (.int (X.1 (k + 1))), .inl (.int (X.1 (k + 2))), .inr (15, 0)] s = some (.inl (some (.inl (.int v))), s1)) (hr : ab_ev X d 329 [.inr (9, 0), .inl (.int (X.1 (k + 1))), .inl (.int (X.1 (k + 2)))] s1 = some (.inl (some (.inl (.int b))), s2)) (ht : sz s2 11 = v) (ho : v = nI 0 → sb s2 3 0 = b.toInt64) : ab_at X (d + 1) 360 1933 [some (.inr (14, 0)), some (.inr (0, 0)), some (.inr (9, 0)), some (.inr (15, 0)), some (.inl (.int (nI k))), u5, u6, none] [] s = ab_at X (d + 1) 360 23 [some (.inr (14, 0)), some (.inr (0, 0)), some (.inr (9, 0)), some (.inr (15, 0)), some (.inl (.int (nI (k + 6)))), some (.inl (.int v)), some (.inl (.int b)), none] [] s2 := by
  have e1 : nI k + nI 1 = nI (k + 1) := nI_add k 1
  have c1 : ¬ (nI (k + 1) < nI 0 ∨ X.2 ≤ (nI (k + 1)).toNatClampNeg) := n_in (by omega) hX
  have t1 : (nI (k + 1)).toNatClampNeg = k + 1 := nI_clamp (by omega)
  have g1 : ¬ (nI (k + 1) < nI 0 ∨ X.2 ≤ k + 1) := by rwa [t1] at c1
  have e2 : nI k + nI 2 = nI (k + 2) := nI_add k 2
  have c2 : ¬ (nI (k + 2) < nI 0 ∨ X.2 ≤ (nI (k + 2)).toNatClampNeg) := n_in (by omega) hX
  have t2 : (nI (k + 2)).toNatClampNeg = k + 2 := nI_clamp (by omega)
  have g2 : ¬ (nI (k + 2) < nI 0 ∨ X.2 ≤ k + 2) := by rwa [t2] at c2
  rw [b360_1933, e1, e2, if_neg c1, if_neg c2, t1, t2, hc, e_bI, if_neg g1, if_neg g2, hr, e_bI, b229, e_bI, ht]
  rw [if_pos rfl]
  by_cases hv : v = nI 0
  · rw [if_pos hv, if_pos (show lg_cmp _ _ = nI 0 from (lg_cmp_eq _ _).mpr (ho hv)), b360_3211, nI_add]
  · rw [if_neg hv, b360_3211, nI_add]
theorem w2001 {v : Int32} {b : Int32} (hk : k + 5 < X.2) (hX : X.2 < 2 ^ 31) (hc : ab_ev X d 171 [.inr (0, 0), .inl (.int (X.1 (k + 1))), .inl (.int (X.1 (k + 2))), .inr (15, 0)] s = some (.inl (some (.inl (.int v))), s1)) (hr : ab_ev X d 330 [.inr (9, 0), .inl (.int (X.1 (k + 1))), .inl (.int (X.1 (k + 2)))] s1 = some (.inl (some (.inl (.int b))), s2)) (ht : sz s2 11 = v) (ho : v = nI 0 → sb s2 3 0 = b.toInt64) : ab_at X (d + 1) 360 2001 [some (.inr (14, 0)), some (.inr (0, 0)), some (.inr (9, 0)), some (.inr (15, 0)), some (.inl (.int (nI k))), u5, u6, none] [] s = ab_at X (d + 1) 360 23 [some (.inr (14, 0)), some (.inr (0, 0)), some (.inr (9, 0)), some (.inr (15, 0)), some (.inl (.int (nI (k + 6)))), some (.inl (.int v)), some (.inl (.int b)), none] [] s2 := by
  have e1 : nI k + nI 1 = nI (k + 1) := nI_add k 1
  have c1 : ¬ (nI (k + 1) < nI 0 ∨ X.2 ≤ (nI (k + 1)).toNatClampNeg) := n_in (by omega) hX
  have t1 : (nI (k + 1)).toNatClampNeg = k + 1 := nI_clamp (by omega)
  have g1 : ¬ (nI (k + 1) < nI 0 ∨ X.2 ≤ k + 1) := by rwa [t1] at c1
  have e2 : nI k + nI 2 = nI (k + 2) := nI_add k 2
  have c2 : ¬ (nI (k + 2) < nI 0 ∨ X.2 ≤ (nI (k + 2)).toNatClampNeg) := n_in (by omega) hX
  have t2 : (nI (k + 2)).toNatClampNeg = k + 2 := nI_clamp (by omega)
  have g2 : ¬ (nI (k + 2) < nI 0 ∨ X.2 ≤ k + 2) := by rwa [t2] at c2
  rw [b360_2001, e1, e2, if_neg c1, if_neg c2, t1, t2, hc, e_bI, if_neg g1, if_neg g2, hr, e_bI, b229, e_bI, ht]
  rw [if_pos rfl]
  by_cases hv : v = nI 0
  · rw [if_pos hv, if_pos (show lg_cmp _ _ = nI 0 from (lg_cmp_eq _ _).mpr (ho hv)), b360_3211, nI_add]
  · rw [if_neg hv, b360_3211, nI_add]
theorem w2069 {v : Int32} {b : Int32} (hk : k + 5 < X.2) (hX : X.2 < 2 ^ 31) (hc : ab_ev X d 174 [.inr (0, 0), .inl (.int (X.1 (k + 1))), .inl (.int (X.1 (k + 2))), .inr (15, 0)] s = some (.inl (some (.inl (.int v))), s1)) (hr : ab_ev X d 331 [.inr (9, 0), .inl (.int (X.1 (k + 1))), .inl (.int (X.1 (k + 2)))] s1 = some (.inl (some (.inl (.int b))), s2)) (ht : sz s2 11 = v) (ho : v = nI 0 → sb s2 3 0 = b.toInt64) : ab_at X (d + 1) 360 2069 [some (.inr (14, 0)), some (.inr (0, 0)), some (.inr (9, 0)), some (.inr (15, 0)), some (.inl (.int (nI k))), u5, u6, none] [] s = ab_at X (d + 1) 360 23 [some (.inr (14, 0)), some (.inr (0, 0)), some (.inr (9, 0)), some (.inr (15, 0)), some (.inl (.int (nI (k + 6)))), some (.inl (.int v)), some (.inl (.int b)), none] [] s2 := by
  have e1 : nI k + nI 1 = nI (k + 1) := nI_add k 1
  have c1 : ¬ (nI (k + 1) < nI 0 ∨ X.2 ≤ (nI (k + 1)).toNatClampNeg) := n_in (by omega) hX
  have t1 : (nI (k + 1)).toNatClampNeg = k + 1 := nI_clamp (by omega)
  have g1 : ¬ (nI (k + 1) < nI 0 ∨ X.2 ≤ k + 1) := by rwa [t1] at c1
  have e2 : nI k + nI 2 = nI (k + 2) := nI_add k 2
  have c2 : ¬ (nI (k + 2) < nI 0 ∨ X.2 ≤ (nI (k + 2)).toNatClampNeg) := n_in (by omega) hX
  have t2 : (nI (k + 2)).toNatClampNeg = k + 2 := nI_clamp (by omega)
  have g2 : ¬ (nI (k + 2) < nI 0 ∨ X.2 ≤ k + 2) := by rwa [t2] at c2
  rw [b360_2069, e1, e2, if_neg c1, if_neg c2, t1, t2, hc, e_bI, if_neg g1, if_neg g2, hr, e_bI, b229, e_bI, ht]
  rw [if_pos rfl]
  by_cases hv : v = nI 0
  · rw [if_pos hv, if_pos (show lg_cmp _ _ = nI 0 from (lg_cmp_eq _ _).mpr (ho hv)), b360_3211, nI_add]
  · rw [if_neg hv, b360_3211, nI_add]
theorem w2137 {v : Int32} {b : Int32} (hk : k + 5 < X.2) (hX : X.2 < 2 ^ 31) (hc : ab_ev X d 177 [.inr (0, 0), .inl (.int (X.1 (k + 1))), .inl (.int (X.1 (k + 2))), .inr (15, 0)] s = some (.inl (some (.inl (.int v))), s1)) (hr : ab_ev X d 332 [.inr (9, 0), .inl (.int (X.1 (k + 1))), .inl (.int (X.1 (k + 2)))] s1 = some (.inl (some (.inl (.int b))), s2)) (ht : sz s2 11 = v) (ho : v = nI 0 → sb s2 3 0 = b.toInt64) : ab_at X (d + 1) 360 2137 [some (.inr (14, 0)), some (.inr (0, 0)), some (.inr (9, 0)), some (.inr (15, 0)), some (.inl (.int (nI k))), u5, u6, none] [] s = ab_at X (d + 1) 360 23 [some (.inr (14, 0)), some (.inr (0, 0)), some (.inr (9, 0)), some (.inr (15, 0)), some (.inl (.int (nI (k + 6)))), some (.inl (.int v)), some (.inl (.int b)), none] [] s2 := by
  have e1 : nI k + nI 1 = nI (k + 1) := nI_add k 1
  have c1 : ¬ (nI (k + 1) < nI 0 ∨ X.2 ≤ (nI (k + 1)).toNatClampNeg) := n_in (by omega) hX
  have t1 : (nI (k + 1)).toNatClampNeg = k + 1 := nI_clamp (by omega)
  have g1 : ¬ (nI (k + 1) < nI 0 ∨ X.2 ≤ k + 1) := by rwa [t1] at c1
  have e2 : nI k + nI 2 = nI (k + 2) := nI_add k 2
  have c2 : ¬ (nI (k + 2) < nI 0 ∨ X.2 ≤ (nI (k + 2)).toNatClampNeg) := n_in (by omega) hX
  have t2 : (nI (k + 2)).toNatClampNeg = k + 2 := nI_clamp (by omega)
  have g2 : ¬ (nI (k + 2) < nI 0 ∨ X.2 ≤ k + 2) := by rwa [t2] at c2
  rw [b360_2137, e1, e2, if_neg c1, if_neg c2, t1, t2, hc, e_bI, if_neg g1, if_neg g2, hr, e_bI, b229, e_bI, ht]
  rw [if_pos rfl]
  by_cases hv : v = nI 0
  · rw [if_pos hv, if_pos (show lg_cmp _ _ = nI 0 from (lg_cmp_eq _ _).mpr (ho hv)), b360_3211, nI_add]
  · rw [if_neg hv, b360_3211, nI_add]
theorem w2205 {v : Int32} {b : Int32} (hk : k + 5 < X.2) (hX : X.2 < 2 ^ 31) (hc : ab_ev X d 190 [.inr (0, 0), .inl (.int (X.1 (k + 1))), .inl (.int (X.1 (k + 2))), .inl (.int (X.1 (k + 3))), .inr (15, 0)] s = some (.inl (some (.inl (.int v))), s1)) (hr : ab_ev X d 336 [.inr (9, 0), .inl (.int (X.1 (k + 1))), .inl (.int (X.1 (k + 2))), .inl (.int (X.1 (k + 3)))] s1 = some (.inl (some (.inl (.int b))), s2)) (ht : sz s2 11 = v) (ho : v = nI 0 → sb s2 3 0 = b.toInt64) : ab_at X (d + 1) 360 2205 [some (.inr (14, 0)), some (.inr (0, 0)), some (.inr (9, 0)), some (.inr (15, 0)), some (.inl (.int (nI k))), u5, u6, none] [] s = ab_at X (d + 1) 360 23 [some (.inr (14, 0)), some (.inr (0, 0)), some (.inr (9, 0)), some (.inr (15, 0)), some (.inl (.int (nI (k + 6)))), some (.inl (.int v)), some (.inl (.int b)), none] [] s2 := by
  have e1 : nI k + nI 1 = nI (k + 1) := nI_add k 1
  have c1 : ¬ (nI (k + 1) < nI 0 ∨ X.2 ≤ (nI (k + 1)).toNatClampNeg) := n_in (by omega) hX
  have t1 : (nI (k + 1)).toNatClampNeg = k + 1 := nI_clamp (by omega)
  have g1 : ¬ (nI (k + 1) < nI 0 ∨ X.2 ≤ k + 1) := by rwa [t1] at c1
  have e2 : nI k + nI 2 = nI (k + 2) := nI_add k 2
  have c2 : ¬ (nI (k + 2) < nI 0 ∨ X.2 ≤ (nI (k + 2)).toNatClampNeg) := n_in (by omega) hX
  have t2 : (nI (k + 2)).toNatClampNeg = k + 2 := nI_clamp (by omega)
  have g2 : ¬ (nI (k + 2) < nI 0 ∨ X.2 ≤ k + 2) := by rwa [t2] at c2
  have e3 : nI k + nI 3 = nI (k + 3) := nI_add k 3
  have c3 : ¬ (nI (k + 3) < nI 0 ∨ X.2 ≤ (nI (k + 3)).toNatClampNeg) := n_in (by omega) hX
  have t3 : (nI (k + 3)).toNatClampNeg = k + 3 := nI_clamp (by omega)
  have g3 : ¬ (nI (k + 3) < nI 0 ∨ X.2 ≤ k + 3) := by rwa [t3] at c3
  rw [b360_2205, e1, e2, e3, if_neg c1, if_neg c2, if_neg c3, t1, t2, t3, hc, e_bI, if_neg g1, if_neg g2, if_neg g3, hr, e_bI, b229, e_bI, ht]
  rw [if_pos rfl]
  by_cases hv : v = nI 0
  · rw [if_pos hv, if_pos (show lg_cmp _ _ = nI 0 from (lg_cmp_eq _ _).mpr (ho hv)), b360_3211, nI_add]
  · rw [if_neg hv, b360_3211, nI_add]
theorem w2285 {v : Int32} {b : Int32} (hk : k + 5 < X.2) (hX : X.2 < 2 ^ 31) (hc : ab_ev X d 192 [.inr (0, 0), .inl (.int (X.1 (k + 1))), .inl (.int (X.1 (k + 2))), .inl (.int (X.1 (k + 3))), .inr (15, 0)] s = some (.inl (some (.inl (.int v))), s1)) (hr : ab_ev X d 337 [.inr (9, 0), .inl (.int (X.1 (k + 1))), .inl (.int (X.1 (k + 2))), .inl (.int (X.1 (k + 3)))] s1 = some (.inl (some (.inl (.int b))), s2)) (ht : sz s2 11 = v) (ho : v = nI 0 → sb s2 3 0 = b.toInt64) : ab_at X (d + 1) 360 2285 [some (.inr (14, 0)), some (.inr (0, 0)), some (.inr (9, 0)), some (.inr (15, 0)), some (.inl (.int (nI k))), u5, u6, none] [] s = ab_at X (d + 1) 360 23 [some (.inr (14, 0)), some (.inr (0, 0)), some (.inr (9, 0)), some (.inr (15, 0)), some (.inl (.int (nI (k + 6)))), some (.inl (.int v)), some (.inl (.int b)), none] [] s2 := by
  have e1 : nI k + nI 1 = nI (k + 1) := nI_add k 1
  have c1 : ¬ (nI (k + 1) < nI 0 ∨ X.2 ≤ (nI (k + 1)).toNatClampNeg) := n_in (by omega) hX
  have t1 : (nI (k + 1)).toNatClampNeg = k + 1 := nI_clamp (by omega)
  have g1 : ¬ (nI (k + 1) < nI 0 ∨ X.2 ≤ k + 1) := by rwa [t1] at c1
  have e2 : nI k + nI 2 = nI (k + 2) := nI_add k 2
  have c2 : ¬ (nI (k + 2) < nI 0 ∨ X.2 ≤ (nI (k + 2)).toNatClampNeg) := n_in (by omega) hX
  have t2 : (nI (k + 2)).toNatClampNeg = k + 2 := nI_clamp (by omega)
  have g2 : ¬ (nI (k + 2) < nI 0 ∨ X.2 ≤ k + 2) := by rwa [t2] at c2
  have e3 : nI k + nI 3 = nI (k + 3) := nI_add k 3
  have c3 : ¬ (nI (k + 3) < nI 0 ∨ X.2 ≤ (nI (k + 3)).toNatClampNeg) := n_in (by omega) hX
  have t3 : (nI (k + 3)).toNatClampNeg = k + 3 := nI_clamp (by omega)
  have g3 : ¬ (nI (k + 3) < nI 0 ∨ X.2 ≤ k + 3) := by rwa [t3] at c3
  rw [b360_2285, e1, e2, e3, if_neg c1, if_neg c2, if_neg c3, t1, t2, t3, hc, e_bI, if_neg g1, if_neg g2, if_neg g3, hr, e_bI, b229, e_bI, ht]
  rw [if_pos rfl]
  by_cases hv : v = nI 0
  · rw [if_pos hv, if_pos (show lg_cmp _ _ = nI 0 from (lg_cmp_eq _ _).mpr (ho hv)), b360_3211, nI_add]
  · rw [if_neg hv, b360_3211, nI_add]
theorem w2365 {v : Int32} {b : Int32} (hk : k + 5 < X.2) (hX : X.2 < 2 ^ 31) (hc : ab_ev X d 194 [.inr (0, 0), .inl (.int (X.1 (k + 1))), .inl (.int (X.1 (k + 2))), .inl (.int (X.1 (k + 3))), .inr (15, 0)] s = some (.inl (some (.inl (.int v))), s1)) (hr : ab_ev X d 280 [.inr (9, 0), .inl (.int (X.1 (k + 1))), .inl (.int (X.1 (k + 2))), .inl (.int (X.1 (k + 3)))] s1 = some (.inl (some (.inl (.int b))), s2)) (ht : sz s2 11 = v) (ho : v = nI 0 → sb s2 3 0 = b.toInt64) : ab_at X (d + 1) 360 2365 [some (.inr (14, 0)), some (.inr (0, 0)), some (.inr (9, 0)), some (.inr (15, 0)), some (.inl (.int (nI k))), u5, u6, none] [] s = ab_at X (d + 1) 360 23 [some (.inr (14, 0)), some (.inr (0, 0)), some (.inr (9, 0)), some (.inr (15, 0)), some (.inl (.int (nI (k + 6)))), some (.inl (.int v)), some (.inl (.int b)), none] [] s2 := by
  have e1 : nI k + nI 1 = nI (k + 1) := nI_add k 1
  have c1 : ¬ (nI (k + 1) < nI 0 ∨ X.2 ≤ (nI (k + 1)).toNatClampNeg) := n_in (by omega) hX
  have t1 : (nI (k + 1)).toNatClampNeg = k + 1 := nI_clamp (by omega)
  have g1 : ¬ (nI (k + 1) < nI 0 ∨ X.2 ≤ k + 1) := by rwa [t1] at c1
  have e2 : nI k + nI 2 = nI (k + 2) := nI_add k 2
  have c2 : ¬ (nI (k + 2) < nI 0 ∨ X.2 ≤ (nI (k + 2)).toNatClampNeg) := n_in (by omega) hX
  have t2 : (nI (k + 2)).toNatClampNeg = k + 2 := nI_clamp (by omega)
  have g2 : ¬ (nI (k + 2) < nI 0 ∨ X.2 ≤ k + 2) := by rwa [t2] at c2
  have e3 : nI k + nI 3 = nI (k + 3) := nI_add k 3
  have c3 : ¬ (nI (k + 3) < nI 0 ∨ X.2 ≤ (nI (k + 3)).toNatClampNeg) := n_in (by omega) hX
  have t3 : (nI (k + 3)).toNatClampNeg = k + 3 := nI_clamp (by omega)
  have g3 : ¬ (nI (k + 3) < nI 0 ∨ X.2 ≤ k + 3) := by rwa [t3] at c3
  rw [b360_2365, e1, e2, e3, if_neg c1, if_neg c2, if_neg c3, t1, t2, t3, hc, e_bI, if_neg g1, if_neg g2, if_neg g3, hr, e_bI, b229, e_bI, ht]
  rw [if_pos rfl]
  by_cases hv : v = nI 0
  · rw [if_pos hv, if_pos (show lg_cmp _ _ = nI 0 from (lg_cmp_eq _ _).mpr (ho hv)), b360_3211, nI_add]
  · rw [if_neg hv, b360_3211, nI_add]
theorem w2445 {v : Int32} {b : Int32} (hk : k + 5 < X.2) (hX : X.2 < 2 ^ 31) (hc : ab_ev X d 197 [.inr (0, 0), .inl (.int (X.1 (k + 1))), .inr (15, 0)] s = some (.inl (some (.inl (.int v))), s1)) (hr : ab_ev X d 338 [.inr (9, 0), .inl (.int (X.1 (k + 1)))] s1 = some (.inl (some (.inl (.int b))), s2)) (ht : sz s2 11 = v) (ho : v = nI 0 → sb s2 3 0 = b.toInt64) : ab_at X (d + 1) 360 2445 [some (.inr (14, 0)), some (.inr (0, 0)), some (.inr (9, 0)), some (.inr (15, 0)), some (.inl (.int (nI k))), u5, u6, none] [] s = ab_at X (d + 1) 360 23 [some (.inr (14, 0)), some (.inr (0, 0)), some (.inr (9, 0)), some (.inr (15, 0)), some (.inl (.int (nI (k + 6)))), some (.inl (.int v)), some (.inl (.int b)), none] [] s2 := by
  have e1 : nI k + nI 1 = nI (k + 1) := nI_add k 1
  have c1 : ¬ (nI (k + 1) < nI 0 ∨ X.2 ≤ (nI (k + 1)).toNatClampNeg) := n_in (by omega) hX
  have t1 : (nI (k + 1)).toNatClampNeg = k + 1 := nI_clamp (by omega)
  have g1 : ¬ (nI (k + 1) < nI 0 ∨ X.2 ≤ k + 1) := by rwa [t1] at c1
  rw [b360_2445, e1, if_neg c1, t1, hc, e_bI, if_neg g1, hr, e_bI, b229, e_bI, ht]
  rw [if_pos rfl]
  by_cases hv : v = nI 0
  · rw [if_pos hv, if_pos (show lg_cmp _ _ = nI 0 from (lg_cmp_eq _ _).mpr (ho hv)), b360_3211, nI_add]
  · rw [if_neg hv, b360_3211, nI_add]
theorem w2501 {v : Int32} {b : Int32} (hk : k + 5 < X.2) (hX : X.2 < 2 ^ 31) (hc : ab_ev X d 199 [.inr (0, 0), .inl (.int (X.1 (k + 1))), .inl (.int (X.1 (k + 2))), .inr (15, 0)] s = some (.inl (some (.inl (.int v))), s1)) (hr : ab_ev X d 339 [.inr (9, 0), .inl (.int (X.1 (k + 1))), .inl (.int (X.1 (k + 2)))] s1 = some (.inl (some (.inl (.int b))), s2)) (ht : sz s2 11 = v) (ho : v = nI 0 → sb s2 3 0 = b.toInt64) : ab_at X (d + 1) 360 2501 [some (.inr (14, 0)), some (.inr (0, 0)), some (.inr (9, 0)), some (.inr (15, 0)), some (.inl (.int (nI k))), u5, u6, none] [] s = ab_at X (d + 1) 360 23 [some (.inr (14, 0)), some (.inr (0, 0)), some (.inr (9, 0)), some (.inr (15, 0)), some (.inl (.int (nI (k + 6)))), some (.inl (.int v)), some (.inl (.int b)), none] [] s2 := by
  have e1 : nI k + nI 1 = nI (k + 1) := nI_add k 1
  have c1 : ¬ (nI (k + 1) < nI 0 ∨ X.2 ≤ (nI (k + 1)).toNatClampNeg) := n_in (by omega) hX
  have t1 : (nI (k + 1)).toNatClampNeg = k + 1 := nI_clamp (by omega)
  have g1 : ¬ (nI (k + 1) < nI 0 ∨ X.2 ≤ k + 1) := by rwa [t1] at c1
  have e2 : nI k + nI 2 = nI (k + 2) := nI_add k 2
  have c2 : ¬ (nI (k + 2) < nI 0 ∨ X.2 ≤ (nI (k + 2)).toNatClampNeg) := n_in (by omega) hX
  have t2 : (nI (k + 2)).toNatClampNeg = k + 2 := nI_clamp (by omega)
  have g2 : ¬ (nI (k + 2) < nI 0 ∨ X.2 ≤ k + 2) := by rwa [t2] at c2
  rw [b360_2501, e1, e2, if_neg c1, if_neg c2, t1, t2, hc, e_bI, if_neg g1, if_neg g2, hr, e_bI, b229, e_bI, ht]
  rw [if_pos rfl]
  by_cases hv : v = nI 0
  · rw [if_pos hv, if_pos (show lg_cmp _ _ = nI 0 from (lg_cmp_eq _ _).mpr (ho hv)), b360_3211, nI_add]
  · rw [if_neg hv, b360_3211, nI_add]
theorem w2569 {v : Int32} {b : Int32} (hk : k + 5 < X.2) (hX : X.2 < 2 ^ 31) (hc : ab_ev X d 201 [.inr (0, 0), .inl (.int (X.1 (k + 1))), .inr (15, 0)] s = some (.inl (some (.inl (.int v))), s1)) (hr : ab_ev X d 340 [.inr (9, 0), .inl (.int (X.1 (k + 1)))] s1 = some (.inl (some (.inl (.int b))), s2)) (ht : sz s2 11 = v) (ho : v = nI 0 → sb s2 3 0 = b.toInt64) : ab_at X (d + 1) 360 2569 [some (.inr (14, 0)), some (.inr (0, 0)), some (.inr (9, 0)), some (.inr (15, 0)), some (.inl (.int (nI k))), u5, u6, none] [] s = ab_at X (d + 1) 360 23 [some (.inr (14, 0)), some (.inr (0, 0)), some (.inr (9, 0)), some (.inr (15, 0)), some (.inl (.int (nI (k + 6)))), some (.inl (.int v)), some (.inl (.int b)), none] [] s2 := by
  have e1 : nI k + nI 1 = nI (k + 1) := nI_add k 1
  have c1 : ¬ (nI (k + 1) < nI 0 ∨ X.2 ≤ (nI (k + 1)).toNatClampNeg) := n_in (by omega) hX
  have t1 : (nI (k + 1)).toNatClampNeg = k + 1 := nI_clamp (by omega)
  have g1 : ¬ (nI (k + 1) < nI 0 ∨ X.2 ≤ k + 1) := by rwa [t1] at c1
  rw [b360_2569, e1, if_neg c1, t1, hc, e_bI, if_neg g1, hr, e_bI, b229, e_bI, ht]
  rw [if_pos rfl]
  by_cases hv : v = nI 0
  · rw [if_pos hv, if_pos (show lg_cmp _ _ = nI 0 from (lg_cmp_eq _ _).mpr (ho hv)), b360_3211, nI_add]
  · rw [if_neg hv, b360_3211, nI_add]
theorem w2625 {v : Int32} {b : Int32} (hk : k + 5 < X.2) (hX : X.2 < 2 ^ 31) (hc : ab_ev X d 204 [.inr (0, 0), .inl (.int (X.1 (k + 1))), .inr (15, 0)] s = some (.inl (some (.inl (.int v))), s1)) (hr : ab_ev X d 343 [.inr (9, 0), .inl (.int (X.1 (k + 1)))] s1 = some (.inl (some (.inl (.int b))), s2)) (ht : sz s2 11 = v) (ho : v = nI 0 → sb s2 3 0 = b.toInt64) : ab_at X (d + 1) 360 2625 [some (.inr (14, 0)), some (.inr (0, 0)), some (.inr (9, 0)), some (.inr (15, 0)), some (.inl (.int (nI k))), u5, u6, none] [] s = ab_at X (d + 1) 360 23 [some (.inr (14, 0)), some (.inr (0, 0)), some (.inr (9, 0)), some (.inr (15, 0)), some (.inl (.int (nI (k + 6)))), some (.inl (.int v)), some (.inl (.int b)), none] [] s2 := by
  have e1 : nI k + nI 1 = nI (k + 1) := nI_add k 1
  have c1 : ¬ (nI (k + 1) < nI 0 ∨ X.2 ≤ (nI (k + 1)).toNatClampNeg) := n_in (by omega) hX
  have t1 : (nI (k + 1)).toNatClampNeg = k + 1 := nI_clamp (by omega)
  have g1 : ¬ (nI (k + 1) < nI 0 ∨ X.2 ≤ k + 1) := by rwa [t1] at c1
  rw [b360_2625, e1, if_neg c1, t1, hc, e_bI, if_neg g1, hr, e_bI, b229, e_bI, ht]
  rw [if_pos rfl]
  by_cases hv : v = nI 0
  · rw [if_pos hv, if_pos (show lg_cmp _ _ = nI 0 from (lg_cmp_eq _ _).mpr (ho hv)), b360_3211, nI_add]
  · rw [if_neg hv, b360_3211, nI_add]
theorem w2681 {v : Int32} {b : Int32} (hk : k + 5 < X.2) (hX : X.2 < 2 ^ 31) (hc : ab_ev X d 206 [.inr (0, 0), .inl (.int (X.1 (k + 1))), .inl (.int (X.1 (k + 2))), .inr (15, 0)] s = some (.inl (some (.inl (.int v))), s1)) (hr : ab_ev X d 344 [.inr (9, 0), .inl (.int (X.1 (k + 1))), .inl (.int (X.1 (k + 2)))] s1 = some (.inl (some (.inl (.int b))), s2)) (ht : sz s2 11 = v) (ho : v = nI 0 → sb s2 3 0 = b.toInt64) : ab_at X (d + 1) 360 2681 [some (.inr (14, 0)), some (.inr (0, 0)), some (.inr (9, 0)), some (.inr (15, 0)), some (.inl (.int (nI k))), u5, u6, none] [] s = ab_at X (d + 1) 360 23 [some (.inr (14, 0)), some (.inr (0, 0)), some (.inr (9, 0)), some (.inr (15, 0)), some (.inl (.int (nI (k + 6)))), some (.inl (.int v)), some (.inl (.int b)), none] [] s2 := by
  have e1 : nI k + nI 1 = nI (k + 1) := nI_add k 1
  have c1 : ¬ (nI (k + 1) < nI 0 ∨ X.2 ≤ (nI (k + 1)).toNatClampNeg) := n_in (by omega) hX
  have t1 : (nI (k + 1)).toNatClampNeg = k + 1 := nI_clamp (by omega)
  have g1 : ¬ (nI (k + 1) < nI 0 ∨ X.2 ≤ k + 1) := by rwa [t1] at c1
  have e2 : nI k + nI 2 = nI (k + 2) := nI_add k 2
  have c2 : ¬ (nI (k + 2) < nI 0 ∨ X.2 ≤ (nI (k + 2)).toNatClampNeg) := n_in (by omega) hX
  have t2 : (nI (k + 2)).toNatClampNeg = k + 2 := nI_clamp (by omega)
  have g2 : ¬ (nI (k + 2) < nI 0 ∨ X.2 ≤ k + 2) := by rwa [t2] at c2
  rw [b360_2681, e1, e2, if_neg c1, if_neg c2, t1, t2, hc, e_bI, if_neg g1, if_neg g2, hr, e_bI, b229, e_bI, ht]
  rw [if_pos rfl]
  by_cases hv : v = nI 0
  · rw [if_pos hv, if_pos (show lg_cmp _ _ = nI 0 from (lg_cmp_eq _ _).mpr (ho hv)), b360_3211, nI_add]
  · rw [if_neg hv, b360_3211, nI_add]
theorem w2749 {v : Int32} {b : Int32} (hk : k + 5 < X.2) (hX : X.2 < 2 ^ 31) (hc : ab_ev X d 210 [.inr (0, 0), .inl (.int (X.1 (k + 1))), .inr (15, 0)] s = some (.inl (some (.inl (.int v))), s1)) (hr : ab_ev X d 347 [.inr (9, 0), .inl (.int (X.1 (k + 1)))] s1 = some (.inl (some (.inl (.int b))), s2)) (ht : sz s2 11 = v) (ho : v = nI 0 → sb s2 3 0 = b.toInt64) : ab_at X (d + 1) 360 2749 [some (.inr (14, 0)), some (.inr (0, 0)), some (.inr (9, 0)), some (.inr (15, 0)), some (.inl (.int (nI k))), u5, u6, none] [] s = ab_at X (d + 1) 360 23 [some (.inr (14, 0)), some (.inr (0, 0)), some (.inr (9, 0)), some (.inr (15, 0)), some (.inl (.int (nI (k + 6)))), some (.inl (.int v)), some (.inl (.int b)), none] [] s2 := by
  have e1 : nI k + nI 1 = nI (k + 1) := nI_add k 1
  have c1 : ¬ (nI (k + 1) < nI 0 ∨ X.2 ≤ (nI (k + 1)).toNatClampNeg) := n_in (by omega) hX
  have t1 : (nI (k + 1)).toNatClampNeg = k + 1 := nI_clamp (by omega)
  have g1 : ¬ (nI (k + 1) < nI 0 ∨ X.2 ≤ k + 1) := by rwa [t1] at c1
  rw [b360_2749, e1, if_neg c1, t1, hc, e_bI, if_neg g1, hr, e_bI, b229, e_bI, ht]
  rw [if_pos rfl]
  by_cases hv : v = nI 0
  · rw [if_pos hv, if_pos (show lg_cmp _ _ = nI 0 from (lg_cmp_eq _ _).mpr (ho hv)), b360_3211, nI_add]
  · rw [if_neg hv, b360_3211, nI_add]
theorem w2805 {v : Int32} {b : Int32} (hk : k + 5 < X.2) (hX : X.2 < 2 ^ 31) (hc : ab_ev X d 212 [.inr (0, 0), .inl (.int (X.1 (k + 1))), .inr (15, 0)] s = some (.inl (some (.inl (.int v))), s1)) (hr : ab_ev X d 348 [.inr (9, 0), .inl (.int (X.1 (k + 1)))] s1 = some (.inl (some (.inl (.int b))), s2)) (ht : sz s2 11 = v) (ho : v = nI 0 → sb s2 3 0 = b.toInt64) : ab_at X (d + 1) 360 2805 [some (.inr (14, 0)), some (.inr (0, 0)), some (.inr (9, 0)), some (.inr (15, 0)), some (.inl (.int (nI k))), u5, u6, none] [] s = ab_at X (d + 1) 360 23 [some (.inr (14, 0)), some (.inr (0, 0)), some (.inr (9, 0)), some (.inr (15, 0)), some (.inl (.int (nI (k + 6)))), some (.inl (.int v)), some (.inl (.int b)), none] [] s2 := by
  have e1 : nI k + nI 1 = nI (k + 1) := nI_add k 1
  have c1 : ¬ (nI (k + 1) < nI 0 ∨ X.2 ≤ (nI (k + 1)).toNatClampNeg) := n_in (by omega) hX
  have t1 : (nI (k + 1)).toNatClampNeg = k + 1 := nI_clamp (by omega)
  have g1 : ¬ (nI (k + 1) < nI 0 ∨ X.2 ≤ k + 1) := by rwa [t1] at c1
  rw [b360_2805, e1, if_neg c1, t1, hc, e_bI, if_neg g1, hr, e_bI, b229, e_bI, ht]
  rw [if_pos rfl]
  by_cases hv : v = nI 0
  · rw [if_pos hv, if_pos (show lg_cmp _ _ = nI 0 from (lg_cmp_eq _ _).mpr (ho hv)), b360_3211, nI_add]
  · rw [if_neg hv, b360_3211, nI_add]
theorem w2861 {v : Int32} {b : Int32} (hk : k + 5 < X.2) (hX : X.2 < 2 ^ 31) (hc : ab_ev X d 33 [.inr (0, 0)] s = some (.inl (some (.inl (.int v))), s1)) (hr : ab_ev X d 350 [.inr (9, 0)] s1 = some (.inl (some (.inl (.int b))), s2)) (he : v = b) : ab_at X (d + 1) 360 2861 [some (.inr (14, 0)), some (.inr (0, 0)), some (.inr (9, 0)), some (.inr (15, 0)), some (.inl (.int (nI k))), u5, u6, none] [] s = ab_at X (d + 1) 360 23 [some (.inr (14, 0)), some (.inr (0, 0)), some (.inr (9, 0)), some (.inr (15, 0)), some (.inl (.int (nI (k + 6)))), u5, u6, none] [] s2 := by
  rw [b360_2861, hc, e_bI, hr, e_bI]
  rw [if_pos he, b360_3211, nI_add]
theorem w2874 {v : Int32} {b : Int32} (hk : k + 5 < X.2) (hX : X.2 < 2 ^ 31) (hc : ab_ev X d 34 [.inr (0, 0)] s = some (.inl (some (.inl (.int v))), s1)) (hr : ab_ev X d 352 [.inr (9, 0)] s1 = some (.inl (some (.inl (.int b))), s2)) (he : v = b) : ab_at X (d + 1) 360 2874 [some (.inr (14, 0)), some (.inr (0, 0)), some (.inr (9, 0)), some (.inr (15, 0)), some (.inl (.int (nI k))), u5, u6, none] [] s = ab_at X (d + 1) 360 23 [some (.inr (14, 0)), some (.inr (0, 0)), some (.inr (9, 0)), some (.inr (15, 0)), some (.inl (.int (nI (k + 6)))), u5, u6, none] [] s2 := by
  rw [b360_2874, hc, e_bI, hr, e_bI]
  rw [if_pos he, b360_3211, nI_add]
theorem w2887 {v : Int32} (hk : k + 5 < X.2) (hX : X.2 < 2 ^ 31) (hc : ab_ev X d 216 [.inr (0, 0), .inl (.int (X.1 (k + 1))), .inl (.int (X.1 (k + 2))), .inl (.int (X.1 (k + 3)))] s = some (.inl (some (.inl (.int v))), s1)) (hr : ab_ev X d 353 [.inr (9, 0), .inl (.int (X.1 (k + 1))), .inl (.int (X.1 (k + 2))), .inl (.int (X.1 (k + 3)))] s1 = some (.inl none, s2)) (ht : sz s2 11 = v) : ab_at X (d + 1) 360 2887 [some (.inr (14, 0)), some (.inr (0, 0)), some (.inr (9, 0)), some (.inr (15, 0)), some (.inl (.int (nI k))), u5, u6, none] [] s = ab_at X (d + 1) 360 23 [some (.inr (14, 0)), some (.inr (0, 0)), some (.inr (9, 0)), some (.inr (15, 0)), some (.inl (.int (nI (k + 6)))), some (.inl (.int v)), u6, none] [] s2 := by
  have e1 : nI k + nI 1 = nI (k + 1) := nI_add k 1
  have c1 : ¬ (nI (k + 1) < nI 0 ∨ X.2 ≤ (nI (k + 1)).toNatClampNeg) := n_in (by omega) hX
  have t1 : (nI (k + 1)).toNatClampNeg = k + 1 := nI_clamp (by omega)
  have g1 : ¬ (nI (k + 1) < nI 0 ∨ X.2 ≤ k + 1) := by rwa [t1] at c1
  have e2 : nI k + nI 2 = nI (k + 2) := nI_add k 2
  have c2 : ¬ (nI (k + 2) < nI 0 ∨ X.2 ≤ (nI (k + 2)).toNatClampNeg) := n_in (by omega) hX
  have t2 : (nI (k + 2)).toNatClampNeg = k + 2 := nI_clamp (by omega)
  have g2 : ¬ (nI (k + 2) < nI 0 ∨ X.2 ≤ k + 2) := by rwa [t2] at c2
  have e3 : nI k + nI 3 = nI (k + 3) := nI_add k 3
  have c3 : ¬ (nI (k + 3) < nI 0 ∨ X.2 ≤ (nI (k + 3)).toNatClampNeg) := n_in (by omega) hX
  have t3 : (nI (k + 3)).toNatClampNeg = k + 3 := nI_clamp (by omega)
  have g3 : ¬ (nI (k + 3) < nI 0 ∨ X.2 ≤ k + 3) := by rwa [t3] at c3
  rw [b360_2887, e1, e2, e3, if_neg c1, if_neg c2, if_neg c3, t1, t2, t3, hc, e_bI, if_neg g1, if_neg g2, if_neg g3, hr, e_bU, b229, e_bI, ht]
  rw [if_pos rfl, b360_3211, nI_add]
theorem w2947 {v : Int32} {b : Int64} (hk : k + 5 < X.2) (hX : X.2 < 2 ^ 31) (hc : ab_ev X d 219 [.inr (0, 0), .inl (.int (X.1 (k + 1))), .inl (.int (X.1 (k + 2))), .inl (.long ((((X.1 (k + 3)).toInt64) <<< ((nI 32).toInt64 &&& 63)) ||| (((X.1 (k + 4)).toInt64) &&& (lN 4294967295)))), .inr (15, 0)] s = some (.inl (some (.inl (.int v))), s1)) (hr : ab_ev X d 354 [.inr (9, 0), .inl (.int (X.1 (k + 1))), .inl (.int (X.1 (k + 2))), .inl (.long ((((X.1 (k + 3)).toInt64) <<< ((nI 32).toInt64 &&& 63)) ||| (((X.1 (k + 4)).toInt64) &&& (lN 4294967295))))] s1 = some (.inl (some (.inl (.long b))), s2)) (ht : sz s2 11 = v) (ho : v = nI 0 → sb s2 3 0 = b) : ab_at X (d + 1) 360 2947 [some (.inr (14, 0)), some (.inr (0, 0)), some (.inr (9, 0)), some (.inr (15, 0)), some (.inl (.int (nI k))), u5, u6, none] [] s = ab_at X (d + 1) 360 23 [some (.inr (14, 0)), some (.inr (0, 0)), some (.inr (9, 0)), some (.inr (15, 0)), some (.inl (.int (nI (k + 6)))), some (.inl (.int v)), some (.inl (.long b)), none] [] s2 := by
  have e1 : nI k + nI 1 = nI (k + 1) := nI_add k 1
  have c1 : ¬ (nI (k + 1) < nI 0 ∨ X.2 ≤ (nI (k + 1)).toNatClampNeg) := n_in (by omega) hX
  have t1 : (nI (k + 1)).toNatClampNeg = k + 1 := nI_clamp (by omega)
  have g1 : ¬ (nI (k + 1) < nI 0 ∨ X.2 ≤ k + 1) := by rwa [t1] at c1
  have e2 : nI k + nI 2 = nI (k + 2) := nI_add k 2
  have c2 : ¬ (nI (k + 2) < nI 0 ∨ X.2 ≤ (nI (k + 2)).toNatClampNeg) := n_in (by omega) hX
  have t2 : (nI (k + 2)).toNatClampNeg = k + 2 := nI_clamp (by omega)
  have g2 : ¬ (nI (k + 2) < nI 0 ∨ X.2 ≤ k + 2) := by rwa [t2] at c2
  have e3 : nI k + nI 3 = nI (k + 3) := nI_add k 3
  have c3 : ¬ (nI (k + 3) < nI 0 ∨ X.2 ≤ (nI (k + 3)).toNatClampNeg) := n_in (by omega) hX
  have t3 : (nI (k + 3)).toNatClampNeg = k + 3 := nI_clamp (by omega)
  have g3 : ¬ (nI (k + 3) < nI 0 ∨ X.2 ≤ k + 3) := by rwa [t3] at c3
  have e4 : nI k + nI 4 = nI (k + 4) := nI_add k 4
  have c4 : ¬ (nI (k + 4) < nI 0 ∨ X.2 ≤ (nI (k + 4)).toNatClampNeg) := n_in (by omega) hX
  have t4 : (nI (k + 4)).toNatClampNeg = k + 4 := nI_clamp (by omega)
  have g4 : ¬ (nI (k + 4) < nI 0 ∨ X.2 ≤ k + 4) := by rwa [t4] at c4
  rw [b360_2947, e1, e2, e3, e4, if_neg c1, if_neg c2, if_neg c3, if_neg c4, t1, t2, t3, t4, hc, e_bI, if_neg g1, if_neg g2, if_neg g3, if_neg g4, hr, e_bJ, b229, e_bI, ht]
  rw [if_pos rfl]
  by_cases hv : v = nI 0
  · rw [if_pos hv, if_pos (show lg_cmp _ _ = nI 0 from (lg_cmp_eq _ _).mpr (ho hv)), b360_3211, nI_add]
  · rw [if_neg hv, b360_3211, nI_add]
theorem w3058 {v : Int32} {b : Int32} (hk : k + 5 < X.2) (hX : X.2 < 2 ^ 31) (hc : ab_ev X d 223 [.inr (0, 0), .inl (.int (X.1 (k + 1))), .inr (15, 0)] s = some (.inl (some (.inl (.int v))), s1)) (hr : ab_ev X d 356 [.inr (9, 0), .inl (.int (X.1 (k + 1)))] s1 = some (.inl (some (.inl (.int b))), s2)) (ht : sz s2 11 = v) (ho : v = nI 0 → sb s2 3 0 = b.toInt64) : ab_at X (d + 1) 360 3058 [some (.inr (14, 0)), some (.inr (0, 0)), some (.inr (9, 0)), some (.inr (15, 0)), some (.inl (.int (nI k))), u5, u6, none] [] s = ab_at X (d + 1) 360 23 [some (.inr (14, 0)), some (.inr (0, 0)), some (.inr (9, 0)), some (.inr (15, 0)), some (.inl (.int (nI (k + 6)))), some (.inl (.int v)), some (.inl (.int b)), none] [] s2 := by
  have e1 : nI k + nI 1 = nI (k + 1) := nI_add k 1
  have c1 : ¬ (nI (k + 1) < nI 0 ∨ X.2 ≤ (nI (k + 1)).toNatClampNeg) := n_in (by omega) hX
  have t1 : (nI (k + 1)).toNatClampNeg = k + 1 := nI_clamp (by omega)
  have g1 : ¬ (nI (k + 1) < nI 0 ∨ X.2 ≤ k + 1) := by rwa [t1] at c1
  rw [b360_3058, e1, if_neg c1, t1, hc, e_bI, if_neg g1, hr, e_bI, b229, e_bI, ht]
  rw [if_pos rfl]
  by_cases hv : v = nI 0
  · rw [if_pos hv, if_pos (show lg_cmp _ _ = nI 0 from (lg_cmp_eq _ _).mpr (ho hv)), b360_3211, nI_add]
  · rw [if_neg hv, b360_3211, nI_add]
theorem w3114 {v : Int32} (hk : k + 5 < X.2) (hX : X.2 < 2 ^ 31) (hc : ab_ev X d 225 [.inr (0, 0), .inl (.int (X.1 (k + 1)))] s = some (.inl (some (.inl (.int v))), s1)) (hr : ab_ev X d 357 [.inr (9, 0), .inl (.int (X.1 (k + 1)))] s1 = some (.inl none, s2)) (ht : sz s2 11 = v) : ab_at X (d + 1) 360 3114 [some (.inr (14, 0)), some (.inr (0, 0)), some (.inr (9, 0)), some (.inr (15, 0)), some (.inl (.int (nI k))), u5, u6, none] [] s = ab_at X (d + 1) 360 23 [some (.inr (14, 0)), some (.inr (0, 0)), some (.inr (9, 0)), some (.inr (15, 0)), some (.inl (.int (nI (k + 6)))), some (.inl (.int v)), u6, none] [] s2 := by
  have e1 : nI k + nI 1 = nI (k + 1) := nI_add k 1
  have c1 : ¬ (nI (k + 1) < nI 0 ∨ X.2 ≤ (nI (k + 1)).toNatClampNeg) := n_in (by omega) hX
  have t1 : (nI (k + 1)).toNatClampNeg = k + 1 := nI_clamp (by omega)
  have g1 : ¬ (nI (k + 1) < nI 0 ∨ X.2 ≤ k + 1) := by rwa [t1] at c1
  rw [b360_3114, e1, if_neg c1, t1, hc, e_bI, if_neg g1, hr, e_bU, b229, e_bI, ht]
  rw [if_pos rfl, b360_3211, nI_add]
theorem w3150 {v : Int32} (hk : k + 5 < X.2) (hX : X.2 < 2 ^ 31) (hc : ab_ev X d 227 [.inr (0, 0), .inl (.int (X.1 (k + 1)))] s = some (.inl (some (.inl (.int v))), s1)) (hr : ab_ev X d 358 [.inr (9, 0), .inl (.int (X.1 (k + 1)))] s1 = some (.inl none, s2)) (ht : sz s2 11 = v) : ab_at X (d + 1) 360 3150 [some (.inr (14, 0)), some (.inr (0, 0)), some (.inr (9, 0)), some (.inr (15, 0)), some (.inl (.int (nI k))), u5, u6, none] [] s = ab_at X (d + 1) 360 23 [some (.inr (14, 0)), some (.inr (0, 0)), some (.inr (9, 0)), some (.inr (15, 0)), some (.inl (.int (nI (k + 6)))), some (.inl (.int v)), u6, none] [] s2 := by
  have e1 : nI k + nI 1 = nI (k + 1) := nI_add k 1
  have c1 : ¬ (nI (k + 1) < nI 0 ∨ X.2 ≤ (nI (k + 1)).toNatClampNeg) := n_in (by omega) hX
  have t1 : (nI (k + 1)).toNatClampNeg = k + 1 := nI_clamp (by omega)
  have g1 : ¬ (nI (k + 1) < nI 0 ∨ X.2 ≤ k + 1) := by rwa [t1] at c1
  rw [b360_3150, e1, if_neg c1, t1, hc, e_bI, if_neg g1, hr, e_bU, b229, e_bI, ht]
  rw [if_pos rfl, b360_3211, nI_add]
theorem w3186 {v : Int32} {b : Int32} (hk : k + 5 < X.2) (hX : X.2 < 2 ^ 31) (hc : ab_ev X d 36 [.inr (0, 0), .inl (.int (X.1 (k + 1)))] s = some (.inl (some (.inl (.int v))), s1)) (hr : ab_ev X d 359 [.inr (9, 0), .inl (.int (X.1 (k + 1)))] s1 = some (.inl (some (.inl (.int b))), s2)) (he : v = b) : ab_at X (d + 1) 360 3186 [some (.inr (14, 0)), some (.inr (0, 0)), some (.inr (9, 0)), some (.inr (15, 0)), some (.inl (.int (nI k))), u5, u6, none] [] s = ab_at X (d + 1) 360 23 [some (.inr (14, 0)), some (.inr (0, 0)), some (.inr (9, 0)), some (.inr (15, 0)), some (.inl (.int (nI (k + 6)))), u5, u6, none] [] s2 := by
  have e1 : nI k + nI 1 = nI (k + 1) := nI_add k 1
  have c1 : ¬ (nI (k + 1) < nI 0 ∨ X.2 ≤ (nI (k + 1)).toNatClampNeg) := n_in (by omega) hX
  have t1 : (nI (k + 1)).toNatClampNeg = k + 1 := nI_clamp (by omega)
  have g1 : ¬ (nI (k + 1) < nI 0 ∨ X.2 ≤ k + 1) := by rwa [t1] at c1
  rw [b360_3186, e1, if_neg c1, t1, hc, e_bI, if_neg g1, hr, e_bI]
  rw [if_pos he, b360_3211, nI_add]
end LWC
