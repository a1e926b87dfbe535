/-! A whole call: a round. -/
section OP10
variable {X : (Nat → Int32) × Nat} {d k n nr bm : Nat} {u5 u6 : Option ab_V} {s : ab_S} {nm z : Nat → Nat} {st : Nat → Nat → Nat} {by' : Nat → Int32}
theorem o89 (h : BW s n nm nr z st bm by') (hk : k + 5 < X.2) (hX : X.2 < 2 ^ 31) : ∃ (s2 : ab_S) (v5 v6 : Option ab_V), sW s s2 ∧ ab_at X (d + 31) 360 482 [some (.inr (14, 0)), some (.inr (0, 0)), some (.inr (9, 0)), some (.inr (15, 0)), some (.inl (.int (nI k))), u5, u6, none] [] s = ab_at X (d + 31) 360 23 [some (.inr (14, 0)), some (.inr (0, 0)), some (.inr (9, 0)), some (.inr (15, 0)), some (.inl (.int (nI (k + 6)))), v5, v6, none] [] s2 := by
  obtain ⟨hT, hR⟩ := id h
  obtain ⟨t1, t2, t3, t4, t5, t6, t7, t8, t9, t10, t11, t12, t13, t14, t15⟩ := id hT
  obtain ⟨u1, u2, u3, u4, u5', u6', u7, u8, u9, u10, u11, u12, u13, u14, u15⟩ := id hR
  have hr : sa (ths s) 8 2 = nI nr := u5'
  have j0 : (lN 0).toInt = 0 := by decide
  have j2 : (lN 2).toInt = 2 := by decide
  have j10 : (lN 10).toInt = 10 := by decide
  have j29 : (lN 29).toInt = 29 := by decide
  by_cases h1 : inS (X.1 (k + 1)) nr = true
  · obtain ⟨v, hv, ev⟩ := inS_rep h1
    have hz := t8 v hv
    by_cases e0 : X.1 (k + 2) = nI 0
    · have h3 : inR (X.1 (k + 2)).toInt 0 2 = true := by rw [e0]; decide
      obtain ⟨w, hw⟩ : ∃ w, w = nI (z v) := ⟨_, rfl⟩
      have cc : ab_ev X (d + 30) 89 [.inr (0, 0), .inl (.int (X.1 (k + 1))), .inl (.int (X.1 (k + 2))), .inr (15, 0)] s = some (.inl (some (.inl (.int (nI 0)))), pb s 3 (va_up (sb s 3) 0 w.toInt64)) := by
        rw [b89, b90, c_n91 t5 (by omega), if_pos h1, e_bU, ev, b90_6, e0, if_pos rfl, b90_32, c_sizeOf (by omega), t7 v hv, e_bI, e_bI, hw]
      have r : ab_ev X (d + 30) 273 [.inr (9, 0), .inl (.int (X.1 (k + 1))), .inl (.int (X.1 (k + 2)))] (pb s 3 (va_up (sb s 3) 0 w.toInt64)) = some (.inl (some (.inl (.int w))), pz (pb s 3 (va_up (sb s 3) 0 w.toInt64)) 11 (nI 0)) := by
        have p2' : sa (pb s 3 (va_up (sb s 3) 0 w.toInt64)) 8 = sa s 8 := rfl
        rw [b273, r274 (n := nr) (s := (pb s 3 (va_up (sb s 3) 0 w.toInt64))) u5' (by omega), if_pos h1, e_bI, if_neg (show ¬ nI 1 = nI 0 by decide), r232, j_of, j0, j2, if_pos h3, e_bI, if_neg (show ¬ nI 1 = nI 0 by decide), b273_39, ev, b273_44, if_pos (show nI 0 ≤ nI 0 by decide), p2', nI_add 32 v, r_in (j := 32 + v) (by omega) (by decide), nI_clamp (show 32 + v < 2 ^ 31 by omega), u7 v hv, e0, if_pos (show nI 0 < nI 10 by decide), if_pos rfl, b273_147, hw]
      exact ⟨_, _, _, Or.inl (sV_trans sV_pb (sV_pz (by omega))), w482 hk hX cc r rfl (fun _ => rfl)⟩
    by_cases e2 : X.1 (k + 2) = nI 2
    · have h3 : inR (X.1 (k + 2)).toInt 0 2 = true := by rw [e2]; decide
      obtain ⟨w, hw⟩ : ∃ w, w = (if nI 0 ≤ by' v then nI 0 else nI 1) := ⟨_, rfl⟩
      have cc : ab_ev X (d + 30) 89 [.inr (0, 0), .inl (.int (X.1 (k + 1))), .inl (.int (X.1 (k + 2))), .inr (15, 0)] s = some (.inl (some (.inl (.int (nI 0)))), pb s 3 (va_up (sb s 3) 0 w.toInt64)) := by
        rw [b89, b90, c_n91 t5 (by omega), if_pos h1, e_bU, ev, b90_6, e2, if_neg (show ¬ nI 2 = nI 0 by decide), if_neg (show ¬ nI 2 = nI 1 by decide), if_pos rfl, b90_59, c_byOf (by omega), t14 v hv, e_bI]
        by_cases q : nI 0 ≤ by' v
        · rw [if_pos q, e_bI, hw, if_pos q]
        · rw [if_neg q, e_bI, hw, if_neg q]
      have r : ab_ev X (d + 30) 273 [.inr (9, 0), .inl (.int (X.1 (k + 1))), .inl (.int (X.1 (k + 2)))] (pb s 3 (va_up (sb s 3) 0 w.toInt64)) = some (.inl (some (.inl (.int w))), pz (pb s 3 (va_up (sb s 3) 0 w.toInt64)) 11 (nI 0)) := by
        have p2' : sa (pb s 3 (va_up (sb s 3) 0 w.toInt64)) 8 = sa s 8 := rfl
        rw [b273, r274 (n := nr) (s := (pb s 3 (va_up (sb s 3) 0 w.toInt64))) u5' (by omega), if_pos h1, e_bI, if_neg (show ¬ nI 1 = nI 0 by decide), r232, j_of, j0, j2, if_pos h3, e_bI, if_neg (show ¬ nI 1 = nI 0 by decide), b273_39, ev, b273_44, if_pos (show nI 0 ≤ nI 0 by decide), p2', nI_add 32 v, r_in (j := 32 + v) (by omega) (by decide), nI_clamp (show 32 + v < 2 ^ 31 by omega), u7 v hv, e2, if_pos (show nI 2 < nI 10 by decide), if_neg (show ¬ nI 2 = nI 0 by decide), if_neg (show ¬ nI 2 = nI 1 by decide), nI_add 7 v, r_in (j := 7 + v) (by omega) (by decide), nI_clamp (show 7 + v < 2 ^ 31 by omega), u14 v hv]
        by_cases q : nI 0 ≤ by' v
        · rw [if_pos q, b273_147, hw, if_pos q]
        · rw [if_neg q, b273_147, hw, if_neg q]
      exact ⟨_, _, _, Or.inl (sV_trans sV_pb (sV_pz (by omega))), w482 hk hX cc r rfl (fun _ => rfl)⟩
    by_cases e1 : X.1 (k + 2) = nI 1
    · have h3 : inR (X.1 (k + 2)).toInt 0 2 = true := by rw [e1]; decide
      obtain ⟨w, hw⟩ : ∃ w, w = (if nI 0 ≤ by' v then by' v else -by' v) := ⟨_, rfl⟩
      have cc : ab_ev X (d + 30) 89 [.inr (0, 0), .inl (.int (X.1 (k + 1))), .inl (.int (X.1 (k + 2))), .inr (15, 0)] s = some (.inl (some (.inl (.int (nI 0)))), pb s 3 (va_up (sb s 3) 0 w.toInt64)) := by
        rw [b89, b90, c_n91 t5 (by omega), if_pos h1, e_bU, ev, b90_6, e1, if_neg (show ¬ nI 1 = nI 0 by decide), if_pos rfl, b90_44, c_byOf (by omega), t14 v hv, e_bI, b92]
        by_cases q : nI 0 ≤ by' v
        · rw [if_pos q, e_bI, e_bI, hw, if_pos q]
        · rw [if_neg q, e_bI, e_bI, hw, if_neg q]
      have r : ab_ev X (d + 30) 273 [.inr (9, 0), .inl (.int (X.1 (k + 1))), .inl (.int (X.1 (k + 2)))] (pb s 3 (va_up (sb s 3) 0 w.toInt64)) = some (.inl (some (.inl (.int w))), pz (pb s 3 (va_up (sb s 3) 0 w.toInt64)) 11 (nI 0)) := by
        have p2' : sa (pb s 3 (va_up (sb s 3) 0 w.toInt64)) 8 = sa s 8 := rfl
        rw [b273, r274 (n := nr) (s := (pb s 3 (va_up (sb s 3) 0 w.toInt64))) u5' (by omega), if_pos h1, e_bI, if_neg (show ¬ nI 1 = nI 0 by decide), r232, j_of, j0, j2, if_pos h3, e_bI, if_neg (show ¬ nI 1 = nI 0 by decide), b273_39, ev, b273_44, if_pos (show nI 0 ≤ nI 0 by decide), p2', nI_add 32 v, r_in (j := 32 + v) (by omega) (by decide), nI_clamp (show 32 + v < 2 ^ 31 by omega), u7 v hv, e1, if_pos (show nI 1 < nI 10 by decide), if_neg (show ¬ nI 1 = nI 0 by decide), if_pos rfl, nI_add 7 v, r_in (j := 7 + v) (by omega) (by decide), nI_clamp (show 7 + v < 2 ^ 31 by omega), u14 v hv, b92]
        by_cases q : nI 0 ≤ by' v
        · rw [if_pos q, e_bI, b273_147, hw, if_pos q]
        · rw [if_neg q, e_bI, b273_147, hw, if_neg q]
      exact ⟨_, _, _, Or.inl (sV_trans sV_pb (sV_pz (by omega))), w482 hk hX cc r rfl (fun _ => rfl)⟩
    have h3 : ¬ inR (X.1 (k + 2)).toInt 0 2 = true := fun q => by
      have q1 := inR_iff.mp q
      obtain ⟨c, hc, ec⟩ := inS_rep (x := X.1 (k + 2)) (n := 3) (inS_def.mpr (by omega))
      have : c = 0 ∨ c = 1 ∨ c = 2 := by omega
      rcases this with q2 | q2 | q2
      · exact e0 (by rw [ec, q2])
      · exact e1 (by rw [ec, q2])
      · exact e2 (by rw [ec, q2])
    by_cases h4 : inR (X.1 (k + 2)).toInt 10 29 = true
    · obtain ⟨c, hc, ec⟩ := inS_rep (x := X.1 (k + 2)) (n := 30) (inS_def.mpr (by have := inR_iff.mp h4; omega))
      obtain ⟨m, em⟩ : ∃ m, c = 10 + m := ⟨c - 10, by have q := inR_iff.mp h4; rw [ec, nI_toInt (by omega)] at q; omega⟩
      subst em
      have f0 : ¬ nI (10 + m) < nI 10 := nI_nlt (by omega) (by omega)
      have f1 : nI (10 + m) - nI 10 = nI m := by rw [n_sub (by omega), show 10 + m - 10 = m by omega]
      have f2 : nI 36 + nI 20 * nI v + nI (10 + m) - nI 10 = nI (36 + 20 * v + m) := by rw [pk_mul, nI_add, nI_add, n_sub (by omega), show 36 + 20 * v + (10 + m) - 10 = 36 + 20 * v + m by omega]
      obtain ⟨w, hw⟩ : ∃ w, w = (if m < z v then nI (st v m) else -nI 1) := ⟨_, rfl⟩
      have cc : ab_ev X (d + 30) 89 [.inr (0, 0), .inl (.int (X.1 (k + 1))), .inl (.int (X.1 (k + 2))), .inr (15, 0)] s = some (.inl (some (.inl (.int (nI 0)))), pb s 3 (va_up (sb s 3) 0 w.toInt64)) := by
        rw [b89, b90, c_n91 t5 (by omega), if_pos h1, e_bU, ev, b90_6, if_neg e0, if_neg e1, if_neg e2, b90_79, ec, if_neg f0, if_pos (n_lt (show 10 + m < 30 by omega) (by omega)), f1, c_streetAt (by omega) (by omega) (t7 v hv) hz]
        by_cases q : m < z v
        · rw [if_pos q, e_bI, e_bI, hw, if_pos q, t9 v hv m q]
        · rw [if_neg q, e_bI, e_bI, hw, if_neg q]
      have r : ab_ev X (d + 30) 273 [.inr (9, 0), .inl (.int (X.1 (k + 1))), .inl (.int (X.1 (k + 2)))] (pb s 3 (va_up (sb s 3) 0 w.toInt64)) = some (.inl (some (.inl (.int w))), pz (pb s 3 (va_up (sb s 3) 0 w.toInt64)) 11 (nI 0)) := by
        have p2' : sa (pb s 3 (va_up (sb s 3) 0 w.toInt64)) 8 = sa s 8 := rfl
        rw [b273, r274 (n := nr) (s := (pb s 3 (va_up (sb s 3) 0 w.toInt64))) u5' (by omega), if_pos h1, e_bI, if_neg (show ¬ nI 1 = nI 0 by decide), r232, j_of, j0, j2, if_neg h3, e_bI, if_pos rfl, r232, j_of, j10, j29, if_pos h4, e_bI, if_neg (show ¬ nI 1 = nI 0 by decide), b273_39, ev, b273_44, if_pos (show nI 0 ≤ nI 0 by decide), p2', nI_add 32 v, r_in (j := 32 + v) (by omega) (by decide), nI_clamp (show 32 + v < 2 ^ 31 by omega), u7 v hv, ec, if_neg f0, f1, f2]
        by_cases q : m < z v
        · rw [if_neg (nI_ge q (by omega)), r_in (j := 36 + 20 * v + m) (by omega) (by decide), nI_clamp (by omega), b273_101, hw, if_pos q, u9 v hv m q]
        · rw [if_pos (nI_le (by omega) (by omega)), b273_101, hw, if_neg q]
      exact ⟨_, _, _, Or.inl (sV_trans sV_pb (sV_pz (by omega))), w482 hk hX cc r rfl (fun _ => rfl)⟩
    · have cc : ab_ev X (d + 30) 89 [.inr (0, 0), .inl (.int (X.1 (k + 1))), .inl (.int (X.1 (k + 2))), .inr (15, 0)] s = some (.inl (some (.inl (.int (nI 2)))), ths s) := by
        have g1 : (X.1 (k + 2)) < nI 10 ∨ ¬ (X.1 (k + 2)) < nI 30 := by
          by_cases q : (X.1 (k + 2)) < nI 10
          · exact Or.inl q
          · refine Or.inr (fun q2 => h4 (inR_iff.mpr ?_))
            have a1 := mt (n_ltn (X.1 (k + 2)) (n := 10) (by decide)).mpr q
            have a2 := (n_ltn (X.1 (k + 2)) (n := 30) (by decide)).mp q2
            omega
        rw [b89, b90, c_n91 t5 (by omega), if_pos h1, e_bU, b90_6, if_neg e0, if_neg e1, if_neg e2, b90_79]
        by_cases q : (X.1 (k + 2)) < nI 10
        · rw [if_pos q, e_xI]
          rfl
        · rw [if_neg q, if_neg (g1.resolve_left q), e_xI]
          rfl
      have r : ab_ev X (d + 30) 273 [.inr (9, 0), .inl (.int (X.1 (k + 1))), .inl (.int (X.1 (k + 2)))] (ths s) = some (.inl (some (.inl (.int (nI 0)))), pz (ths s) 11 (nI 2)) := by
        rw [b273, r274 (n := nr) hr (by omega), if_pos h1, e_bI, if_neg (show ¬ nI 1 = nI 0 by decide), r232, j_of, j0, j2, if_neg h3, e_bI, if_pos rfl, r232, j_of, j10, j29, if_neg h4, e_bI, if_pos rfl, b273_44, if_neg (show ¬ nI 2 ≤ nI 0 by decide)]
      exact ⟨_, _, _, Or.inr (sV_pz (by omega)), w482 hk hX cc r rfl (fun q => absurd q (by decide))⟩
  · have cc : ab_ev X (d + 30) 89 [.inr (0, 0), .inl (.int (X.1 (k + 1))), .inl (.int (X.1 (k + 2))), .inr (15, 0)] s = some (.inl (some (.inl (.int (nI 1)))), ths s) := by
      rw [b89, b90, c_n91 t5 (by omega), if_neg h1, e_xU, e_px, e_xI]
      rfl
    have r : ab_ev X (d + 30) 273 [.inr (9, 0), .inl (.int (X.1 (k + 1))), .inl (.int (X.1 (k + 2)))] (ths s) = some (.inl (some (.inl (.int (nI 0)))), pz (ths s) 11 (nI 1)) := by
      rw [b273, r274 (n := nr) hr (by omega), if_neg h1, e_bI, if_pos rfl, b273_44, if_neg (show ¬ nI 1 ≤ nI 0 by decide)]
    exact ⟨_, _, _, Or.inr (sV_pz (by omega)), w482 hk hX cc r rfl (fun q => absurd q (by decide))⟩
end OP10
