/-! A whole call: a person. -/
section OP9
variable {X : (Nat → Int32) × Nat} {d k n nr bm np hs : Nat} {u5 u6 : Option ab_V} {s : ab_S} {nm z lo li : Nat → Nat} {st : Nat → Nat → Nat} {by' : Nat → Int32}
theorem o93 (h : PW s n nm nr z st bm by' np hs lo li) (hk : k + 5 < X.2) (hX : X.2 < 2 ^ 31) : ∃ (s2 : ab_S) (v5 v6 : Option ab_V), sW s s2 ∧ ab_at X (d + 31) 360 550 [some (.inr (14, 0)), some (.inr (0, 0)), some (.inr (9, 0)), some (.inr (15, 0)), some (.inl (.int (nI k))), u5, u6, none] [] s = ab_at X (d + 31) 360 23 [some (.inr (14, 0)), some (.inr (0, 0)), some (.inr (9, 0)), some (.inr (15, 0)), some (.inl (.int (nI (k + 6)))), v5, v6, none] [] s2 := by
  have hn := h.1.1.2.1
  obtain ⟨⟨hT, hR⟩, p1, p2, p3, p4, p5, p6, p7⟩ := id h
  have t3 := hT.2.2.1
  have t3' := hR.2.2.1
  have t4 := hT.2.2.2.1
  have hr : sa (ths s) 8 3 = nI np := p2
  have j0 : (lN 0).toInt = 0 := by decide
  have j2 : (lN 2).toInt = 2 := by decide
  by_cases h1 : inS (X.1 (k + 1)) np = true
  · obtain ⟨v, hv, ev⟩ := inS_rep h1
    obtain ⟨q1, q2, q3, q4, q5, q6⟩ := p7 v hv
    have q7 := t4 _ q3
    by_cases h2 : inS (X.1 (k + 2)) 3 = true
    · obtain ⟨c, hc, ec⟩ := inS_rep h2
      have h3 : inR (X.1 (k + 2)).toInt 0 2 = true := inR_iff.mpr (by have := inS_def.mp h2; omega)
      match c, hc with
      | 0, _ =>
        have cc : ab_ev X (d + 30) 93 [.inr (0, 0), .inl (.int (X.1 (k + 1))), .inl (.int (X.1 (k + 2))), .inr (15, 0)] s = some (.inl (some (.inl (.int (nI 0)))), pb s 3 (va_up (sb s 3) 0 (nI (lo v)).toInt64)) := by
          rw [b93, b94, c_n95 p1 (by omega), if_pos h1, e_bU, ev, ec, b94_6, if_pos rfl, b94_32, at20 (by omega), q1, e_bI, e_bI]
        have hV : sV s (pb s 3 (va_up (sb s 3) 0 (nI (lo v)).toInt64)) := sV_pb
        have r : ab_ev X (d + 30) 275 [.inr (9, 0), .inl (.int (X.1 (k + 1))), .inl (.int (X.1 (k + 2)))] (pb s 3 (va_up (sb s 3) 0 (nI (lo v)).toInt64)) = some (.inl (some (.inl (.int (nI (lo v))))), pz (pb s 3 (va_up (sb s 3) 0 (nI (lo v)).toInt64)) 11 (nI 0)) := by
          have p2' : sa (pb s 3 (va_up (sb s 3) 0 (nI (lo v)).toInt64)) 8 = sa s 8 := rfl
          rw [b275, r276 (n := np) (s := pb s 3 (va_up (sb s 3) 0 (nI (lo v)).toInt64)) p2 (by omega), if_pos h1, e_bI, if_neg (show ¬ nI 1 = nI 0 by decide), r232, j_of, j0, j2, if_pos h3, e_bI, if_neg (show ¬ nI 1 = nI 0 by decide), ev, ec, nI_add 116 v, r_in (j := 116 + v) (by omega) (by decide), nI_clamp (by omega), p2', if_pos rfl, q2]
        exact ⟨_, _, _, Or.inl (sV_trans hV (sV_pz (by omega))), w550 hk hX cc r rfl (fun _ => rfl)⟩
      | 1, _ =>
        have cc : ab_ev X (d + 30) 93 [.inr (0, 0), .inl (.int (X.1 (k + 1))), .inl (.int (X.1 (k + 2))), .inr (15, 0)] s = some (.inl (some (.inl (.int (nI 0)))), pb s 3 (va_up (sb s 3) 0 (nI (li v)).toInt64)) := by
          rw [b93, b94, c_n95 p1 (by omega), if_pos h1, e_bU, ev, ec, b94_6, if_neg (show ¬ nI 1 = nI 0 by decide), if_pos rfl, b94_44, at21 (by omega), q4, e_bI, e_bI]
        have hV : sV s (pb s 3 (va_up (sb s 3) 0 (nI (li v)).toInt64)) := sV_pb
        have r : ab_ev X (d + 30) 275 [.inr (9, 0), .inl (.int (X.1 (k + 1))), .inl (.int (X.1 (k + 2)))] (pb s 3 (va_up (sb s 3) 0 (nI (li v)).toInt64)) = some (.inl (some (.inl (.int (nI (li v))))), pz (pb s 3 (va_up (sb s 3) 0 (nI (li v)).toInt64)) 11 (nI 0)) := by
          have p2' : sa (pb s 3 (va_up (sb s 3) 0 (nI (li v)).toInt64)) 8 = sa s 8 := rfl
          rw [b275, r276 (n := np) (s := pb s 3 (va_up (sb s 3) 0 (nI (li v)).toInt64)) p2 (by omega), if_pos h1, e_bI, if_neg (show ¬ nI 1 = nI 0 by decide), r232, j_of, j0, j2, if_pos h3, e_bI, if_neg (show ¬ nI 1 = nI 0 by decide), ev, ec, nI_add 116 v, r_in (j := 116 + v) (by omega) (by decide), nI_clamp (by omega), p2', if_neg (show ¬ nI 1 = nI 0 by decide), if_pos rfl, nI_add, r_in (by omega) (by decide), nI_clamp (by omega), q5]
        exact ⟨_, _, _, Or.inl (sV_trans hV (sV_pz (by omega))), w550 hk hX cc r rfl (fun _ => rfl)⟩
      | 2, _ =>
        have cc : ab_ev X (d + 30) 93 [.inr (0, 0), .inl (.int (X.1 (k + 1))), .inl (.int (X.1 (k + 2))), .inr (15, 0)] s = some (.inl (some (.inl (.int (nI 0)))), pb s 3 (va_up (sb s 3) 0 (nI (nm (lo v))).toInt64)) := by
          rw [b93, b94, c_n95 p1 (by omega), if_pos h1, e_bU, ev, ec, b94_6, if_neg (show ¬ nI 2 = nI 0 by decide), if_neg (show ¬ nI 2 = nI 1 by decide), if_pos rfl, b94_56, at20 (by omega), q1, e_bI, at19 (by omega), t3 _ q3, e_bI, e_bI]
        have hV : sV s (pb s 3 (va_up (sb s 3) 0 (nI (nm (lo v))).toInt64)) := sV_pb
        have r : ab_ev X (d + 30) 275 [.inr (9, 0), .inl (.int (X.1 (k + 1))), .inl (.int (X.1 (k + 2)))] (pb s 3 (va_up (sb s 3) 0 (nI (nm (lo v))).toInt64)) = some (.inl (some (.inl (.int (nI (nm (lo v)))))), pz (pb s 3 (va_up (sb s 3) 0 (nI (nm (lo v))).toInt64)) 11 (nI 0)) := by
          have p2' : sa (pb s 3 (va_up (sb s 3) 0 (nI (nm (lo v))).toInt64)) 8 = sa s 8 := rfl
          rw [b275, r276 (n := np) (s := pb s 3 (va_up (sb s 3) 0 (nI (nm (lo v))).toInt64)) p2 (by omega), if_pos h1, e_bI, if_neg (show ¬ nI 1 = nI 0 by decide), r232, j_of, j0, j2, if_pos h3, e_bI, if_neg (show ¬ nI 1 = nI 0 by decide), ev, ec, nI_add 116 v, r_in (j := 116 + v) (by omega) (by decide), nI_clamp (by omega), p2', if_neg (show ¬ nI 2 = nI 0 by decide), if_neg (show ¬ nI 2 = nI 1 by decide), q2, nI_add, r_in (by omega) (by decide), nI_clamp (by omega), t3' _ q3]
        exact ⟨_, _, _, Or.inl (sV_trans hV (sV_pz (by omega))), w550 hk hX cc r rfl (fun _ => rfl)⟩
    · have hx : ∀ c, c < 3 → ¬ X.1 (k + 2) = nI c := fun c hc q => h2 (by rw [q]; exact inS_nI hc (by decide))
      have h3 : ¬ inR (X.1 (k + 2)).toInt 0 2 = true := fun q => h2 (inS_def.mpr (by have := inR_iff.mp q; omega))
      have cc : ab_ev X (d + 30) 93 [.inr (0, 0), .inl (.int (X.1 (k + 1))), .inl (.int (X.1 (k + 2))), .inr (15, 0)] s = some (.inl (some (.inl (.int (nI 2)))), ths s) := by
        rw [b93, b94, c_n95 p1 (by omega), if_pos h1, e_bU, b94_6, if_neg (hx 0 (by omega)), if_neg (hx 1 (by omega)), if_neg (hx 2 (by omega)), b94_78, e_xI]
        rfl
      have r : ab_ev X (d + 30) 275 [.inr (9, 0), .inl (.int (X.1 (k + 1))), .inl (.int (X.1 (k + 2)))] (ths s) = some (.inl (some (.inl (.int (nI 0)))), pz (ths s) 11 (nI 2)) := by
        rw [b275, r276 (n := np) hr (by omega), if_pos h1, e_bI, if_neg (show ¬ nI 1 = nI 0 by decide), r232, j_of, j0, j2, if_neg h3, e_bI, if_pos rfl]
      exact ⟨_, _, _, Or.inr (sV_pz (by omega)), w550 hk hX cc r rfl (fun q => absurd q (by decide))⟩
  · have cc : ab_ev X (d + 30) 93 [.inr (0, 0), .inl (.int (X.1 (k + 1))), .inl (.int (X.1 (k + 2))), .inr (15, 0)] s = some (.inl (some (.inl (.int (nI 1)))), ths s) := by
      rw [b93, b94, c_n95 p1 (by omega), if_neg h1, e_xU, e_px, e_xI]
      rfl
    have r : ab_ev X (d + 30) 275 [.inr (9, 0), .inl (.int (X.1 (k + 1))), .inl (.int (X.1 (k + 2)))] (ths s) = some (.inl (some (.inl (.int (nI 0)))), pz (ths s) 11 (nI 1)) := by
      rw [b275, r276 (n := np) hr (by omega), if_neg h1, e_bI, if_pos rfl]
    exact ⟨_, _, _, Or.inr (sV_pz (by omega)), w550 hk hX cc r rfl (fun q => absurd q (by decide))⟩
end OP9
