/-! Whole calls: names and goings. -/
section OP1
variable {X : (Nat → Int32) × Nat} {d k n nr bm : Nat} {u5 u6 : Option ab_V} {s : ab_S} {nm z : Nat → Nat} {st : Nat → Nat → Nat} {by' : Nat → Int32}
theorem sv_out {s : ab_S} {v : Int32} : sb (pb s 3 (va_up (sb s 3) 0 v.toInt64)) 3 0 = v.toInt64 := by
  rfl

theorem o105 (h : BW s n nm nr z st bm by') (hk : k + 5 < X.2) (hX : X.2 < 2 ^ 31) : ∃ (s2 : ab_S) (v5 v6 : Option ab_V), sW s s2 ∧ ab_at X (d + 31) 360 742 [some (.inr (14, 0)), some (.inr (0, 0)), some (.inr (9, 0)), some (.inr (15, 0)), some (.inl (.int (nI k))), u5, u6, none] [] s = ab_at X (d + 31) 360 23 [some (.inr (14, 0)), some (.inr (0, 0)), some (.inr (9, 0)), some (.inr (15, 0)), some (.inl (.int (nI (k + 6)))), v5, v6, none] [] s2 := by
  have hn := h.1.2.1
  by_cases h1 : inS (X.1 (k + 1)) n = true
  · by_cases h2 : inR (X.1 (k + 2)).toInt (-9999) 9999 = true
    · obtain ⟨v, hv, ev⟩ := inS_rep h1
      obtain ⟨s1, a1, a2, a3⟩ := c_look (X := X) (d := d + 25) h.1
      have c0 := ah_lt h.1.to_lt hv (-X.1 (k + 2)).toInt
      have c : ab_ev X (d + 30) 105 [.inr (0, 0), .inl (.int (X.1 (k + 1))), .inl (.int (X.1 (k + 2))), .inr (15, 0)] s = some (.inl (some (.inl (.int (nI 0)))), pb s1 3 (va_up (sb s1 3) 0 (nI (nm (ah (to_ nr z st bm by') n v (-X.1 (k + 2)).toInt))).toInt64)) := by
        rw [b105, b106, c_n86 h.1.1 (by omega), if_pos h1, e_bU, c_n107, if_pos h2, e_bU, a1, e_bU, ev, c_ahead (s := s1) hn a3.2.2.2.1 h.1.to_lt h.1.to_inj hv, e_bI, at28 (s := s1) (by omega), a3.2.2.1 _ c0, e_bI, e_bI]
      have hb : BW (pb s1 3 (va_up (sb s1 3) 0 (nI (nm (ah (to_ nr z st bm by') n v (-X.1 (k + 2)).toInt))).toInt64)) n nm nr z st bm by' := (h.same a2.V).same sV_pb
      have hb0 : BW (pz (pb s1 3 (va_up (sb s1 3) 0 (nI (nm (ah (to_ nr z st bm by') n v (-X.1 (k + 2)).toInt))).toInt64)) 11 (nI 0)) n nm nr z st bm by' := hb.same (sV_pz (by omega))
      obtain ⟨s2, r1, r2, r3, -, r5⟩ := r268 (X := X) (d := d + 27) hb0.2
      have r : ab_ev X (d + 30) 286 [.inr (9, 0), .inl (.int (X.1 (k + 1))), .inl (.int (X.1 (k + 2)))] (pb s1 3 (va_up (sb s1 3) 0 (nI (nm (ah (to_ nr z st bm by') n v (-X.1 (k + 2)).toInt))).toInt64)) = some (.inl (some (.inl (.int (nI (nm (ah (to_ nr z st bm by') n v (-X.1 (k + 2)).toInt)))))), s2) := by
        rw [b286, r266 (n := n) hb.2.1 (by omega), if_pos h1, e_bI, if_neg (show ¬ nI 1 = nI 0 by decide), r282, if_pos h2, e_bI, if_neg (show ¬ nI 1 = nI 0 by decide), r1, e_bU, ev, r284 (d := d + 27) (hb0.same r2.V).2 r5 h.1.to_lt h.1.to_inj hv, e_bI]
      refine ⟨s2, _, _, Or.inl (sV_trans a2.V (sV_trans sV_pb (sV_trans (sV_pz (by omega)) r2.V))), w742 hk hX c r r3 (fun _ => ?_)⟩
      rw [r2.2.2.2.2.2.2.1]
      rfl
    · have c : ab_ev X (d + 30) 105 [.inr (0, 0), .inl (.int (X.1 (k + 1))), .inl (.int (X.1 (k + 2))), .inr (15, 0)] s = some (.inl (some (.inl (.int (nI 2)))), ths s) := by
        rw [b105, b106, c_n86 h.1.1 (by omega), if_pos h1, e_bU, c_n107, if_neg h2, e_xU, e_px, e_xI]
        rfl
      have hr : sa (ths s) 8 1 = nI n := h.2.1
      have r : ab_ev X (d + 30) 286 [.inr (9, 0), .inl (.int (X.1 (k + 1))), .inl (.int (X.1 (k + 2)))] (ths s) = some (.inl (some (.inl (.int (nI 0)))), pz (ths s) 11 (nI 2)) := by
        rw [b286, r266 (n := n) hr (by omega), if_pos h1, e_bI, if_neg (show ¬ nI 1 = nI 0 by decide), r282, if_neg h2, e_bI, if_pos rfl]
      exact ⟨_, _, _, Or.inr (sV_pz (by omega)), w742 hk hX c r rfl (fun q => absurd q (by decide))⟩
  · have c : ab_ev X (d + 30) 105 [.inr (0, 0), .inl (.int (X.1 (k + 1))), .inl (.int (X.1 (k + 2))), .inr (15, 0)] s = some (.inl (some (.inl (.int (nI 1)))), ths s) := by
      rw [b105, b106, c_n86 h.1.1 (by omega), if_neg h1, e_xU, e_px, e_xI]
      rfl
    have hr : sa (ths s) 8 1 = nI n := h.2.1
    have r : ab_ev X (d + 30) 286 [.inr (9, 0), .inl (.int (X.1 (k + 1))), .inl (.int (X.1 (k + 2)))] (ths s) = some (.inl (some (.inl (.int (nI 0)))), pz (ths s) 11 (nI 1)) := by
      rw [b286, r266 (n := n) hr (by omega), if_neg h1, e_bI, if_pos rfl]
    exact ⟨_, _, _, Or.inr (sV_pz (by omega)), w742 hk hX c r rfl (fun q => absurd q (by decide))⟩
theorem o109 (h : BW s n nm nr z st bm by') (hk : k + 5 < X.2) (hX : X.2 < 2 ^ 31) : ∃ (s2 : ab_S) (v5 v6 : Option ab_V), sW s s2 ∧ ab_at X (d + 31) 360 810 [some (.inr (14, 0)), some (.inr (0, 0)), some (.inr (9, 0)), some (.inr (15, 0)), some (.inl (.int (nI k))), u5, u6, none] [] s = ab_at X (d + 31) 360 23 [some (.inr (14, 0)), some (.inr (0, 0)), some (.inr (9, 0)), some (.inr (15, 0)), some (.inl (.int (nI (k + 6)))), v5, v6, none] [] s2 := by
  have hn := h.1.2.1
  by_cases h1 : inS (X.1 (k + 1)) n = true
  · by_cases h2 : inR (X.1 (k + 2)).toInt (-9999) 9999 = true
    · obtain ⟨v, hv, ev⟩ := inS_rep h1
      obtain ⟨s1, a1, a2, a3⟩ := c_look (X := X) (d := d + 25) h.1
      have c0 := ah_lt h.1.to_lt hv (-X.1 (k + 2)).toInt
      have c : ab_ev X (d + 30) 109 [.inr (0, 0), .inl (.int (X.1 (k + 1))), .inl (.int (X.1 (k + 2))), .inr (15, 0)] s = some (.inl (some (.inl (.int (nI 0)))), pb s1 3 (va_up (sb s1 3) 0 (nI (ah (to_ nr z st bm by') n v (X.1 (k + 2)).toInt)).toInt64)) := by
        rw [b109, b110, c_n86 h.1.1 (by omega), if_pos h1, e_bU, c_n107, if_pos h2, e_bU, a1, e_bU, ev, c_ahead (s := s1) hn a3.2.2.2.1 h.1.to_lt h.1.to_inj hv, e_bI, e_bI]
      have hb : BW (pb s1 3 (va_up (sb s1 3) 0 (nI (ah (to_ nr z st bm by') n v (X.1 (k + 2)).toInt)).toInt64)) n nm nr z st bm by' := (h.same a2.V).same sV_pb
      have hb0 : BW (pz (pb s1 3 (va_up (sb s1 3) 0 (nI (ah (to_ nr z st bm by') n v (X.1 (k + 2)).toInt)).toInt64)) 11 (nI 0)) n nm nr z st bm by' := hb.same (sV_pz (by omega))
      obtain ⟨s2, r1, r2, r3, -, r5⟩ := r268 (X := X) (d := d + 27) hb0.2
      have r : ab_ev X (d + 30) 287 [.inr (9, 0), .inl (.int (X.1 (k + 1))), .inl (.int (X.1 (k + 2)))] (pb s1 3 (va_up (sb s1 3) 0 (nI (ah (to_ nr z st bm by') n v (X.1 (k + 2)).toInt)).toInt64)) = some (.inl (some (.inl (.int (nI (ah (to_ nr z st bm by') n v (X.1 (k + 2)).toInt))))), s2) := by
        rw [b287, r266 (n := n) hb.2.1 (by omega), if_pos h1, e_bI, if_neg (show ¬ nI 1 = nI 0 by decide), r282, if_pos h2, e_bI, if_neg (show ¬ nI 1 = nI 0 by decide), r1, e_bU, ev, r285 (d := d + 28) hn r5 h.1.to_lt h.1.to_inj hv, e_bI]
      refine ⟨s2, _, _, Or.inl (sV_trans a2.V (sV_trans sV_pb (sV_trans (sV_pz (by omega)) r2.V))), w810 hk hX c r r3 (fun _ => ?_)⟩
      rw [r2.2.2.2.2.2.2.1]
      rfl
    · have c : ab_ev X (d + 30) 109 [.inr (0, 0), .inl (.int (X.1 (k + 1))), .inl (.int (X.1 (k + 2))), .inr (15, 0)] s = some (.inl (some (.inl (.int (nI 2)))), ths s) := by
        rw [b109, b110, c_n86 h.1.1 (by omega), if_pos h1, e_bU, c_n107, if_neg h2, e_xU, e_px, e_xI]
        rfl
      have hr : sa (ths s) 8 1 = nI n := h.2.1
      have r : ab_ev X (d + 30) 287 [.inr (9, 0), .inl (.int (X.1 (k + 1))), .inl (.int (X.1 (k + 2)))] (ths s) = some (.inl (some (.inl (.int (nI 0)))), pz (ths s) 11 (nI 2)) := by
        rw [b287, r266 (n := n) hr (by omega), if_pos h1, e_bI, if_neg (show ¬ nI 1 = nI 0 by decide), r282, if_neg h2, e_bI, if_pos rfl]
      exact ⟨_, _, _, Or.inr (sV_pz (by omega)), w810 hk hX c r rfl (fun q => absurd q (by decide))⟩
  · have c : ab_ev X (d + 30) 109 [.inr (0, 0), .inl (.int (X.1 (k + 1))), .inl (.int (X.1 (k + 2))), .inr (15, 0)] s = some (.inl (some (.inl (.int (nI 1)))), ths s) := by
      rw [b109, b110, c_n86 h.1.1 (by omega), if_neg h1, e_xU, e_px, e_xI]
      rfl
    have hr : sa (ths s) 8 1 = nI n := h.2.1
    have r : ab_ev X (d + 30) 287 [.inr (9, 0), .inl (.int (X.1 (k + 1))), .inl (.int (X.1 (k + 2)))] (ths s) = some (.inl (some (.inl (.int (nI 0)))), pz (ths s) 11 (nI 1)) := by
      rw [b287, r266 (n := n) hr (by omega), if_neg h1, e_bI, if_pos rfl]
    exact ⟨_, _, _, Or.inr (sV_pz (by omega)), w810 hk hX c r rfl (fun q => absurd q (by decide))⟩
end OP1
