/-! Whole calls: what is right, where names hang. -/
section OP2
variable {X : (Nat → Int32) × Nat} {d k n nr bm : Nat} {u5 u6 : Option ab_V} {s : ab_S} {nm z : Nat → Nat} {st : Nat → Nat → Nat} {by' : Nat → Int32}
theorem o197 (h : BW s n nm nr z st bm by') (hk : k + 5 < X.2) (hX : X.2 < 2 ^ 31) : ∃ (s2 : ab_S) (v5 v6 : Option ab_V), sW s s2 ∧ ab_at X (d + 31) 360 2445 [some (.inr (14, 0)), some (.inr (0, 0)), some (.inr (9, 0)), some (.inr (15, 0)), some (.inl (.int (nI k))), u5, u6, none] [] s = ab_at X (d + 31) 360 23 [some (.inr (14, 0)), some (.inr (0, 0)), some (.inr (9, 0)), some (.inr (15, 0)), some (.inl (.int (nI (k + 6)))), v5, v6, none] [] s2 := by
  have hn := h.1.2.1
  by_cases h2 : inR (X.1 (k + 1)).toInt (-9999) 9999 = true
  · obtain ⟨s1, a1, a2, a3⟩ := c_look (X := X) (d := d + 25) h.1
    obtain ⟨o1, o2, o3, o4, o5, o6⟩ := id a3
    obtain ⟨G, g1, g2⟩ := c_leap (X := X) (d := d + 25) (x := X.1 (k + 1)) o1 hn o4 h.1.to_lt h.1.to_inj
    obtain ⟨v, hv⟩ : ∃ v, v = nI (fb_ct (fun q => nm (ah (to_ nr z st bm by') n q (-X.1 (k + 1)).toInt) == nm q) n) := ⟨_, rfl⟩
    have e : ab_ev X (d + 28) 31 [.inr (6, 0)] (pa s1 4 G) = some (.inl (some (.inl (.int v))), pa s1 4 G) := by
      rw [c_rightStreets (s := pa s1 4 G) (nm := nm) (src := fun q => ah (to_ nr z st bm by') n q (-X.1 (k + 1)).toInt) o1 hn (fun q hq => by simp (disch := omega) only [E0]; exact o3 q hq) h.1.2.2.2.1 (fun q hq => by simp (disch := omega) only [E0]; exact g2 q hq) (fun q hq => ah_lt h.1.to_lt hq _), hv]
    have c : ab_ev X (d + 30) 197 [.inr (0, 0), .inl (.int (X.1 (k + 1))), .inr (15, 0)] s = some (.inl (some (.inl (.int (nI 0)))), pb (pa s1 4 G) 3 (va_up (sb (pa s1 4 G) 3) 0 v.toInt64)) := by
      rw [b197, b198, c_n107, if_pos h2, e_bU, a1, e_bU, g1, e_bU, e, e_bI, e_bI]
    have hV : sV s (pz (pb (pa s1 4 G) 3 (va_up (sb (pa s1 4 G) 3) 0 v.toInt64)) 11 (nI 0)) := sV_trans a2.V (sV_trans (sO_pa (by omega) (by omega)).V (sV_trans sV_pb (sV_pz (by omega))))
    have hb := h.same hV
    obtain ⟨s2, r1, r2, r3, -, r5⟩ := r268 (X := X) (d := d + 27) hb.2
    have r : ab_ev X (d + 30) 338 [.inr (9, 0), .inl (.int (X.1 (k + 1)))] (pb (pa s1 4 G) 3 (va_up (sb (pa s1 4 G) 3) 0 v.toInt64)) = some (.inl (some (.inl (.int v))), s2) := by
      rw [b338, r282, if_pos h2, e_bI, if_neg (show ¬ nI 1 = nI 0 by decide), r1, e_bU, r323 (d := d + 26) (hb.same r2.V).2 r5 h.1.to_lt h.1.to_inj, e_bI, hv]
    refine ⟨s2, _, _, Or.inl (sV_trans hV r2.V), w2445 hk hX c r r3 (fun _ => ?_)⟩
    rw [r2.2.2.2.2.2.2.1]
    rfl
  · have c : ab_ev X (d + 30) 197 [.inr (0, 0), .inl (.int (X.1 (k + 1))), .inr (15, 0)] s = some (.inl (some (.inl (.int (nI 1)))), ths s) := by
      rw [b197, b198, c_n107, if_neg h2, e_xU, e_px, e_xI]
      rfl
    have r : ab_ev X (d + 30) 338 [.inr (9, 0), .inl (.int (X.1 (k + 1)))] (ths s) = some (.inl (some (.inl (.int (nI 0)))), pz (ths s) 11 (nI 1)) := by
      rw [b338, r282, if_neg h2, e_bI, if_pos rfl, b233, e_bI, pz2]
    exact ⟨_, _, _, Or.inr (sV_pz (by omega)), w2445 hk hX c r rfl (fun q => absurd q (by decide))⟩
end OP2
