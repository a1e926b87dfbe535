/-! A whole call: whom a name finds. -/
section OP12
variable {X : (Nat → Int32) × Nat} {d k n nr bm np hs : Nat} {u5 u6 : Option ab_V} {s : ab_S} {nm z lo li : Nat → Nat} {st : Nat → Nat → Nat} {by' : Nat → Int32}
theorem o100 (h : PW s n nm nr z st bm by' np hs lo li) (hk : k + 5 < X.2) (hX : X.2 < 2 ^ 31) : ∃ (s2 : ab_S) (v5 v6 : Option ab_V), sW s s2 ∧ ab_at X (d + 31) 360 674 [some (.inr (14, 0)), some (.inr (0, 0)), some (.inr (9, 0)), some (.inr (15, 0)), some (.inl (.int (nI k))), u5, u6, none] [] s = ab_at X (d + 31) 360 23 [some (.inr (14, 0)), some (.inr (0, 0)), some (.inr (9, 0)), some (.inr (15, 0)), some (.inl (.int (nI (k + 6)))), v5, v6, none] [] s2 := by
  have hn := h.1.1.2.1
  obtain ⟨⟨hT, hR⟩, p1, p2, p3, p4, p5, p6, p7⟩ := id h
  obtain ⟨t1, t2, t3, t4, -⟩ := id hT
  have hr : sa (ths s) 8 1 = nI n := hR.1
  have hr4 : sa (ths s) 8 4 = nI hs := p5
  have h3 : inR (nI 0).toInt (-9999) 9999 = true := by decide
  by_cases h1 : inS (X.1 (k + 1)) n = true
  rotate_left
  · have cc : ab_ev X (d + 30) 100 [.inr (0, 0), .inl (.int (X.1 (k + 1))), .inl (.int (X.1 (k + 2))), .inr (15, 0)] s = some (.inl (some (.inl (.int (nI 1)))), ths s) := by
      rw [b100, b101, c_n98 h.1.1.1 (by omega), if_neg h1, e_xU, e_px, e_xI]
      rfl
    have r : ab_ev X (d + 30) 279 [.inr (9, 0), .inl (.int (X.1 (k + 1))), .inl (.int (X.1 (k + 2)))] (ths s) = some (.inl (some (.inl (.int (nI 0)))), pz (ths s) 11 (nI 1)) := by
      rw [b279, b280, r266 (n := n) hr (by omega), if_neg h1, e_bI, if_pos rfl, e_bI]
    exact ⟨_, _, _, Or.inr (sV_pz (by omega)), w674 hk hX cc r rfl (fun q => absurd q (by decide))⟩
  by_cases h2 : inR (X.1 (k + 2)).toInt 1 hs = true
  rotate_left
  · have cc : ab_ev X (d + 30) 100 [.inr (0, 0), .inl (.int (X.1 (k + 1))), .inl (.int (X.1 (k + 2))), .inr (15, 0)] s = some (.inl (some (.inl (.int (nI 2)))), ths s) := by
      rw [b100, b101, c_n98 h.1.1.1 (by omega), if_pos h1, e_bU, c_n102 p4 (by omega), if_neg h2, e_xU, e_px, e_xI]
      rfl
    have r : ab_ev X (d + 30) 279 [.inr (9, 0), .inl (.int (X.1 (k + 1))), .inl (.int (X.1 (k + 2)))] (ths s) = some (.inl (some (.inl (.int (nI 0)))), pz (ths s) 11 (nI 2)) := by
      rw [b279, b280, r266 (n := n) hr (by omega), if_pos h1, e_bI, if_neg (show ¬ nI 1 = nI 0 by decide), r281 (n := hs) hr4 (by omega), if_neg h2, e_bI, if_pos rfl, e_bI]
    exact ⟨_, _, _, Or.inr (sV_pz (by omega)), w674 hk hX cc r rfl (fun q => absurd q (by decide))⟩
  obtain ⟨v, hv, ev⟩ := inS_rep h1
  obtain ⟨y, hy, ey⟩ := inS_rep (x := X.1 (k + 2)) (n := hs + 1) (inS_def.mpr (by have := inR_iff.mp h2; omega))
  obtain ⟨w, hw⟩ : ∃ w, w = nI (bs (fun p => decide (lo p < n) && (nm (ah (to_ nr z st bm by') n (lo p) (-nI 0).toInt) == v && li p == y)) np) := ⟨_, rfl⟩
  have ew : nI (bs (fun q => li q == y && (bs (fun q => nm q == v) n).testBit (lo q)) np) = w := by
    rw [hw]
    refine congrArg nI (bs_cong (fun p hp => ?_))
    have e0 : ah (to_ nr z st bm by') n (lo p) (-nI 0).toInt = lo p := by
      have q : (-nI 0).toInt = ((0 : Nat) : Int) := by decide
      rw [q, ah_nat hT.to_lt hT.to_inj (p7 p hp).2.2.1]
      rfl
    rw [bs_bit, e0]
    cases li p == y <;> cases decide (lo p < n) <;> simp
  have cc : ab_ev X (d + 30) 100 [.inr (0, 0), .inl (.int (X.1 (k + 1))), .inl (.int (X.1 (k + 2))), .inr (15, 0)] s = some (.inl (some (.inl (.int (nI 0)))), pb s 3 (va_up (sb s 3) 0 w.toInt64)) := by
    rw [b100, b101, c_n98 h.1.1.1 (by omega), if_pos h1, e_bU, c_n102 p4 (by omega), if_pos h2, e_bU, ev, c_streetsOf t1 t2 t3 t4 (by omega), e_bI, ey, c_peopleIn p1 p3 (fun q hq => (p7 q hq).1) (fun q hq => by have := (p7 q hq).2.2.1; omega) (fun q hq => (p7 q hq).2.2.2.1) (fun q hq => by have := (p7 q hq).2.2.2.2.2; omega) (by omega) (bs_lt20 _ (by omega)), e_bI, e_bI, ew]
  have hV : sV s (pz (pb s 3 (va_up (sb s 3) 0 w.toInt64)) 11 (nI 0)) := sV_trans sV_pb (sV_pz (by omega))
  have hb := h.same hV
  obtain ⟨s2, r1, r2, r3, -, r5⟩ := r268 (X := X) (d := d + 26) hb.1.2
  have r : ab_ev X (d + 30) 279 [.inr (9, 0), .inl (.int (X.1 (k + 1))), .inl (.int (X.1 (k + 2)))] (pb s 3 (va_up (sb s 3) 0 w.toInt64)) = some (.inl (some (.inl (.int w))), s2) := by
    have hb1 : sa (pb s 3 (va_up (sb s 3) 0 w.toInt64)) 8 1 = nI n := hb.1.2.1
    have hb4 : sa (pb s 3 (va_up (sb s 3) 0 w.toInt64)) 8 4 = nI hs := hb.2.2.2.2.2.1
    have l1 := l283 (X := X) (d := d + 25) (v := v) (y := y) (x3 := nI 0) (hb.same r2.V) r5 hT.to_lt hT.to_inj (by omega) (by omega) n 0 (by omega)
    rw [bs_0 (P := fun p => decide (lo p < 0) && (nm (ah (to_ nr z st bm by') n (lo p) (-nI 0).toInt) == v && li p == y)) (fun p _ => by simp), ← hw] at l1
    rw [b279, b280, r266 (n := n) hb1 (by omega), if_pos h1, e_bI, if_neg (show ¬ nI 1 = nI 0 by decide), r281 (n := hs) hb4 (by omega), if_pos h2, e_bI, if_neg (show ¬ nI 1 = nI 0 by decide), r282, if_pos h3, e_bI, if_neg (show ¬ nI 1 = nI 0 by decide), r1, e_bU, b283, ev, ey, l1, e_bI, e_bI]
  refine ⟨s2, _, _, Or.inl (sV_trans hV r2.V), w674 hk hX cc r r3 (fun _ => ?_)⟩
  rw [r2.2.2.2.2.2.2.1]
  rfl
end OP12
