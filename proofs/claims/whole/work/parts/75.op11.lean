/-! A whole call: whom a name finds in days. -/
theorem bs_0 {P : Nat → Bool} {n : Nat} (h : ∀ k, k < n → P k = false) : bs P n = 0 := by
  apply Nat.eq_of_testBit_eq
  intro i
  rw [bs_bit, Nat.zero_testBit]
  by_cases q : i < n
  · rw [h i q, Bool.and_false]
  · rw [decide_eq_false q, Bool.false_and]
section OP11
variable {X : (Nat → Int32) × Nat} {d k n nr bm np hs : Nat} {u5 u6 : Option ab_V} {s : ab_S} {nm z lo li : Nat → Nat} {st : Nat → Nat → Nat} {by' : Nat → Int32}
theorem o194 (h : PW s n nm nr z st bm by' np hs lo li) (hk : k + 5 < X.2) (hX : X.2 < 2 ^ 31) : ∃ (s2 : ab_S) (v5 v6 : Option ab_V), sW s s2 ∧ ab_at X (d + 31) 360 2365 [some (.inr (14, 0)), some (.inr (0, 0)), some (.inr (9, 0)), some (.inr (15, 0)), some (.inl (.int (nI k))), u5, u6, none] [] s = ab_at X (d + 31) 360 23 [some (.inr (14, 0)), some (.inr (0, 0)), some (.inr (9, 0)), some (.inr (15, 0)), some (.inl (.int (nI (k + 6)))), v5, v6, none] [] s2 := by
  have hn := h.1.1.2.1
  obtain ⟨⟨hT, hR⟩, p1, p2, p3, p4, p5, p6, p7⟩ := id h
  have hr : sa (ths s) 8 1 = nI n := hR.1
  have hr4 : sa (ths s) 8 4 = nI hs := p5
  by_cases h1 : inS (X.1 (k + 1)) n = true
  rotate_left
  · have cc : ab_ev X (d + 30) 194 [.inr (0, 0), .inl (.int (X.1 (k + 1))), .inl (.int (X.1 (k + 2))), .inl (.int (X.1 (k + 3))), .inr (15, 0)] s = some (.inl (some (.inl (.int (nI 1)))), ths s) := by
      rw [b194, b195, c_n98 h.1.1.1 (by omega), if_neg h1, e_xU, e_px, e_xI]
      rfl
    have r : ab_ev X (d + 30) 280 [.inr (9, 0), .inl (.int (X.1 (k + 1))), .inl (.int (X.1 (k + 2))), .inl (.int (X.1 (k + 3)))] (ths s) = some (.inl (some (.inl (.int (nI 0)))), pz (ths s) 11 (nI 1)) := by
      rw [b280, r266 (n := n) hr (by omega), if_neg h1, e_bI, if_pos rfl]
    exact ⟨_, _, _, Or.inr (sV_pz (by omega)), w2365 hk hX cc r rfl (fun q => absurd q (by decide))⟩
  by_cases h2 : inR (X.1 (k + 2)).toInt 1 hs = true
  rotate_left
  · have cc : ab_ev X (d + 30) 194 [.inr (0, 0), .inl (.int (X.1 (k + 1))), .inl (.int (X.1 (k + 2))), .inl (.int (X.1 (k + 3))), .inr (15, 0)] s = some (.inl (some (.inl (.int (nI 2)))), ths s) := by
      rw [b194, b195, c_n98 h.1.1.1 (by omega), if_pos h1, e_bU, c_n102 p4 (by omega), if_neg h2, e_xU, e_px, e_xI]
      rfl
    have r : ab_ev X (d + 30) 280 [.inr (9, 0), .inl (.int (X.1 (k + 1))), .inl (.int (X.1 (k + 2))), .inl (.int (X.1 (k + 3)))] (ths s) = some (.inl (some (.inl (.int (nI 0)))), pz (ths s) 11 (nI 2)) := by
      rw [b280, r266 (n := n) hr (by omega), if_pos h1, e_bI, if_neg (show ¬ nI 1 = nI 0 by decide), r281 (n := hs) hr4 (by omega), if_neg h2, e_bI, if_pos rfl]
    exact ⟨_, _, _, Or.inr (sV_pz (by omega)), w2365 hk hX cc r rfl (fun q => absurd q (by decide))⟩
  by_cases h3 : inR (X.1 (k + 3)).toInt (-9999) 9999 = true
  rotate_left
  · have cc : ab_ev X (d + 30) 194 [.inr (0, 0), .inl (.int (X.1 (k + 1))), .inl (.int (X.1 (k + 2))), .inl (.int (X.1 (k + 3))), .inr (15, 0)] s = some (.inl (some (.inl (.int (nI 2)))), ths s) := by
      rw [b194, b195, c_n98 h.1.1.1 (by omega), if_pos h1, e_bU, c_n102 p4 (by omega), if_pos h2, e_bU, c_n107, if_neg h3, e_xU, e_px, e_xI]
      rfl
    have r : ab_ev X (d + 30) 280 [.inr (9, 0), .inl (.int (X.1 (k + 1))), .inl (.int (X.1 (k + 2))), .inl (.int (X.1 (k + 3)))] (ths s) = some (.inl (some (.inl (.int (nI 0)))), pz (ths s) 11 (nI 2)) := by
      rw [b280, r266 (n := n) hr (by omega), if_pos h1, e_bI, if_neg (show ¬ nI 1 = nI 0 by decide), r281 (n := hs) hr4 (by omega), if_pos h2, e_bI, if_neg (show ¬ nI 1 = nI 0 by decide), r282, if_neg h3, e_bI, if_pos rfl]
    exact ⟨_, _, _, Or.inr (sV_pz (by omega)), w2365 hk hX cc r rfl (fun q => absurd q (by decide))⟩
  obtain ⟨v, hv, ev⟩ := inS_rep h1
  obtain ⟨y, hy, ey⟩ := inS_rep (x := X.1 (k + 2)) (n := hs + 1) (inS_def.mpr (by have := inR_iff.mp h2; omega))
  obtain ⟨s1, a1, a2, a3⟩ := c_look (X := X) (d := d + 25) hT
  obtain ⟨o1, o2, o3, o4, o5, o6⟩ := id a3
  obtain ⟨G, g1, g2⟩ := c_leap (X := X) (d := d + 25) (x := X.1 (k + 3)) o1 hn o4 hT.to_lt hT.to_inj
  obtain ⟨w, hw⟩ : ∃ w, w = nI (bs (fun p => decide (lo p < n) && (nm (ah (to_ nr z st bm by') n (lo p) (-X.1 (k + 3)).toInt) == v && li p == y)) np) := ⟨_, rfl⟩
  have h' : PW (pa s1 4 G) n nm nr z st bm by' np hs lo li := h.same (sV_trans a2.V (sO_pa (by omega) (by omega)).V)
  have e : ab_ev X (d + 28) 196 [.inr (6, 0), .inl (.int (nI v))] (pa s1 4 G) = _ := c_streetsThen (s := pa s1 4 G) (nm := nm) (src := fun q => ah (to_ nr z st bm by') n q (-X.1 (k + 3)).toInt) o1 hn (fun q hq => by simp (disch := omega) only [E0]; exact o3 q hq) hT.2.2.2.1 (fun q hq => by simp (disch := omega) only [E0]; exact g2 q hq) (fun q hq => ah_lt hT.to_lt hq _) (by omega)
  have ew : nI (bs (fun q => li q == y && (bs (fun q => nm (ah (to_ nr z st bm by') n q (-X.1 (k + 3)).toInt) == v) n).testBit (lo q)) np) = w := by
    rw [hw]
    refine congrArg nI (bs_cong (fun p hp => ?_))
    rw [bs_bit]
    cases li p == y <;> cases decide (lo p < n) <;> simp
  have cc : ab_ev X (d + 30) 194 [.inr (0, 0), .inl (.int (X.1 (k + 1))), .inl (.int (X.1 (k + 2))), .inl (.int (X.1 (k + 3))), .inr (15, 0)] s = some (.inl (some (.inl (.int (nI 0)))), pb (pa s1 4 G) 3 (va_up (sb (pa s1 4 G) 3) 0 w.toInt64)) := by
    obtain ⟨q1, q3, q2, -, -, -, q7⟩ := id h'.2
    rw [b194, b195, c_n98 h.1.1.1 (by omega), if_pos h1, e_bU, c_n102 p4 (by omega), if_pos h2, e_bU, c_n107, if_pos h3, e_bU, a1, e_bU, g1, e_bU, ev, e, e_bI, ey, c_peopleIn (s := pa s1 4 G) q1 p3 (fun q hq => (q7 q hq).1) (fun q hq => by have := (p7 q hq).2.2.1; omega) (fun q hq => (q7 q hq).2.2.2.1) (fun q hq => by have := (p7 q hq).2.2.2.2.2; omega) (by omega) (bs_lt20 _ (by omega)), e_bI, e_bI, ew]
  have hV : sV s (pz (pb (pa s1 4 G) 3 (va_up (sb (pa s1 4 G) 3) 0 w.toInt64)) 11 (nI 0)) := sV_trans a2.V (sV_trans (sO_pa (by omega) (by omega)).V (sV_trans sV_pb (sV_pz (by omega))))
  have hb := h.same hV
  obtain ⟨s2, r1, r2, r3, -, r5⟩ := r268 (X := X) (d := d + 27) hb.1.2
  have r : ab_ev X (d + 30) 280 [.inr (9, 0), .inl (.int (X.1 (k + 1))), .inl (.int (X.1 (k + 2))), .inl (.int (X.1 (k + 3)))] (pb (pa s1 4 G) 3 (va_up (sb (pa s1 4 G) 3) 0 w.toInt64)) = some (.inl (some (.inl (.int w))), s2) := by
    have hb1 : sa (pb (pa s1 4 G) 3 (va_up (sb (pa s1 4 G) 3) 0 w.toInt64)) 8 1 = nI n := hb.1.2.1
    have hb4 : sa (pb (pa s1 4 G) 3 (va_up (sb (pa s1 4 G) 3) 0 w.toInt64)) 8 4 = nI hs := hb.2.2.2.2.2.1
    have l1 := l283 (X := X) (d := d + 26) (v := v) (y := y) (x3 := X.1 (k + 3)) (hb.same r2.V) r5 hT.to_lt hT.to_inj (by omega) (by omega) n 0 (by omega)
    rw [bs_0 (P := fun p => decide (lo p < 0) && (nm (ah (to_ nr z st bm by') n (lo p) (-X.1 (k + 3)).toInt) == v && li p == y)) (fun p _ => by simp), ← hw] at l1
    rw [b280, r266 (n := n) hb1 (by omega), if_pos h1, e_bI, if_neg (show ¬ nI 1 = nI 0 by decide), r281 (n := hs) hb4 (by omega), if_pos h2, e_bI, if_neg (show ¬ nI 1 = nI 0 by decide), r282, if_pos h3, e_bI, if_neg (show ¬ nI 1 = nI 0 by decide), r1, e_bU, b283, ev, ey, l1, e_bI]
  refine ⟨s2, _, _, Or.inl (sV_trans hV r2.V), w2365 hk hX cc r r3 (fun _ => ?_)⟩
  rw [r2.2.2.2.2.2.2.1]
  rfl
end OP11
