/-! A whole call: a street, by class and model. -/
section OP8
variable {X : (Nat → Int32) × Nat} {d k n nr bm np hs : Nat} {u5 u6 : Option ab_V} {s : ab_S} {nm z lo li : Nat → Nat} {st : Nat → Nat → Nat} {by' : Nat → Int32}
theorem r265 {v : Nat} (h : PW s n nm nr z st bm by' np hs lo li) (hv : v < n) : ∀ c, c < 5 → ∃ s2 : ab_S, sR (pz s 11 (nI 0)) s2 ∧ sz s2 11 = nI 0 ∧ ab_ev X (d + 5) 265 [.inr (9, 0), .inl (.int (nI v)), .inl (.int (nI c))] s = some (.inl (some (.inl (.int (stv nm bm nr z st (to_ nr z st bm by') n np lo v c)))), s2) := by
  intro c hc
  have hb := h.1.2
  obtain ⟨s2, r1, r2, r3, -, r5⟩ := r268 (X := X) (d := d + 2) (s := pz s 11 (nI 0)) (hb.same rfl)
  have h' : PW s2 n nm nr z st bm by' np hs lo li := h.same (sV_trans (sV_pz (by omega)) r2.V)
  obtain ⟨⟨hT, hR⟩, p1, p2, p3, p4, p5, p6, p7⟩ := id h'
  obtain ⟨t1, t2, t3, t4, t5, t6, t7, t8, t9, t10, t11, t12, t13, t14, t15⟩ := id hR
  have hin : inS (nI v) n = true := inS_nI hv (by omega)
  have h04 : inR (nI c).toInt 0 4 = true := inR_iff.mpr (by rw [nI_toInt (by omega)]; omega)
  have j0 : (lN 0).toInt = 0 := by decide
  have j4 : (lN 4).toInt = 4 := by decide
  have g : ab_at X (d + 5) 265 52 [some (.inr (9, 0)), some (.inl (.int (nI v))), some (.inl (.int (nI c))), some (.inl (.int (nI 0))), some (.inl (.int (nI 0)))] [] s2 = _ := l265 (X := X) (d := d + 4) (v := v) (x2 := nI c) hR nr 0 (by omega)
  refine ⟨s2, r2, r3, ?_⟩
  rw [b265, r266 (n := n) hb.1 (by omega), if_pos hin, e_bI, if_neg (show ¬ nI 1 = nI 0 by decide), r232, j_of, j0, j4, if_pos h04, e_bI, if_neg (show ¬ nI 1 = nI 0 by decide), r1, e_bU, g, b265_95]
  match c, hc with
  | 0, _ =>
    rw [if_pos rfl, b265_124, nI_add, r_in (by omega) (by decide), nI_clamp (by omega), t3 v hv]
    rfl
  | 1, _ =>
    rw [if_neg (show ¬ nI 1 = nI 0 by decide), if_pos rfl, b265_134, t12, r270 (by omega) (by omega), e_bI]
    show (_ : ab_R) = some (.inl (some (.inl (.int (if bm.testBit v = true then nI 1 else nI 0)))), s2)
    cases bm.testBit v
    · rfl
    · rfl
  | 2, _ =>
    rw [if_neg (show ¬ nI 2 = nI 0 by decide), if_neg (show ¬ nI 2 = nI 1 by decide), if_pos rfl, b265_154]
    show (_ : ab_R) = some (.inl (some (.inl (.int (nI (bs (fun r => decide (fst (fun q => nI (st r q) == nI v) (z r) < z r)) nr))))), s2)
    congr 6
    refine congrArg nI (bs_cong (fun r hr => ?_))
    have e : fst (fun q => sa s2 8 (36 + 20 * r + q) == nI v) (z r) = fst (fun q => nI (st r q) == nI v) (z r) := fst_cong (fun q hq => by rw [t9 r hr q hq])
    rw [e]
  | 3, _ =>
    rw [if_neg (show ¬ nI 3 = nI 0 by decide), if_neg (show ¬ nI 3 = nI 1 by decide), if_neg (show ¬ nI 3 = nI 2 by decide), if_pos rfl, b265_156, r271 t2 r5 hT.to_lt hT.to_inj hv, e_bI]
    rfl
  | 4, _ =>
    rw [if_neg (show ¬ nI 4 = nI 0 by decide), if_neg (show ¬ nI 4 = nI 1 by decide), if_neg (show ¬ nI 4 = nI 2 by decide), if_neg (show ¬ nI 4 = nI 3 by decide), b265_162, r272 p2 p3 (fun q hq => (p7 q hq).2.1), e_bI]
    show (_ : ab_R) = some (.inl (some (.inl (.int (nI (bs (fun q => lo q == v) np))))), s2)
    congr 6
    refine congrArg nI (bs_cong (fun q hq => ?_))
    have := (p7 q hq).2.2.1
    rw [Bool.eq_iff_iff, decide_eq_true_iff, beq_iff_eq]
    exact nI_eq (by omega) (by omega)
theorem o84 (h : PW s n nm nr z st bm by' np hs lo li) (hk : k + 5 < X.2) (hX : X.2 < 2 ^ 31) : ∃ (s2 : ab_S) (v5 v6 : Option ab_V), sW s s2 ∧ ab_at X (d + 31) 360 414 [some (.inr (14, 0)), some (.inr (0, 0)), some (.inr (9, 0)), some (.inr (15, 0)), some (.inl (.int (nI k))), u5, u6, none] [] s = ab_at X (d + 31) 360 23 [some (.inr (14, 0)), some (.inr (0, 0)), some (.inr (9, 0)), some (.inr (15, 0)), some (.inl (.int (nI (k + 6)))), v5, v6, none] [] s2 := by
  have hn := h.1.1.2.1
  have hr : sa (ths s) 8 1 = nI n := h.1.2.1
  have j0 : (lN 0).toInt = 0 := by decide
  have j4 : (lN 4).toInt = 4 := by decide
  by_cases h1 : inS (X.1 (k + 1)) n = true
  · obtain ⟨v, hv, ev⟩ := inS_rep h1
    by_cases h2 : inS (X.1 (k + 2)) 5 = true
    · obtain ⟨c, hc, ec⟩ := inS_rep h2
      obtain ⟨s1, a1, a2⟩ := c85 (X := X) (d := d + 24) h hv c hc
      obtain ⟨w, hw⟩ : ∃ w, w = stv nm bm nr z st (to_ nr z st bm by') n np lo v c := ⟨_, rfl⟩
      have cc : ab_ev X (d + 30) 84 [.inr (0, 0), .inl (.int (X.1 (k + 1))), .inl (.int (X.1 (k + 2))), .inr (15, 0)] s = some (.inl (some (.inl (.int (nI 0)))), pb s1 3 (va_up (sb s1 3) 0 w.toInt64)) := by
        rw [b84, ev, ec, a2, e_bI, hw]
      have hV : sV s (pb s1 3 (va_up (sb s1 3) 0 w.toInt64)) := sV_trans a1 sV_pb
      obtain ⟨s2, r1, r2, r3⟩ := r265 (X := X) (d := d + 25) (h.same hV) hv c hc
      have r : ab_ev X (d + 30) 265 [.inr (9, 0), .inl (.int (X.1 (k + 1))), .inl (.int (X.1 (k + 2)))] (pb s1 3 (va_up (sb s1 3) 0 w.toInt64)) = some (.inl (some (.inl (.int w))), s2) := by
        rw [ev, ec, r3, hw]
      refine ⟨s2, _, _, Or.inl (sV_trans hV (sV_trans (sV_pz (by omega)) r1.V)), w414 hk hX cc r r2 (fun _ => ?_)⟩
      rw [r1.2.2.2.2.2.2.1]
      rfl
    · have hx : ∀ c, c < 5 → ¬ X.1 (k + 2) = nI c := fun c hc q => h2 (by rw [q]; exact inS_nI hc (by decide))
      have h3 : ¬ inR (X.1 (k + 2)).toInt 0 4 = true := fun q => h2 (inS_def.mpr (by have := inR_iff.mp q; omega))
      have cc : ab_ev X (d + 30) 84 [.inr (0, 0), .inl (.int (X.1 (k + 1))), .inl (.int (X.1 (k + 2))), .inr (15, 0)] s = some (.inl (some (.inl (.int (nI 2)))), ths s) := by
        rw [b84, b85, c_n86 h.1.1.1 (by omega), if_pos h1, e_bU, b85_6, if_neg (hx 0 (by omega)), if_neg (hx 1 (by omega)), if_neg (hx 2 (by omega)), if_neg (hx 3 (by omega)), if_neg (hx 4 (by omega)), b85_110, e_xI]
        rfl
      have r : ab_ev X (d + 30) 265 [.inr (9, 0), .inl (.int (X.1 (k + 1))), .inl (.int (X.1 (k + 2)))] (ths s) = some (.inl (some (.inl (.int (nI 0)))), pz (ths s) 11 (nI 2)) := by
        rw [b265, r266 (n := n) hr (by omega), if_pos h1, e_bI, if_neg (show ¬ nI 1 = nI 0 by decide), r232, j_of, j0, j4, if_neg h3, e_bI, if_pos rfl]
      exact ⟨_, _, _, Or.inr (sV_pz (by omega)), w414 hk hX cc r rfl (fun q => absurd q (by decide))⟩
  · have cc : ab_ev X (d + 30) 84 [.inr (0, 0), .inl (.int (X.1 (k + 1))), .inl (.int (X.1 (k + 2))), .inr (15, 0)] s = some (.inl (some (.inl (.int (nI 1)))), ths s) := by
      rw [b84, b85, c_n86 h.1.1.1 (by omega), if_neg h1, e_xU, e_px, e_xI]
      rfl
    have r : ab_ev X (d + 30) 265 [.inr (9, 0), .inl (.int (X.1 (k + 1))), .inl (.int (X.1 (k + 2)))] (ths s) = some (.inl (some (.inl (.int (nI 0)))), pz (ths s) 11 (nI 1)) := by
      rw [b265, r266 (n := n) hr (by omega), if_neg h1, e_bI, if_pos rfl]
    exact ⟨_, _, _, Or.inr (sV_pz (by omega)), w414 hk hX cc r rfl (fun q => absurd q (by decide))⟩
end OP8
