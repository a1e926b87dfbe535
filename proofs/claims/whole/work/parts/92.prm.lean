/-! Whole calls: perform, judge; the model's side. -/
section PRM
variable {X : (Nat → Int32) × Nat} {d k i n nr bm np hs ml m : Nat} {u5 u6 : Option ab_V} {s : ab_S} {nm z lo li : Nat → Nat} {st : Nat → Nat → Nat} {by' sg g : Nat → Int32}
theorem dst_LR {D : Dd} {p : (Nat → Nat) × (Nat → Int32)} {gi : Nat → Nat} (hn : n ≤ 20) (hD : dok n D) (h : LR sg p.2 ml) : LR sg (dstep n gi sg ml D p).2 ml := fun q hq => by
  rw [dst_out hn hD (by omega)]
  exact h q hq
theorem kp_LR (h10 : m ≤ 10) (h : LR sg g ml) : LR sg (kpF g m) ml := fun q hq => by
  rw [kp_old (by omega) (by omega) h10]
  exact h q hq
/-- one told deed of the model, the picture kept -/
theorem r316 {P : (Nat → Nat) × (Nat → Int32) × Nat × Nat} {D : Dd} {t : ab_S} (hm : P.2.2.1 ≤ 10) (h8 : sa t 8 = P.2.1) (hR : RW t n P.1 nr z st bm by') (h5 : sa t 8 5 = nI ml) (h6 : sa t 8 6 = nI P.2.2.1) (h900 : ml ≤ 900) (hw : WL sg ml) (hl : LR sg (sa t 8) ml) (hD : dok n D) : ∃ t2 : ab_S, ab_ev X d 289 [.inr (9, 0)] t = some (.inl none, pa t 8 (kpF P.2.1 P.2.2.1)) ∧ ab_ev X (d + 6) 314 [.inr (9, 0), .inl (.int (dcode D))] (pa t 8 (kpF P.2.1 P.2.2.1)) = some (.inl (some (.inl (.int (nI (dret n sg ml D (P.1, kpF P.2.1 P.2.2.1)))))), t2) ∧ sE t t2 ∧ sz t2 11 = sz t 11 ∧ sz t2 23 = sz t 23 ∧ sa t2 8 = (dstep n (inv (to_ nr z st bm by') n) sg ml D (P.1, kpF P.2.1 P.2.2.1)).2 ∧ RW t2 n (dstep n (inv (to_ nr z st bm by') n) sg ml D (P.1, kpF P.2.1 P.2.2.1)).1 nr z st bm by' ∧ sa t2 8 5 = nI ml ∧ sa t2 8 6 = nI (min P.2.2.1 9 + 1) ∧ LR sg (sa t2 8) ml := by
  have hn := hR.2.1
  obtain ⟨q1, q2⟩ := r289e (X := X) (d := d) (s := t) (m := P.2.2.1) h6 hm
  rw [h8] at q1 q2
  obtain ⟨t1, ht1⟩ : ∃ t1, t1 = pa t 8 (kpF P.2.1 P.2.2.1) := ⟨_, rfl⟩
  have e8 : sa t1 8 = kpF P.2.1 P.2.2.1 := by rw [ht1]; simp (disch := omega) only [E0]
  have hR1 : RW t1 n P.1 nr z st bm by' := RW_kp hR hm (by rw [e8, h8])
  have h51 : sa t1 8 5 = nI ml := by rw [e8, kp_old (by omega) (by omega) hm, ← h8]; exact h5
  have hl1 : LR sg (sa t1 8) ml := by
    rw [e8]
    rw [h8] at hl
    exact kp_LR hm hl
  obtain ⟨t2, g1, g2, g3, g4, g5⟩ := r314 (X := X) (d := d) hR1 h51 h900 hw hl1 hD
  have hR2 := RW_dd hR1 hD g3
  rw [e8] at g1 g3 hR2
  rw [ht1] at g1 g2 g4 g5
  refine ⟨t2, q1, g1, sE_trans sE_pa8 g2, g4, g5, g3, hR2, ?_, ?_, ?_⟩
  · rw [g3, dst_out hn hD (by omega)]
    show kpF P.2.1 P.2.2.1 5 = _
    rw [← e8]
    exact h51
  · rw [g3, dst_out hn hD (by omega)]
    exact q2.2.1
  · rw [g3]
    rw [e8] at hl1
    exact dst_LR hn hD hl1
theorem l316 {j M N : Nat} {y : Nat → Int64} (hm : m ≤ 10) (hj : j < 4) (hM : M ≤ 30) (h23 : sa s 23 j = nI M) (hy : ∀ q, q < 30 → sb s 2 (30 * j + q) = y q) (hN : N = ldN n y M) (h900 : ml ≤ 900) (hw : WL sg ml) : ∀ (i c : Nat) (t : ab_S), c + i = N → sE s t → sz t 11 = sz s 11 → sa t 8 = (gsq n (inv (to_ nr z st bm by') n) sg ml (fun q => dd (y q)) nm g m c).2.1 → RW t n (gsq n (inv (to_ nr z st bm by') n) sg ml (fun q => dd (y q)) nm g m c).1 nr z st bm by' → sa t 8 5 = nI ml → sa t 8 6 = nI (gsq n (inv (to_ nr z st bm by') n) sg ml (fun q => dd (y q)) nm g m c).2.2.1 → LR sg (sa t 8) ml → ∃ t' : ab_S, ab_at X (d + 7) 316 20 [some (.inr (9, 0)), some (.inl (.int (nI j))), some (.inl (.int (nI c)))] [] t = some (.inl (some (.inl (.int (nI N)))), t') ∧ sE s t' ∧ sz t' 11 = sz s 11 ∧ sa t' 8 = (gsq n (inv (to_ nr z st bm by') n) sg ml (fun q => dd (y q)) nm g m N).2.1
  | 0, c, t, e, h1, h11, h8, hR, h5, h6, hl => by
    have hle : ldN n y M ≤ M := fst_le _ _
    obtain rfl : c = N := by omega
    have e23 : sa t 23 j = nI M := by rw [h1.2.2.2.2.1 23 (by omega)]; exact h23
    have eb : sb t 2 = sb s 2 := by rw [h1.2.2.2.2.2.2.1]
    refine ⟨t, ?_, h1, h11, h8⟩
    rw [b316_20, r_in hj (by decide), nI_clamp (by omega), e23]
    by_cases q : c = M
    · rw [if_pos (by rw [q]; exact nI_le (Nat.le_refl _) (by omega))]
    · have h3 := ldN_no (n := n) (f := y) (M := M) (by omega)
      have h4 := trb_le (n := n) (y := y (ldN n y M))
      rw [← hN] at h3 h4
      rw [if_neg (nI_ge (by omega) (by omega)), pk_mul, nI_add, r_in (j := 30 * j + c) (by omega) (by decide), nI_clamp (by omega), eb, hy c (by omega), r313 (d := d + 4) hR.1 hR.2.1, e_bI, if_neg (fun z => h3 ((nI_eq (by omega) (by omega)).mp z))]
  | i + 1, c, t, e, h1, h11, h8, hR, h5, h6, hl => by
    have hle : ldN n y M ≤ M := fst_le _ _
    have hc : trb n (y c) = 0 := ldN_ok (M := M) (by omega)
    obtain ⟨hd, e32⟩ := dd_ok hc
    have e23 : sa t 23 j = nI M := by rw [h1.2.2.2.2.1 23 (by omega)]; exact h23
    have eb : sb t 2 = sb s 2 := by rw [h1.2.2.2.2.2.2.1]
    obtain ⟨t2, g1, g2, g3, g4, g5, g6, g7, g8, g9, g10⟩ := r316 (X := X) (d := d) (P := gsq n (inv (to_ nr z st bm by') n) sg ml (fun q => dd (y q)) nm g m c) (D := dd (y c)) (gsq_m hm c) h8 hR h5 h6 h900 hw hl hd
    have g1' := (r316 (X := X) (d := d + 6) (P := gsq n (inv (to_ nr z st bm by') n) sg ml (fun q => dd (y q)) nm g m c) (D := dd (y c)) (gsq_m hm c) h8 hR h5 h6 h900 hw hl hd).choose_spec.1
    obtain ⟨t', i1, i2⟩ := l316 hm hj hM h23 hy hN h900 hw i (c + 1) t2 (by omega) (sE_trans h1 g3) (g4.trans h11) g6 g7 g8 g9 g10
    refine ⟨t', ?_, i2⟩
    have eb2 : sb (pa t 8 (kpF (gsq n (inv (to_ nr z st bm by') n) sg ml (fun q => dd (y q)) nm g m c).2.1 (gsq n (inv (to_ nr z st bm by') n) sg ml (fun q => dd (y q)) nm g m c).2.2.1)) 2 (30 * j + c) = y c := by
      show sb t 2 _ = _
      rw [eb, hy c (by omega)]
    rw [← i1, b316_20, r_in hj (by decide), nI_clamp (by omega), e23, if_neg (nI_ge (by omega) (by omega)), pk_mul, nI_add, r_in (j := 30 * j + c) (by omega) (by decide), nI_clamp (by omega), eb, hy c (by omega), r313 (d := d + 4) hR.1 hR.2.1, e_bI, hc, if_pos rfl, g1', e_bU, r_inc (by omega) (by decide), eb2, e32, g2, e_bI, nI_add]
theorem o155 (h : CW s 0 (sa s 8) n nr np hs ml m by' nm z st bm lo li) (hT : TR s) (hk : k + 5 < X.2) (hX : X.2 < 2 ^ 31) : ∃ (s2 : ab_S) (v5 v6 : Option ab_V), sZ s s2 ∧ ab_at X (d + 31) 360 1603 [some (.inr (14, 0)), some (.inr (0, 0)), some (.inr (9, 0)), some (.inr (15, 0)), some (.inl (.int (nI k))), u5, u6, none] [] s = ab_at X (d + 31) 360 23 [some (.inr (14, 0)), some (.inr (0, 0)), some (.inr (9, 0)), some (.inr (15, 0)), some (.inl (.int (nI (k + 6)))), v5, v6, none] [] s2 := by
  obtain ⟨hKC, hGC, hHS, hL0, hLW, hWS, hPE, hm, hg6, hDR⟩ := id h
  have h10 : m ≤ 10 := hDR.1
  by_cases h1 : inS (X.1 (k + 1)) 4 = true
  rotate_left
  · have cc : ab_ev X (d + 30) 155 [.inr (0, 0), .inl (.int (X.1 (k + 1))), .inr (15, 0)] s = some (.inl (some (.inl (.int (nI 1)))), ths s) := by
      rw [b155, b156, c_n150_1 h1, e_xA, e_px, e_xI]
      rfl
    have r : ab_ev X (d + 30) 316 [.inr (9, 0), .inl (.int (X.1 (k + 1)))] (ths s) = some (.inl (some (.inl (.int (nI 0)))), pz (ths s) 11 (nI 1)) := by
      rw [b316, r310_1 h1, e_bI, if_neg (show ¬ nI 1 ≤ nI 0 by decide)]
    exact ⟨_, _, _, Or.inl (Or.inr (sV_pz (by omega)).X), w1603 hk hX cc r rfl (fun q => absurd q (by decide))⟩
  obtain ⟨j, hj, ej⟩ := inS_rep h1
  rcases hT.1 j hj with ⟨q1, q2⟩ | ⟨t, so, M, q1, q2, q3, q4, q5, q6, q7, q8, q9⟩
  · have cc : ab_ev X (d + 30) 155 [.inr (0, 0), .inl (.int (X.1 (k + 1))), .inr (15, 0)] s = some (.inl (some (.inl (.int (nI 2)))), ths s) := by
      rw [b155, b156, ej, c_n150_2 hj q1, e_xA, e_px, e_xI]
      rfl
    have r : ab_ev X (d + 30) 316 [.inr (9, 0), .inl (.int (X.1 (k + 1)))] (ths s) = some (.inl (some (.inl (.int (nI 0)))), pz (ths s) 11 (nI 2)) := by
      have q2' : sa (ths s) 22 j = -nI 1 := q2
      rw [b316, ej, r310_2 hj q2', e_bI, if_neg (show ¬ nI 2 ≤ nI 0 by decide)]
    exact ⟨_, _, _, Or.inl (Or.inr (sV_pz (by omega)).X), w1603 hk hX cc r rfl (fun q => absurd q (by decide))⟩
  have hle : ldN n (sB s 0 t) M ≤ M := fst_le _ _
  obtain ⟨N, hN⟩ : ∃ N, N = ldN n (sB s 0 t) M := ⟨_, rfl⟩
  obtain ⟨s1, c1, c2, c3⟩ := l154 (X := X) (d := d + 22) (t := t) (M := M) (N := N) h (by omega) q6 q4 (by omega) (fun q hq => ldN_ok (M := M) (by omega)) N 0 s none none none (by omega) (DF_refl _ _) h
  have hL := l151 (X := X) (d := d + 27) (t := t) (M := M) hKC.1 hKC.2.1 q6 q4 N 0 (by omega)
  rw [← hN] at hL
  have cc : ab_ev X (d + 30) 155 [.inr (0, 0), .inl (.int (X.1 (k + 1))), .inr (15, 0)] s = some (.inl (some (.inl (.int (nI 0)))), pb s1 3 (va_up (sb s1 3) 0 (nI N).toInt64)) := by
    have c1' : ab_at X (d + 28) 154 6 [some (.inr (0, 0)), some (.inr (8, t)), some (.inl (.int (nI N))), some (.inr (2, 0)), some (.inl (.int (nI 0))), some (.inl (.int (nI 0))), none, none, none] [] s = _ := c1
    have hL' : ab_at X (d + 28) 151 2 [some (.inr (0, 0)), some (.inr (8, t)), some (.inl (.int (nI 0)))] [] s = _ := hL
    rw [b155, b156, ej, c_n150_3 hj q1, e_bA, b156_5, b151, hL', e_bI, b154, c1', e_bI, e_bI]
  obtain ⟨sM, hsM⟩ : ∃ sM, sM = pz (pb s1 3 (va_up (sb s1 3) 0 (nI N).toInt64)) 11 (nI 0) := ⟨_, rfl⟩
  have e8 : sa sM 8 = sa s 8 := by rw [hsM]; exact c2.2.2.2.2.1
  have eA : ∀ q, 21 < q → sa sM q = sa s q := fun q hq => by
    rw [hsM]
    exact c2.1.2.2.2.1 q (by omega)
  have eb2 : sb sM 2 = sb s 2 := by
    rw [hsM]
    show va_up (sb s1) 3 (va_up (sb s1 3) 0 (nI N).toInt64) 2 = _
    rw [va_up_ne _ _ (by omega)]
    exact c2.1.2.2.2.2.2.1
  have esM : si sM = si s1 ∧ sA sM = sA s1 := by rw [hsM]; exact ⟨rfl, rfl⟩
  have hRM : RW sM n nm nr z st bm by' := h.PW.1.2.same e8
  obtain ⟨x1, x2, x3, x4, x5⟩ := hLW
  obtain ⟨t', l1, l2, l3, l4⟩ := l316 (X := X) (d := d + 23) (s := sM) (j := j) (M := M) (N := N) (y := sB s 0 t) (nm := nm) (g := sa s 8) (sg := sA s 6 0) (z := z) (st := st) (bm := bm) (by' := by') (nr := nr) h10 hj q4 (by rw [eA 23 (by omega)]; exact q8) (fun q hq => by rw [eb2]; exact (q9 q hq).symm) hN x3 x4 N 0 sM (by omega) (sE_refl _) rfl (by rw [e8]; rfl) hRM (by rw [e8]; exact x2) (by rw [e8]; exact hg6) (by rw [e8]; exact x5)
  have r : ab_ev X (d + 30) 316 [.inr (9, 0), .inl (.int (X.1 (k + 1)))] (pb s1 3 (va_up (sb s1 3) 0 (nI N).toInt64)) = some (.inl (some (.inl (.int (nI N)))), t') := by
    have e22 : sa (pb s1 3 (va_up (sb s1 3) 0 (nI N).toInt64)) 22 j = nI so := by
      show sa s1 22 j = _
      rw [c2.1.2.2.2.1 22 (by omega)]
      exact q7
    rw [b316, ej, r310_3 hj q3 e22, e_bI, if_pos (show nI 0 ≤ nI 0 by decide), ← hsM]
    exact l1
  have hC : CW t' 0 (sa t' 8) n nr np hs ml (gsq n (inv (to_ nr z st bm by') n) (sA s 6 0) ml (fun q => dd (sB s 0 t q)) nm (sa s 8) m N).2.2.1 by' (gsq n (inv (to_ nr z st bm by') n) (sA s 6 0) ml (fun q => dd (sB s 0 t q)) nm (sa s 8) m N).1 z st bm lo li := by
    rw [l4]
    exact c3.same (fun q => by rw [l2.2.2.2.1, esM.1]) (fun q _ => by rw [l2.2.2.2.2.2.1, esM.2])
  have e9 : sz t' 11 = nI 0 := by
    rw [l3, hsM]
    simp (disch := omega) only [E0]
  have e10 : sb t' 3 0 = (nI N).toInt64 := by
    rw [l2.2.2.2.2.2.2.1, hsM]
    simp (disch := omega) only [E0]
    rw [va_up_self]
  have d1 : sD s t' := sD_trans c2.1 (sD_trans (by rw [hsM]; exact sD_trans sV_pb.D (sV_pz (by omega)).D) l2.D)
  exact ⟨t', _, _, Or.inr ⟨d1, _, _, _, _, _, _, _, _, _, _, _, _, _, hC⟩, w1603 hk hX cc r e9 (fun _ => e10)⟩
end PRM
