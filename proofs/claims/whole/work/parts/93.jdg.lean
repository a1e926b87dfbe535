/-! Whole calls: judge. -/
theorem DF.X {s s' : ab_S} (h : DF s s' 1) : sX s s' := by
  obtain ⟨⟨a1, a2, a3, a4, a5, a6, a7, a8, a9⟩, b2, b3, b4, b5, b6, b7⟩ := h
  refine ⟨a1, a2, fun k q hq => ?_, fun k hk => ?_, fun k q hq _ => b3 q hq k, a6, a7, a8, a9⟩
  · by_cases e : q = 1
    · exact a3 k q (by omega)
    · exact b2 q e k
  · by_cases e : k = 8
    · rw [e]
      exact b5
    · exact a4 k (by omega)
theorem FR.X {s s' : ab_S} (h : FR s s' 1) : sX s s' := by
  obtain ⟨a1, a2, a3, a4, a5, a6, a7, a8, a9, b1, b2⟩ := h
  exact ⟨fun _ _ _ _ _ _ _ => by rw [a1], a3, fun k q hq => by
    by_cases e : q = 1
    · rw [b1 k (by omega)]
    · exact a9 k q e, fun _ _ => by rw [a4], fun k q hq _ => b2 k q hq, by rw [a5], a6, a7, a8⟩
theorem sE.X {s s' : ab_S} (h : sE s s') (h8 : sa s' 8 = sa s 8) : sX s s' := by
  obtain ⟨a1, a2, a3, a4, a5, a6, a7, a8, a9, a10⟩ := h
  exact ⟨fun k _ _ _ _ h3 h4 => a1 k h3 h4, a3, fun k q _ => by rw [a4], fun k hk => by
    by_cases e : k = 8
    · rw [e]
      exact h8
    · exact a5 k (by omega), fun k q _ _ => by rw [a6], by rw [a7], a8, a9, a10⟩
section JDG
variable {X : (Nat → Int32) × Nat} {d k i n nr bm np hs ml m : Nat} {u5 u6 : Option ab_V} {s : ab_S} {nm z lo li : Nat → Nat} {st : Nat → Nat → Nat} {by' sg g : Nat → Int32}
theorem l312 {A0 : Nat → Int32} : ∀ (i c : Nat) (A : Nat → Int32), c + i = 123 → (∀ q, A q = if q < c then sa s 8 (11 + q) else A0 q) → ab_at X d 312 2 [some (.inr (9, 0)), some (.inl (.int (nI c)))] [] (pa s 18 A) = some (.inl none, pa s 18 (fun q => if q < 123 then sa s 8 (11 + q) else A0 q))
  | 0, c, A, e, hA => by
    obtain rfl : c = 123 := by omega
    rw [b312_2, if_pos (nI_le (Nat.le_refl _) (by omega)), funext hA]
  | i + 1, c, A, e, hA => by
    rw [b312_2, if_neg (nI_ge (by omega) (by omega)), nI_add, r_in (j := 11 + c) (by omega) (by decide), r_in (j := c) (by omega) (by decide), nI_clamp (by omega), nI_clamp (by omega), nI_add]
    simp (disch := omega) only [E0, E1]
    refine l312 i (c + 1) _ (by omega) (fun q => ?_)
    by_cases e1 : q = c
    · rw [e1, va_up_self, if_pos (by omega)]
    · rw [va_up_ne _ _ e1, hA q]
      by_cases e2 : q < c
      · rw [if_pos e2, if_pos (by omega)]
      · rw [if_neg e2, if_neg (by omega)]
theorem l315 {G0 : Nat → Int32} : ∀ (i c : Nat) (G : Nat → Int32), c + i = 123 → (∀ q, G q = if 11 ≤ q ∧ q < 11 + c then sa s 18 (q - 11) else G0 q) → ab_at X d 315 2 [some (.inr (9, 0)), some (.inl (.int (nI c)))] [] (pa s 8 G) = some (.inl none, pa s 8 (fun q => if 11 ≤ q ∧ q < 134 then sa s 18 (q - 11) else G0 q))
  | 0, c, G, e, hG => by
    obtain rfl : c = 123 := by omega
    rw [b315_2, if_pos (nI_le (Nat.le_refl _) (by omega)), funext hG]
  | i + 1, c, G, e, hG => by
    rw [b315_2, if_neg (nI_ge (by omega) (by omega)), nI_add, r_in (j := c) (by omega) (by decide), r_in (j := 11 + c) (by omega) (by decide), nI_clamp (by omega), nI_clamp (by omega), nI_add]
    simp (disch := omega) only [E0, E1]
    refine l315 i (c + 1) _ (by omega) (fun q => ?_)
    by_cases e1 : q = 11 + c
    · rw [e1, va_up_self, if_pos (by omega), Nat.add_sub_cancel_left]
    · rw [va_up_ne _ _ e1, hG q]
      by_cases e2 : 11 ≤ q ∧ q < 11 + c
      · rw [if_pos e2, if_pos (by omega)]
      · rw [if_neg e2, if_neg (by omega)]
/-- what judge answers -/
def jA (x2 x3 x4 x5 r : Int32) : Int32 := if x2 = nI 0 then x3 else if x2 = nI 1 then x4 else if x2 = nI 2 then x5 else r
/-- the model's end of judge -/
theorem f309 {t : ab_S} {nm' : Nat → Nat} {x2 x3 x4 x5 : Int32} (hR : RW t n nm' nr z st bm by') (h18 : ∀ q, q < 123 → sa t 18 q = g (11 + q)) (h8 : ∀ q, q < 11 ∨ 134 ≤ q → sa t 8 q = g q) : ab_bI (ab_ev X (d + 2) 292 [.inr (9, 0)] t) (fun r2 s1 => ab_bU (ab_ev X (d + 2) 315 [.inr (9, 0)] s1) (fun s3 => (if x2 = (nI 0) then some (.inl (some (.inl (.int x3))), s3) else (if x2 = (nI 1) then some (.inl (some (.inl (.int x4))), s3) else (if x2 = (nI 2) then some (.inl (some (.inl (.int x5))), s3) else some (.inl (some (.inl (.int r2))), s3))))) ab_px) ab_px = some (.inl (some (.inl (.int (jA x2 x3 x4 x5 (nI (wrg nm' n)))))), pa t 8 g) := by
  have l := l315 (X := X) (d := d + 2) (s := t) (G0 := sa t 8) 123 0 (sa t 8) (by omega) (fun q => by rw [if_neg (by omega)])
  have e : (fun q => if 11 ≤ q ∧ q < 134 then sa t 18 (q - 11) else sa t 8 q) = g := funext fun q => by
    by_cases h : 11 ≤ q ∧ q < 134
    · rw [if_pos h, h18 _ (by omega)]
      exact congrArg g (by omega)
    · rw [if_neg h]
      exact h8 q (by omega)
  rw [pa_id, e] at l
  rw [r292 hR, e_bI, b315, l, e_bU]
  unfold jA
  split
  · rfl
  · split
    · rfl
    · split <;> rfl
theorem hsq_out {gi : Nat → Nat} {D : Nat → Dd} (hn : n ≤ 20) {t : Nat} (h : t < 11 ∨ 134 ≤ t) : ∀ k, (∀ j, j < k → dok n (D j)) → (hsq n gi sg ml D nm g k).2.1 t = g t
  | 0, _ => rfl
  | k + 1, hD => by
    show (dstep n gi sg ml (D k) ((hsq n gi sg ml D nm g k).1, (hsq n gi sg ml D nm g k).2.1)).2 t = g t
    rw [dst_out hn (hD k (by omega)) h]
    exact hsq_out hn h k (fun j hj => hD j (by omega))
theorem l309 {j M N : Nat} {x2 : Int32} {y : Nat → Int64} (hj : j < 4) (hM : M ≤ 30) (h23 : sa s 23 j = nI M) (hy : ∀ q, q < 30 → sb s 2 (30 * j + q) = y q) (hN : N = ldN n y M) (h900 : ml ≤ 900) (hw : WL sg ml) (h18 : ∀ q, q < 123 → sa s 18 q = g (11 + q)) : ∀ (i c : Nat) (t : ab_S), c + i = N → sE s t → sz t 11 = sz s 11 → sa t 8 = (hsq n (inv (to_ nr z st bm by') n) sg ml (fun q => dd (y q)) nm g c).2.1 → RW t n (hsq n (inv (to_ nr z st bm by') n) sg ml (fun q => dd (y q)) nm g c).1 nr z st bm by' → sa t 8 5 = nI ml → LR sg (sa t 8) ml → ∃ t' : ab_S, ab_at X (d + 7) 309 57 [some (.inr (9, 0)), some (.inl (.int (nI j))), some (.inl (.int x2)), some (.inl (.int (-nI 1))), some (.inl (.int (nI 0))), some (.inl (.int (nI (hsq n (inv (to_ nr z st bm by') n) sg ml (fun q => dd (y q)) nm g c).2.2))), some (.inl (.int (nI c)))] [] t = some (.inl (some (.inl (.int (jA x2 (if N = M then -nI 1 else nI N) (if N = M then nI 0 else nI (trb n (y N))) (nI (hsq n (inv (to_ nr z st bm by') n) sg ml (fun q => dd (y q)) nm g N).2.2) (nI (wrg (hsq n (inv (to_ nr z st bm by') n) sg ml (fun q => dd (y q)) nm g N).1 n)))))), t') ∧ sE s t' ∧ sz t' 11 = sz s 11 ∧ sa t' 8 = g
  | 0, c, t, e, h1, h11, h8, hR, h5, hl => by
    have hle : ldN n y M ≤ M := fst_le _ _
    have hn := hR.2.1
    obtain rfl : c = N := by omega
    have hok : ∀ q, q < c → dok n (dd (y q)) := fun q hq => (dd_ok (ldN_ok (M := M) (by omega))).1
    have e23 : sa t 23 j = nI M := by rw [h1.2.2.2.2.1 23 (by omega)]; exact h23
    have e18 : ∀ q, q < 123 → sa t 18 q = g (11 + q) := fun q hq => by
      rw [h1.2.2.2.2.1 18 (by omega)]
      exact h18 q hq
    have eb : sb t 2 = sb s 2 := by rw [h1.2.2.2.2.2.2.1]
    have e8 : ∀ q, q < 11 ∨ 134 ≤ q → sa t 8 q = g q := fun q hq => by
      rw [h8]
      exact hsq_out hn hq c hok
    have fin := fun (x3 x4 x5 : Int32) => f309 (X := X) (d := d + 4) (x2 := x2) (x3 := x3) (x4 := x4) (x5 := x5) hR e18 e8
    refine ⟨pa t 8 g, ?_, sE_trans h1 sE_pa8, h11, by simp (disch := omega) only [E0]⟩
    rw [b309_57, r_in hj (by decide), nI_clamp (by omega), e23]
    by_cases q : c = M
    · rw [if_pos (by rw [q]; exact nI_le (Nat.le_refl _) (by omega)), if_pos q, if_pos q]
      exact fin _ _ _
    · have h3 := ldN_no (n := n) (f := y) (M := M) (by omega)
      have h4 := trb_le (n := n) (y := y (ldN n y M))
      rw [← hN] at h3 h4
      rw [if_neg (nI_ge (by omega) (by omega)), if_pos rfl, pk_mul, nI_add, r_in (j := 30 * j + c) (by omega) (by decide), nI_clamp (by omega), eb, hy c (by omega), r313 (d := d + 4) hR.1 hn, e_bI, if_neg (fun z => h3 ((nI_eq (by omega) (by omega)).mp z)), nI_add, if_neg q, if_neg q, b309_57, r_in hj (by decide), nI_clamp (by omega), e23]
      by_cases q3 : M ≤ c + 1
      · rw [if_pos (nI_le q3 (by omega))]
        exact fin _ _ _
      · rw [if_neg (nI_ge (by omega) (by omega)), if_neg (n_m1 _ (by omega))]
        exact fin _ _ _
  | i + 1, c, t, e, h1, h11, h8, hR, h5, hl => by
    have hle : ldN n y M ≤ M := fst_le _ _
    have hn := hR.2.1
    have hc : trb n (y c) = 0 := ldN_ok (M := M) (by omega)
    obtain ⟨hd, e32⟩ := dd_ok hc
    have e23 : sa t 23 j = nI M := by rw [h1.2.2.2.2.1 23 (by omega)]; exact h23
    have eb : sb t 2 = sb s 2 := by rw [h1.2.2.2.2.2.2.1]
    obtain ⟨t2, g1, g2, g3, g4, g5⟩ := r314 (X := X) (d := d) hR h5 h900 hw hl hd
    have hR2 := RW_dd hR hd g3
    rw [h8] at g1 g3 hR2
    have h52 : sa t2 8 5 = nI ml := by
      rw [g3, dst_out hn hd (by omega)]
      rw [h8] at h5
      exact h5
    have hl2 : LR sg (sa t2 8) ml := by
      rw [g3]
      rw [h8] at hl
      exact dst_LR hn hd hl
    obtain ⟨t', i1, i2⟩ := l309 (x2 := x2) hj hM h23 hy hN h900 hw h18 i (c + 1) t2 (by omega) (sE_trans h1 g2) (g4.trans h11) g3 hR2 h52 hl2
    refine ⟨t', ?_, i2⟩
    have es : (hsq n (inv (to_ nr z st bm by') n) sg ml (fun q => dd (y q)) nm g (c + 1)).2.2 = (hsq n (inv (to_ nr z st bm by') n) sg ml (fun q => dd (y q)) nm g c).2.2 + dret n sg ml (dd (y c)) ((hsq n (inv (to_ nr z st bm by') n) sg ml (fun q => dd (y q)) nm g c).1, (hsq n (inv (to_ nr z st bm by') n) sg ml (fun q => dd (y q)) nm g c).2.1) := rfl
    rw [es] at i1
    rw [← i1, b309_57, r_in hj (by decide), nI_clamp (by omega), e23, if_neg (nI_ge (by omega) (by omega)), if_pos rfl, pk_mul, nI_add, r_in (j := 30 * j + c) (by omega) (by decide), nI_clamp (by omega), eb, hy c (by omega), r313 (d := d + 4) hR.1 hn, e_bI, hc, if_pos rfl, r_inc (by omega) (by decide), eb, hy c (by omega), e32, g1, e_bI, nI_add, nI_add]
theorem o148 (h : CW s 0 (sa s 8) n nr np hs ml m by' nm z st bm lo li) (hT : TR s) (hk : k + 5 < X.2) (hX : X.2 < 2 ^ 31) : ∃ (s2 : ab_S) (v5 v6 : Option ab_V), sY s s2 ∧ ab_at X (d + 31) 360 1535 [some (.inr (14, 0)), some (.inr (0, 0)), some (.inr (9, 0)), some (.inr (15, 0)), some (.inl (.int (nI k))), u5, u6, none] [] s = ab_at X (d + 31) 360 23 [some (.inr (14, 0)), some (.inr (0, 0)), some (.inr (9, 0)), some (.inr (15, 0)), some (.inl (.int (nI (k + 6)))), v5, v6, none] [] s2 := by
  obtain ⟨hKC, hGC, hHS, hL0, hLW, hWS, hPE, hm, hg6, hDR⟩ := id h
  have h10 : m ≤ 10 := hDR.1
  have hn := hKC.2.1
  have i_0 : (nI 0).toInt = 0 := by decide
  have i_3 : (nI 3).toInt = 3 := by decide
  have j_0 : (lN 0).toInt = 0 := by decide
  have j_3 : (lN 3).toInt = 3 := by decide
  by_cases h1 : inS (X.1 (k + 1)) 4 = true
  rotate_left
  · have cc : ab_ev X (d + 30) 148 [.inr (0, 0), .inl (.int (X.1 (k + 1))), .inl (.int (X.1 (k + 2))), .inr (15, 0)] s = some (.inl (some (.inl (.int (nI 1)))), ths s) := by
      rw [b148, b149, c_n150_1 h1, e_xA, e_px, e_xI]
      rfl
    have r : ab_ev X (d + 30) 309 [.inr (9, 0), .inl (.int (X.1 (k + 1))), .inl (.int (X.1 (k + 2)))] (ths s) = some (.inl (some (.inl (.int (nI 0)))), pz (ths s) 11 (nI 1)) := by
      rw [b309, r310_1 h1, e_bI, if_neg (show ¬ nI 1 = nI 0 by decide), if_neg (show ¬ nI 1 ≤ nI 0 by decide)]
    exact ⟨_, _, _, Or.inr (sV_pz (by omega)).X, w1535 hk hX cc r rfl (fun q => absurd q (by decide))⟩
  obtain ⟨j, hj, ej⟩ := inS_rep h1
  rcases hT.1 j hj with ⟨q1, q2⟩ | ⟨t, so, M, q1, q2, q3, q4, q5, q6, q7, q8, q9⟩
  · have cc : ab_ev X (d + 30) 148 [.inr (0, 0), .inl (.int (X.1 (k + 1))), .inl (.int (X.1 (k + 2))), .inr (15, 0)] s = some (.inl (some (.inl (.int (nI 2)))), ths s) := by
      rw [b148, b149, ej, c_n150_2 hj q1, e_xA, e_px, e_xI]
      rfl
    have r : ab_ev X (d + 30) 309 [.inr (9, 0), .inl (.int (X.1 (k + 1))), .inl (.int (X.1 (k + 2)))] (ths s) = some (.inl (some (.inl (.int (nI 0)))), pz (ths s) 11 (nI 2)) := by
      have q2' : sa (ths s) 22 j = -nI 1 := q2
      rw [b309, ej, r310_2 hj q2', e_bI, if_neg (show ¬ nI 2 = nI 0 by decide), if_neg (show ¬ nI 2 ≤ nI 0 by decide)]
    exact ⟨_, _, _, Or.inr (sV_pz (by omega)).X, w1535 hk hX cc r rfl (fun q => absurd q (by decide))⟩
  by_cases h2 : inR (X.1 (k + 2)).toInt 0 3 = true
  rotate_left
  · have cc : ab_ev X (d + 30) 148 [.inr (0, 0), .inl (.int (X.1 (k + 1))), .inl (.int (X.1 (k + 2))), .inr (15, 0)] s = some (.inl (some (.inl (.int (nI 3)))), ths s) := by
      rw [b148, b149, ej, c_n150_3 hj q1, e_bA, b149_5, c_n103, i_0, i_3, if_neg h2, e_xU, e_px, e_xI]
      rfl
    have r : ab_ev X (d + 30) 309 [.inr (9, 0), .inl (.int (X.1 (k + 1))), .inl (.int (X.1 (k + 2)))] (ths s) = some (.inl (some (.inl (.int (nI 0)))), pz (ths s) 11 (nI 3)) := by
      have q7' : sa (ths s) 22 j = nI so := q7
      rw [b309, ej, r310_3 hj q3 q7', e_bI, if_pos rfl, r232, j_of, j_0, j_3, if_neg h2, e_bI, if_pos rfl, pz2]
    exact ⟨_, _, _, Or.inr (sV_pz (by omega)).X, w1535 hk hX cc r rfl (fun q => absurd q (by decide))⟩
  obtain ⟨w, hw, ew⟩ := inS_rep (x := X.1 (k + 2)) (n := 4) (inS_def.mpr (by have := inR_iff.mp h2; omega))
  have hle : ldN n (sB s 0 t) M ≤ M := fst_le _ _
  obtain ⟨N, hN⟩ : ∃ N, N = ldN n (sB s 0 t) M := ⟨_, rfl⟩
  have hok : ∀ q, q < N → dok n (dd (sB s 0 t q)) := fun q hq => (dd_ok (ldN_ok (M := M) (by omega))).1
  have hL := l151 (X := X) (d := d + 27) (t := t) (M := M) hKC.1 hKC.2.1 q6 q4 N 0 (by omega)
  rw [← hN] at hL
  obtain ⟨sT, g0, hF, f, f0, f1, f2, f3, f4, f5, f6, f8⟩ := c_takeOver (X := X) (d := d + 25) (s := s) (i := 1) (j := 0) (ml := ml) (by omega) hLW.1 hLW.2.2.1
  have hW1 : CW sT 1 (sa s 8) n nr np hs ml m by' nm z st bm lo li := h.take f f0 f1 f2 f3 f4 f5 f6 f8
  have e11T : si sT 11 t = nI M := by rw [hF.2.2.2.2.2.2.2.2.2.1 11 (by omega)]; exact q6
  have eBT : sB sT = sB s := hF.2.2.2.2.2.1
  obtain ⟨s1, c1, c2, c3⟩ := l154 (X := X) (d := d + 22) (t := t) (M := M) (N := N) hW1 (by omega) e11T q4 (by omega) (fun q hq => by rw [eBT]; exact ldN_ok (M := M) (by omega)) N 0 sT none none none (by omega) (DF_refl _ _) hW1
  rw [eBT] at c1 c3
  have hg : ∀ q, q < n → inv (to_ nr z st bm by') n q < n := fun q hq => (inv_lt h.TW.to_lt h.TW.to_inj hq).1
  have hsg : ∀ q, q < ml → sA sT 6 1 q = sA s 6 0 q := f6
  obtain ⟨G1, G2, G3⟩ := gh_eq (ml := ml) (nm := nm) (sg := sA sT 6 1) (g := sa s 8) (D := fun q => dd (sB s 0 t q)) hn hg h10 N hok
  have hL1 : WL (sA sT 6 1) ml := WL_cong hLW.2.2.2.1 hsg
  have hL2 : LR (sA sT 6 1) (sa s 8) ml := fun q hq => by
    rw [hsg q hq]
    exact hLW.2.2.2.2 q hq
  obtain ⟨bsum, hbs⟩ : ∃ b, b = (hsq n (inv (to_ nr z st bm by') n) (sA sT 6 1) ml (fun q => dd (sB s 0 t q)) nm (sa s 8) N).2.2 := ⟨_, rfl⟩
  obtain ⟨nm', hnm'⟩ : ∃ b, b = (hsq n (inv (to_ nr z st bm by') n) (sA sT 6 1) ml (fun q => dd (sB s 0 t q)) nm (sa s 8) N).1 := ⟨_, rfl⟩
  rw [← G1, ← hnm'] at c3
  rw [← G3, ← hbs] at c1
  have c1' : ab_at X (d + 28) 154 6 [some (.inr (0, 0)), some (.inr (8, t)), some (.inl (.int (nI N))), some (.inr (2, 1)), some (.inl (.int (nI 0))), some (.inl (.int (nI 0))), none, none, none] [] sT = _ := c1
  have hL' : ab_at X (d + 28) 151 2 [some (.inr (0, 0)), some (.inr (8, t)), some (.inl (.int (nI 0)))] [] s = _ := hL
  have g0' : ab_ev X (d + 28) 80 [.inr (2, 1), .inr (2, 0)] s = _ := g0
  have hX1 : sX s s1 := by
    have a := hF.X
    have b := c2.X
    exact sX_trans a b
  obtain ⟨A, hA⟩ : ∃ A, A = jA (X.1 (k + 2)) (if N = M then -nI 1 else nI N) (if N = M then nI 0 else nI (trb n (sB s 0 t N))) (nI bsum) (nI (wrg nm' n)) := ⟨_, rfl⟩
  have e11 : si s1 11 t = nI M := c2.tray.2.1.trans e11T
  have eB1 : sB s1 = sB s := ((c2.tray (t := t)).2.2).trans eBT
  have cc : ab_ev X (d + 30) 148 [.inr (0, 0), .inl (.int (X.1 (k + 1))), .inl (.int (X.1 (k + 2))), .inr (15, 0)] s = some (.inl (some (.inl (.int (nI 0)))), pb s1 3 (va_up (sb s1 3) 0 A.toInt64)) := by
    have cN : si s1 1 0 = nI n := by rw [hX1.2.2.1 1 0 (by omega)]; exact hKC.1
    have cW : ab_ev X (d + 28) 7 [.inr (2, 1)] s1 = some (.inl (some (.inl (.int (nI (wrg nm' n))))), s1) := c_wrong c3.1.1 hn c3.TW.2.2.1 c3.TW.2.2.2.1
    have key : ∀ x6 : Nat, x6 = (if N = M then 1 else 0) → ab_at X (d + 29) 149 61 [some (.inr (0, 0)), some (.inl (.int (nI j))), some (.inl (.int (X.1 (k + 2)))), some (.inr (8, t)), some (.inl (.int (nI N))), some (.inl (.int (nI bsum))), some (.inl (.int (nI x6)))] [.inl (.int (X.1 (k + 2)))] s1 = some (.inl (some (.inl (.int A))), s1) := by
      intro x6 hx
      rw [b149_61, hA]
      unfold jA
      by_cases r0 : X.1 (k + 2) = nI 0
      · rw [if_pos r0, if_pos r0, b149_88]
        by_cases e : N = M
        · rw [if_pos e] at hx
          rw [hx, if_neg (show ¬ nI 1 = nI 0 by decide), if_pos e]
        · rw [if_neg e] at hx
          rw [hx, if_pos rfl, if_neg e]
      · rw [if_neg r0, if_neg r0]
        by_cases r1 : X.1 (k + 2) = nI 1
        · rw [if_pos r1, if_pos r1, b149_100]
          by_cases e : N = M
          · rw [if_pos e] at hx
            rw [hx, if_neg (show ¬ nI 1 = nI 0 by decide), if_pos e]
          · rw [if_neg e] at hx
            rw [hx, if_pos rfl, if_neg e, c_get e11 q4 (by omega), e_bJ, c_trouble cN hn, e_bI, eB1]
        · rw [if_neg r1, if_neg r1]
          by_cases r2 : X.1 (k + 2) = nI 2
          · rw [if_pos r2, if_pos r2, b149_123]
          · rw [if_neg r2, if_neg r2, b149_126, cW, e_bI]
    rw [b148, b149, ej, c_n150_3 hj q1, e_bA, b149_5, c_n103, i_0, i_3, if_pos h2, e_bU, b151, hL', e_bI, g0', e_bU, b154, c1', e_bI, e11]
    by_cases e : N = M
    · rw [if_pos (by rw [e]), key 1 (by rw [if_pos e]), e_bI]
    · rw [if_neg (fun z => e ((nI_eq (by omega) (by omega)).mp z)), key 0 (by rw [if_neg e]), e_bI]
  obtain ⟨sM, hsM⟩ : ∃ sM, sM = pz (pb s1 3 (va_up (sb s1 3) 0 A.toInt64)) 11 (nI 0) := ⟨_, rfl⟩
  obtain ⟨sP, hsP⟩ : ∃ sP, sP = pa sM 18 (fun q => if q < 123 then sa sM 8 (11 + q) else sa sM 18 q) := ⟨_, rfl⟩
  have e8M : sa sM 8 = sa s 8 := by rw [hsM]; exact hX1.2.2.2.1 8 (by omega)
  have e8 : sa sP 8 = sa s 8 := by
    rw [hsP]
    simp (disch := omega) only [E0]
    exact e8M
  have e18 : ∀ q, q < 123 → sa sP 18 q = sa s 8 (11 + q) := fun q hq => by
    rw [hsP]
    simp (disch := omega) only [E0]
    rw [if_pos hq, e8M]
  have eAP : ∀ q, 21 < q → sa sP q = sa s q := fun q hq => by
    rw [hsP, hsM]
    simp (disch := omega) only [E0]
    exact hX1.2.2.2.1 q (by omega)
  have eb2 : sb sP 2 = sb s 2 := by
    rw [hsP, hsM]
    show va_up (sb s1) 3 (va_up (sb s1 3) 0 A.toInt64) 2 = _
    rw [va_up_ne _ _ (by omega)]
    exact hX1.2.2.2.2.2.1
  have hRP : RW sP n nm nr z st bm by' := h.PW.1.2.same e8
  obtain ⟨t', l1, l2, l3, l4⟩ := l309 (X := X) (d := d + 23) (s := sP) (j := j) (M := M) (N := N) (x2 := X.1 (k + 2)) (y := sB s 0 t) (nm := nm) (g := sa s 8) (sg := sA sT 6 1) (z := z) (st := st) (bm := bm) (by' := by') (nr := nr) hj q4 (by rw [eAP 23 (by omega)]; exact q8) (fun q hq => by rw [eb2]; exact (q9 q hq).symm) hN hLW.2.2.1 hL1 e18 N 0 sP (by omega) (sE_refl _) rfl (by rw [e8]; rfl) hRP (by rw [e8]; exact hLW.2.1) (by rw [e8]; exact hL2)
  rw [← hbs, ← hnm', ← hA] at l1
  have r : ab_ev X (d + 30) 309 [.inr (9, 0), .inl (.int (X.1 (k + 1))), .inl (.int (X.1 (k + 2)))] (pb s1 3 (va_up (sb s1 3) 0 A.toInt64)) = some (.inl (some (.inl (.int A))), t') := by
    have e22 : sa (pb s1 3 (va_up (sb s1 3) 0 A.toInt64)) 22 j = nI so := by
      show sa s1 22 j = _
      rw [hX1.2.2.2.1 22 (by omega)]
      exact q7
    have l := l312 (X := X) (d := d + 29) (s := sM) (A0 := sa sM 18) 123 0 (sa sM 18) (by omega) (fun q => by rw [if_neg (by omega)])
    rw [pa_id, ← hsP] at l
    have e11z : sz sM 11 = nI 0 := by
      rw [hsM]
      simp (disch := omega) only [E0]
    rw [b309, ej, r310_3 hj q3 e22, e_bI, if_pos rfl, ← hsM, r232, j_of, j_0, j_3, if_pos h2, e_bI, if_neg (show ¬ nI 1 = nI 0 by decide), e11z, if_pos (show nI 0 ≤ nI 0 by decide), b312, l, e_bU]
    exact l1
  have e9 : sz t' 11 = nI 0 := by
    rw [l3, hsP, hsM]
    simp (disch := omega) only [E0]
  have e10 : sb t' 3 0 = A.toInt64 := by
    rw [l2.2.2.2.2.2.2.1, hsP, hsM]
    simp (disch := omega) only [E0]
    rw [va_up_self]
  have d2 : sX s1 sP := by
    rw [hsP, hsM]
    exact sX_trans (sX_pb (j := 3) (by omega)) (sX_trans (sX_pz (j := 11) (by omega)) (sX_pa (j := 18) (by omega)))
  have d1 : sX s t' := sX_trans hX1 (sX_trans d2 (l2.X (by rw [l4, e8])))
  exact ⟨t', _, _, Or.inl d1, w1535 hk hX cc r e9 (fun _ => e10)⟩
end JDG
