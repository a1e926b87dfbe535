/-! Whole calls on trays: tray, write. -/
theorem sh_at {y : Int64} {c : Nat} (hc : c < 64) (u : Int64) (hu : u = Int64.ofNat c) : ((y <<< u) >>> u).toBitVec = (y.toBitVec <<< c).sshiftRight c := by
  subst hu
  have e : (Int64.ofNat c).toBitVec.smod 64 = BitVec.ofNat 64 c := by
    have : ∀ c : Fin 64, (Int64.ofNat c.val).toBitVec.smod 64 = BitVec.ofNat 64 c.val := by decide
    exact this ⟨c, hc⟩
  rw [Int64.toBitVec_shiftRight, Int64.toBitVec_shiftLeft, e, BitVec.shiftLeft_eq']
  unfold BitVec.sshiftRight'
  rw [BitVec.toNat_ofNat, Nat.mod_eq_of_lt (show c < 2 ^ 64 by omega)]
theorem cut0 (y : Int64) : (y.toBitVec <<< 56).sshiftRight 56 = (y.toInt32.toInt8.toInt32.toInt64).toBitVec := by
  simp only [Int32.toBitVec_toInt64, Int8.toBitVec_toInt32, Int32.toBitVec_toInt8, Int64.toBitVec_toInt32]
  apply BitVec.eq_of_getLsbD_eq
  intro i hi
  simp only [BitVec.getLsbD_sshiftRight, BitVec.getLsbD_shiftLeft, BitVec.getLsbD_signExtend, BitVec.msb_eq_getLsbD_last]
  by_cases h1 : i < 8 <;> by_cases h2 : i < 32 <;> simp [hi, h1, h2, show 56 + i < 64 ↔ i < 8 by omega] <;> (first | omega | (rw [decide_eq_false (by omega), decide_eq_false (by omega)]; rfl) | skip)
theorem cut1 (y : Int64) : (y.toBitVec <<< 48).sshiftRight 48 = (y.toInt32.toInt16.toInt32.toInt64).toBitVec := by
  simp only [Int32.toBitVec_toInt64, Int16.toBitVec_toInt32, Int32.toBitVec_toInt16, Int64.toBitVec_toInt32]
  apply BitVec.eq_of_getLsbD_eq
  intro i hi
  simp only [BitVec.getLsbD_sshiftRight, BitVec.getLsbD_shiftLeft, BitVec.getLsbD_signExtend, BitVec.msb_eq_getLsbD_last]
  by_cases h1 : i < 16 <;> by_cases h2 : i < 32 <;> simp [hi, h1, h2, show 48 + i < 64 ↔ i < 16 by omega] <;> (first | omega | (rw [decide_eq_false (by omega), decide_eq_false (by omega)]; rfl) | skip)
theorem cut2 (y : Int64) : (y.toBitVec <<< 32).sshiftRight 32 = (y.toInt32.toInt64).toBitVec := by
  simp only [Int32.toBitVec_toInt64, Int64.toBitVec_toInt32]
  apply BitVec.eq_of_getLsbD_eq
  intro i hi
  simp only [BitVec.getLsbD_sshiftRight, BitVec.getLsbD_shiftLeft, BitVec.getLsbD_signExtend, BitVec.msb_eq_getLsbD_last]
  by_cases h2 : i < 32 <;> simp [hi, h2, show 32 + i < 64 ↔ i < 32 by omega] <;> (first | omega | (rw [decide_eq_false (by omega), decide_eq_false (by omega)]; rfl) | skip)
theorem cut_eq {so : Nat} (h : so < 4) (y : Int64) : (y <<< (((nI 64) - ((nI 8) <<< ((nI so) &&& 31))).toInt64 &&& 63)) >>> (((nI 64) - ((nI 8) <<< ((nI so) &&& 31))).toInt64 &&& 63) = ctv (nI so) y := by
  have h4 : so = 0 ∨ so = 1 ∨ so = 2 ∨ so = 3 := by omega
  apply Int64.toBitVec_inj.mp
  rcases h4 with rfl | rfl | rfl | rfl
  · rw [sh_at (c := 56) (by omega) _ (by decide)]
    exact cut0 y
  · rw [sh_at (c := 48) (by omega) _ (by decide)]
    exact cut1 y
  · rw [sh_at (c := 32) (by omega) _ (by decide)]
    exact cut2 y
  · rw [sh_at (c := 0) (by omega) _ (by decide)]
    show _ = y.toBitVec
    simp
/-- but for trays two stores are one -/
def sK (s s' : ab_S) : Prop := (∀ k, k ≠ 8 → k ≠ 9 → k ≠ 11 → k ≠ 23 → sz s' k = sz s k) ∧ st s' = st s ∧ (∀ k, k < 10 → si s' k = si s k) ∧ (∀ k, k = 0 ∨ (7 < k ∧ k < 13) → sa s' k = sa s k) ∧ sA s' = sA s ∧ sq s' 1 = sq s 1 ∧ sn s' 2 = sn s 2 ∧ sn s' 0 ≤ sn s 0 + 2 ∧ sn s' 1 ≤ sn s 1 + 33
/-- the row behind a tray emptied -/
def emF (G : Nat → Int64) (j : Nat) : Nat → Int64 := fun q => if 30 * j ≤ q ∧ q < 30 * j + 30 then lN 0 else G q
/-- the store behind a tray emptied by both -/
def emS (u : ab_S) (j t so m : Nat) (F : Nat → Int64) : ab_S := pb (pa (pa (pz (wB (wi (wi u 10 t (nI so)) 11 t (nI m)) 0 t F) 11 (nI 0)) 22 (va_up (sa u 22) j (nI so))) 23 (va_up (sa u 23) j (nI m))) 2 (emF (sb u 2) j)
theorem em_end {s u : ab_S} {j t so m : Nat} {F : Nat → Int64} (hT : TR s) (hj : j < 4) (hso : so < 4) (hm : m ≤ 30) (hF : ∀ q, q < 30 → F q = lN 0) (h1 : sz u = sz s) (h2 : st u = st s) (h3 : ∀ k i, k < 10 ∨ i ≠ t → si u k i = si s k i) (h4 : sa u = sa s) (h5 : sA u = sA s) (h6 : sb u = sb s) (h7 : ∀ i, i ≠ t → sB u 0 i = sB s 0 i) (h8 : sq u 1 = sq s 1) (h9 : sq u 0 = va_up (sq s 0) j (some t)) (hA : sn u 2 = sn s 2) (hB : sn u 0 ≤ sn s 0 + 2) (hC : sn u 1 ≤ sn s 1 + 33) (hD : t < sn u 3) (hE : sn s 3 ≤ sn u 3) (hU : ∀ j', j' < 4 → j' ≠ j → sq s 0 j' ≠ some t) : sK s (emS u j t so m F) ∧ TR (emS u j t so m F) := by
  obtain ⟨w, hw⟩ : ∃ w, w = emS u j t so m F := ⟨_, rfl⟩
  have a1 : sq w = sq u := by rw [hw]; unfold emS; simp (disch := omega) only [E0]
  have a2 : sn w = sn u := by rw [hw]; unfold emS; simp (disch := omega) only [E0]
  have a3 : sa w 22 = va_up (sa s 22) j (nI so) := by rw [hw]; unfold emS; simp (disch := omega) only [E0]; rw [h4]
  have a4 : sa w 23 = va_up (sa s 23) j (nI m) := by rw [hw]; unfold emS; simp (disch := omega) only [E0]; rw [h4]
  have a5 : ∀ i, i ≠ t → si w 10 i = si s 10 i := fun i hi => by rw [hw]; unfold emS; simp (disch := omega) only [E0]; exact h3 _ _ (Or.inr hi)
  have a6 : ∀ i, i ≠ t → si w 11 i = si s 11 i := fun i hi => by rw [hw]; unfold emS; simp (disch := omega) only [E0]; exact h3 _ _ (Or.inr hi)
  have a7 : si w 10 t = nI so := by rw [hw]; unfold emS; simp (disch := omega) only [E0]
  have a8 : si w 11 t = nI m := by rw [hw]; unfold emS; simp (disch := omega) only [E0]
  have a9 : ∀ i, i ≠ t → sB w 0 i = sB s 0 i := fun i hi => by rw [hw]; unfold emS; simp (disch := omega) only [E0]; exact h7 i hi
  have b1 : sB w 0 t = F := by rw [hw]; unfold emS; simp (disch := omega) only [E0]
  have b2 : sb w 2 = emF (sb s 2) j := by rw [hw]; unfold emS; simp (disch := omega) only [E0]; rw [h6]
  rw [← hw]
  refine ⟨⟨fun k k1 k2 k3 k4 => ?_, ?_, fun k hk => ?_, fun k hk => ?_, ?_, ?_, ?_, ?_, ?_⟩, fun j' hj' => ?_, fun i i' t' hi hi' e e' => ?_⟩
  · rw [hw]
    unfold emS
    simp (disch := omega) only [E0]
    rw [h1]
  · rw [hw]
    unfold emS
    simp (disch := omega) only [E0]
    exact h2
  · rw [hw]
    unfold emS
    simp (disch := omega) only [E0]
    exact funext fun i => h3 k i (Or.inl hk)
  · rw [hw]
    unfold emS
    simp (disch := omega) only [E0]
    rw [h4]
  · rw [hw]
    unfold emS
    simp (disch := omega) only [E0]
    exact h5
  · rw [a1]
    exact h8
  · rw [a2]
    exact hA
  · rw [a2]
    exact hB
  · rw [a2]
    exact hC
  · by_cases e : j' = j
    · rw [e]
      refine Or.inr ⟨t, so, m, by rw [a1, h9, va_up_self], by rw [a2]; exact hD, hso, hm, a7, a8, by rw [a3, va_up_self], by rw [a4, va_up_self], fun q hq => ?_⟩
      rw [b1, hF q hq, b2]
      unfold emF
      rw [if_pos (by omega)]
    · rcases hT.1 j' hj' with ⟨q1, q2⟩ | ⟨t', so', m', q1, q2, q3, q4, q5, q6, q7, q8, q9⟩
      · exact Or.inl ⟨by rw [a1, h9, va_up_ne _ _ e]; exact q1, by rw [a3, va_up_ne _ _ e]; exact q2⟩
      · have et : t' ≠ t := fun z => hU j' hj' e (by rw [q1, z])
        refine Or.inr ⟨t', so', m', by rw [a1, h9, va_up_ne _ _ e]; exact q1, by rw [a2]; omega, q3, q4, (a5 t' et).trans q5, (a6 t' et).trans q6, by rw [a3, va_up_ne _ _ e]; exact q7, by rw [a4, va_up_ne _ _ e]; exact q8, fun q hq => ?_⟩
        rw [a9 t' et, q9 q hq, b2]
        unfold emF
        rw [if_neg (by omega)]
  · rw [a1, h9] at e e'
    by_cases z : i = j
    · by_cases z' : i' = j
      · rw [z, z']
      · rw [z, va_up_self] at e
        rw [va_up_ne _ _ z'] at e'
        exact absurd (e'.trans e.symm) (hU i' hi' z')
    · rw [va_up_ne _ _ z] at e
      by_cases z' : i' = j
      · rw [z', va_up_self] at e'
        exact absurd (e.trans e'.symm) (hU i hi z)
      · rw [va_up_ne _ _ z'] at e'
        exact hT.2 i i' t' hi hi' e e'
theorem pb_self {v : ab_S} {G : Nat → Int64} {k : Nat} (h : sb v k = G) : pb v k G = v := by
  rw [← h]
  exact pb_id v k
theorem e_oqN {A : ab_R} {f : Nat → ab_R} : ab_oq none A f = A := rfl
theorem e_oqS {A : ab_R} {f : Nat → ab_R} {t : Nat} : ab_oq (some t) A f = f t := rfl
theorem newR_eq (s : ab_S) : ab_newR s = pn (pn (pn (wi (wi (wB s 0 (sn s 3) (fun _ => 0)) 10 (sn s 3) 0) 11 (sn s 3) 0) 0 (sn s 0 + 2)) 1 (sn s 1 + 33)) 3 (sn s 3 + 1) := rfl
section TRA
variable {X : (Nat → Int32) × Nat} {d k n nr bm np hs ml : Nat} {u5 u6 : Option ab_V} {s : ab_S} {nm z f g lo li : Nat → Nat} {st : Nat → Nat → Nat} {by' : Nat → Int32}
theorem l353 {j : Nat} {x2 x3 : Int32} (hj : j < 4) {G0 : Nat → Int64} : ∀ (i c : Nat) (G : Nat → Int64), c + i = 30 → (∀ q, G q = if 30 * j ≤ q ∧ q < 30 * j + c then lN 0 else G0 q) → ab_at X (d + 1) 353 69 [some (.inr (9, 0)), some (.inl (.int (nI j))), some (.inl (.int x2)), some (.inl (.int x3)), some (.inl (.int (nI c)))] [] (pb s 2 G) = some (.inl none, pb s 2 (emF G0 j))
  | 0, c, G, e, hG => by
    obtain rfl : c = 30 := by omega
    have eG : G = emF G0 j := funext fun q => by
      rw [hG q]
      unfold emF
      rfl
    rw [b353_69, if_pos (nI_le (Nat.le_refl _) (by omega)), eG]
  | i + 1, c, G, e, hG => by
    rw [b353_69, if_neg (nI_ge (by omega) (by omega)), pk_mul, nI_add, r_in (j := 30 * j + c) (by omega) (by decide), nI_clamp (by omega), nI_add]
    simp (disch := omega) only [E0, E1]
    refine l353 hj i (c + 1) _ (by omega) (fun q => ?_)
    by_cases e1 : q = 30 * j + c
    · rw [e1, va_up_self, if_pos (by omega)]
    · rw [va_up_ne _ _ e1, hG q]
      by_cases e2 : 30 * j ≤ q ∧ q < 30 * j + c
      · rw [if_pos e2, if_pos (by omega)]
      · rw [if_neg e2, if_neg (by omega)]
theorem o216 (hT : TR s) (hk : k + 5 < X.2) (hX : X.2 < 2 ^ 31) : ∃ (s2 : ab_S) (v5 v6 : Option ab_V), (sY s s2 ∨ (sK s s2 ∧ TR s2)) ∧ ab_at X (d + 31) 360 2887 [some (.inr (14, 0)), some (.inr (0, 0)), some (.inr (9, 0)), some (.inr (15, 0)), some (.inl (.int (nI k))), u5, u6, none] [] s = ab_at X (d + 31) 360 23 [some (.inr (14, 0)), some (.inr (0, 0)), some (.inr (9, 0)), some (.inr (15, 0)), some (.inl (.int (nI (k + 6)))), v5, v6, none] [] s2 := by
  have i_0 : (nI 0).toInt = 0 := by decide
  have i_3 : (nI 3).toInt = 3 := by decide
  have i_30 : (nI 30).toInt = 30 := by decide
  have j_0 : (lN 0).toInt = 0 := by decide
  have j_3 : (lN 3).toInt = 3 := by decide
  have j_30 : (lN 30).toInt = 30 := by decide
  by_cases h1 : inS (X.1 (k + 1)) 4 = true
  rotate_left
  · have cc : ab_ev X (d + 30) 216 [.inr (0, 0), .inl (.int (X.1 (k + 1))), .inl (.int (X.1 (k + 2))), .inl (.int (X.1 (k + 3)))] s = some (.inl (some (.inl (.int (nI 1)))), ths s) := by
      have e : ab_ev X (d + 29) 217 [.inr (0, 0), .inl (.int (X.1 (k + 1))), .inl (.int (X.1 (k + 2))), .inl (.int (X.1 (k + 3)))] s = some (.inr 1, ths s) := by
        rw [b217]
        by_cases q : X.1 (k + 1) < nI 0
        · rw [if_pos q]
          rfl
        · rw [if_neg q]
          by_cases q2 : X.1 (k + 1) < nI 4
          · refine absurd (inS_def.mpr ⟨?_, ?_⟩) h1
            · have : ¬ (X.1 (k + 1)).toInt < 0 := fun z => q (Int32.lt_iff_toInt_lt.mpr (by rw [i_0]; exact z))
              omega
            · have := Int32.lt_iff_toInt_lt.mp q2
              have e4 : (nI 4).toInt = 4 := by decide
              rw [e4] at this
              omega
          · rw [if_neg q2]
            rfl
      rw [b216, e, e_xU]
      rfl
    have r : ab_ev X (d + 30) 353 [.inr (9, 0), .inl (.int (X.1 (k + 1))), .inl (.int (X.1 (k + 2))), .inl (.int (X.1 (k + 3)))] (ths s) = some (.inl none, pz (ths s) 11 (nI 1)) := by
      rw [b353, r311, if_neg h1, e_bI, if_pos rfl]
    exact ⟨_, _, _, Or.inl (Or.inr (sV_pz (by omega)).X), w2887 hk hX cc r rfl⟩
  obtain ⟨j, hj, ej⟩ := inS_rep h1
  have p1 : ¬ nI j < nI 0 := n_nlt0 (by omega)
  have p2 : nI j < nI 4 := nI_lt (by omega) (by omega)
  have p3 : ¬ (nI j < nI 0 ∨ 4 ≤ (nI j).toNatClampNeg) := n_in (by omega) (by omega)
  have p4 : (nI j).toNatClampNeg = j := nI_clamp (by omega)
  rw [p4] at p3
  by_cases h2 : inR (X.1 (k + 2)).toInt 0 3 = true
  rotate_left
  · have cc : ab_ev X (d + 30) 216 [.inr (0, 0), .inl (.int (X.1 (k + 1))), .inl (.int (X.1 (k + 2))), .inl (.int (X.1 (k + 3)))] s = some (.inl (some (.inl (.int (nI 2)))), ths s) := by
      rw [b216, b217, ej, if_neg p1, if_pos p2, c_n103, i_0, i_3, if_neg h2, e_xU, e_px, e_xU]
      rfl
    have r : ab_ev X (d + 30) 353 [.inr (9, 0), .inl (.int (X.1 (k + 1))), .inl (.int (X.1 (k + 2))), .inl (.int (X.1 (k + 3)))] (ths s) = some (.inl none, pz (ths s) 11 (nI 2)) := by
      rw [b353, r311, if_pos h1, e_bI, if_neg (show ¬ nI 1 = nI 0 by decide), r232, j_of, j_0, j_3, if_neg h2, e_bI, if_pos rfl]
    exact ⟨_, _, _, Or.inl (Or.inr (sV_pz (by omega)).X), w2887 hk hX cc r rfl⟩
  by_cases h3 : inR (X.1 (k + 3)).toInt 0 30 = true
  rotate_left
  · have cc : ab_ev X (d + 30) 216 [.inr (0, 0), .inl (.int (X.1 (k + 1))), .inl (.int (X.1 (k + 2))), .inl (.int (X.1 (k + 3)))] s = some (.inl (some (.inl (.int (nI 2)))), ths s) := by
      rw [b216, b217, ej, if_neg p1, if_pos p2, c_n103, i_0, i_3, if_pos h2, e_bU, c_n103, i_0, i_30, if_neg h3, e_xU, e_px, e_xU]
      rfl
    have r : ab_ev X (d + 30) 353 [.inr (9, 0), .inl (.int (X.1 (k + 1))), .inl (.int (X.1 (k + 2))), .inl (.int (X.1 (k + 3)))] (ths s) = some (.inl none, pz (ths s) 11 (nI 2)) := by
      rw [b353, r311, if_pos h1, e_bI, if_neg (show ¬ nI 1 = nI 0 by decide), r232, j_of, j_0, j_3, if_pos h2, e_bI, if_neg (show ¬ nI 1 = nI 0 by decide), r232, j_of, j_0, j_30, if_neg h3, e_bI, if_pos rfl]
    exact ⟨_, _, _, Or.inl (Or.inr (sV_pz (by omega)).X), w2887 hk hX cc r rfl⟩
  obtain ⟨so, hso, eso⟩ := inS_rep (x := X.1 (k + 2)) (n := 4) (inS_def.mpr (by have := inR_iff.mp h2; omega))
  obtain ⟨m, hm, em⟩ := inS_rep (x := X.1 (k + 3)) (n := 31) (inS_def.mpr (by have := inR_iff.mp h3; omega))
  have fin : ∀ (u : ab_S) (t : Nat) (F : Nat → Int64), ab_ev X (d + 30) 216 [.inr (0, 0), .inl (.int (X.1 (k + 1))), .inl (.int (X.1 (k + 2))), .inl (.int (X.1 (k + 3)))] s = some (.inl (some (.inl (.int (nI 0)))), wB (wi (wi u 10 t (nI so)) 11 t (nI m)) 0 t F) → sa u = sa s → sb u = sb s → (sK s (emS u j t so m F) ∧ TR (emS u j t so m F)) → ∃ (s2 : ab_S) (v5 v6 : Option ab_V), (sY s s2 ∨ (sK s s2 ∧ TR s2)) ∧ ab_at X (d + 31) 360 2887 [some (.inr (14, 0)), some (.inr (0, 0)), some (.inr (9, 0)), some (.inr (15, 0)), some (.inl (.int (nI k))), u5, u6, none] [] s = ab_at X (d + 31) 360 23 [some (.inr (14, 0)), some (.inr (0, 0)), some (.inr (9, 0)), some (.inr (15, 0)), some (.inl (.int (nI (k + 6)))), v5, v6, none] [] s2 := by
    intro u t F cc ea eb hE
    have r : ab_ev X (d + 30) 353 [.inr (9, 0), .inl (.int (X.1 (k + 1))), .inl (.int (X.1 (k + 2))), .inl (.int (X.1 (k + 3)))] (wB (wi (wi u 10 t (nI so)) 11 t (nI m)) 0 t F) = some (.inl none, emS u j t so m F) := by
      rw [b353, r311, if_pos h1, e_bI, if_neg (show ¬ nI 1 = nI 0 by decide), r232, j_of, j_0, j_3, if_pos h2, e_bI, if_neg (show ¬ nI 1 = nI 0 by decide), r232, j_of, j_0, j_30, if_pos h3, e_bI, if_neg (show ¬ nI 1 = nI 0 by decide), ej, p4, if_neg p3, if_neg p3, eso, em]
      have l := l353 (X := X) (d := d + 29) (j := j) (x2 := nI so) (x3 := nI m) (s := pa (pa (pz (wB (wi (wi u 10 t (nI so)) 11 t (nI m)) 0 t F) 11 (nI 0)) 22 (va_up (sa u 22) j (nI so))) 23 (va_up (sa u 23) j (nI m))) (G0 := sb u 2) hj 30 0 (sb u 2) (by omega) (fun q => by rw [if_neg (by omega)])
      rw [pb_self (v := pa (pa (pz (wB (wi (wi u 10 t (nI so)) 11 t (nI m)) 0 t F) 11 (nI 0)) 22 (va_up (sa u 22) j (nI so))) 23 (va_up (sa u 23) j (nI m))) (k := 2) (G := sb u 2) rfl] at l
      exact l
    exact ⟨_, _, _, Or.inr hE, w2887 hk hX cc r rfl⟩
  rcases hT.1 j hj with ⟨q1, q2⟩ | ⟨t, so', m', q1, q2, q3, q4, q5, q6, q7, q8, q9⟩
  · obtain ⟨u, hu⟩ : ∃ u, u = pq (ab_newR s) 0 (va_up (sq (ab_newR s) 0) j (some (sn s 3))) := ⟨_, rfl⟩
    obtain ⟨F, f1, f2⟩ := c_empty (X := X) (d := d + 27) (i := sn s 3) (s := u) (so := nI so) (z := m) (by omega)
    refine fin u (sn s 3) F ?_ ?_ ?_ ?_
    · rw [b216, b217, ej, if_neg p1, if_pos p2, c_n103, i_0, i_3, if_pos h2, e_bU, c_n103, i_0, i_30, if_pos h3, e_bU, p4, if_neg p3, q1, eso, em]
      rw [e_oqN, if_neg p3, ← hu, f1, e_bU, e_bU]
    · rw [hu]
      rfl
    · rw [hu]
      rfl
    · refine em_end hT hj hso (by omega) f2 ?_ ?_ ?_ ?_ ?_ ?_ ?_ ?_ ?_ ?_ ?_ ?_ ?_ ?_ ?_
      · rw [hu]
        rfl
      · rw [hu]
        rfl
      · intro k i hki
        rw [hu]
        rw [newR_eq]
        by_cases e10 : k = 10
        · rw [e10]
          simp (disch := omega) only [E0]
        · by_cases e11 : k = 11
          · rw [e11]
            simp (disch := omega) only [E0]
          · simp (disch := omega) only [E0]
      · rw [hu]
        rfl
      · rw [hu]
        rfl
      · rw [hu]
        rfl
      · intro i hi
        rw [hu]
        rw [newR_eq]
        simp (disch := omega) only [E0]
      · rw [hu]
        rfl
      · rw [hu]
        rfl
      · rw [hu]
        rw [newR_eq]
        simp (disch := omega) only [E0]
      · rw [hu]
        rw [newR_eq]
        simp (disch := omega) only [E0]; omega
      · rw [hu]
        rw [newR_eq]
        simp (disch := omega) only [E0]; omega
      · rw [hu]
        rw [newR_eq]
        simp (disch := omega) only [E0]; omega
      · rw [hu]
        rw [newR_eq]
        simp (disch := omega) only [E0]; omega
      · intro j' hj' e e2
        rcases hT.1 j' hj' with ⟨q1, q2⟩ | ⟨t, so', m', q1, q2, q3, q4, q5, q6, q7, q8, q9⟩
        · rw [q1] at e2
          cases e2
        · rw [q1] at e2
          cases e2
          omega
  · obtain ⟨F, f1, f2⟩ := c_empty (X := X) (d := d + 27) (i := t) (s := s) (so := nI so) (z := m) (by omega)
    refine fin s t F ?_ rfl rfl ?_
    · rw [b216, b217, ej, if_neg p1, if_pos p2, c_n103, i_0, i_3, if_pos h2, e_bU, c_n103, i_0, i_30, if_pos h3, e_bU, p4, if_neg p3, q1, eso, em, e_oqS, f1, e_bU, e_bU]
    · refine em_end hT hj hso (by omega) f2 rfl rfl (fun _ _ _ => rfl) rfl rfl rfl (fun _ _ => rfl) rfl ?_ rfl (by omega) (by omega) q2 (by omega) (fun j' hj' e e2 => e (hT.2 j' j t hj' hj e2 q1))
      exact funext fun q => by
        by_cases e : q = j
        · rw [e, va_up_self, q1]
        · rw [va_up_ne _ _ e]
end TRA
