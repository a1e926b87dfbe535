/-! Whole calls on trays: write, copy. -/
theorem TR_wr {s w : ab_S} {j t : Nat} {F G : Nat → Int64} (hT : TR s) (hj : j < 4) (hq : sq s 0 j = some t) (h1 : sq w 0 = sq s 0) (h2 : sn w 3 = sn s 3) (h3 : si w 10 = si s 10) (h4 : si w 11 = si s 11) (h5 : sa w 22 = sa s 22) (h6 : sa w 23 = sa s 23) (h7 : ∀ i, i ≠ t → sB w 0 i = sB s 0 i) (h8 : sB w 0 t = F) (h9 : sb w 2 = G) (hF : ∀ q, q < 30 → F q = G (30 * j + q)) (hG : ∀ q, ¬ (30 * j ≤ q ∧ q < 30 * j + 30) → G q = sb s 2 q) : TR w := by
  refine ⟨fun j' hj' => ?_, by rw [h1]; exact hT.2⟩
  rcases hT.1 j' hj' with ⟨q1, q2⟩ | ⟨t', so', m', q1, q2, q3, q4, q5, q6, q7, q8, q9⟩
  · exact Or.inl ⟨by rw [h1]; exact q1, by rw [h5]; exact q2⟩
  · refine Or.inr ⟨t', so', m', by rw [h1]; exact q1, by rw [h2]; exact q2, q3, q4, by rw [h3]; exact q5, by rw [h4]; exact q6, by rw [h5]; exact q7, by rw [h6]; exact q8, fun q hq' => ?_⟩
    by_cases e : t' = t
    · have ej : j' = j := hT.2 j' j t hj' hj (by rw [q1, e]) hq
      rw [e, h8, hF q hq', h9, ej]
    · have ej : j' ≠ j := fun z => e (by rw [z, hq] at q1; cases q1; rfl)
      rw [h7 t' e, q9 q hq', h9, hG _ (by omega)]
theorem sK_refl (s : ab_S) : sK s s := ⟨fun _ _ _ _ _ => rfl, rfl, fun _ _ => rfl, fun _ _ => rfl, rfl, rfl, rfl, Nat.le_add_right _ _, Nat.le_add_right _ _⟩
section TRB
variable {X : (Nat → Int32) × Nat} {d k n nr bm np hs ml : Nat} {u5 u6 : Option ab_V} {s : ab_S} {nm z f g lo li : Nat → Nat} {st : Nat → Nat → Nat} {by' : Nat → Int32}
theorem r355 {j i so : Nat} {y : Int64} (hj : j < 4) (hi : i < 30) (hso : so < 4) (h22 : sa s 22 j = nI so) : ab_ev X d 355 [.inr (9, 0), .inl (.int (nI j)), .inl (.int (nI i)), .inl (.long y)] s = some (.inl (some (.inl (.long (ctv (nI so) y)))), pb s 2 (va_up (sb s 2) (30 * j + i) (ctv (nI so) y))) := by
  rw [b355, r_in (j := j) (by omega) (by decide), pk_mul, nI_add, r_in (j := 30 * j + i) (by omega) (by decide), nI_clamp (by omega), nI_clamp (by omega), h22, cut_eq hso, r_inc (by omega) (by decide), va_up_self]
theorem o219 (hT : TR s) (hk : k + 5 < X.2) (hX : X.2 < 2 ^ 31) : ∃ (s2 : ab_S) (v5 v6 : Option ab_V), (sY s s2 ∨ (sK s s2 ∧ TR s2)) ∧ ab_at X (d + 31) 360 2947 [some (.inr (14, 0)), some (.inr (0, 0)), some (.inr (9, 0)), some (.inr (15, 0)), some (.inl (.int (nI k))), u5, u6, none] [] s = ab_at X (d + 31) 360 23 [some (.inr (14, 0)), some (.inr (0, 0)), some (.inr (9, 0)), some (.inr (15, 0)), some (.inl (.int (nI (k + 6)))), v5, v6, none] [] s2 := by
  obtain ⟨y, hy⟩ : ∃ y, y = ((((X.1 (k + 3)).toInt64) <<< ((nI 32).toInt64 &&& 63)) ||| (((X.1 (k + 4)).toInt64) &&& (lN 4294967295))) := ⟨_, rfl⟩
  have w := fun (v : Int32) (b : Int64) (s1 s2 : ab_S) => w2947 (X := X) (d := d + 30) (k := k) (u5 := u5) (u6 := u6) (s := s) (s1 := s1) (s2 := s2) (v := v) (b := b) hk hX
  rw [← hy] at w
  by_cases h1 : inS (X.1 (k + 1)) 4 = true
  rotate_left
  · have cc : ab_ev X (d + 30) 219 [.inr (0, 0), .inl (.int (X.1 (k + 1))), .inl (.int (X.1 (k + 2))), .inl (.long y), .inr (15, 0)] s = some (.inl (some (.inl (.int (nI 1)))), ths s) := by
      rw [b219, b220, c_n150_1 h1, e_xA, e_px, e_xJ]
      rfl
    have r : ab_ev X (d + 30) 354 [.inr (9, 0), .inl (.int (X.1 (k + 1))), .inl (.int (X.1 (k + 2))), .inl (.long y)] (ths s) = some (.inl (some (.inl (.long (lN 0)))), pz (ths s) 11 (nI 1)) := by
      rw [b354, r310_1 h1, e_bI, if_neg (show ¬ nI 1 ≤ nI 0 by decide)]
    exact ⟨_, _, _, Or.inl (Or.inr (sV_pz (by omega)).X), w _ _ _ _ cc r rfl (fun q => absurd q (by decide))⟩
  obtain ⟨j, hj, ej⟩ := inS_rep h1
  rcases hT.1 j hj with ⟨q1, q2⟩ | ⟨t, so, m, q1, q2, q3, q4, q5, q6, q7, q8, q9⟩
  · have cc : ab_ev X (d + 30) 219 [.inr (0, 0), .inl (.int (X.1 (k + 1))), .inl (.int (X.1 (k + 2))), .inl (.long y), .inr (15, 0)] s = some (.inl (some (.inl (.int (nI 2)))), ths s) := by
      rw [b219, b220, ej, c_n150_2 hj q1, e_xA, e_px, e_xJ]
      rfl
    have r : ab_ev X (d + 30) 354 [.inr (9, 0), .inl (.int (X.1 (k + 1))), .inl (.int (X.1 (k + 2))), .inl (.long y)] (ths s) = some (.inl (some (.inl (.long (lN 0)))), pz (ths s) 11 (nI 2)) := by
      have q2' : sa (ths s) 22 j = -nI 1 := q2
      rw [b354, ej, r310_2 hj q2', e_bI, if_neg (show ¬ nI 2 ≤ nI 0 by decide)]
    exact ⟨_, _, _, Or.inl (Or.inr (sV_pz (by omega)).X), w _ _ _ _ cc r rfl (fun q => absurd q (by decide))⟩
  have j_0 : (lN 0).toInt = 0 := by decide
  by_cases h2 : inS (X.1 (k + 2)) m = true
  rotate_left
  · have cc : ab_ev X (d + 30) 219 [.inr (0, 0), .inl (.int (X.1 (k + 1))), .inl (.int (X.1 (k + 2))), .inl (.long y), .inr (15, 0)] s = some (.inl (some (.inl (.int (nI 3)))), ths s) := by
      have e : ab_at X (d + 29) 220 5 [some (.inr (0, 0)), some (.inl (.int (nI j))), some (.inl (.int (X.1 (k + 2)))), some (.inl (.long y)), none, none] [.inr (8, t)] s = some (.inr 3, ths s) := by
        rw [b220_5, q6]
        by_cases q : X.1 (k + 2) < nI 0
        · rw [if_pos q]
          rfl
        · rw [if_neg q]
          by_cases q2 : X.1 (k + 2) < nI m
          · refine absurd (inS_def.mpr ⟨?_, ?_⟩) h2
            · have i_0 : (nI 0).toInt = 0 := by decide
              have : ¬ (X.1 (k + 2)).toInt < 0 := fun z => q (Int32.lt_iff_toInt_lt.mpr (by rw [i_0]; exact z))
              omega
            · have := Int32.lt_iff_toInt_lt.mp q2
              rw [nI_toInt (by omega)] at this
              exact this
          · rw [if_neg q2]
            rfl
      rw [b219, b220, ej, c_n150_3 hj q1, e_bA, e, e_xJ]
      rfl
    have r : ab_ev X (d + 30) 354 [.inr (9, 0), .inl (.int (X.1 (k + 1))), .inl (.int (X.1 (k + 2))), .inl (.long y)] (ths s) = some (.inl (some (.inl (.long (nI 0).toInt64))), pz (ths s) 11 (nI 3)) := by
      have q7' : sa (ths s) 22 j = nI so := q7
      have q8' : sa (pz (ths s) 11 (nI 0)) 23 j = nI m := q8
      have h2' : ¬ inR (X.1 (k + 2)).toInt 0 ((m : Int) - 1) = true := fun z => h2 (inS_def.mpr (by have := inR_iff.mp z; omega))
      rw [b354, ej, r310_3 hj q3 q7', e_bI, if_pos (show nI 0 ≤ nI 0 by decide), r_in hj (by decide), nI_clamp (by omega)]
      rw [show sa (ths s) 23 j = nI m from q8, r232, j_of, j_of, j_0, n_pred (by omega), if_neg h2', e_bI, if_pos rfl, b233, e_bI, pz2]
    exact ⟨_, _, _, Or.inl (Or.inr (sV_pz (by omega)).X), w _ _ _ _ cc r rfl (fun q => absurd q (by decide))⟩
  obtain ⟨i, hi, ei⟩ := inS_rep h2
  obtain ⟨v, hv⟩ : ∃ v, v = ctv (nI so) y := ⟨_, rfl⟩
  obtain ⟨s1, hs1⟩ : ∃ s1, s1 = pb (wB s 0 t (va_up (sB s 0 t) i v)) 3 (va_up (sb s 3) 0 v) := ⟨_, rfl⟩
  have cc : ab_ev X (d + 30) 219 [.inr (0, 0), .inl (.int (X.1 (k + 1))), .inl (.int (X.1 (k + 2))), .inl (.long y), .inr (15, 0)] s = some (.inl (some (.inl (.int (nI 0)))), s1) := by
    have g : ab_ev X (d + 28) 152 [.inr (8, t), .inl (.int (nI i))] (wB s 0 t (va_up (sB s 0 t) i v)) = some (.inl (some (.inl (.long v))), wB s 0 t (va_up (sB s 0 t) i v)) := by
      rw [c_get (s := wB s 0 t (va_up (sB s 0 t) i v)) (z := m) q6 q4 hi]
      simp (disch := omega) only [E0]
      rw [va_up_self]
    rw [b219, b220, ej, c_n150_3 hj q1, e_bA, b220_5, q6, ei, if_neg (n_nlt0 (by omega)), if_pos (nI_lt hi (by omega)), c_set q6 q4 hi, e_bU, q5, ← hv, g, e_bJ, e_bJ, hs1]
    rfl
  obtain ⟨s2, hs2⟩ : ∃ s2, s2 = pb (pz s1 11 (nI 0)) 2 (va_up (sb s 2) (30 * j + i) v) := ⟨_, rfl⟩
  have r : ab_ev X (d + 30) 354 [.inr (9, 0), .inl (.int (X.1 (k + 1))), .inl (.int (X.1 (k + 2))), .inl (.long y)] s1 = some (.inl (some (.inl (.long v))), s2) := by
    have e22 : sa s1 22 j = nI so := by rw [hs1]; exact q7
    have e23 : sa s1 23 j = nI m := by rw [hs1]; exact q8
    have eb : sb (pz s1 11 (nI 0)) 2 = sb s 2 := by rw [hs1]; simp (disch := omega) only [E0]
    have h2' : inR (X.1 (k + 2)).toInt 0 ((m : Int) - 1) = true := inR_iff.mpr (by have := inS_def.mp h2; omega)
    rw [b354, ej, r310_3 hj q3 e22, e_bI, if_pos (show nI 0 ≤ nI 0 by decide), r_in hj (by decide), nI_clamp (by omega), e23, r232, j_of, j_of, j_0, n_pred (by omega), if_pos h2', e_bI, if_neg (show ¬ nI 1 = nI 0 by decide), ei, r355 (s := pz s1 11 (nI 0)) hj (by omega) q3 e22, e_bJ, ← hv, eb, hs2]
  refine ⟨s2, _, _, Or.inr ⟨⟨fun k k1 k2 k3 k4 => ?_, ?_, fun k hk => ?_, fun k hk => ?_, ?_, ?_, ?_, ?_, ?_⟩, ?_⟩, w _ _ _ _ cc r ?_ (fun _ => ?_)⟩
  · rw [hs2, hs1]
    simp (disch := omega) only [E0]
  · rw [hs2, hs1]
    rfl
  · rw [hs2, hs1]
    rfl
  · rw [hs2, hs1]
    rfl
  · rw [hs2, hs1]
    rfl
  · rw [hs2, hs1]
    rfl
  · rw [hs2, hs1]
    rfl
  · rw [hs2, hs1]
    exact Nat.le_add_right _ _
  · rw [hs2, hs1]
    exact Nat.le_add_right _ _
  · refine TR_wr (F := va_up (sB s 0 t) i v) (G := va_up (sb s 2) (30 * j + i) v) hT hj q1 (by rw [hs2, hs1]; rfl) (by rw [hs2, hs1]; rfl) (by rw [hs2, hs1]; rfl) (by rw [hs2, hs1]; rfl) (by rw [hs2, hs1]; rfl) (by rw [hs2, hs1]; rfl) (fun q hq => ?_) ?_ ?_ (fun q hq => ?_) (fun q hq => va_up_ne _ _ (by omega))
    · rw [hs2, hs1]
      simp (disch := omega) only [E0]
    · rw [hs2, hs1]
      simp (disch := omega) only [E0]
    · rw [hs2, hs1]
      simp (disch := omega) only [E0]
    · by_cases e : q = i
      · rw [e, va_up_self, va_up_self]
      · rw [va_up_ne _ _ e, va_up_ne _ _ (by omega)]
        exact q9 q hq
  · rw [hs2]
    simp (disch := omega) only [E0]
  · rw [hs2, hs1]
    simp (disch := omega) only [E0]
    rw [va_up_self]
theorem l224 {x1 : Int32} {t so m w : Nat} (hn : n ≤ 20) (h1 : ∀ q, q < n → sA s 0 0 q = nI (nm q)) (hz : si s 11 t = nI m) (h30 : m ≤ 30) (hs : si s 10 t = nI so) (hwm : w ≤ m) (hwn : w ≤ n) : ∀ (i c : Nat) (F : Nat → Int64), c + i = w → (∀ q, F q = if q < c then ctv (nI so) (nI (nm q)).toInt64 else sB s 0 t q) → ab_at X (d + 2) 224 24 [some (.inr (0, 0)), some (.inl (.int x1)), some (.inr (8, t)), some (.inl (.int (nI w))), some (.inl (.int (nI c)))] [] (wB s 0 t F) = some (.inl (some (.inl (.int (nI w)))), wB s 0 t (fun q => if q < w then ctv (nI so) (nI (nm q)).toInt64 else sB s 0 t q))
  | 0, c, F, e, hF => by
    obtain rfl : c = w := by omega
    rw [b224_24, if_pos (nI_le (Nat.le_refl _) (by omega)), funext hF]
  | i + 1, c, F, e, hF => by
    have hz' : si (wB s 0 t F) 11 t = nI m := hz
    have hs' : si (wB s 0 t F) 10 t = nI so := hs
    have h1' : sA (wB s 0 t F) 0 0 c = nI (nm c) := h1 c (by omega)
    rw [b224_24, if_neg (nI_ge (by omega) (by omega)), at19 (by omega), e_bI, c_set hz' h30 (by omega), e_bU, h1', hs', nI_add]
    simp (disch := omega) only [E0, E1]
    refine l224 hn h1 hz h30 hs hwm hwn i (c + 1) _ (by omega) (fun q => ?_)
    by_cases e1 : q = c
    · rw [e1, va_up_self, if_pos (by omega)]
    · rw [va_up_ne _ _ e1, hF q]
      by_cases e2 : q < c
      · rw [if_pos e2, if_pos (by omega)]
      · rw [if_neg e2, if_neg (by omega)]
theorem l356 {j so w : Nat} (hn : n ≤ 20) (hj : j < 4) (hso : so < 4) (h22 : sa s 22 j = nI so) (h8 : ∀ q, q < n → sa s 8 (11 + q) = nI (nm q)) (hwn : w ≤ n) : ∀ (i c : Nat) (G : Nat → Int64), c + i = w → (∀ q, G q = if 30 * j ≤ q ∧ q < 30 * j + c then ctv (nI so) (nI (nm (q - 30 * j))).toInt64 else sb s 2 q) → ab_at X (d + 1) 356 34 [some (.inr (9, 0)), some (.inl (.int (nI j))), some (.inl (.int (nI w))), some (.inl (.int (nI c)))] [] (pb s 2 G) = some (.inl (some (.inl (.int (nI w)))), pb s 2 (fun q => if 30 * j ≤ q ∧ q < 30 * j + w then ctv (nI so) (nI (nm (q - 30 * j))).toInt64 else sb s 2 q))
  | 0, c, G, e, hG => by
    obtain rfl : c = w := by omega
    rw [b356_34, if_pos (nI_le (Nat.le_refl _) (by omega)), funext hG]
  | i + 1, c, G, e, hG => by
    have h22' : sa (pb s 2 G) 22 j = nI so := h22
    have h8' : sa (pb s 2 G) 8 (11 + c) = nI (nm c) := h8 c (by omega)
    rw [b356_34, if_neg (nI_ge (by omega) (by omega)), nI_add, r_in (j := 11 + c) (by omega) (by decide), nI_clamp (by omega), h8', r355 hj (by omega) hso h22', e_bJ, nI_add]
    simp (disch := omega) only [E0, E1]
    refine l356 hn hj hso h22 h8 hwn i (c + 1) _ (by omega) (fun q => ?_)
    by_cases e1 : q = 30 * j + c
    · rw [e1, va_up_self, if_pos (by omega), Nat.add_sub_cancel_left]
    · rw [va_up_ne _ _ e1, hG q]
      by_cases e2 : 30 * j ≤ q ∧ q < 30 * j + c
      · rw [if_pos e2, if_pos (by omega)]
      · rw [if_neg e2, if_neg (by omega)]
theorem o223 (h : BW s n nm nr z st bm by') (hT : TR s) (hk : k + 5 < X.2) (hX : X.2 < 2 ^ 31) : ∃ (s2 : ab_S) (v5 v6 : Option ab_V), (sY s s2 ∨ (sK s s2 ∧ TR s2)) ∧ ab_at X (d + 31) 360 3058 [some (.inr (14, 0)), some (.inr (0, 0)), some (.inr (9, 0)), some (.inr (15, 0)), some (.inl (.int (nI k))), u5, u6, none] [] s = ab_at X (d + 31) 360 23 [some (.inr (14, 0)), some (.inr (0, 0)), some (.inr (9, 0)), some (.inr (15, 0)), some (.inl (.int (nI (k + 6)))), v5, v6, none] [] s2 := by
  obtain ⟨hTW, hR⟩ := id h
  obtain ⟨hcn, hn, t3, t4, -⟩ := id hTW
  have hr1 : sa s 8 1 = nI n := hR.1
  by_cases h1 : inS (X.1 (k + 1)) 4 = true
  rotate_left
  · have cc : ab_ev X (d + 30) 223 [.inr (0, 0), .inl (.int (X.1 (k + 1))), .inr (15, 0)] s = some (.inl (some (.inl (.int (nI 1)))), ths s) := by
      rw [b223, b224, c_n150_1 h1, e_xA, e_px, e_xI]
      rfl
    have r : ab_ev X (d + 30) 356 [.inr (9, 0), .inl (.int (X.1 (k + 1)))] (ths s) = some (.inl (some (.inl (.int (nI 0)))), pz (ths s) 11 (nI 1)) := by
      rw [b356, r310_1 h1, e_bI, if_neg (show ¬ nI 1 ≤ nI 0 by decide)]
    exact ⟨_, _, _, Or.inl (Or.inr (sV_pz (by omega)).X), w3058 hk hX cc r rfl (fun q => absurd q (by decide))⟩
  obtain ⟨j, hj, ej⟩ := inS_rep h1
  rcases hT.1 j hj with ⟨q1, q2⟩ | ⟨t, so, m, q1, q2, q3, q4, q5, q6, q7, q8, q9⟩
  · have cc : ab_ev X (d + 30) 223 [.inr (0, 0), .inl (.int (X.1 (k + 1))), .inr (15, 0)] s = some (.inl (some (.inl (.int (nI 2)))), ths s) := by
      rw [b223, b224, ej, c_n150_2 hj q1, e_xA, e_px, e_xI]
      rfl
    have r : ab_ev X (d + 30) 356 [.inr (9, 0), .inl (.int (X.1 (k + 1)))] (ths s) = some (.inl (some (.inl (.int (nI 0)))), pz (ths s) 11 (nI 2)) := by
      have q2' : sa (ths s) 22 j = -nI 1 := q2
      rw [b356, ej, r310_2 hj q2', e_bI, if_neg (show ¬ nI 2 ≤ nI 0 by decide)]
    exact ⟨_, _, _, Or.inl (Or.inr (sV_pz (by omega)).X), w3058 hk hX cc r rfl (fun q => absurd q (by decide))⟩
  obtain ⟨F, hF⟩ : ∃ F : Nat → Int64, F = fun q => if q < min m n then ctv (nI so) (nI (nm q)).toInt64 else sB s 0 t q := ⟨_, rfl⟩
  obtain ⟨G, hG⟩ : ∃ G : Nat → Int64, G = fun q => if 30 * j ≤ q ∧ q < 30 * j + min m n then ctv (nI so) (nI (nm (q - 30 * j))).toInt64 else sb s 2 q := ⟨_, rfl⟩
  obtain ⟨s1, hs1⟩ : ∃ s1, s1 = pb (wB s 0 t F) 3 (va_up (sb s 3) 0 (nI (min m n)).toInt64) := ⟨_, rfl⟩
  have cc : ab_ev X (d + 30) 223 [.inr (0, 0), .inl (.int (X.1 (k + 1))), .inr (15, 0)] s = some (.inl (some (.inl (.int (nI 0)))), s1) := by
    have l := l224 (X := X) (d := d + 27) (s := s) (nm := nm) (x1 := nI j) (w := min m n) hn t3 q6 q4 q5 (by omega) (by omega) (min m n) 0 (sB s 0 t) (by omega) (fun q => by rw [if_neg (by omega)])
    rw [wB_id, ← hF] at l
    have l' : ab_at X (d + 29) 224 24 [some (.inr (0, 0)), some (.inl (.int (nI j))), some (.inr (8, t)), some (.inl (.int (nI (min m n)))), some (.inl (.int (nI 0)))] [] s = _ := l
    rw [b223, b224, ej, c_n150_3 hj q1, e_bA, b224_5, q6, hcn, c_min _ _ (by omega) (by omega), e_bI, l', e_bI, hs1]
    rfl
  obtain ⟨s2, hs2⟩ : ∃ s2, s2 = pb (pz s1 11 (nI 0)) 2 G := ⟨_, rfl⟩
  have r : ab_ev X (d + 30) 356 [.inr (9, 0), .inl (.int (X.1 (k + 1)))] s1 = some (.inl (some (.inl (.int (nI (min m n))))), s2) := by
    have e22 : sa s1 22 j = nI so := by rw [hs1]; exact q7
    have e23 : sa s1 23 j = nI m := by rw [hs1]; exact q8
    have eb : sb (pz s1 11 (nI 0)) 2 = sb s 2 := by rw [hs1]; simp (disch := omega) only [E0]
    have e8 : sa (pz s1 11 (nI 0)) 8 = sa s 8 := by rw [hs1]; rfl
    have l := l356 (X := X) (d := d + 29) (s := pz s1 11 (nI 0)) (nm := nm) (w := min m n) hn hj q3 e22 (fun q hq => by rw [e8]; exact hR.2.2.1 q hq) (by omega) (min m n) 0 (sb (pz s1 11 (nI 0)) 2) (by omega) (fun q => by rw [if_neg (by omega)])
    rw [pb_id, eb, ← hG, ← hs2] at l
    rw [b356, ej, r310_3 hj q3 e22, e_bI, if_pos (show nI 0 ≤ nI 0 by decide), r_in hj (by decide), nI_clamp (by omega), r267 (s := pz s1 11 (nI 0)) (n := n) (by rw [e8]; exact hr1), e_bI]
    rw [show sa s1 23 j = nI m from e23, c_min _ _ (by omega) (by omega), e_bI]
    exact l
  refine ⟨s2, _, _, Or.inr ⟨⟨fun k k1 k2 k3 k4 => ?_, ?_, fun k hk => ?_, fun k hk => ?_, ?_, ?_, ?_, ?_, ?_⟩, ?_⟩, w3058 hk hX cc r ?_ (fun _ => ?_)⟩
  · rw [hs2, hs1]
    simp (disch := omega) only [E0]
  · rw [hs2, hs1]
    rfl
  · rw [hs2, hs1]
    rfl
  · rw [hs2, hs1]
    rfl
  · rw [hs2, hs1]
    rfl
  · rw [hs2, hs1]
    rfl
  · rw [hs2, hs1]
    rfl
  · rw [hs2, hs1]
    exact Nat.le_add_right _ _
  · rw [hs2, hs1]
    exact Nat.le_add_right _ _
  · refine TR_wr (F := F) (G := G) hT hj q1 (by rw [hs2, hs1]; rfl) (by rw [hs2, hs1]; rfl) (by rw [hs2, hs1]; rfl) (by rw [hs2, hs1]; rfl) (by rw [hs2, hs1]; rfl) (by rw [hs2, hs1]; rfl) (fun q hq => ?_) ?_ ?_ (fun q hq => ?_) (fun q hq => ?_)
    · rw [hs2, hs1]
      simp (disch := omega) only [E0]
    · rw [hs2, hs1]
      simp (disch := omega) only [E0]
    · rw [hs2, hs1]
      simp (disch := omega) only [E0]
    · rw [hF, hG]
      show (if q < min m n then _ else _) = (if 30 * j ≤ 30 * j + q ∧ 30 * j + q < 30 * j + min m n then _ else _)
      by_cases e : q < min m n
      · rw [if_pos e, if_pos (by omega), Nat.add_sub_cancel_left]
      · rw [if_neg e, if_neg (by omega)]
        exact q9 q hq
    · rw [hG]
      show (if 30 * j ≤ q ∧ q < 30 * j + min m n then _ else _) = _
      rw [if_neg (by omega)]
  · rw [hs2]
    simp (disch := omega) only [E0]
  · rw [hs2, hs1]
    simp (disch := omega) only [E0]
    rw [va_up_self]
end TRB
