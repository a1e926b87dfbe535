/-! Trays; towns taken over; told deeds; deeds undone. -/
theorem j_eq (x y : Int64) : lg_cmp x y = nI 0 ↔ x.toInt = y.toInt := (lg_cmp_eq x y).trans Int64.toInt_inj.symm
theorem j_lt (x y : Int64) : lg_cmp x y < nI 0 ↔ x.toInt < y.toInt := (lg_cmp_lt x y).trans Int64.lt_iff_toInt_lt
theorem j_ge (x y : Int64) : nI 0 ≤ lg_cmp x y ↔ y.toInt ≤ x.toInt := (lg_cmp_ge x y).trans Int64.le_iff_toInt_le
theorem j_gt (x y : Int64) : nI 0 < lg_cmp x y ↔ y.toInt < x.toInt := (lg_cmp_gt x y).trans Int64.lt_iff_toInt_lt
theorem j_le (x y : Int64) : lg_cmp x y ≤ nI 0 ↔ x.toInt ≤ y.toInt := (lg_cmp_le x y).trans Int64.le_iff_toInt_le
theorem lN_int {n : Nat} (h : n < 2 ^ 63) : (lN n).toInt = n := by
  show (Int64.ofNat n).toInt = n
  exact Int64.toInt_ofNat_of_lt h
theorem lN_rep {y : Int64} (h : 0 ≤ y.toInt) : y = lN y.toInt.toNat := by
  have h2 := Int64.toInt_lt y
  exact Int64.toInt_inj.mp (by rw [lN_int (by omega)]; omega)
/-- why a told deed can't be -/
def trb (n : Nat) (y : Int64) : Nat :=
  if y.toInt = -1 then 0 else if y.toInt < 0 ∨ 800 ≤ y.toInt then 1
  else if n ≤ y.toInt.toNat % 400 % 20 ∨ n ≤ y.toInt.toNat % 400 / 20 then 1
  else if 400 ≤ y.toInt.toNat ∧ y.toInt.toNat % 400 % 20 = y.toInt.toNat % 400 / 20 then 2 else 0
/-- a number cut to a sort -/
def ctv (sort : Int32) (v : Int64) : Int64 := if sort = nI 0 then v.toInt32.toInt8.toInt32.toInt64 else if sort = nI 1 then v.toInt32.toInt16.toInt32.toInt64 else if sort = nI 2 then v.toInt32.toInt64 else v
section TRY
variable {X : (Nat → Int32) × Nat} {d i n : Nat} {s : ab_S}
theorem c_get {k z : Nat} (hz : si s 11 i = nI z) (h30 : z ≤ 30) (hk : k < z) : ab_ev X d 152 [.inr (8, i), .inl (.int (nI k))] s = some (.inl (some (.inl (.long (sB s 0 i k)))), s) := by
  rw [b152, hz, if_neg (n_nlt0 (by omega)), if_neg (nI_ge hk (by omega)), if_neg (nI_ge (by omega) (by omega)), if_neg (n_in (by omega) (by omega)), nI_clamp (by omega)]
theorem c_cut {v : Int64} : ab_ev X d 222 [.inr (8, i), .inl (.long v)] s = some (.inl (some (.inl (.long (ctv (si s 10 i) v)))), s) := by
  rw [b222, b222_4, b222_32, b222_37, b222_42, b222_46]
  unfold ctv
  split
  · rfl
  · split
    · rfl
    · split <;> rfl
theorem c_set {k z : Nat} {v : Int64} (hz : si s 11 i = nI z) (h30 : z ≤ 30) (hk : k < z) : ab_ev X (d + 1) 221 [.inr (8, i), .inl (.int (nI k)), .inl (.long v)] s = some (.inl none, wB s 0 i (va_up (sB s 0 i) k (ctv (si s 10 i) v))) := by
  rw [b221, hz, if_neg (n_nlt0 (by omega)), if_neg (nI_ge hk (by omega)), if_neg (nI_ge (by omega) (by omega)), c_cut, e_bJ, if_neg (n_in (by omega) (by omega)), nI_clamp (by omega)]
theorem l218 {x1 x2 : Int32} : ∀ (j k : Nat) (F : Nat → Int64), k + j = 30 → (∀ q, q < k → F q = lN 0) → ∃ F' : Nat → Int64, ab_at X (d + 1) 218 20 [some (.inr (8, i)), some (.inl (.int x1)), some (.inl (.int x2)), some (.inl (.int (nI k)))] [] (wB s 0 i F) = some (.inl none, wB s 0 i F') ∧ ∀ q, q < 30 → F' q = lN 0
  | 0, k, F, e, h => by
    obtain rfl : k = 30 := by omega
    exact ⟨F, by rw [b218_20, if_pos (nI_le (Nat.le_refl _) (by omega))], h⟩
  | j + 1, k, F, e, h => by
    obtain ⟨F', g1, g2⟩ := l218 (x1 := x1) (x2 := x2) j (k + 1) (va_up F k (lN 0)) (by omega) (fun q hq => by
      by_cases h5 : q = k
      · rw [h5, va_up_self]
      · rw [va_up_ne _ _ h5]
        exact h q (by omega))
    refine ⟨F', ?_, g2⟩
    rw [← g1, b218_20, if_neg (nI_ge (by omega) (by omega)), if_neg (n_in (by omega) (by omega)), nI_clamp (by omega), nI_add]
    simp (disch := omega) only [E0, E1]
theorem c_empty {so : Int32} {z : Nat} (h30 : z ≤ 30) : ∃ F' : Nat → Int64, ab_ev X (d + 1) 218 [.inr (8, i), .inl (.int so), .inl (.int (nI z))] s = some (.inl none, wB (wi (wi s 10 i so) 11 i (nI z)) 0 i F') ∧ ∀ q, q < 30 → F' q = lN 0 := by
  obtain ⟨F', g1, g2⟩ := l218 (X := X) (d := d) (i := i) (s := wi (wi s 10 i so) 11 i (nI z)) (x1 := so) (x2 := nI z) 30 0 (sB s 0 i) (by omega) (fun q hq => by omega)
  refine ⟨F', ?_, g2⟩
  have e : wB (wi (wi s 10 i so) 11 i (nI z)) 0 i (sB s 0 i) = wi (wi s 10 i so) 11 i (nI z) := wB_id _ _ _
  rw [e] at g1
  rw [b218, c_min _ _ (by omega) (by omega), e_bI, Nat.min_eq_left h30, g1]
theorem c_trouble {y : Int64} (hn : si s 1 i = nI n) (h20 : n ≤ 20) : ab_ev X d 153 [.inr (2, i), .inl (.long y)] s = some (.inl (some (.inl (.int (nI (trb n y))))), s) := by
  have m1 : (-lN 1).toInt = -1 := by decide
  rw [b153, hn]
  unfold trb
  by_cases h1 : y.toInt = -1
  · rw [if_pos ((j_eq _ _).mpr (h1.trans m1.symm)), if_pos h1]
  · rw [if_neg (fun q => h1 (((j_eq _ _).mp q).trans m1)), if_neg h1]
    by_cases h2 : y.toInt < 0
    · rw [if_pos ((j_lt _ _).mpr (by rw [lN_int (by omega)]; exact h2)), if_pos (Or.inl h2)]
    · rw [if_neg (fun q => h2 (by have := (j_lt _ _).mp q; rw [lN_int (by omega)] at this; exact this))]
      by_cases h3 : y.toInt < 800
      · have hy := lN_rep (y := y) (by omega)
        rw [if_pos ((j_lt _ _).mpr (by rw [lN_int (by omega)]; exact h3)), if_neg (show ¬ (y.toInt < 0 ∨ 800 ≤ y.toInt) by omega)]
        generalize hv : y.toInt.toNat = v at *
        have hv8 : v < 800 := by omega
        rw [hy, pk_lRem (by omega) (by omega) (by omega), pk_lRem (by omega) (by omega) (by omega), pk_lDiv (by omega) (by omega) (by omega), nI_l (by omega)]
        have c1 : nI 0 ≤ lg_cmp (lN (v % 400 % 20)) (lN n) ↔ n ≤ v % 400 % 20 := by
          rw [j_ge, lN_int (by omega), lN_int (by omega)]
          omega
        have c2 : lg_cmp (lN (v % 400 / 20)) (lN n) < nI 0 ↔ v % 400 / 20 < n := by
          rw [j_lt, lN_int (by omega), lN_int (by omega)]
          omega
        have c3 : lg_cmp (lN v) (lN 400) < nI 0 ↔ v < 400 := by
          rw [j_lt, lN_int (by omega), lN_int (by omega)]
          omega
        have c4 : lg_cmp (lN (v % 400 % 20)) (lN (v % 400 / 20)) = nI 0 ↔ v % 400 % 20 = v % 400 / 20 := by
          rw [j_eq, lN_int (by omega), lN_int (by omega)]
          omega
        by_cases q1 : n ≤ v % 400 % 20
        · rw [if_pos (c1.mpr q1), if_pos (Or.inl q1)]
        · rw [if_neg (fun z => q1 (c1.mp z))]
          by_cases q2 : v % 400 / 20 < n
          · rw [if_pos (c2.mpr q2), if_neg (show ¬ (n ≤ v % 400 % 20 ∨ n ≤ v % 400 / 20) by omega)]
            by_cases q3 : v < 400
            · rw [if_pos (c3.mpr q3), if_neg (show ¬ (400 ≤ v ∧ v % 400 % 20 = v % 400 / 20) by omega)]
            · rw [if_neg (fun z => q3 (c3.mp z))]
              by_cases q4 : v % 400 % 20 = v % 400 / 20
              · rw [if_pos (c4.mpr q4), if_pos ⟨by omega, q4⟩]
              · rw [if_neg (fun z => q4 (c4.mp z)), if_neg (fun z => q4 z.2)]
          · rw [if_neg (fun z => q2 (c2.mp z)), if_pos (Or.inr (by omega))]
      · rw [if_neg (fun q => h3 (by have := (j_lt _ _).mp q; rw [lN_int (by omega)] at this; exact this)), if_pos (Or.inr (by omega))]
theorem cpy0 {F G : Nat → Int32} {n q : Nat} (h : q < n) : va_cpy F G 0 0 n q = F q := by
  unfold va_cpy
  rw [if_pos (by omega), Nat.zero_add, Nat.sub_zero]
def tk1 (s : ab_S) (i j : Nat) : ab_S := wi (wi (wi (wi (wi (wi (wi s 0 i (si s 0 j)) 1 i (si s 1 j)) 2 i (si s 2 j)) 3 i (si s 3 j)) 4 i (si s 4 j)) 5 i (si s 5 j)) 6 i (si s 6 j)
def tk2 (s : ab_S) (i j : Nat) : ab_S := wA (wA (wA s 0 i (va_cpy (sA s 0 j) (sA s 0 i) 0 0 20)) 1 i (va_cpy (sA s 1 j) (sA s 1 i) 0 0 8)) 2 i (va_cpy (sA s 2 j) (sA s 2 i) 0 0 8)
def tk3 (s : ab_S) (i j : Nat) : ab_S := wi (wA (wA (wA s 3 i (va_cpy (sA s 3 j) (sA s 3 i) 0 0 80)) 4 i (va_cpy (sA s 4 j) (sA s 4 i) 0 0 4)) 5 i (va_cpy (sA s 5 j) (sA s 5 i) 0 0 4)) 7 i (si s 7 j)
def tk4 (s : ab_S) (i j ml : Nat) : ab_S := wi (wA s 6 i (va_cpy (sA s 6 j) (sA s 6 i) 0 0 ml)) 8 i (si s 8 j)
def tk5 (s : ab_S) (i j : Nat) : ab_S := wi (wA s 8 i (va_cpy (sA s 8 j) (sA s 8 i) 0 0 40)) 9 i (si s 9 j)
theorem c_tkRounds {j : Nat} (h : i ≠ j) : ab_ev X (d + 2) 81 [.inr (3, i), .inr (3, j)] s = some (.inl none, tk3 s i j) := by
  have h' : j ≠ i := fun e => h e.symm
  have e1 : ∀ s : ab_S, ab_ev X (d + 1) 18 [.inr (22, i), .inr (22, j)] s = some (.inl none, wA s 3 i (va_cpy (sA s 3 j) (sA s 3 i) 0 0 80)) := fun s => c_fill (n := 80) rfl rfl rfl rfl rfl rfl (by decide) rfl
  have e2 : ∀ s : ab_S, ab_ev X (d + 1) 18 [.inr (23, i), .inr (23, j)] s = some (.inl none, wA s 4 i (va_cpy (sA s 4 j) (sA s 4 i) 0 0 4)) := fun s => c_fill (n := 4) rfl rfl rfl rfl rfl rfl (by decide) rfl
  have e3 : ∀ s : ab_S, ab_ev X (d + 1) 18 [.inr (24, i), .inr (24, j)] s = some (.inl none, wA s 5 i (va_cpy (sA s 5 j) (sA s 5 i) 0 0 4)) := fun s => c_fill (n := 4) rfl rfl rfl rfl rfl rfl (by decide) rfl
  rw [b81, e1, e_bU, e2, e_bU, e3, e_bU]
  rfl
theorem c_tkLaw {j ml : Nat} (h : i ≠ j) (hl : si s 8 j = nI ml) (h900 : ml ≤ 900) : ab_ev X (d + 1) 82 [.inr (4, i), .inr (4, j)] s = some (.inl none, tk4 s i j ml) := by
  rw [b82, hl, c_min _ _ (by omega) (by omega), e_bI, Nat.min_eq_left h900]
  unfold ab_cpy
  show ab_os (if _ then none else some (wA s 6 i (va_cpy (sA s 6 j) (sA s 6 i) (nI 0).toNatClampNeg (nI 0).toNatClampNeg (nI ml).toNatClampNeg))) _ = _
  rw [if_neg, nI_clamp (by omega), nI_clamp (by omega)]
  · rfl
  · rw [nI_clamp (by omega), nI_clamp (by omega)]
    rintro (h | h | h | h | h)
    · exact absurd h (n_nlt0 (by decide))
    · exact absurd h (n_nlt0 (by decide))
    · exact absurd h (n_nlt0 (by omega))
    · omega
    · omega
theorem c_tkDeeds {j : Nat} : ab_ev X (d + 2) 83 [.inr (5, i), .inr (5, j)] s = some (.inl none, tk5 s i j) := by
  have e1 : ∀ s : ab_S, ab_ev X (d + 1) 18 [.inr (27, i), .inr (27, j)] s = some (.inl none, wA s 8 i (va_cpy (sA s 8 j) (sA s 8 i) 0 0 40)) := fun s => c_fill (n := 40) rfl rfl rfl rfl rfl rfl (by decide) rfl
  rw [b83, e1, e_bU]
  rfl
/-- but for the town i two stores are one -/
def FR (s s' : ab_S) (i : Nat) : Prop := sz s' = sz s ∧ sy s' = sy s ∧ st s' = st s ∧ sa s' = sa s ∧ sb s' = sb s ∧ sB s' = sB s ∧ sq s' = sq s ∧ sn s' = sn s ∧ (∀ k q, q ≠ i → si s' k q = si s k q) ∧ (∀ k, 10 ≤ k → si s' k = si s k) ∧ (∀ k q, q ≠ i → sA s' k q = sA s k q)
theorem FR_refl (s : ab_S) (i : Nat) : FR s s i := ⟨rfl, rfl, rfl, rfl, rfl, rfl, rfl, rfl, fun _ _ _ => rfl, fun _ _ => rfl, fun _ _ _ => rfl⟩
theorem FR_trans {s t u : ab_S} (h : FR s t i) (h' : FR t u i) : FR s u i := by
  obtain ⟨a1, a2, a3, a4, a5, a6, a7, a8, a9, a10, a11⟩ := h
  obtain ⟨b1, b2, b3, b4, b5, b6, b7, b8, b9, b10, b11⟩ := h'
  exact ⟨b1.trans a1, b2.trans a2, b3.trans a3, b4.trans a4, b5.trans a5, b6.trans a6, b7.trans a7, b8.trans a8, fun k q hq => (b9 k q hq).trans (a9 k q hq), fun k hk => (b10 k hk).trans (a10 k hk), fun k q hq => (b11 k q hq).trans (a11 k q hq)⟩
theorem FR_wi {k : Nat} {v : Int32} (hk : k < 10) : FR s (wi s k i v) i := ⟨rfl, rfl, rfl, rfl, rfl, rfl, rfl, rfl, fun q r hr => by
    by_cases h : q = k
    · subst h
      simp (disch := omega) only [E0]
    · simp (disch := omega) only [E0], fun q hq => by simp (disch := omega) only [E0], fun _ _ _ => rfl⟩
theorem FR_wA {k : Nat} {G : Nat → Int32} : FR s (wA s k i G) i := ⟨rfl, rfl, rfl, rfl, rfl, rfl, rfl, rfl, fun _ _ _ => rfl, fun _ _ => rfl, fun q r hr => by
    by_cases h : q = k
    · subst h
      simp (disch := omega) only [E0]
    · simp (disch := omega) only [E0]⟩
theorem tk1_fr {j : Nat} : FR s (tk1 s i j) i := FR_trans (FR_wi (by omega)) (FR_trans (FR_wi (by omega)) (FR_trans (FR_wi (by omega)) (FR_trans (FR_wi (by omega)) (FR_trans (FR_wi (by omega)) (FR_trans (FR_wi (by omega)) (FR_wi (by omega)))))))
theorem tk2_fr {j : Nat} : FR s (tk2 s i j) i := FR_trans FR_wA (FR_trans FR_wA FR_wA)
theorem tk3_fr {j : Nat} : FR s (tk3 s i j) i := FR_trans FR_wA (FR_trans FR_wA (FR_trans FR_wA (FR_wi (by omega))))
theorem tk4_fr {j ml : Nat} : FR s (tk4 s i j ml) i := FR_trans FR_wA (FR_wi (by omega))
theorem tk5_fr {j : Nat} : FR s (tk5 s i j) i := FR_trans FR_wA (FR_wi (by omega))
theorem tk1_si {j k : Nat} : si (tk1 s i j) k i = if k < 7 then si s k j else si s k i := by
  unfold tk1
  by_cases h : k < 7
  · rw [if_pos h]
    rcases (show k = 0 ∨ k = 1 ∨ k = 2 ∨ k = 3 ∨ k = 4 ∨ k = 5 ∨ k = 6 by omega) with rfl | rfl | rfl | rfl | rfl | rfl | rfl <;> simp (disch := omega) only [E0]
  · rw [if_neg h]
    simp (disch := omega) only [E0]
theorem tk3_si {j k : Nat} : si (tk3 s i j) k i = if k = 7 then si s k j else si s k i := by
  unfold tk3
  by_cases h : k = 7
  · rw [if_pos h, h]
    simp (disch := omega) only [E0]
  · rw [if_neg h]
    simp (disch := omega) only [E0]
theorem tk4_si {j ml k : Nat} : si (tk4 s i j ml) k i = if k = 8 then si s k j else si s k i := by
  unfold tk4
  by_cases h : k = 8
  · rw [if_pos h, h]
    simp (disch := omega) only [E0]
  · rw [if_neg h]
    simp (disch := omega) only [E0]
theorem tk5_si {j k : Nat} : si (tk5 s i j) k i = if k = 9 then si s k j else si s k i := by
  unfold tk5
  by_cases h : k = 9
  · rw [if_pos h, h]
    simp (disch := omega) only [E0]
  · rw [if_neg h]
    simp (disch := omega) only [E0]
theorem tk2_sA {j k : Nat} (h : 2 < k) : sA (tk2 s i j) k = sA s k := by
  unfold tk2
  simp (disch := omega) only [E0]
theorem tk3_sA {j k : Nat} (h : k < 3 ∨ 5 < k) : sA (tk3 s i j) k = sA s k := by
  unfold tk3
  simp (disch := omega) only [E0]
theorem tk4_sA {j ml k : Nat} (h : k ≠ 6) : sA (tk4 s i j ml) k = sA s k := by
  unfold tk4
  simp (disch := omega) only [E0]
theorem tk5_sA {j k : Nat} (h : k ≠ 8) : sA (tk5 s i j) k = sA s k := by
  unfold tk5
  simp (disch := omega) only [E0]
theorem c_takeOver {j ml : Nat} (h : i ≠ j) (hl : si s 8 j = nI ml) (h900 : ml ≤ 900) : ∃ s' : ab_S, ab_ev X (d + 3) 80 [.inr (2, i), .inr (2, j)] s = some (.inl none, s') ∧ FR s s' i ∧ (∀ k, k < 10 → si s' k i = si s k j) ∧ (∀ q, q < 20 → sA s' 0 i q = sA s 0 j q) ∧ (∀ q, q < 8 → sA s' 1 i q = sA s 1 j q) ∧ (∀ q, q < 8 → sA s' 2 i q = sA s 2 j q) ∧ (∀ q, q < 80 → sA s' 3 i q = sA s 3 j q) ∧ (∀ q, q < 4 → sA s' 4 i q = sA s 4 j q) ∧ (∀ q, q < 4 → sA s' 5 i q = sA s 5 j q) ∧ (∀ q, q < ml → sA s' 6 i q = sA s 6 j q) ∧ (∀ q, q < 40 → sA s' 8 i q = sA s 8 j q) := by
  have h' : j ≠ i := fun e => h e.symm
  have e1 : ∀ s : ab_S, ab_ev X (d + 2) 18 [.inr (19, i), .inr (19, j)] s = some (.inl none, wA s 0 i (va_cpy (sA s 0 j) (sA s 0 i) 0 0 20)) := fun s => c_fill (n := 20) rfl rfl rfl rfl rfl rfl (by decide) rfl
  have e2 : ∀ s : ab_S, ab_ev X (d + 2) 18 [.inr (20, i), .inr (20, j)] s = some (.inl none, wA s 1 i (va_cpy (sA s 1 j) (sA s 1 i) 0 0 8)) := fun s => c_fill (n := 8) rfl rfl rfl rfl rfl rfl (by decide) rfl
  have e3 : ∀ s : ab_S, ab_ev X (d + 2) 18 [.inr (21, i), .inr (21, j)] s = some (.inl none, wA s 2 i (va_cpy (sA s 2 j) (sA s 2 i) 0 0 8)) := fun s => c_fill (n := 8) rfl rfl rfl rfl rfl rfl (by decide) rfl
  have b1 : ab_ev X (d + 3) 80 [.inr (2, i), .inr (2, j)] s = ab_bU (ab_ev X (d + 2) 18 [.inr (19, i), .inr (19, j)] (tk1 s i j)) (fun s1 => ab_bU (ab_ev X (d + 2) 18 [.inr (20, i), .inr (20, j)] s1) (fun s2 => ab_bU (ab_ev X (d + 2) 18 [.inr (21, i), .inr (21, j)] s2) (fun s3 => ab_bU (ab_ev X (d + 2) 81 [.inr (3, i), .inr (3, j)] s3) (fun s4 => ab_bU (ab_ev X (d + 2) 82 [.inr (4, i), .inr (4, j)] s4) (fun s5 => ab_bU (ab_ev X (d + 2) 83 [.inr (5, i), .inr (5, j)] s5) (fun s6 => some (.inl none, s6)) ab_px) ab_px) ab_px) ab_px) ab_px) ab_px := b80
  have f1 : FR s (tk1 s i j) i := tk1_fr
  have f2 : FR (tk1 s i j) (tk2 (tk1 s i j) i j) i := tk2_fr
  have f12 := FR_trans f1 f2
  have f3 : FR (tk2 (tk1 s i j) i j) (tk3 (tk2 (tk1 s i j) i j) i j) i := tk3_fr
  have f123 := FR_trans f12 f3
  have c2 : wA (wA (wA (tk1 s i j) 0 i (va_cpy (sA (tk1 s i j) 0 j) (sA (tk1 s i j) 0 i) 0 0 20)) 1 i (va_cpy (sA (wA (tk1 s i j) 0 i (va_cpy (sA (tk1 s i j) 0 j) (sA (tk1 s i j) 0 i) 0 0 20)) 1 j) (sA (wA (tk1 s i j) 0 i (va_cpy (sA (tk1 s i j) 0 j) (sA (tk1 s i j) 0 i) 0 0 20)) 1 i) 0 0 8)) 2 i (va_cpy (sA (wA (wA (tk1 s i j) 0 i (va_cpy (sA (tk1 s i j) 0 j) (sA (tk1 s i j) 0 i) 0 0 20)) 1 i (va_cpy (sA (wA (tk1 s i j) 0 i (va_cpy (sA (tk1 s i j) 0 j) (sA (tk1 s i j) 0 i) 0 0 20)) 1 j) (sA (wA (tk1 s i j) 0 i (va_cpy (sA (tk1 s i j) 0 j) (sA (tk1 s i j) 0 i) 0 0 20)) 1 i) 0 0 8)) 2 j) (sA (wA (wA (tk1 s i j) 0 i (va_cpy (sA (tk1 s i j) 0 j) (sA (tk1 s i j) 0 i) 0 0 20)) 1 i (va_cpy (sA (wA (tk1 s i j) 0 i (va_cpy (sA (tk1 s i j) 0 j) (sA (tk1 s i j) 0 i) 0 0 20)) 1 j) (sA (wA (tk1 s i j) 0 i (va_cpy (sA (tk1 s i j) 0 j) (sA (tk1 s i j) 0 i) 0 0 20)) 1 i) 0 0 8)) 2 i) 0 0 8) = tk2 (tk1 s i j) i j := by
    unfold tk2
    generalize tk1 s i j = u
    simp (disch := omega) only [E0]
  generalize hu1 : tk1 s i j = u1 at *
  have hl3 : si (tk3 (tk2 u1 i j) i j) 8 j = nI ml := by
    rw [f123.2.2.2.2.2.2.2.2.1 8 j h']
    exact hl
  have f4 : FR (tk3 (tk2 u1 i j) i j) (tk4 (tk3 (tk2 u1 i j) i j) i j ml) i := tk4_fr
  have f1234 := FR_trans f123 f4
  have f5 : FR (tk4 (tk3 (tk2 u1 i j) i j) i j ml) (tk5 (tk4 (tk3 (tk2 u1 i j) i j) i j ml) i j) i := tk5_fr
  refine ⟨tk5 (tk4 (tk3 (tk2 u1 i j) i j) i j ml) i j, ?_, FR_trans f1234 f5, fun k hk => ?_, fun q hq => ?_, fun q hq => ?_, fun q hq => ?_, fun q hq => ?_, fun q hq => ?_, fun q hq => ?_, fun q hq => ?_, fun q hq => ?_⟩
  · rw [b1, e1, e_bU, e2, e_bU, e3, e_bU, c2, c_tkRounds h, e_bU, c_tkLaw h hl3 h900, e_bU, c_tkDeeds, e_bU]
  · have e2s : ∀ k, si (tk2 u1 i j) k = si u1 k := fun k => rfl
    rw [tk5_si, tk4_si, tk3_si, e2s, f1234.2.2.2.2.2.2.2.2.1 k j h', f123.2.2.2.2.2.2.2.2.1 k j h', f1.2.2.2.2.2.2.2.2.1 k j h', ← hu1, tk1_si]
    split
    · rfl
    · split
      · rfl
      · split
        · rfl
        · rw [if_pos (by omega)]
  · rw [tk5_sA (by omega), tk4_sA (by omega), tk3_sA (by omega)]
    unfold tk2
    simp (disch := omega) only [E0]
    rw [cpy0 hq, ← hu1]
    rfl
  · rw [tk5_sA (by omega), tk4_sA (by omega), tk3_sA (by omega)]
    unfold tk2
    simp (disch := omega) only [E0]
    rw [cpy0 hq, ← hu1]
    rfl
  · rw [tk5_sA (by omega), tk4_sA (by omega), tk3_sA (by omega)]
    unfold tk2
    simp (disch := omega) only [E0]
    rw [cpy0 hq, ← hu1]
    rfl
  · rw [tk5_sA (by omega), tk4_sA (by omega)]
    unfold tk3
    simp (disch := omega) only [E0]
    rw [cpy0 hq, tk2_sA (by omega), ← hu1]
    rfl
  · rw [tk5_sA (by omega), tk4_sA (by omega)]
    unfold tk3
    simp (disch := omega) only [E0]
    rw [cpy0 hq, tk2_sA (by omega), ← hu1]
    rfl
  · rw [tk5_sA (by omega), tk4_sA (by omega)]
    unfold tk3
    simp (disch := omega) only [E0]
    rw [cpy0 hq, tk2_sA (by omega), ← hu1]
    rfl
  · rw [tk5_sA (by omega)]
    unfold tk4
    simp (disch := omega) only [E0]
    rw [cpy0 hq, tk3_sA (by omega), tk2_sA (by omega), ← hu1]
    rfl
  · unfold tk5
    simp (disch := omega) only [E0]
    rw [cpy0 hq, tk4_sA (by omega), tk3_sA (by omega), tk2_sA (by omega), ← hu1]
    rfl
end TRY
