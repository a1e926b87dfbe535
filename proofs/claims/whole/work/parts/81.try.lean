/-! Trays, as both hold them; whole calls: when, errors, ink. -/
def TRk (s : ab_S) (j : Nat) : Prop := (sq s 0 j = none ∧ sa s 22 j = -nI 1) ∨ ∃ t so m, sq s 0 j = some t ∧ t < sn s 3 ∧ so < 4 ∧ m ≤ 30 ∧ si s 10 t = nI so ∧ si s 11 t = nI m ∧ sa s 22 j = nI so ∧ sa s 23 j = nI m ∧ ∀ q, q < 30 → sB s 0 t q = sb s 2 (30 * j + q)
def TR (s : ab_S) : Prop := (∀ j, j < 4 → TRk s j) ∧ ∀ j j' t, j < 4 → j' < 4 → sq s 0 j = some t → sq s 0 j' = some t → j = j'
theorem TRk.sameX {s s' : ab_S} {j : Nat} (h : TRk s j) (h1 : sX s s') : TRk s' j := by
  obtain ⟨a1, a2, a3, a4, a5, a6, a7, a8, a9⟩ := h1
  unfold TRk at h ⊢
  rw [a8, a4 22 (by omega), a4 23 (by omega), a7, a6, a9]
  rcases h with h | ⟨t, so, m, h1, h2, h3, h4, h5, h6, h7⟩
  · exact Or.inl h
  · refine Or.inr ⟨t, so, m, h1, h2, h3, h4, ?_, ?_, h7⟩
    · rw [a3 10 t (Or.inr (by decide))]
      exact h5
    · rw [a3 11 t (Or.inr (by decide))]
      exact h6
theorem TR.sameX {s s' : ab_S} (h : TR s) (h1 : sX s s') : TR s' := ⟨fun j hj => (h.1 j hj).sameX h1, by
  rw [h1.2.2.2.2.2.2.2.1]
  exact h.2⟩
theorem TR.ths {s : ab_S} (h : TR s) : TR (ths s) := h
theorem lN_rem {v : Nat} (hv : v < 2 ^ 63) : lN v - lN v / lN 20 * lN 20 = lN (v % 20) := pk_lRem hv (by decide) (by decide)
theorem lN_div {v : Nat} (hv : v < 2 ^ 63) : lN v / lN 20 = lN (v / 20) := pk_lDiv hv (by decide) (by decide)
/-- a number that is 20 times a name and a street -/
def LB (n : Nat) (y : Int64) : Bool := decide (0 ≤ y.toInt) && (decide (y.toInt.toNat % 20 < n) && decide (y.toInt.toNat / 20 < n))
/-- a number that is a name, or no less than x -/
def NB (n : Nat) (x : Int) (y : Int64) : Bool := decide (x ≤ y.toInt) && decide (y.toInt < n)
section OP16
variable {X : (Nat → Int32) × Nat} {d k n nr bm np hs ml : Nat} {u5 u6 : Option ab_V} {s : ab_S} {nm z f g lo li src : Nat → Nat} {st : Nat → Nat → Nat} {by' : Nat → Int32}
theorem c_n150_1 {x : Int32} (h : ¬ inS x 4 = true) : ab_ev X d 150 [.inr (0, 0), .inl (.int x)] s = some (.inr 1, ths s) := by
  rw [c_n150, if_neg h]
theorem c_n150_2 {j : Nat} (hj : j < 4) (hq : sq s 0 j = none) : ab_ev X d 150 [.inr (0, 0), .inl (.int (nI j))] s = some (.inr 2, ths s) := by
  rw [c_n150, if_pos (inS_nI hj (by decide)), nI_clamp (by omega), hq]
theorem c_n150_3 {j t : Nat} (hj : j < 4) (hq : sq s 0 j = some t) : ab_ev X d 150 [.inr (0, 0), .inl (.int (nI j))] s = some (.inl (some (.inr (8, t))), s) := by
  rw [c_n150, if_pos (inS_nI hj (by decide)), nI_clamp (by omega), hq]
theorem r310_1 {x : Int32} (h : ¬ inS x 4 = true) : ab_ev X (d + 2) 310 [.inr (9, 0), .inl (.int x)] s = some (.inl (some (.inl (.int (nI 1)))), s) := by
  rw [b310, r311, if_neg h, e_bI, if_pos rfl]
theorem r310_2 {j : Nat} (hj : j < 4) (hq : sa s 22 j = -nI 1) : ab_ev X (d + 2) 310 [.inr (9, 0), .inl (.int (nI j))] s = some (.inl (some (.inl (.int (nI 2)))), s) := by
  rw [b310, r311, if_pos (inS_nI hj (by decide)), e_bI, if_neg (show ¬ nI 1 = nI 0 by decide), r_in hj (by decide), nI_clamp (by omega), hq, if_pos rfl]
theorem r310_3 {j so : Nat} (hj : j < 4) (hso : so < 4) (hq : sa s 22 j = nI so) : ab_ev X (d + 2) 310 [.inr (9, 0), .inl (.int (nI j))] s = some (.inl (some (.inl (.int (nI 0)))), s) := by
  rw [b310, r311, if_pos (inS_nI hj (by decide)), e_bI, if_neg (show ¬ nI 1 = nI 0 by decide), r_in hj (by decide), nI_clamp (by omega), hq, if_neg (n_m1 _ (by omega))]
/-- numbers told, looked at by the class -/
theorem l163 {t m : Nat} {x2 : Int32} (hcn : si s 1 0 = nI n) (hn : n ≤ 20) (hm : si s 11 t = nI m) (h30 : m ≤ 30) : ∀ (j i : Nat) (u : Option ab_V), i + j = m → (∀ q, q < i → LB n (sB s 0 t q) = true) → ab_at X (d + 1) 163 12 [some (.inr (0, 0)), some (.inr (8, t)), some (.inl (.int x2)), some (.inl (.int (nI i))), u, none] [] s = if ∀ q, q < m → LB n (sB s 0 t q) = true then some (.inl none, s) else some (.inr 0, ths s)
  | 0, i, u, e, h => by
    obtain rfl : i = m := by omega
    rw [b163_12, hm, if_pos (nI_le (Nat.le_refl _) (by omega)), if_pos h]
  | j + 1, i, u, e, h => by
    have hi : i < m := by omega
    have ih := fun u h => l163 (x2 := x2) hcn hn hm h30 j (i + 1) u (by omega) h
    rw [b163_12, hm, if_neg (nI_ge hi (by omega)), c_get hm h30 hi, e_bJ, hcn]
    by_cases q0 : (sB s 0 t i).toInt < 0
    · have hb : ¬ ∀ q, q < m → LB n (sB s 0 t q) = true := fun z => by
        have := z i hi
        unfold LB at this
        rw [decide_eq_false (by omega)] at this
        cases this
      rw [if_pos ((j_lt _ _).mpr (by rw [lN_int (by omega)]; exact q0)), if_neg hb]
      rfl
    · rw [if_neg (fun z => q0 (by have := (j_lt _ _).mp z; rw [lN_int (by omega)] at this; exact this))]
      have hy := lN_rep (y := sB s 0 t i) (by omega)
      have hlt := Int64.toInt_lt (sB s 0 t i)
      generalize hv : (sB s 0 t i).toInt.toNat = v at *
      have hv63 : v < 2 ^ 63 := by omega
      have hLB : LB n (sB s 0 t i) = (decide (v % 20 < n) && decide (v / 20 < n)) := by
        unfold LB
        rw [hv, decide_eq_true (by omega), Bool.true_and]
      rw [hy, lN_rem hv63, lN_div hv63, nI_l (by omega)]
      have c1 : nI 0 ≤ lg_cmp (lN (v % 20)) (lN n) ↔ n ≤ v % 20 := by
        rw [j_ge, lN_int (by omega), lN_int (by omega)]
        omega
      have c2 : lg_cmp (lN (v / 20)) (lN n) < nI 0 ↔ v / 20 < n := by
        rw [j_lt, lN_int (by omega), lN_int (by omega)]
        omega
      by_cases q1 : n ≤ v % 20
      · have hb : ¬ ∀ q, q < m → LB n (sB s 0 t q) = true := fun z => by
          have := z i hi
          rw [hLB, decide_eq_false (by omega)] at this
          cases this
        rw [if_pos (c1.mpr q1), if_neg hb]
        rfl
      · rw [if_neg (fun z => q1 (c1.mp z))]
        by_cases q2 : v / 20 < n
        · rw [if_pos (c2.mpr q2), nI_add]
          exact ih _ (fun q hq => by
            by_cases e6 : q = i
            · rw [e6, hLB, decide_eq_true (by omega), decide_eq_true q2]
              rfl
            · exact h q (by omega))
        · have hb : ¬ ∀ q, q < m → LB n (sB s 0 t q) = true := fun z => by
            have := z i hi
            rw [hLB, decide_eq_false q2, Bool.and_false] at this
            cases this
          rw [if_neg (fun z => q2 (c2.mp z)), if_neg hb]
          rfl
theorem c_163 {t m M : Nat} (hcn : si s 1 0 = nI n) (hn : n ≤ 20) (hm : si s 11 t = nI m) (h30 : m ≤ 30) (hM : M ≤ 30) : ab_ev X (d + 1) 163 [.inr (0, 0), .inr (8, t), .inl (.int (nI M))] s = if 1 ≤ m ∧ m ≤ M ∧ ∀ q, q < m → LB n (sB s 0 t q) = true then some (.inl none, s) else some (.inr 0, ths s) := by
  have i1 : (nI 1).toInt = 1 := by decide
  rw [b163, hm, c_n103, nI_toInt (by omega), i1, nI_toInt (by omega)]
  by_cases h : inR (m : Int) 1 (M : Int) = true
  · have h2 := inR_iff.mp h
    rw [if_pos h, e_bU, l163 hcn hn hm h30 m 0 none (by omega) (fun q hq => by omega)]
    by_cases h3 : ∀ q, q < m → LB n (sB s 0 t q) = true
    · rw [if_pos h3, if_pos ⟨by omega, by omega, h3⟩]
    · rw [if_neg h3, if_neg (fun z => h3 z.2.2)]
  · rw [if_neg h, if_neg (fun z => h (inR_iff.mpr ⟨by omega, by omega⟩))]
    rfl
/-- numbers told, looked at by the model -/
theorem l325 {j m : Nat} {x2 x3 : Int32} (hcn : sa s 8 1 = nI n) (hn : n ≤ 20) (hj : j < 4) (hm : sa s 23 j = nI m) (h30 : m ≤ 30) : ∀ (i' i : Nat) (u : Option ab_V), i + i' = m → (∀ q, q < i → LB n (sb s 2 (30 * j + q)) = true) → ab_at X (d + 2) 325 33 [some (.inr (9, 0)), some (.inl (.int (nI j))), some (.inl (.int x2)), some (.inl (.int x3)), some (.inl (.int (nI i))), u, none] [] s = some (.inl (some (.inl (.int (if ∀ q, q < m → LB n (sb s 2 (30 * j + q)) = true then nI 0 else nI 3)))), s)
  | 0, i, u, e, h => by
    obtain rfl : i = m := by omega
    rw [b325_33, r_in hj (by decide), nI_clamp (by omega), hm, if_pos (nI_le (Nat.le_refl _) (by omega)), if_pos h]
  | i' + 1, i, u, e, h => by
    have hi : i < m := by omega
    have ih := fun u h => l325 (x2 := x2) (x3 := x3) hcn hn hj hm h30 i' (i + 1) u (by omega) h
    rw [b325_33, r_in hj (by decide), nI_clamp (by omega), hm, if_neg (nI_ge hi (by omega)), pk_mul, nI_add, r_in (j := 30 * j + i) (by omega) (by decide), nI_clamp (by omega)]
    by_cases q0 : (sb s 2 (30 * j + i)).toInt < 0
    · have hb : ¬ ∀ q, q < m → LB n (sb s 2 (30 * j + q)) = true := fun z => by
        have := z i hi
        unfold LB at this
        rw [decide_eq_false (by omega)] at this
        cases this
      rw [if_pos ((j_lt _ _).mpr (by rw [lN_int (by omega)]; exact q0)), if_neg hb]
    · rw [if_neg (fun z => q0 (by have := (j_lt _ _).mp z; rw [lN_int (by omega)] at this; exact this))]
      have hy := lN_rep (y := sb s 2 (30 * j + i)) (by omega)
      have hlt := Int64.toInt_lt (sb s 2 (30 * j + i))
      generalize hv : (sb s 2 (30 * j + i)).toInt.toNat = v at *
      have hv63 : v < 2 ^ 63 := by omega
      have hLB : LB n (sb s 2 (30 * j + i)) = (decide (v % 20 < n) && decide (v / 20 < n)) := by
        unfold LB
        rw [hv, decide_eq_true (by omega), Bool.true_and]
      have c1 : inR ((v % 20 : Nat) : Int) 0 ((n : Int) - 1) = decide (v % 20 < n) := by
        unfold inR
        rw [decide_eq_true (by omega), Bool.true_and]
        exact decide_eq_decide.mpr (by omega)
      have c2 : inR ((v / 20 : Nat) : Int) 0 ((n : Int) - 1) = decide (v / 20 < n) := by
        unfold inR
        rw [decide_eq_true (by omega), Bool.true_and]
        exact decide_eq_decide.mpr (by omega)
      have g1 : ab_ev X (d + 1) 266 [.inr (9, 0), .inl (.long (sb s 2 (30 * j + i) - sb s 2 (30 * j + i) / lN 20 * lN 20))] s = some (.inl (some (.inl (.int (if decide (v % 20 < n) = true then nI 1 else nI 0)))), s) := by
        rw [hy, lN_rem hv63, r266L (n := n) hcn (by omega), lN_int (by omega), c1]
      have g2 : ab_ev X (d + 1) 266 [.inr (9, 0), .inl (.long (sb s 2 (30 * j + i) / lN 20))] s = some (.inl (some (.inl (.int (if decide (v / 20 < n) = true then nI 1 else nI 0)))), s) := by
        rw [hy, lN_div hv63, r266L (n := n) hcn (by omega), lN_int (by omega), c2]
      rw [g1, e_bI]
      by_cases q1 : v % 20 < n
      · rw [decide_eq_true q1, if_pos rfl, if_neg (show ¬ nI 1 = nI 0 by decide), g2, e_bI]
        by_cases q2 : v / 20 < n
        · rw [decide_eq_true q2, if_pos rfl, if_neg (show ¬ nI 1 = nI 0 by decide), nI_add]
          exact ih _ (fun q hq => by
            by_cases e6 : q = i
            · rw [e6, hLB, decide_eq_true q1, decide_eq_true q2]
              rfl
            · exact h q (by omega))
        · have hb : ¬ ∀ q, q < m → LB n (sb s 2 (30 * j + q)) = true := fun z => by
            have := z i hi
            rw [hLB, decide_eq_false q2, Bool.and_false] at this
            cases this
          rw [decide_eq_false q2, if_neg (show ¬ false = true by decide), if_pos rfl, if_neg hb]
      · have hb : ¬ ∀ q, q < m → LB n (sb s 2 (30 * j + q)) = true := fun z => by
          have := z i hi
          rw [hLB, decide_eq_false q1] at this
          cases this
        rw [decide_eq_false q1, if_neg (show ¬ false = true by decide), if_pos rfl, if_neg hb]
theorem r325 {j m so M : Nat} (hcn : sa s 8 1 = nI n) (hn : n ≤ 20) (hj : j < 4) (hso : so < 4) (h22 : sa s 22 j = nI so) (hm : sa s 23 j = nI m) (h30 : m ≤ 30) (hM : M ≤ 30) : ab_ev X (d + 3) 325 [.inr (9, 0), .inl (.int (nI j)), .inl (.int (nI M))] s = some (.inl (some (.inl (.int (if 1 ≤ m ∧ m ≤ M ∧ ∀ q, q < m → LB n (sb s 2 (30 * j + q)) = true then nI 0 else nI 3)))), s) := by
  have j1 : (lN 1).toInt = 1 := by decide
  rw [b325, r310_3 hj hso h22, e_bI, if_pos rfl, r_in hj (by decide), nI_clamp (by omega), hm, r232, j_of, j_of, j1, nI_toInt (by omega), nI_toInt (by omega), e_bI]
  by_cases h : inR (m : Int) 1 (M : Int) = true
  · have h2 := inR_iff.mp h
    rw [if_pos h, if_neg (show ¬ nI 1 = nI 0 by decide), l325 (d := d + 1) hcn hn hj hm h30 m 0 none (by omega) (fun q hq => by omega)]
    by_cases h3 : ∀ q, q < m → LB n (sb s 2 (30 * j + q)) = true
    · rw [if_pos h3, if_pos ⟨by omega, by omega, h3⟩]
    · rw [if_neg h3, if_neg (fun z => h3 z.2.2)]
  · rw [if_neg h, if_pos rfl, if_neg (fun z => h (inR_iff.mpr ⟨by omega, by omega⟩))]
theorem r325_1 {x y : Int32} (h : ¬ inS x 4 = true) : ab_ev X (d + 3) 325 [.inr (9, 0), .inl (.int x), .inl (.int y)] s = some (.inl (some (.inl (.int (nI 1)))), s) := by
  rw [b325, r310_1 h, e_bI, if_neg (show ¬ nI 1 = nI 0 by decide)]
theorem r325_2 {j : Nat} {y : Int32} (hj : j < 4) (h22 : sa s 22 j = -nI 1) : ab_ev X (d + 3) 325 [.inr (9, 0), .inl (.int (nI j)), .inl (.int y)] s = some (.inl (some (.inl (.int (nI 2)))), s) := by
  rw [b325, r310_2 hj h22, e_bI, if_neg (show ¬ nI 2 = nI 0 by decide)]
/-- names told, looked at by the class -/
theorem l208 {t m : Nat} {x2 : Int32} (hcn : si s 1 0 = nI n) (hn : n ≤ 20) (hm : si s 11 t = nI m) (h30 : m ≤ 30) : ∀ (j i : Nat) (u : Option ab_V), i + j = m → (∀ q, q < i → NB n x2.toInt (sB s 0 t q) = true) → ab_at X (d + 1) 208 24 [some (.inr (0, 0)), some (.inr (8, t)), some (.inl (.int x2)), some (.inl (.int (nI i))), u, none] [] s = if ∀ q, q < m → NB n x2.toInt (sB s 0 t q) = true then some (.inl none, s) else some (.inr 0, ths s)
  | 0, i, u, e, h => by
    obtain rfl : i = m := by omega
    rw [b208_24, hm, if_pos (nI_le (Nat.le_refl _) (by omega)), if_pos h]
  | j + 1, i, u, e, h => by
    have hi : i < m := by omega
    have ih := fun u h => l208 (x2 := x2) hcn hn hm h30 j (i + 1) u (by omega) h
    have c1 : lg_cmp (sB s 0 t i) x2.toInt64 < nI 0 ↔ (sB s 0 t i).toInt < x2.toInt := by rw [j_lt, j_of]
    have c2 : lg_cmp (sB s 0 t i) (nI n).toInt64 < nI 0 ↔ (sB s 0 t i).toInt < n := by rw [j_lt, j_of, nI_toInt (by omega)]
    rw [b208_24, hm, if_neg (nI_ge hi (by omega)), c_get hm h30 hi, e_bJ, hcn]
    by_cases q0 : (sB s 0 t i).toInt < x2.toInt
    · have hb : ¬ ∀ q, q < m → NB n x2.toInt (sB s 0 t q) = true := fun z => by
        have := z i hi
        unfold NB at this
        rw [decide_eq_false (by omega)] at this
        cases this
      rw [if_pos (c1.mpr q0), if_neg hb]
      rfl
    · rw [if_neg (fun z => q0 (c1.mp z))]
      by_cases q1 : (sB s 0 t i).toInt < n
      · rw [if_pos (c2.mpr q1), nI_add]
        exact ih _ (fun q hq => by
          by_cases e6 : q = i
          · rw [e6]
            unfold NB
            rw [decide_eq_true (by omega), decide_eq_true q1]
            rfl
          · exact h q (by omega))
      · have hb : ¬ ∀ q, q < m → NB n x2.toInt (sB s 0 t q) = true := fun z => by
          have := z i hi
          unfold NB at this
          rw [decide_eq_false q1, Bool.and_false] at this
          cases this
        rw [if_neg (fun z => q1 (c2.mp z)), if_neg hb]
        rfl
theorem c_208 {t m : Nat} {x2 : Int32} (hcn : si s 1 0 = nI n) (hn : n ≤ 20) (hm : si s 11 t = nI m) (h30 : m ≤ 30) : ab_ev X (d + 1) 208 [.inr (0, 0), .inr (8, t), .inl (.int x2)] s = if m = n ∧ ∀ q, q < m → NB n x2.toInt (sB s 0 t q) = true then some (.inl none, s) else some (.inr 0, ths s) := by
  rw [b208, hm, hcn, c_n103, nI_toInt (by omega), nI_toInt (by omega)]
  by_cases h : inR (m : Int) (n : Int) (n : Int) = true
  · have h2 := inR_iff.mp h
    rw [if_pos h, e_bU, l208 hcn hn hm h30 m 0 none (by omega) (fun q hq => by omega)]
    by_cases h3 : ∀ q, q < m → NB n x2.toInt (sB s 0 t q) = true
    · rw [if_pos h3, if_pos ⟨by omega, h3⟩]
    · rw [if_neg h3, if_neg (fun z => h3 z.2)]
  · rw [if_neg h, if_neg (fun z => h (inR_iff.mpr ⟨by omega, by omega⟩))]
    rfl
/-- names told, looked at by the model -/
theorem l345 {j : Nat} {x2 x3 : Int32} (hcn : sa s 8 1 = nI n) (hn : n ≤ 20) (hj : j < 4) : ∀ (i' i : Nat), i + i' = n → (∀ q, q < i → NB n x2.toInt (sb s 2 (30 * j + q)) = true) → ab_at X (d + 2) 345 30 [some (.inr (9, 0)), some (.inl (.int (nI j))), some (.inl (.int x2)), some (.inl (.int x3)), some (.inl (.int (nI i)))] [] s = some (.inl (some (.inl (.int (if ∀ q, q < n → NB n x2.toInt (sb s 2 (30 * j + q)) = true then nI 0 else nI 3)))), s)
  | 0, i, e, h => by
    obtain rfl : i = n := by omega
    rw [b345_30, r267 hcn, e_bI, if_pos (nI_le (Nat.le_refl _) (by omega)), if_pos h]
  | i' + 1, i, e, h => by
    have hi : i < n := by omega
    have ih := fun h => l345 (x2 := x2) (x3 := x3) hcn hn hj i' (i + 1) (by omega) h
    have c1 : inR (sb s 2 (30 * j + i)).toInt x2.toInt ((n : Int) - 1) = NB n x2.toInt (sb s 2 (30 * j + i)) := by
      unfold inR NB
      congr 1
      exact decide_eq_decide.mpr (by omega)
    rw [b345_30, r267 hcn, e_bI, if_neg (nI_ge hi (by omega)), pk_mul, nI_add, r_in (j := 30 * j + i) (by omega) (by decide), nI_clamp (by omega), r267 hcn, e_bI, r232, j_of, j_of, n_pred (by omega), c1, e_bI]
    by_cases q0 : NB n x2.toInt (sb s 2 (30 * j + i)) = true
    · rw [if_pos q0, if_neg (show ¬ nI 1 = nI 0 by decide), nI_add]
      exact ih (fun q hq => by
        by_cases e6 : q = i
        · rw [e6]
          exact q0
        · exact h q (by omega))
    · rw [if_neg q0, if_pos rfl, if_neg (fun z => q0 (z i hi))]
theorem r345 {j m so : Nat} {x2 : Int32} (hcn : sa s 8 1 = nI n) (hn : n ≤ 20) (hj : j < 4) (hso : so < 4) (h22 : sa s 22 j = nI so) (hm : sa s 23 j = nI m) (h30 : m ≤ 30) : ab_ev X (d + 3) 345 [.inr (9, 0), .inl (.int (nI j)), .inl (.int x2)] s = some (.inl (some (.inl (.int (if m = n ∧ ∀ q, q < n → NB n x2.toInt (sb s 2 (30 * j + q)) = true then nI 0 else nI 3)))), s) := by
  rw [b345, r310_3 hj hso h22, e_bI, if_pos rfl, r_in hj (by decide), nI_clamp (by omega), hm, r267 hcn, e_bI]
  by_cases h : m = n
  · rw [if_pos (by rw [h]), l345 (d := d + 1) hcn hn hj n 0 (by omega) (fun q hq => by omega)]
    by_cases h3 : ∀ q, q < n → NB n x2.toInt (sb s 2 (30 * j + q)) = true
    · rw [if_pos h3, if_pos ⟨h, h3⟩]
    · rw [if_neg h3, if_neg (fun z => h3 z.2)]
  · rw [if_neg (fun z => h ((nI_eq (by omega) (by omega)).mp z)), if_neg (fun z => h z.1)]
theorem r345_1 {x y : Int32} (h : ¬ inS x 4 = true) : ab_ev X (d + 3) 345 [.inr (9, 0), .inl (.int x), .inl (.int y)] s = some (.inl (some (.inl (.int (nI 1)))), s) := by
  rw [b345, r310_1 h, e_bI, if_neg (show ¬ nI 1 = nI 0 by decide)]
theorem r345_2 {j : Nat} {y : Int32} (hj : j < 4) (h22 : sa s 22 j = -nI 1) : ab_ev X (d + 3) 345 [.inr (9, 0), .inl (.int (nI j)), .inl (.int y)] s = some (.inl (some (.inl (.int (nI 2)))), s) := by
  rw [b345, r310_2 hj h22, e_bI, if_neg (show ¬ nI 2 = nI 0 by decide)]
end OP16
