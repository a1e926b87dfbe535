section BC32
variable {M : Nat}
def bc32_c (M j : Nat) : Nat := (M.testBit j).toNat
def bc32_p (M j : Nat) : Nat := bc32_c M (2 * j) + bc32_c M (2 * j + 1)
def bc32_q (M j : Nat) : Nat := bc32_p M (2 * j) + bc32_p M (2 * j + 1)
def bc32_r (M j : Nat) : Nat := bc32_q M (2 * j) + bc32_q M (2 * j + 1)
theorem bc32_c1 (M j : Nat) : bc32_c M j ≤ 1 := by
  unfold bc32_c
  cases M.testBit j <;> decide
theorem bc32_p2 (M j : Nat) : bc32_p M j ≤ 2 := by
  have a := bc32_c1 M (2 * j)
  have b := bc32_c1 M (2 * j + 1)
  unfold bc32_p
  omega
theorem bc32_q4 (M j : Nat) : bc32_q M j ≤ 4 := by
  have a := bc32_p2 M (2 * j)
  have b := bc32_p2 M (2 * j + 1)
  unfold bc32_q
  omega
theorem bc32_r8 (M j : Nat) : bc32_r M j ≤ 8 := by
  have a := bc32_q4 M (2 * j)
  have b := bc32_q4 M (2 * j + 1)
  unfold bc32_r
  omega
theorem bc32_c0 (h : M < 2 ^ 32) {j : Nat} (hj : 32 ≤ j) : bc32_c M j = 0 := by
  unfold bc32_c
  rw [Nat.testBit_lt_two_pow (Nat.lt_of_lt_of_le h (Nat.pow_le_pow_right (by decide) hj))]
  rfl
theorem bc32_1 (h : M < 2 ^ 32) : (M / 2 &&& 1431655765) ≤ M ∧ M - (M / 2 &&& 1431655765) = dg 2 (bc32_p M) 16 := by
  have e : M = dg 1 (bc32_c M) (2 * 16) := by
    have q := dg_bits M 32
    rw [Nat.mod_eq_of_lt h] at q
    exact q.symm
  have hc : ∀ j, bc32_c M j < 2 ^ 1 := fun j => by have := bc32_c1 M j; omega
  have e2 : dg 1 (bc32_c M) (2 * 16) / 2 ^ 1 = dg 1 (fun j => bc32_c M (j + 1)) (2 * 16) := by
    rw [← dg_ext (d := bc32_c M) (bc32_c0 h (by omega)), dg_shr (hc 0)]
  have em : (1431655765 : Nat) = dg 1 (fun j => if j % 2 = 0 then 2 ^ 1 - 1 else 0) (2 * 16) := by decide +kernel
  have e3 : M / 2 &&& 1431655765 = dg 2 (fun j => bc32_c M (2 * j + 1)) 16 := by
    have q := dg_mask (w := 1) (k := 16) (d := fun j => bc32_c M (j + 1)) (fun j _ => hc _)
    rw [← em, ← e2, ← e] at q
    exact q
  have e4 : M = dg 2 (fun j => bc32_c M (2 * j) + 2 ^ 1 * bc32_c M (2 * j + 1)) 16 := e.trans dg_pair
  have q := dg_sub (w := 2) (k := 16) (d := fun j => bc32_c M (2 * j) + 2 ^ 1 * bc32_c M (2 * j + 1)) (e := fun j => bc32_c M (2 * j + 1)) (fun j _ => by omega)
  rw [← e4, ← e3] at q
  refine ⟨q.1, q.2.trans (dg_cong (fun j _ => ?_))⟩
  unfold bc32_p
  omega
theorem bc32_2 (h : M < 2 ^ 32) : (dg 2 (bc32_p M) 16 &&& 858993459) + (dg 2 (bc32_p M) 16 / 4 &&& 858993459) = dg 4 (bc32_q M) 8 := by
  have em : (858993459 : Nat) = dg 2 (fun j => if j % 2 = 0 then 2 ^ 2 - 1 else 0) (2 * 8) := by decide +kernel
  rw [em]
  refine dg_fold (w := 2) (k := 8) (d := bc32_p M) (fun j _ => by have := bc32_p2 M j; omega) ?_
  unfold bc32_p
  rw [bc32_c0 h (by omega), bc32_c0 h (by omega)]
theorem bc32_3 (h : M < 2 ^ 32) : (dg 4 (bc32_q M) 8 + dg 4 (bc32_q M) 8 / 16) &&& 252645135 = dg 8 (bc32_r M) 4 := by
  have em : (252645135 : Nat) = dg 4 (fun j => if j % 2 = 0 then 2 ^ 4 - 1 else 0) (2 * 4) := by decide +kernel
  have hz : bc32_q M 8 = 0 := by
    unfold bc32_q bc32_p
    rw [bc32_c0 h (by omega), bc32_c0 h (by omega), bc32_c0 h (by omega), bc32_c0 h (by omega)]
  have e2 : dg 4 (bc32_q M) 8 / 16 = dg 4 (fun j => bc32_q M (j + 1)) 8 := by
    rw [← dg_ext (d := bc32_q M) hz]
    exact dg_shr (w := 4) (by have := bc32_q4 M 0; omega)
  rw [e2, dg_add, em]
  exact dg_mask (w := 4) (k := 4) (d := fun j => bc32_q M j + bc32_q M (j + 1)) (fun j _ => by have := bc32_q4 M j; have := bc32_q4 M (j + 1); omega)
theorem bc32_r0 (h : M < 2 ^ 32) {j : Nat} (hj : 4 ≤ j) : bc32_r M j = 0 := by
  unfold bc32_r bc32_q bc32_p
  rw [bc32_c0 h (by omega), bc32_c0 h (by omega), bc32_c0 h (by omega), bc32_c0 h (by omega), bc32_c0 h (by omega), bc32_c0 h (by omega), bc32_c0 h (by omega), bc32_c0 h (by omega)]
theorem bc32_ds (M : Nat) : ds (bc32_r M) 4 = fb_ct (fun j => M.testBit j) 32 := by
  have a : ds (bc32_r M) 4 = ds (bc32_q M) (2 * 4) := ds_pair 4
  have b : ds (bc32_q M) 8 = ds (bc32_p M) (2 * 8) := ds_pair 8
  have c : ds (bc32_p M) 16 = ds (bc32_c M) (2 * 16) := ds_pair 16
  exact a.trans (b.trans (c.trans (ds_ct (fun j => M.testBit j) 32)))
theorem bc32_lt {d : Nat → Nat} {w k : Nat} (h : ∀ j, d j < 2 ^ w) (hk : w * k = 32) : dg w d k < 2 ^ 32 := by
  have := dg_lt (w := w) (k := k) (d := d) (fun j _ => h j)
  rwa [hk] at this
theorem bc32_sh (h : M < 2 ^ 32) {d : Nat → Nat} (hd : ∀ j, d j < 2 ^ 8) (hz : ∀ j, 4 ≤ j → d j = 0) : dg 8 d 4 / 256 = dg 8 (fun j => d (j + 1)) 4 := by
  rw [← dg_ext (d := d) (hz 4 (by omega))]
  exact dg_shr (w := 8) (hd 0)
end BC32
section BC64
variable {M : Nat}
def bc64_c (M j : Nat) : Nat := (M.testBit j).toNat
def bc64_p (M j : Nat) : Nat := bc64_c M (2 * j) + bc64_c M (2 * j + 1)
def bc64_q (M j : Nat) : Nat := bc64_p M (2 * j) + bc64_p M (2 * j + 1)
def bc64_r (M j : Nat) : Nat := bc64_q M (2 * j) + bc64_q M (2 * j + 1)
theorem bc64_c1 (M j : Nat) : bc64_c M j ≤ 1 := by
  unfold bc64_c
  cases M.testBit j <;> decide
theorem bc64_p2 (M j : Nat) : bc64_p M j ≤ 2 := by
  have a := bc64_c1 M (2 * j)
  have b := bc64_c1 M (2 * j + 1)
  unfold bc64_p
  omega
theorem bc64_q4 (M j : Nat) : bc64_q M j ≤ 4 := by
  have a := bc64_p2 M (2 * j)
  have b := bc64_p2 M (2 * j + 1)
  unfold bc64_q
  omega
theorem bc64_r8 (M j : Nat) : bc64_r M j ≤ 8 := by
  have a := bc64_q4 M (2 * j)
  have b := bc64_q4 M (2 * j + 1)
  unfold bc64_r
  omega
theorem bc64_c0 (h : M < 2 ^ 64) {j : Nat} (hj : 64 ≤ j) : bc64_c M j = 0 := by
  unfold bc64_c
  rw [Nat.testBit_lt_two_pow (Nat.lt_of_lt_of_le h (Nat.pow_le_pow_right (by decide) hj))]
  rfl
theorem bc64_1 (h : M < 2 ^ 64) : (M / 2 &&& 6148914691236517205) ≤ M ∧ M - (M / 2 &&& 6148914691236517205) = dg 2 (bc64_p M) 32 := by
  have e : M = dg 1 (bc64_c M) (2 * 32) := by
    have q := dg_bits M 64
    rw [Nat.mod_eq_of_lt h] at q
    exact q.symm
  have hc : ∀ j, bc64_c M j < 2 ^ 1 := fun j => by have := bc64_c1 M j; omega
  have e2 : dg 1 (bc64_c M) (2 * 32) / 2 ^ 1 = dg 1 (fun j => bc64_c M (j + 1)) (2 * 32) := by
    rw [← dg_ext (d := bc64_c M) (bc64_c0 h (by omega)), dg_shr (hc 0)]
  have em : (6148914691236517205 : Nat) = dg 1 (fun j => if j % 2 = 0 then 2 ^ 1 - 1 else 0) (2 * 32) := by decide +kernel
  have e3 : M / 2 &&& 6148914691236517205 = dg 2 (fun j => bc64_c M (2 * j + 1)) 32 := by
    have q := dg_mask (w := 1) (k := 32) (d := fun j => bc64_c M (j + 1)) (fun j _ => hc _)
    rw [← em, ← e2, ← e] at q
    exact q
  have e4 : M = dg 2 (fun j => bc64_c M (2 * j) + 2 ^ 1 * bc64_c M (2 * j + 1)) 32 := e.trans dg_pair
  have q := dg_sub (w := 2) (k := 32) (d := fun j => bc64_c M (2 * j) + 2 ^ 1 * bc64_c M (2 * j + 1)) (e := fun j => bc64_c M (2 * j + 1)) (fun j _ => by omega)
  rw [← e4, ← e3] at q
  refine ⟨q.1, q.2.trans (dg_cong (fun j _ => ?_))⟩
  unfold bc64_p
  omega
theorem bc64_2 (h : M < 2 ^ 64) : (dg 2 (bc64_p M) 32 &&& 3689348814741910323) + (dg 2 (bc64_p M) 32 / 4 &&& 3689348814741910323) = dg 4 (bc64_q M) 16 := by
  have em : (3689348814741910323 : Nat) = dg 2 (fun j => if j % 2 = 0 then 2 ^ 2 - 1 else 0) (2 * 16) := by decide +kernel
  rw [em]
  refine dg_fold (w := 2) (k := 16) (d := bc64_p M) (fun j _ => by have := bc64_p2 M j; omega) ?_
  unfold bc64_p
  rw [bc64_c0 h (by omega), bc64_c0 h (by omega)]
theorem bc64_3 (h : M < 2 ^ 64) : (dg 4 (bc64_q M) 16 + dg 4 (bc64_q M) 16 / 16) &&& 1085102592571150095 = dg 8 (bc64_r M) 8 := by
  have em : (1085102592571150095 : Nat) = dg 4 (fun j => if j % 2 = 0 then 2 ^ 4 - 1 else 0) (2 * 8) := by decide +kernel
  have hz : bc64_q M 16 = 0 := by
    unfold bc64_q bc64_p
    rw [bc64_c0 h (by omega), bc64_c0 h (by omega), bc64_c0 h (by omega), bc64_c0 h (by omega)]
  have e2 : dg 4 (bc64_q M) 16 / 16 = dg 4 (fun j => bc64_q M (j + 1)) 16 := by
    rw [← dg_ext (d := bc64_q M) hz]
    exact dg_shr (w := 4) (by have := bc64_q4 M 0; omega)
  rw [e2, dg_add, em]
  exact dg_mask (w := 4) (k := 8) (d := fun j => bc64_q M j + bc64_q M (j + 1)) (fun j _ => by have := bc64_q4 M j; have := bc64_q4 M (j + 1); omega)
theorem bc64_r0 (h : M < 2 ^ 64) {j : Nat} (hj : 8 ≤ j) : bc64_r M j = 0 := by
  unfold bc64_r bc64_q bc64_p
  rw [bc64_c0 h (by omega), bc64_c0 h (by omega), bc64_c0 h (by omega), bc64_c0 h (by omega), bc64_c0 h (by omega), bc64_c0 h (by omega), bc64_c0 h (by omega), bc64_c0 h (by omega)]
theorem bc64_ds (M : Nat) : ds (bc64_r M) 8 = fb_ct (fun j => M.testBit j) 64 := by
  have a : ds (bc64_r M) 8 = ds (bc64_q M) (2 * 8) := ds_pair 8
  have b : ds (bc64_q M) 16 = ds (bc64_p M) (2 * 16) := ds_pair 16
  have c : ds (bc64_p M) 32 = ds (bc64_c M) (2 * 32) := ds_pair 32
  exact a.trans (b.trans (c.trans (ds_ct (fun j => M.testBit j) 64)))
theorem bc64_lt {d : Nat → Nat} {w k : Nat} (h : ∀ j, d j < 2 ^ w) (hk : w * k = 64) : dg w d k < 2 ^ 64 := by
  have := dg_lt (w := w) (k := k) (d := d) (fun j _ => h j)
  rwa [hk] at this
theorem bc64_sh (h : M < 2 ^ 64) {d : Nat → Nat} (hd : ∀ j, d j < 2 ^ 8) (hz : ∀ j, 8 ≤ j → d j = 0) : dg 8 d 8 / 256 = dg 8 (fun j => d (j + 1)) 8 := by
  rw [← dg_ext (d := d) (hz 8 (by omega))]
  exact dg_shr (w := 8) (hd 0)
end BC64
