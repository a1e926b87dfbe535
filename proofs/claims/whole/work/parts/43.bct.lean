/-! How many bits. -/
/-- digits of w bits, the lowest first -/
def dg (w : Nat) : (Nat → Nat) → Nat → Nat
  | _, 0 => 0
  | d, k + 1 => d 0 + 2 ^ w * dg w (fun j => d (j + 1)) k
theorem dg_cong {w : Nat} : ∀ {k : Nat} {d e : Nat → Nat}, (∀ j, j < k → d j = e j) → dg w d k = dg w e k
  | 0, _, _, _ => rfl
  | k + 1, d, e, h => by rw [dg, dg, h 0 (by omega), dg_cong (fun j hj => h (j + 1) (by omega))]
theorem dg_lt {w : Nat} : ∀ {k : Nat} {d : Nat → Nat}, (∀ j, j < k → d j < 2 ^ w) → dg w d k < 2 ^ (w * k)
  | 0, d, _ => by rw [dg, Nat.mul_zero]; decide
  | k + 1, d, h => by
    have ih := dg_lt (w := w) (k := k) (d := fun j => d (j + 1)) (fun j hj => h (j + 1) (by omega))
    have h0 := h 0 (by omega)
    rw [dg, Nat.mul_succ, Nat.add_comm (w * k) w, Nat.pow_add]
    calc d 0 + 2 ^ w * dg w (fun j => d (j + 1)) k < 2 ^ w + 2 ^ w * dg w (fun j => d (j + 1)) k := by omega
      _ = 2 ^ w * (dg w (fun j => d (j + 1)) k + 1) := by rw [Nat.mul_add, Nat.mul_one, Nat.add_comm]
      _ ≤ 2 ^ w * 2 ^ (w * k) := Nat.mul_le_mul_left _ ih
theorem and_split {w a b q r : Nat} (ha : a < 2 ^ w) (hb : b < 2 ^ w) : (a + 2 ^ w * q) &&& (b + 2 ^ w * r) = (a &&& b) + 2 ^ w * (q &&& r) := by
  have hab : a &&& b < 2 ^ w := Nat.and_lt_two_pow a hb
  apply Nat.eq_of_testBit_eq
  intro i
  rw [Nat.testBit_and, Nat.add_comm a, Nat.add_comm b, Nat.add_comm (a &&& b), Nat.testBit_two_pow_mul_add q ha, Nat.testBit_two_pow_mul_add r hb, Nat.testBit_two_pow_mul_add (q &&& r) hab]
  split
  · rw [Nat.testBit_and]
  · rw [Nat.testBit_and]
theorem dg_and {w : Nat} : ∀ {k : Nat} {d e : Nat → Nat}, (∀ j, j < k → d j < 2 ^ w) → (∀ j, j < k → e j < 2 ^ w) → dg w d k &&& dg w e k = dg w (fun j => d j &&& e j) k
  | 0, _, _, _, _ => by
    show (0 : Nat) &&& 0 = 0
    rfl
  | k + 1, d, e, hd, he => by
    rw [dg, dg, dg, and_split (hd 0 (by omega)) (he 0 (by omega)), dg_and (fun j hj => hd (j + 1) (by omega)) (fun j hj => he (j + 1) (by omega))]
theorem dg_add {w : Nat} : ∀ {k : Nat} {d e : Nat → Nat}, dg w d k + dg w e k = dg w (fun j => d j + e j) k
  | 0, _, _ => rfl
  | k + 1, d, e => by
    rw [dg, dg, dg, ← dg_add, Nat.mul_add]
    omega
theorem dg_sub {w : Nat} : ∀ {k : Nat} {d e : Nat → Nat}, (∀ j, j < k → e j ≤ d j) → dg w e k ≤ dg w d k ∧ dg w d k - dg w e k = dg w (fun j => d j - e j) k := by
  intro k d e h
  have h1 : dg w e k + dg w (fun j => d j - e j) k = dg w d k := by
    rw [dg_add]
    exact dg_cong (fun j hj => by have := h j hj; omega)
  omega
theorem dg_shr {w k : Nat} {d : Nat → Nat} (h : d 0 < 2 ^ w) : dg w d (k + 1) / 2 ^ w = dg w (fun j => d (j + 1)) k := by
  rw [dg, Nat.add_mul_div_left _ _ (Nat.two_pow_pos w), Nat.div_eq_of_lt h, Nat.zero_add]
theorem dg_ext {w : Nat} : ∀ {k : Nat} {d : Nat → Nat}, d k = 0 → dg w d (k + 1) = dg w d k
  | 0, d, h => by
    show d 0 + 2 ^ w * 0 = 0
    rw [h]
    rfl
  | k + 1, d, h => by
    show d 0 + 2 ^ w * dg w (fun j => d (j + 1)) (k + 1) = d 0 + 2 ^ w * dg w (fun j => d (j + 1)) k
    rw [dg_ext (d := fun j => d (j + 1)) h]
theorem dg_pair {w : Nat} : ∀ {k : Nat} {d : Nat → Nat}, dg w d (2 * k) = dg (w + w) (fun j => d (2 * j) + 2 ^ w * d (2 * j + 1)) k
  | 0, _ => rfl
  | k + 1, d => by
    rw [show 2 * (k + 1) = 2 * k + 1 + 1 by omega, dg, dg, dg, dg_pair, Nat.pow_add, Nat.mul_add, ← Nat.mul_assoc, ← Nat.add_assoc]
    rfl
theorem dg_bits (M : Nat) : ∀ k, dg 1 (fun j => (M.testBit j).toNat) k = M % 2 ^ k
  | 0 => by rw [dg, Nat.pow_zero, Nat.mod_one]
  | k + 1 => by
    have h := dg_bits (M / 2) k
    have e : ∀ j, (M / 2).testBit j = M.testBit (j + 1) := fun j => (Nat.testBit_succ M j).symm
    simp only [e] at h
    have h2 : (decide (M % 2 = 1)).toNat = M % 2 := by
      rcases Nat.mod_two_eq_zero_or_one M with q | q <;> rw [q] <;> rfl
    show (M.testBit 0).toNat + 2 ^ 1 * dg 1 (fun j => (M.testBit (j + 1)).toNat) k = _
    have h3 : (2 : Nat) ^ (k + 1) = 2 * 2 ^ k := Nat.pow_succ'
    rw [h, Nat.testBit_zero, h2, h3, Nat.mod_mul]
/-- every second digit, and half as many, twice as wide -/
theorem dg_half {w k : Nat} {d : Nat → Nat} : dg w (fun j => if j % 2 = 0 then d j else 0) (2 * k) = dg (w + w) (fun j => d (2 * j)) k := by
  rw [dg_pair]
  refine dg_cong (fun j hj => ?_)
  rw [if_pos (by omega), if_neg (by omega), Nat.mul_zero, Nat.add_zero]
theorem and_all {w x : Nat} (h : x < 2 ^ w) : x &&& (2 ^ w - 1) = x := by rw [Nat.and_two_pow_sub_one_eq_mod, Nat.mod_eq_of_lt h]
theorem dg_mask {w k : Nat} {d : Nat → Nat} (h : ∀ j, j < 2 * k → d j < 2 ^ w) : dg w d (2 * k) &&& dg w (fun j => if j % 2 = 0 then 2 ^ w - 1 else 0) (2 * k) = dg (w + w) (fun j => d (2 * j)) k := by
  have hp := Nat.two_pow_pos w
  rw [dg_and h (fun j hj => by split <;> omega), ← dg_half (w := w) (k := k) (d := d)]
  refine dg_cong (fun j hj => ?_)
  split
  · exact and_all (h j hj)
  · exact Nat.and_zero _
/-- half of the counting: fields of w bits to fields of 2w bits -/
theorem dg_fold {w k : Nat} {d : Nat → Nat} (h : ∀ j, j < 2 * k → d j < 2 ^ w) (hz : d (2 * k) = 0) : (dg w d (2 * k) &&& dg w (fun j => if j % 2 = 0 then 2 ^ w - 1 else 0) (2 * k)) + (dg w d (2 * k) / 2 ^ w &&& dg w (fun j => if j % 2 = 0 then 2 ^ w - 1 else 0) (2 * k)) = dg (w + w) (fun j => d (2 * j) + d (2 * j + 1)) k := by
  have e : dg w d (2 * k) / 2 ^ w = dg w (fun j => d (j + 1)) (2 * k) := by
    rw [← dg_ext hz, dg_shr]
    rcases Nat.eq_zero_or_pos k with q | q
    · subst q
      rw [show d 0 = 0 from hz]
      exact Nat.two_pow_pos w
    · exact h 0 (by omega)
  rw [e, dg_mask h, dg_mask (d := fun j => d (j + 1)) (fun j hj => by
    by_cases q : j + 1 < 2 * k
    · exact h _ q
    · have : j + 1 = 2 * k := by omega
      rw [this, hz]
      exact Nat.two_pow_pos w), dg_add]
/-- the sum of digits -/
def ds (d : Nat → Nat) : Nat → Nat
  | 0 => 0
  | k + 1 => ds d k + d k
theorem ds_pair {d : Nat → Nat} : ∀ k, ds (fun j => d (2 * j) + d (2 * j + 1)) k = ds d (2 * k)
  | 0 => rfl
  | k + 1 => by
    rw [ds, ds_pair k, show 2 * (k + 1) = 2 * k + 1 + 1 by omega, ds, ds]
    omega
theorem ds_ct (p : Nat → Bool) : ∀ k, ds (fun j => (p j).toNat) k = fb_ct p k
  | 0 => rfl
  | k + 1 => by
    rw [ds, ds_ct p k, fb_ct_succ]
    cases p k <;> rfl
