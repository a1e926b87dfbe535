/-! Counts of bits: the contracts. -/
theorem n_ush {M l : Nat} (h : M < 2 ^ 32) (hl : l < 32) : ((nI M).toUInt32 >>> ((nI l).toUInt32 &&& Int32.toUInt32 31)).toInt32 = nI (M / 2 ^ l) := by
  have e : ∀ l, l < 32 → (nI l).toUInt32 &&& Int32.toUInt32 31 = UInt32.ofNat l := by decide +kernel
  rw [e l hl]
  apply Int32.toBitVec_inj.1
  apply BitVec.eq_of_toNat_eq
  show (UInt32.ofNat M >>> UInt32.ofNat l).toNat = (BitVec.ofNat 32 (M / 2 ^ l)).toNat
  have hd : M / 2 ^ l ≤ M := Nat.div_le_self _ _
  rw [UInt32.toNat_shiftRight, UInt32.toNat_ofNat', UInt32.toNat_ofNat', BitVec.toNat_ofNat, Nat.shiftRight_eq_div_pow, Nat.mod_eq_of_lt h, Nat.mod_eq_of_lt (show l < 2 ^ 32 by omega), Nat.mod_eq_of_lt hl, Nat.mod_eq_of_lt (show M / 2 ^ l < 2 ^ 32 by omega)]
theorem l_ush {M l : Nat} (h : M < 2 ^ 64) (hl : l < 64) : ((lN M).toUInt64 >>> ((nI l).toInt64.toUInt64 &&& Int64.toUInt64 63)).toInt64 = lN (M / 2 ^ l) := by
  have e : ∀ l, l < 64 → (nI l).toInt64.toUInt64 &&& Int64.toUInt64 63 = UInt64.ofNat l := by decide +kernel
  rw [e l hl]
  apply Int64.toBitVec_inj.1
  apply BitVec.eq_of_toNat_eq
  show (UInt64.ofNat M >>> UInt64.ofNat l).toNat = (BitVec.ofNat 64 (M / 2 ^ l)).toNat
  have hd : M / 2 ^ l ≤ M := Nat.div_le_self _ _
  rw [UInt64.toNat_shiftRight, UInt64.toNat_ofNat', UInt64.toNat_ofNat', BitVec.toNat_ofNat, Nat.shiftRight_eq_div_pow, Nat.mod_eq_of_lt h, Nat.mod_eq_of_lt (show l < 2 ^ 64 by omega), Nat.mod_eq_of_lt hl, Nat.mod_eq_of_lt (show M / 2 ^ l < 2 ^ 64 by omega)]
theorem l_and (a b : Nat) : lN a &&& lN b = lN (a &&& b) := by
  apply Int64.toBitVec_inj.1
  show BitVec.ofNat 64 a &&& BitVec.ofNat 64 b = BitVec.ofNat 64 (a &&& b)
  apply BitVec.eq_of_getLsbD_eq
  intro i hi
  simp [hi]
theorem l_or (a b : Nat) : lN a ||| lN b = lN (a ||| b) := by
  apply Int64.toBitVec_inj.1
  show BitVec.ofNat 64 a ||| BitVec.ofNat 64 b = BitVec.ofNat 64 (a ||| b)
  apply BitVec.eq_of_getLsbD_eq
  intro i hi
  simp [hi]
theorem l_add (a b : Nat) : lN a + lN b = lN (a + b) := by
  apply Int64.toBitVec_inj.1
  show BitVec.ofNat 64 a + BitVec.ofNat 64 b = BitVec.ofNat 64 (a + b)
  exact (BitVec.ofNat_add a b).symm
theorem n_sub {a b : Nat} (h : b ≤ a) : nI a - nI b = nI (a - b) := by
  apply Int32.toBitVec_inj.1
  show BitVec.ofNat 32 a - BitVec.ofNat 32 b = BitVec.ofNat 32 (a - b)
  have e : BitVec.ofNat 32 a = BitVec.ofNat 32 (a - b) + BitVec.ofNat 32 b := by rw [← BitVec.ofNat_add, Nat.sub_add_cancel h]
  rw [e, BitVec.add_sub_cancel]
theorem l_sub {a b : Nat} (h : b ≤ a) : lN a - lN b = lN (a - b) := by
  apply Int64.toBitVec_inj.1
  show BitVec.ofNat 64 a - BitVec.ofNat 64 b = BitVec.ofNat 64 (a - b)
  have e : BitVec.ofNat 64 a = BitVec.ofNat 64 (a - b) + BitVec.ofNat 64 b := by rw [← BitVec.ofNat_add, Nat.sub_add_cancel h]
  rw [e, BitVec.add_sub_cancel]
theorem l_i (a : Nat) : (lN a).toInt32 = nI a := by
  apply Int32.toBitVec_inj.1
  show (BitVec.ofNat 64 a).signExtend 32 = BitVec.ofNat 32 a
  rw [BitVec.signExtend_eq_setWidth_of_le _ (by decide)]
  apply BitVec.eq_of_getLsbD_eq
  intro i hi
  simp [hi]
theorem c_ct32 {X : (Nat → Int32) × Nat} {d M : Nat} {s : ab_S} (h : M < 2 ^ 32) : ab_ev X d 37 [.inl (.int (nI M))] s = some (.inl (some (.inl (.int (nI (fb_ct (fun j => M.testBit j) 32))))), s) := by
  obtain ⟨a1, a2⟩ := bc32_1 h
  have g2 : dg 2 (bc32_p M) 16 < 2 ^ 32 := bc32_lt (fun j => by have := bc32_p2 M j; omega) (by decide)
  have g3 : dg 4 (bc32_q M) 8 < 2 ^ 32 := bc32_lt (fun j => by have := bc32_q4 M j; omega) (by decide)
  have r8 := bc32_r8 M
  have r0 : ∀ j, 4 ≤ j → bc32_r M j = 0 := fun j hj => bc32_r0 h hj
  have g4 : dg 8 (bc32_r M) 4 < 2 ^ 32 := bc32_lt (fun j => by have := r8 j; omega) (by decide)
  obtain ⟨u1, hu1⟩ : ∃ u : Nat → Nat, u = fun j => bc32_r M j + bc32_r M (j + 1) := ⟨_, rfl⟩
  have v1 : ∀ j, u1 j ≤ 16 := fun j => by
    have a := r8 j
    have b := r8 (j + 1)
    rw [hu1]
    show _ + _ ≤ _
    omega
  have z1 : ∀ j, 4 ≤ j → u1 j = 0 := fun j hj => by
    rw [hu1]
    show _ + _ = 0
    rw [r0 j hj, r0 (j + 1) (by omega)]
  have s1 : dg 8 (bc32_r M) 4 + dg 8 (bc32_r M) 4 / 2 ^ 8 = dg 8 u1 4 := by
    have y : ∀ t, dg 8 (bc32_r M) 4 / 256 ^ t = dg 8 (fun j => bc32_r M (j + t)) 4 := by
      intro t
      induction t with
      | zero => exact Nat.div_one _
      | succ t ih =>
        rw [Nat.pow_succ, ← Nat.div_div_eq_div_mul, ih]
        refine (bc32_sh (d := fun j => bc32_r M (j + t)) h (fun j => by have := r8 (j + t); show bc32_r M (j + t) < 2 ^ 8; omega) (fun j hj => r0 (j + t) (by omega))).trans (dg_cong (fun j _ => ?_))
        show bc32_r M (j + 1 + t) = bc32_r M (j + (t + 1))
        rw [show j + 1 + t = j + (t + 1) by omega]
    rw [show (2 : Nat) ^ 8 = 256 ^ 1 by decide, y, dg_add, hu1]
  have g5 : dg 8 u1 4 < 2 ^ 32 := bc32_lt (fun j => by have := v1 j; omega) (by decide)
  obtain ⟨u2, hu2⟩ : ∃ u : Nat → Nat, u = fun j => u1 j + u1 (j + 2) := ⟨_, rfl⟩
  have v2 : ∀ j, u2 j ≤ 32 := fun j => by
    have a := v1 j
    have b := v1 (j + 2)
    rw [hu2]
    show _ + _ ≤ _
    omega
  have z2 : ∀ j, 4 ≤ j → u2 j = 0 := fun j hj => by
    rw [hu2]
    show _ + _ = 0
    rw [z1 j hj, z1 (j + 2) (by omega)]
  have s2 : dg 8 (u1) 4 + dg 8 (u1) 4 / 2 ^ 16 = dg 8 u2 4 := by
    have y : ∀ t, dg 8 (u1) 4 / 256 ^ t = dg 8 (fun j => u1 (j + t)) 4 := by
      intro t
      induction t with
      | zero => exact Nat.div_one _
      | succ t ih =>
        rw [Nat.pow_succ, ← Nat.div_div_eq_div_mul, ih]
        refine (bc32_sh (d := fun j => u1 (j + t)) h (fun j => by have := v1 (j + t); show u1 (j + t) < 2 ^ 8; omega) (fun j hj => z1 (j + t) (by omega))).trans (dg_cong (fun j _ => ?_))
        show u1 (j + 1 + t) = u1 (j + (t + 1))
        rw [show j + 1 + t = j + (t + 1) by omega]
    rw [show (2 : Nat) ^ 16 = 256 ^ 2 by decide, y, dg_add, hu2]
  have g6 : dg 8 u2 4 < 2 ^ 32 := bc32_lt (fun j => by have := v2 j; omega) (by decide)
  have fin : dg 8 u2 4 % 64 = ds (bc32_r M) 4 := by
    have e : dg 8 u2 4 = u2 0 + 2 ^ 8 * dg 8 (fun j => u2 (j + 1)) 3 := rfl
    have w : u2 0 = ds (bc32_r M) 4 := by
      simp only [hu1, hu2, ds, Nat.reduceAdd]
      omega
    have := v2 0
    rw [e, ← w]
    omega
  rw [b37, n_ush h (by decide), n_and, Nat.pow_one, n_sub a1, a2]
  rw [b37_10, n_ush g2 (by decide), n_and, n_and, nI_add, show (2 : Nat) ^ 2 = 4 from rfl, bc32_2 h]
  rw [b37_24, n_ush g3 (by decide), nI_add, n_and, show (2 : Nat) ^ 4 = 16 from rfl, bc32_3 h]
  rw [b37_34, n_ush g4 (by decide), nI_add, s1]
  rw [b37_41, n_ush g5 (by decide), nI_add, s2]
  rw [b37_48, n_and, show (63 : Nat) = 2 ^ 6 - 1 from rfl, Nat.and_two_pow_sub_one_eq_mod, show (2 : Nat) ^ 6 = 64 from rfl, fin, bc32_ds]
theorem c_ct64 {X : (Nat → Int32) × Nat} {d M : Nat} {s : ab_S} (h : M < 2 ^ 64) : ab_ev X d 186 [.inl (.long (lN M))] s = some (.inl (some (.inl (.int (nI (fb_ct (fun j => M.testBit j) 64))))), s) := by
  obtain ⟨a1, a2⟩ := bc64_1 h
  have g2 : dg 2 (bc64_p M) 32 < 2 ^ 64 := bc64_lt (fun j => by have := bc64_p2 M j; omega) (by decide)
  have g3 : dg 4 (bc64_q M) 16 < 2 ^ 64 := bc64_lt (fun j => by have := bc64_q4 M j; omega) (by decide)
  have r8 := bc64_r8 M
  have r0 : ∀ j, 8 ≤ j → bc64_r M j = 0 := fun j hj => bc64_r0 h hj
  have g4 : dg 8 (bc64_r M) 8 < 2 ^ 64 := bc64_lt (fun j => by have := r8 j; omega) (by decide)
  obtain ⟨u1, hu1⟩ : ∃ u : Nat → Nat, u = fun j => bc64_r M j + bc64_r M (j + 1) := ⟨_, rfl⟩
  have v1 : ∀ j, u1 j ≤ 16 := fun j => by
    have a := r8 j
    have b := r8 (j + 1)
    rw [hu1]
    show _ + _ ≤ _
    omega
  have z1 : ∀ j, 8 ≤ j → u1 j = 0 := fun j hj => by
    rw [hu1]
    show _ + _ = 0
    rw [r0 j hj, r0 (j + 1) (by omega)]
  have s1 : dg 8 (bc64_r M) 8 + dg 8 (bc64_r M) 8 / 2 ^ 8 = dg 8 u1 8 := by
    have y : ∀ t, dg 8 (bc64_r M) 8 / 256 ^ t = dg 8 (fun j => bc64_r M (j + t)) 8 := by
      intro t
      induction t with
      | zero => exact Nat.div_one _
      | succ t ih =>
        rw [Nat.pow_succ, ← Nat.div_div_eq_div_mul, ih]
        refine (bc64_sh (d := fun j => bc64_r M (j + t)) h (fun j => by have := r8 (j + t); show bc64_r M (j + t) < 2 ^ 8; omega) (fun j hj => r0 (j + t) (by omega))).trans (dg_cong (fun j _ => ?_))
        show bc64_r M (j + 1 + t) = bc64_r M (j + (t + 1))
        rw [show j + 1 + t = j + (t + 1) by omega]
    rw [show (2 : Nat) ^ 8 = 256 ^ 1 by decide, y, dg_add, hu1]
  have g5 : dg 8 u1 8 < 2 ^ 64 := bc64_lt (fun j => by have := v1 j; omega) (by decide)
  obtain ⟨u2, hu2⟩ : ∃ u : Nat → Nat, u = fun j => u1 j + u1 (j + 2) := ⟨_, rfl⟩
  have v2 : ∀ j, u2 j ≤ 32 := fun j => by
    have a := v1 j
    have b := v1 (j + 2)
    rw [hu2]
    show _ + _ ≤ _
    omega
  have z2 : ∀ j, 8 ≤ j → u2 j = 0 := fun j hj => by
    rw [hu2]
    show _ + _ = 0
    rw [z1 j hj, z1 (j + 2) (by omega)]
  have s2 : dg 8 (u1) 8 + dg 8 (u1) 8 / 2 ^ 16 = dg 8 u2 8 := by
    have y : ∀ t, dg 8 (u1) 8 / 256 ^ t = dg 8 (fun j => u1 (j + t)) 8 := by
      intro t
      induction t with
      | zero => exact Nat.div_one _
      | succ t ih =>
        rw [Nat.pow_succ, ← Nat.div_div_eq_div_mul, ih]
        refine (bc64_sh (d := fun j => u1 (j + t)) h (fun j => by have := v1 (j + t); show u1 (j + t) < 2 ^ 8; omega) (fun j hj => z1 (j + t) (by omega))).trans (dg_cong (fun j _ => ?_))
        show u1 (j + 1 + t) = u1 (j + (t + 1))
        rw [show j + 1 + t = j + (t + 1) by omega]
    rw [show (2 : Nat) ^ 16 = 256 ^ 2 by decide, y, dg_add, hu2]
  have g6 : dg 8 u2 8 < 2 ^ 64 := bc64_lt (fun j => by have := v2 j; omega) (by decide)
  obtain ⟨u3, hu3⟩ : ∃ u : Nat → Nat, u = fun j => u2 j + u2 (j + 4) := ⟨_, rfl⟩
  have v3 : ∀ j, u3 j ≤ 64 := fun j => by
    have a := v2 j
    have b := v2 (j + 4)
    rw [hu3]
    show _ + _ ≤ _
    omega
  have z3 : ∀ j, 8 ≤ j → u3 j = 0 := fun j hj => by
    rw [hu3]
    show _ + _ = 0
    rw [z2 j hj, z2 (j + 4) (by omega)]
  have s3 : dg 8 (u2) 8 + dg 8 (u2) 8 / 2 ^ 32 = dg 8 u3 8 := by
    have y : ∀ t, dg 8 (u2) 8 / 256 ^ t = dg 8 (fun j => u2 (j + t)) 8 := by
      intro t
      induction t with
      | zero => exact Nat.div_one _
      | succ t ih =>
        rw [Nat.pow_succ, ← Nat.div_div_eq_div_mul, ih]
        refine (bc64_sh (d := fun j => u2 (j + t)) h (fun j => by have := v2 (j + t); show u2 (j + t) < 2 ^ 8; omega) (fun j hj => z2 (j + t) (by omega))).trans (dg_cong (fun j _ => ?_))
        show u2 (j + 1 + t) = u2 (j + (t + 1))
        rw [show j + 1 + t = j + (t + 1) by omega]
    rw [show (2 : Nat) ^ 32 = 256 ^ 4 by decide, y, dg_add, hu3]
  have g7 : dg 8 u3 8 < 2 ^ 64 := bc64_lt (fun j => by have := v3 j; omega) (by decide)
  have fin : dg 8 u3 8 % 128 = ds (bc64_r M) 8 := by
    have e : dg 8 u3 8 = u3 0 + 2 ^ 8 * dg 8 (fun j => u3 (j + 1)) 7 := rfl
    have w : u3 0 = ds (bc64_r M) 8 := by
      simp only [hu1, hu2, hu3, ds, Nat.reduceAdd]
      omega
    have := v3 0
    rw [e, ← w]
    omega
  rw [b186, l_ush h (by decide), l_and, Nat.pow_one, l_sub a1, a2]
  rw [b186_10, l_ush g2 (by decide), l_and, l_and, l_add, show (2 : Nat) ^ 2 = 4 from rfl, bc64_2 h]
  rw [b186_24, l_ush g3 (by decide), l_add, l_and, show (2 : Nat) ^ 4 = 16 from rfl, bc64_3 h]
  rw [b186_34, l_ush g4 (by decide), l_add, s1]
  rw [b186_41, l_ush g5 (by decide), l_add, s2]
  rw [b186_48, l_ush g6 (by decide), l_add, s3]
  rw [b186_55, l_i, n_and, show (127 : Nat) = 2 ^ 7 - 1 from rfl, Nat.and_two_pow_sub_one_eq_mod, show (2 : Nat) ^ 7 = 128 from rfl, fin, bc64_ds]
