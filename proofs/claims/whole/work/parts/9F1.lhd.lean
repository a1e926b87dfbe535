/-! Letters and nights: the class hangs the letters. -/
theorem n_shlm : ∀ T, T < 256 → ∀ k, k < 9 → nI T <<< (nI k &&& 31) = nI (T * 2 ^ k) := by decide +kernel
theorem l_ones : ∀ k, k < 60 → lN 2 <<< ((nI k).toInt64 &&& 63) - lN 1 = lN (2 ^ (k + 1) - 1) := by decide +kernel
theorem mk_le {D : Nat} (h : D < 60) : mk (fun q => decide (q ≤ D)) = lN (2 ^ (D + 1) - 1) := by
  refine congrArg lN (Nat.eq_of_testBit_eq (fun i => ?_))
  rw [bs_bit, Nat.testBit_two_pow_sub_one]
  by_cases e : i < 60
  · rw [decide_eq_true e, Bool.true_and]
    exact decide_eq_decide.mpr (by omega)
  · rw [decide_eq_false e, decide_eq_false (show ¬ i < D + 1 by omega)]
    rfl
theorem shm_bit {T k i : Nat} : (T * 2 ^ k).testBit i = (decide (k ≤ i) && T.testBit (i - k)) := by
  rw [← Nat.shiftLeft_eq, Nat.testBit_shiftLeft]
theorem shm_ct {T k m : Nat} (hk : k ≤ m) : fb_ct (fun i => (T * 2 ^ k).testBit i) m = fb_ct (fun i => T.testBit i) (m - k) := by
  have e : m = k + (m - k) := by omega
  rw [e, fb_ct_split, Nat.add_sub_cancel_left]
  have z : fb_ct (fun i => (T * 2 ^ k).testBit i) k = 0 := fb_ct_zero.mpr (fun i hi => by
    rw [shm_bit, decide_eq_false (by omega)]
    rfl)
  rw [z, Nat.zero_add]
  exact fb_ct_cong (fun i _ => by rw [shm_bit, decide_eq_true (by omega), Nat.add_sub_cancel_left]; rfl)
theorem ct_far {P : Nat → Bool} {N : Nat} (hN : N ≤ 60) (h : ∀ q, P q = true → q < N) : fb_ct P 60 = fb_ct P N := by
  have e : 60 = N + (60 - N) := by omega
  rw [e, fb_ct_split]
  have z : fb_ct (fun k => P (N + k)) (60 - N) = 0 := fb_ct_zero.mpr (fun k _ => by
    cases q : P (N + k) with
    | false => rfl
    | true =>
      have := h _ q
      omega)
  rw [z]
  rfl
theorem RH_cong {M f f' : Nat → Nat} {k m N : Nat} (e : ∀ i, i < k → f' i = f i) : RH M f' k m N ↔ RH M f k m N := by
  have el : ∀ i q, lf M f' k N i q = lf M f k N i q := fun i q => by
    rw [Bool.eq_iff_iff, lf_iff, lf_iff]
    constructor
    · rintro ⟨a, b, c⟩
      exact ⟨a, b, fun j hj => by rw [← e j hj]; exact c j hj⟩
    · rintro ⟨a, b, c⟩
      exact ⟨a, b, fun j hj => by rw [e j hj]; exact c j hj⟩
  have eu : ∀ (T : Nat → Bool) q, un (lf M f' k N) (fr k T) m q = un (lf M f k N) (fr k T) m q := fun T q => by
    unfold un
    simp only [el]
  unfold RH
  constructor
  · rintro ⟨a, b, c⟩
    refine ⟨fun i hi => by rw [← e i hi]; exact a i hi, fun i j hi hj z => b i j hi hj (by rw [e i hi, e j hj]; exact z), fun T => ?_⟩
    have := c T
    rw [fb_ct_cong (fun q _ => eu T q)] at this
    exact this
  · rintro ⟨a, b, c⟩
    refine ⟨fun i hi => by rw [e i hi]; exact a i hi, fun i j hi hj z => b i j hi hj (by rw [← e i hi, ← e j hj]; exact z), fun T => ?_⟩
    rw [fb_ct_cong (fun q _ => eu T q)]
    exact c T
/-- the next letter's nights, both ways -/
theorem LS_iff {M f : Nat → Nat} {k m N q : Nat} (hk : k < m) (hN : N ≤ 60) (hf : ∀ i, i < k → f i < 60) (h : RH M f k m N) (hq : q < 60) : HL (bb M (cf (va_up f k q) (k + 1))) m N ↔ q < N ∧ (∀ j, j < k → f j ≠ q) ∧ ¬ tgt M f k m N q := by
  rw [← RH_step hk h]
  have e : ∀ i, i < k + 1 → cf (va_up f k q) (k + 1) i = va_up f k q i := fun i hi => by
    unfold cf
    rw [if_pos hi]
  rw [← RH_cong e]
  refine HR (by omega) hN (fun i hi => ?_) (fun i hi => ?_)
  · rw [cf_at]
    by_cases z : i < k
    · rw [if_pos z]
      exact hf i z
    · rw [if_neg z, if_pos (by omega)]
      exact hq
  · rw [cf_at, if_neg (by omega), if_neg (by omega)]
    omega
/-- the masks left when k letters are hung -/
def Bk (M f : Nat → Nat) (k N i q : Nat) : Bool := lf M f (min i k) N i q
theorem Bk_un {M f : Nat → Nat} {k m N T q : Nat} : un (Bk M f k N) (fun i => (T * 2 ^ (k + 1)).testBit i) m q = un (lf M f k N) (fun i => (T * 2 ^ (k + 1)).testBit i) m q := by
  rw [Bool.eq_iff_iff, un_iff, un_iff]
  have e : ∀ i, (T * 2 ^ (k + 1)).testBit i = true → Bk M f k N i q = lf M f k N i q := fun i hi => by
    rw [shm_bit] at hi
    have := of_decide_eq_true (Bool.and_eq_true_iff.mp hi).1
    unfold Bk
    rw [Nat.min_eq_right (by omega)]
  constructor
  · rintro ⟨i, hi, h1, h2⟩
    exact ⟨i, hi, h1, by rw [← e i h1]; exact h2⟩
  · rintro ⟨i, hi, h1, h2⟩
    exact ⟨i, hi, h1, by rw [e i h1]; exact h2⟩
theorem un_far {M f : Nat → Nat} {k m N q : Nat} {S : Nat → Bool} (h : un (lf M f k N) S m q = true) : q < N := by
  obtain ⟨i, -, -, hb⟩ := un_iff.mp h
  exact (lf_iff.mp hb).2.1
/-- tight sets, as masks -/
theorem tgt_iff {M f : Nat → Nat} {k m N v : Nat} (hk : k < m) (hN : N ≤ 60) : tgt M f k m N v ↔ ∃ T, 1 ≤ T ∧ T < 2 ^ (m - (k + 1)) ∧ fb_ct (un (Bk M f k N) (fun i => (T * 2 ^ (k + 1)).testBit i) m) 60 = fb_ct (fun i => T.testBit i) (m - (k + 1)) ∧ un (Bk M f k N) (fun i => (T * 2 ^ (k + 1)).testBit i) m v = true := by
  have e60 : ∀ S : Nat → Bool, fb_ct (un (lf M f k N) S m) 60 = fb_ct (un (lf M f k N) S m) N := fun S => ct_far hN (fun q hq => un_far hq)
  constructor
  · rintro ⟨S, h1, h2⟩
    obtain ⟨T, hT⟩ : ∃ T, T = bs (fun i => S (i + (k + 1))) (m - (k + 1)) := ⟨_, rfl⟩
    have e : ∀ i, i < m → (T * 2 ^ (k + 1)).testBit i = fr (k + 1) S i := fun i hi => by
      rw [shm_bit, hT, bs_bit]
      unfold fr
      by_cases z : k + 1 ≤ i
      · rw [decide_eq_true z, decide_eq_true (show i - (k + 1) < m - (k + 1) by omega), Bool.true_and, Bool.true_and, Bool.true_and, Nat.sub_add_cancel z]
      · rw [decide_eq_false z]
        rfl
    have eu : ∀ q, un (Bk M f k N) (fun i => (T * 2 ^ (k + 1)).testBit i) m q = un (lf M f k N) (fr (k + 1) S) m q := fun q => by
      rw [Bk_un, Bool.eq_iff_iff, un_iff, un_iff]
      constructor
      · rintro ⟨i, hi, h1, h2⟩
        exact ⟨i, hi, by rw [← e i hi]; exact h1, h2⟩
      · rintro ⟨i, hi, h1, h2⟩
        exact ⟨i, hi, by rw [e i hi]; exact h1, h2⟩
    refine ⟨T, ?_, by rw [hT]; exact bs_lt _ _, ?_, by rw [eu]; exact h2⟩
    · rcases Nat.eq_zero_or_pos T with z | z
      · obtain ⟨i, hi, h3, -⟩ := un_iff.mp h2
        have := e i hi
        rw [z, Nat.zero_mul, zb, h3] at this
        cases this
      · exact z
    · rw [fb_ct_cong (fun q _ => eu q), e60, ← h1, ← shm_ct (by omega)]
      exact (fb_ct_cong (fun i hi => (e i hi).symm)).symm ▸ rfl
  · rintro ⟨T, h1, h2, h3, h4⟩
    have e : fr (k + 1) (fun i => (T * 2 ^ (k + 1)).testBit i) = fun i => (T * 2 ^ (k + 1)).testBit i := funext fun i => by
      show (decide (k + 1 ≤ i) && (T * 2 ^ (k + 1)).testBit i) = (T * 2 ^ (k + 1)).testBit i
      rw [shm_bit]
      cases decide (k + 1 ≤ i) <;> rfl
    refine ⟨fun i => (T * 2 ^ (k + 1)).testBit i, ?_, ?_⟩
    · rw [e, shm_ct (by omega), ← h3, fb_ct_cong (fun q _ => Bk_un), e60]
    · rw [e, ← Bk_un]
      exact h4
section LHD
variable {X : (Nat → Int32) × Nat} {d k m N : Nat} {s : ab_S} {M f : Nat → Nat}
theorem c_187 {i : Nat} {y : Int64} (hi : i < 8) : ab_ev X d 187 [.inr (7, 0), .inl (.int (nI i)), .inl (.long y)] s = some (.inl none, pb s 0 (va_up (sb s 0) i (sb s 0 i &&& y))) := by
  rw [b187, if_neg (n_nlt0 (by omega)), if_neg (nI_ge (by omega) (by omega)), r_in (j := i) (by omega) (by decide), r_in (j := i) (by omega) (by decide), nI_clamp (by omega)]
theorem l188 (hz : sz s 10 = nI m) (hm : m ≤ 8) (hk : k < m) (hN : N ≤ 60) (hB : ∀ i, i < m → sb s 0 i = mk (Bk M f k N i)) : ∀ (j T : Nat) (Y : Nat → Bool) (u5 : Option ab_V), T + j = 2 ^ (m - (k + 1)) → 1 ≤ T → (∀ q, q < 60 → (Y q = true ↔ ∃ T', 1 ≤ T' ∧ T' < T ∧ fb_ct (un (Bk M f k N) (fun i => (T' * 2 ^ (k + 1)).testBit i) m) 60 = fb_ct (fun i => T'.testBit i) (m - (k + 1)) ∧ un (Bk M f k N) (fun i => (T' * 2 ^ (k + 1)).testBit i) m q = true)) → ∃ (Y' : Nat → Bool) (u : Option ab_V), ab_at X (d + 3) 188 5 [some (.inr (7, 0)), some (.inl (.int (nI k))), some (.inl (.long (mk Y))), none, some (.inl (.int (nI T))), u5, none] [] s = ab_at X (d + 3) 188 5 [some (.inr (7, 0)), some (.inl (.int (nI k))), some (.inl (.long (mk Y'))), none, some (.inl (.int (nI (2 ^ (m - (k + 1)))))), u, none] [] s ∧ ∀ q, q < 60 → (Y' q = true ↔ tgt M f k m N q)
  | 0, T, Y, u5, e, hT, hY => by
    have eT : T = 2 ^ (m - (k + 1)) := by omega
    rw [eT] at hY ⊢
    exact ⟨Y, u5, rfl, fun q hq => (hY q hq).trans (tgt_iff hk hN).symm⟩
  | j + 1, T, Y, u5, e, hT, hY => by
    have hp : 2 ^ (m - (k + 1)) ≤ 2 ^ 7 := Nat.pow_le_pow_right (by omega) (by omega)
    have hp7 : (2 : Nat) ^ 7 = 128 := by decide
    have hTm : T < 2 ^ (m - (k + 1)) := by omega
    have hsh : T * 2 ^ (k + 1) < 2 ^ 8 := by
      have h1 : T * 2 ^ (k + 1) < 2 ^ (m - (k + 1)) * 2 ^ (k + 1) := Nat.mul_lt_mul_of_pos_right hTm (Nat.two_pow_pos _)
      rw [← Nat.pow_add, Nat.sub_add_cancel (by omega)] at h1
      exact Nat.lt_of_lt_of_le h1 (Nat.pow_le_pow_right (by omega) hm)
    have hp8 : (2 : Nat) ^ 8 = 256 := by decide
    obtain ⟨U, hU⟩ : ∃ U, U = un (Bk M f k N) (fun i => (T * 2 ^ (k + 1)).testBit i) m := ⟨_, rfl⟩
    have c1 : ab_ev X (d + 2) 184 [.inr (7, 0), .inl (.int (nI (T * 2 ^ (k + 1))))] s = some (.inl (some (.inl (.long (mk U)))), s) := by
      rw [c_184 hz hm (by omega) hB, hU]
    have c2 : ab_ev X (d + 2) 186 [.inl (.long (mk U))] s = some (.inl (some (.inl (.int (nI (fb_ct U 60))))), s) := by
      have hlt : bs U 60 < 2 ^ 60 := bs_lt U 60
      have e1 : fb_ct (fun j => (bs U 60).testBit j) 64 = fb_ct U 60 := by
        rw [ct_top hlt (by omega)]
        exact fb_ct_cong (fun q hq => by rw [bs_bit, decide_eq_true hq]; rfl)
      show ab_ev X (d + 2) 186 [.inl (.long (lN (bs U 60)))] s = _
      rw [c_ct64 (Nat.lt_trans hlt (by decide)), e1]
    have c3 : ab_ev X (d + 2) 37 [.inl (.int (nI T))] s = some (.inl (some (.inl (.int (nI (fb_ct (fun i => T.testBit i) (m - (k + 1))))))), s) := by
      rw [c_ct32 (by omega), ct_top hTm (by omega)]
    have hc1 := fb_ct_le U 60
    have hc2 := fb_ct_le (fun i => T.testBit i) (m - (k + 1))
    have hsub : nI m - nI k - nI 1 = nI (m - (k + 1)) := by
      rw [pk_sub (by omega), pk_sub (by omega)]
      exact congrArg nI (by omega)
    have step : ∀ (Y2 : Nat → Bool) (u : Option ab_V), (∀ q, q < 60 → (Y2 q = true ↔ ∃ T', 1 ≤ T' ∧ T' < T + 1 ∧ fb_ct (un (Bk M f k N) (fun i => (T' * 2 ^ (k + 1)).testBit i) m) 60 = fb_ct (fun i => T'.testBit i) (m - (k + 1)) ∧ un (Bk M f k N) (fun i => (T' * 2 ^ (k + 1)).testBit i) m q = true)) → _ := fun Y2 u hh => l188 hz hm hk hN hB j (T + 1) Y2 u (by omega) (by omega) hh
    rw [b188_5, hz, hsub, n_sh _ (by omega), if_neg (nI_ge hTm (by omega)), nI_add, n_shlm T (by omega) (k + 1) (by omega), c1, e_bJ, c2, e_bI, c3, e_bI, nI_add]
    by_cases q : fb_ct U 60 = fb_ct (fun i => T.testBit i) (m - (k + 1))
    · rw [if_pos (by rw [q]), mk_or]
      exact step _ _ (fun p hp => by
        show (Y p || U p) = true ↔ _
        rw [Bool.or_eq_true, hY p hp]
        constructor
        · rintro (⟨T', a, b, c⟩ | h)
          · exact ⟨T', a, by omega, c⟩
          · exact ⟨T, hT, by omega, by rw [← hU]; exact ⟨q, h⟩⟩
        · rintro ⟨T', a, b, c, g⟩
          by_cases z : T' = T
          · rw [z, ← hU] at g
            exact Or.inr g
          · exact Or.inl ⟨T', a, by omega, c, g⟩)
    · rw [if_neg (fun z => q ((nI_eq (by omega) (by omega)).mp z))]
      exact step _ _ (fun p hp => by
        rw [hY p hp]
        constructor
        · rintro ⟨T', a, b, c⟩
          exact ⟨T', a, by omega, c⟩
        · rintro ⟨T', a, b, c, g⟩
          by_cases z : T' = T
          · rw [z, ← hU] at c
            exact absurd c q
          · exact ⟨T', a, by omega, c, g⟩)
end LHD
