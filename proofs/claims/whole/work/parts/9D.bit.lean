/-! Nights as bits of a long. -/
def mk (P : Nat → Bool) : Int64 := lN (bs P 60)
theorem mk_get {P : Nat → Bool} {i : Nat} : (mk P).toBitVec.getLsbD i = (decide (i < 60) && P i) := by
  show (BitVec.ofNat 64 (bs P 60)).getLsbD i = _
  rw [BitVec.getLsbD_ofNat, bs_bit]
  by_cases h : i < 60
  · rw [decide_eq_true h, decide_eq_true (show i < 64 by omega)]
    rfl
  · rw [decide_eq_false h]
    simp
theorem l_ext {a b : Int64} (h : ∀ i, i < 64 → a.toBitVec.getLsbD i = b.toBitVec.getLsbD i) : a = b := Int64.toBitVec_inj.mp (BitVec.eq_of_getLsbD_eq (fun i hi => h i hi))
theorem mk_cong {P Q : Nat → Bool} (h : ∀ q, q < 60 → P q = Q q) : mk P = mk Q := congrArg lN (bs_cong h)
theorem mk_or {P Q : Nat → Bool} : mk P ||| mk Q = mk (fun q => P q || Q q) := l_ext (fun i hi => by
  rw [Int64.toBitVec_or, BitVec.getLsbD_or, mk_get, mk_get, mk_get]
  cases decide (i < 60) <;> rfl)
theorem mk_and {P Q : Nat → Bool} : mk P &&& mk Q = mk (fun q => P q && Q q) := l_ext (fun i hi => by
  rw [Int64.toBitVec_and, BitVec.getLsbD_and, mk_get, mk_get, mk_get]
  cases decide (i < 60) <;> simp)
theorem ones_get {i : Nat} (hi : i < 64) : (-lN 1 : Int64).toBitVec.getLsbD i = true := by
  have e : (-lN 1 : Int64).toBitVec = BitVec.allOnes 64 := by decide
  rw [e, BitVec.getLsbD_allOnes]
  exact decide_eq_true hi
theorem mk_andn {P Q : Nat → Bool} : mk P &&& (mk Q ^^^ (-lN 1)) = mk (fun q => P q && !Q q) := l_ext (fun i hi => by
  rw [Int64.toBitVec_and, Int64.toBitVec_xor, BitVec.getLsbD_and, BitVec.getLsbD_xor, mk_get, mk_get, mk_get, ones_get hi]
  cases decide (i < 60) <;> simp)
theorem mk_zero {P : Nat → Bool} : mk P = lN 0 ↔ ∀ q, q < 60 → P q = false := by
  constructor
  · intro h q hq
    have h2 : (mk P).toBitVec.getLsbD q = (lN 0).toBitVec.getLsbD q := by rw [h]
    rw [mk_get, decide_eq_true hq, Bool.true_and] at h2
    rw [h2]
    show (BitVec.ofNat 64 0).getLsbD q = false
    simp
  · intro h
    have e : bs P 60 = 0 := by
      apply Nat.eq_of_testBit_eq
      intro i
      rw [bs_bit, Nat.zero_testBit]
      by_cases q : i < 60
      · rw [h i q, Bool.and_false]
      · rw [decide_eq_false q]
        rfl
    unfold mk
    rw [e]
/-- the least night of a mask, alone -/
theorem mk_low {P : Nat → Bool} {v : Nat} (hv : v < 60) (h1 : P v = true) (h2 : ∀ q, q < v → P q = false) : mk P &&& (-(mk P)) = mk (fun q => decide (q = v)) := l_ext (fun i hi => by
  rw [Int64.toBitVec_and, Int64.toBitVec_neg, BitVec.getLsbD_and, BitVec.getLsbD_neg, mk_get, mk_get]
  have e : (∃ j, j < i ∧ (mk P).toBitVec.getLsbD j = true) ↔ v < i := by
    constructor
    · rintro ⟨j, hj, hb⟩
      rw [mk_get] at hb
      have hb := Bool.and_eq_true_iff.mp hb
      rcases Nat.lt_or_ge j v with h3 | h3
      · rw [h2 j h3] at hb
        cases hb.2
      · omega
    · intro h3
      exact ⟨v, h3, by rw [mk_get, decide_eq_true hv, h1]; rfl⟩
  have e2 : decide (∃ j, j < i ∧ (mk P).toBitVec.getLsbD j = true) = decide (v < i) := decide_eq_decide.mpr e
  rw [e2, decide_eq_true hi, Bool.true_and]
  rcases Nat.lt_trichotomy i v with h3 | h3 | h3
  · rw [h2 i h3, decide_eq_false (show ¬ i = v by omega)]
    simp
  · rw [h3, h1, decide_eq_true hv, decide_eq_false (Nat.lt_irrefl v), decide_eq_true (rfl : v = v)]
    rfl
  · rw [decide_eq_true h3, decide_eq_false (show ¬ i = v by omega)]
    cases decide (i < 60) <;> cases P i <;> rfl)
/-- without its least night -/
theorem mk_drop {P : Nat → Bool} {v : Nat} (hv : v < 60) (h1 : P v = true) (h2 : ∀ q, q < v → P q = false) : mk P &&& (mk P - lN 1) = mk (fun q => P q && decide (q ≠ v)) := by
  have e : mk P - lN 1 = (-(mk P)) ^^^ (-lN 1) := by
    apply Int64.toBitVec_inj.mp
    rw [Int64.toBitVec_sub, Int64.toBitVec_xor, Int64.toBitVec_neg]
    have e1 : (-lN 1 : Int64).toBitVec = BitVec.allOnes 64 := by decide
    have e2 : (lN 1).toBitVec = 1#64 := by decide
    rw [e1, e2, BitVec.xor_allOnes, BitVec.not_neg]
  rw [e]
  refine l_ext (fun i hi => ?_)
  have hl := congrArg (fun y => y.toBitVec.getLsbD i) (mk_low hv h1 h2)
  have hl : (mk P &&& (-(mk P))).toBitVec.getLsbD i = (mk (fun q => decide (q = v))).toBitVec.getLsbD i := hl
  rw [Int64.toBitVec_and, BitVec.getLsbD_and, mk_get, mk_get] at hl
  rw [Int64.toBitVec_and, Int64.toBitVec_xor, BitVec.getLsbD_and, BitVec.getLsbD_xor, mk_get, mk_get, ones_get hi]
  by_cases z : i = v
  · subst z
    rw [decide_eq_true hv, h1, decide_eq_true (rfl : i = i)] at hl
    rw [decide_eq_true hv, h1, decide_eq_false (show ¬ i ≠ i from fun w => w rfl)]
    have hl : (-(mk P)).toBitVec.getLsbD i = true := by simpa using hl
    rw [hl]
    rfl
  · rw [decide_eq_false z, Bool.and_false] at hl
    rw [decide_eq_true z, Bool.and_true]
    cases e1 : decide (i < 60) && P i with
    | false => rfl
    | true =>
      rw [e1, Bool.true_and] at hl
      rw [hl]
      rfl
