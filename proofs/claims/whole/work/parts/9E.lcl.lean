/-! Letters and nights: the class' sets of letters. -/
theorem un_succ {b : Nat → Nat → Bool} {S : Nat → Bool} {c q : Nat} : un b S (c + 1) q = (un b S c q || (S c && b c q)) := by
  rw [Bool.eq_iff_iff, Bool.or_eq_true, Bool.and_eq_true, un_iff, un_iff]
  constructor
  · rintro ⟨i, hi, h1, h2⟩
    by_cases e : i = c
    · rw [e] at h1 h2
      exact Or.inr ⟨h1, h2⟩
    · exact Or.inl ⟨i, by omega, h1, h2⟩
  · rintro (⟨i, hi, h1, h2⟩ | ⟨h1, h2⟩)
    · exact ⟨i, by omega, h1, h2⟩
    · exact ⟨c, by omega, h1, h2⟩
theorem ct_lt {v : Nat} : ∀ n, v ≤ n → fb_ct (fun j => decide (j < v)) n = v
  | 0, h => by
    obtain rfl : v = 0 := by omega
    rfl
  | n + 1, h => by
    rw [fb_ct_succ]
    by_cases e : v = n + 1
    · have : fb_ct (fun j => decide (j < v)) n = n := fb_ct_all.mpr (fun k hk => decide_eq_true (by omega))
      rw [this, decide_eq_true (show n < v by omega), if_pos rfl, e]
    · rw [ct_lt n (by omega), decide_eq_false (show ¬ n < v by omega), if_neg (show ¬ false = true by decide)]
      rfl
theorem mk_one {v : Nat} (hv : v < 60) : mk (fun q => decide (q = v)) = lN (2 ^ v) := by
  refine congrArg lN (Nat.eq_of_testBit_eq (fun i => ?_))
  rw [bs_bit, Nat.testBit_two_pow]
  by_cases e : i = v
  · rw [e, decide_eq_true hv, decide_eq_true rfl]
    rfl
  · rw [decide_eq_false e, Bool.and_false, decide_eq_false (fun z => e z.symm)]
/-- the nights of a mask from the c-th on -/
def fromc (P : Nat → Bool) (c q : Nat) : Bool := P q && decide (c ≤ fb_ct P q)
theorem fromc_least {P : Nat → Bool} {c v : Nat} (h1 : P v = true) (h2 : fb_ct P v = c) : fromc P c v = true ∧ ∀ q, q < v → fromc P c q = false := by
  refine ⟨by unfold fromc; rw [h1, decide_eq_true (by omega)]; rfl, fun q hq => ?_⟩
  unfold fromc
  cases e : P q with
  | false => rfl
  | true =>
    have := fb_ct_mono P (show q + 1 ≤ v from hq)
    rw [fb_ct_succ, e, if_pos rfl] at this
    rw [decide_eq_false (by omega)]
    rfl
theorem fromc_next {P : Nat → Bool} {c v q : Nat} (h1 : P v = true) (h2 : fb_ct P v = c) : (fromc P c q && decide (q ≠ v)) = fromc P (c + 1) q := by
  unfold fromc
  cases e : P q with
  | false => rfl
  | true =>
    rw [Bool.true_and, Bool.true_and, Bool.eq_iff_iff, Bool.and_eq_true, decide_eq_true_iff, decide_eq_true_iff, decide_eq_true_iff]
    constructor
    · rintro ⟨h3, h4⟩
      have : fb_ct P q ≠ fb_ct P v := fun z => h4 (fb_ct_kth_one e h1 z)
      omega
    · intro h3
      exact ⟨by omega, fun z => by rw [z] at h3; omega⟩
theorem fromc_none {P : Nat → Bool} {c : Nat} (h : fb_ct P 60 ≤ c) : ∀ q, q < 60 → fromc P c q = false := fun q hq => by
  unfold fromc
  cases e : P q with
  | false => rfl
  | true =>
    have := fb_ct_mono P (show q + 1 ≤ 60 by omega)
    rw [fb_ct_succ, e, if_pos rfl] at this
    rw [decide_eq_false (by omega)]
    rfl
section LCL
variable {X : (Nat → Int32) × Nat} {d m : Nat} {s : ab_S} {B : Nat → Nat → Bool}
theorem l184 {T : Nat} (hz : sz s 10 = nI m) (hm : m ≤ 8) (hT : T < 2 ^ 31) (hB : ∀ i, i < m → sb s 0 i = mk (B i)) : ∀ (j c : Nat), c + j = m → ab_at X d 184 5 [some (.inr (7, 0)), some (.inl (.int (nI T))), some (.inl (.long (mk (un B (fun i => T.testBit i) c)))), none, some (.inl (.int (nI c)))] [] s = some (.inl (some (.inl (.long (mk (un B (fun i => T.testBit i) m))))), s)
  | 0, c, e => by
    obtain rfl : c = m := by omega
    rw [b184_5, hz, if_pos (nI_le (Nat.le_refl _) (by omega))]
  | j + 1, c, e => by
    have ih := l184 hz hm hT hB j (c + 1) (by omega)
    rw [b184_5, hz, if_neg (nI_ge (by omega) (by omega)), if_neg (nI_ge (by omega) (by omega)), n_shr1 hT (by omega), r_in (j := c) (by omega) (by decide), nI_clamp (by omega), nI_add, hB c (by omega), mk_or]
    cases q : T.testBit c with
    | false =>
      have e1 : mk (un B (fun i => T.testBit i) (c + 1)) = mk (un B (fun i => T.testBit i) c) := mk_cong (fun p _ => by
        rw [un_succ]
        show (_ || (T.testBit c && B c p)) = _
        rw [q, Bool.false_and, Bool.or_false])
      rw [e1] at ih
      rw [if_pos (by rfl)]
      exact ih
    | true =>
      have e1 : mk (un B (fun i => T.testBit i) (c + 1)) = mk (fun p => un B (fun i => T.testBit i) c p || B c p) := mk_cong (fun p _ => by
        rw [un_succ]
        show (_ || (T.testBit c && B c p)) = _
        rw [q, Bool.true_and])
      rw [e1] at ih
      rw [if_neg (show ¬ nI (bif true then 1 else 0) = nI 0 by decide)]
      exact ih
theorem c_184 {T : Nat} (hz : sz s 10 = nI m) (hm : m ≤ 8) (hT : T < 2 ^ 31) (hB : ∀ i, i < m → sb s 0 i = mk (B i)) : ab_ev X d 184 [.inr (7, 0), .inl (.int (nI T))] s = some (.inl (some (.inl (.long (mk (un B (fun i => T.testBit i) m))))), s) := by
  have l := l184 (X := X) (d := d) hz hm hT hB m 0 (by omega)
  have e : mk (un B (fun i => T.testBit i) 0) = lN 0 := mk_zero.mpr (fun q _ => rfl)
  rw [e] at l
  rw [b184, l]
theorem l185 {P : Nat → Bool} {y0 : Int64} {p : Nat} (hp : p < 2 ^ 31) : ∀ (j c : Nat), c + j = p → 1 ≤ c → (p ≤ fb_ct P 60 → ∃ v, v < 60 ∧ P v = true ∧ fb_ct P v = p - 1 ∧ ab_at X (d + 1) 185 5 [some (.inl (.long y0)), none, some (.inl (.int (nI p))), some (.inl (.long (mk (fromc P (c - 1))))), none, some (.inl (.int (nI c)))] [] s = some (.inl (some (.inl (.int (nI v)))), s)) ∧ (fb_ct P 60 < p → ab_at X (d + 1) 185 5 [some (.inl (.long y0)), none, some (.inl (.int (nI p))), some (.inl (.long (mk (fromc P (c - 1))))), none, some (.inl (.int (nI c)))] [] s = some (.inl (some (.inl (.int (-nI 1)))), s))
  | 0, c, e, hc => by
    obtain rfl : c = p := by omega
    constructor
    · intro h
      obtain ⟨v, h1, h2, h3⟩ := fb_ct_kth (p := P) (k := c - 1) (n := 60) (by omega)
      obtain ⟨f1, f2⟩ := fromc_least h2 h3
      refine ⟨v, h1, h2, h3, ?_⟩
      have nz : ¬ mk (fromc P (c - 1)) = lN 0 := fun z => by
        have := mk_zero.mp z v h1
        rw [f1] at this
        cases this
      have hlt : 2 ^ v < 2 ^ 64 := Nat.pow_lt_pow_right (by omega) (by omega)
      have hpos : 0 < 2 ^ v := Nat.two_pow_pos v
      rw [b185_5, if_pos (nI_le (Nat.le_refl _) (by omega)), if_neg (show ¬ lg_cmp (mk (fromc P (c - 1))) (lN 0) = nI 0 from fun z => nz ((lg_cmp_eq _ _).mp z)), mk_low h1 f1 f2, mk_one h1, l_sub (by omega), c_ct64 (by omega), e_bI]
      have e2 : fb_ct (fun j => (2 ^ v - 1).testBit j) 64 = v := by
        rw [fb_ct_cong (q := fun j => decide (j < v)) (fun k _ => Nat.testBit_two_pow_sub_one v k)]
        exact ct_lt 64 (by omega)
      rw [e2]
    · intro h
      have z : mk (fromc P (c - 1)) = lN 0 := mk_zero.mpr (fromc_none (by omega))
      rw [b185_5, if_pos (nI_le (Nat.le_refl _) (by omega)), if_pos (show lg_cmp (mk (fromc P (c - 1))) (lN 0) = nI 0 from (lg_cmp_eq _ _).mpr z)]
  | j + 1, c, e, hc => by
    have ih := l185 (P := P) (y0 := y0) hp j (c + 1) (by omega) (by omega)
    rw [Nat.add_sub_cancel] at ih
    have e1 : mk (fromc P (c - 1)) &&& (mk (fromc P (c - 1)) - lN 1) = mk (fromc P c) := by
      rcases Nat.lt_or_ge (c - 1) (fb_ct P 60) with h | h
      · obtain ⟨v, h1, h2, h3⟩ := fb_ct_kth (p := P) (k := c - 1) (n := 60) h
        obtain ⟨f1, f2⟩ := fromc_least h2 h3
        rw [mk_drop h1 f1 f2]
        refine mk_cong (fun q _ => ?_)
        rw [fromc_next h2 h3, show c - 1 + 1 = c by omega]
      · have z : mk (fromc P (c - 1)) = lN 0 := mk_zero.mpr (fromc_none h)
        have z2 : mk (fromc P c) = lN 0 := mk_zero.mpr (fromc_none (by omega))
        rw [z, z2]
        decide
    have st : ab_at X (d + 1) 185 5 [some (.inl (.long y0)), none, some (.inl (.int (nI p))), some (.inl (.long (mk (fromc P (c - 1))))), none, some (.inl (.int (nI c)))] [] s = ab_at X (d + 1) 185 5 [some (.inl (.long y0)), none, some (.inl (.int (nI p))), some (.inl (.long (mk (fromc P c)))), none, some (.inl (.int (nI (c + 1))))] [] s := by
      rw [b185_5, if_neg (nI_ge (by omega) (by omega)), e1, nI_add]
    rw [st]
    exact ih
/-- the p-th night of a mask -/
theorem c_185 {P : Nat → Bool} {p : Nat} (h1 : 1 ≤ p) (hp : p < 2 ^ 31) : (p ≤ fb_ct P 60 → ∃ v, v < 60 ∧ P v = true ∧ fb_ct P v = p - 1 ∧ ab_ev X (d + 1) 185 [.inl (.long (mk P)), .inl (.int (nI p))] s = some (.inl (some (.inl (.int (nI v)))), s)) ∧ (fb_ct P 60 < p → ab_ev X (d + 1) 185 [.inl (.long (mk P)), .inl (.int (nI p))] s = some (.inl (some (.inl (.int (-nI 1)))), s)) := by
  have l := l185 (X := X) (d := d) (s := s) (P := P) (y0 := mk P) (p := p) hp (p - 1) 1 (by omega) (by omega)
  have e : mk (fromc P (1 - 1)) = mk P := mk_cong (fun q _ => by
    unfold fromc
    rw [decide_eq_true (Nat.zero_le _), Bool.and_true])
  rw [e] at l
  rw [b185]
  exact l
end LCL
