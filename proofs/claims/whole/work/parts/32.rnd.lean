/-! The rounds, as the class holds them. -/
/-- the first place of a row of n that P takes; n: none -/
def fst (P : Nat → Bool) : Nat → Nat
  | 0 => 0
  | n + 1 => if fst P n < n then fst P n else if P n then n else n + 1
theorem fst_le (P : Nat → Bool) : ∀ n, fst P n ≤ n
  | 0 => Nat.le_refl _
  | n + 1 => by
    rw [fst]
    have := fst_le P n
    split
    · omega
    · split <;> omega
theorem fst_no (P : Nat → Bool) : ∀ n k, k < fst P n → P k = false
  | 0, k, h => by
    rw [fst] at h
    omega
  | n + 1, k, h => by
    rw [fst] at h
    have h1 := fst_le P n
    by_cases h2 : fst P n < n
    · rw [if_pos h2] at h
      exact fst_no P n k h
    · rw [if_neg h2] at h
      have h3 : fst P n = n := by omega
      cases e : P n with
      | true =>
        rw [e, if_pos rfl] at h
        exact fst_no P n k (by omega)
      | false =>
        by_cases h4 : k = n
        · rw [h4, e]
        · rw [e] at h
          have h : k < n + 1 := by simpa using h
          exact fst_no P n k (by omega)
theorem fst_yes (P : Nat → Bool) : ∀ n, fst P n < n → P (fst P n) = true
  | 0, h => by omega
  | n + 1, h => by
    rw [fst] at h ⊢
    have h1 := fst_le P n
    by_cases h2 : fst P n < n
    · rw [if_pos h2]
      exact fst_yes P n h2
    · rw [if_neg h2] at h ⊢
      cases e : P n with
      | true =>
        rw [if_pos rfl]
        exact e
      | false =>
        rw [e] at h
        simp at h
/-- the first place is the one that has no earlier -/
theorem fst_eq {P : Nat → Bool} {n k : Nat} (hk : k < n) (h1 : P k = true) (h2 : ∀ j, j < k → P j = false) : fst P n = k := by
  have a := fst_le P n
  by_cases h : fst P n < k
  · have := fst_yes P n (by omega)
    rw [h2 _ h] at this
    cases this
  · by_cases h3 : k < fst P n
    · have := fst_no P n k h3
      rw [h1] at this
      cases this
    · omega
theorem fst_eqn {P : Nat → Bool} {n : Nat} (h2 : ∀ j, j < n → P j = false) : fst P n = n := by
  have a := fst_le P n
  by_cases h : fst P n < n
  · have := fst_yes P n h
    rw [h2 _ h] at this
    cases this
  · omega
/-- numbers below n that P takes, as bits -/
def bs (P : Nat → Bool) : Nat → Nat
  | 0 => 0
  | n + 1 => if P n then bs P n ||| 2 ^ n else bs P n
theorem bs_lt (P : Nat → Bool) : ∀ n, bs P n < 2 ^ n
  | 0 => Nat.zero_lt_one
  | n + 1 => by
    rw [bs]
    have h := bs_lt P n
    have h2 : 2 ^ n < 2 ^ (n + 1) := Nat.pow_lt_pow_right (by decide) (by omega)
    split
    · exact Nat.or_lt_two_pow (by omega) h2
    · omega
theorem bs_bit (P : Nat → Bool) : ∀ n i, (bs P n).testBit i = (decide (i < n) && P i)
  | 0, i => by simp [bs]
  | n + 1, i => by
    rw [bs]
    have h := bs_bit P n i
    by_cases e : i = n
    · subst e
      cases q : P i <;> simp [q, h, Nat.testBit_two_pow_self]
    · have h2 : decide (i < n + 1) = decide (i < n) := by
        by_cases h3 : i < n
        · simp [h3]
          omega
        · have : ¬ i < n + 1 := by omega
          simp [h3, this]
      have h4 : (2 ^ n).testBit i = false := by
        rw [Nat.testBit_two_pow]
        simp
        omega
      cases q : P n <;> simp [q, h, h2, h4]
theorem bs_cong {P Q : Nat → Bool} : ∀ {n : Nat}, (∀ k, k < n → P k = Q k) → bs P n = bs Q n
  | 0, _ => rfl
  | n + 1, h => by rw [bs, bs, h n (by omega), bs_cong (fun k hk => h k (by omega))]
theorem bs_lt20 (P : Nat → Bool) {n : Nat} (h : n ≤ 30) : bs P n < 2 ^ 31 := Nat.lt_of_lt_of_le (bs_lt P n) (Nat.pow_le_pow_right (by decide) (by omega))
section RND
variable {X : (Nat → Int32) × Nat} {d i n : Nat} {s : ab_S}
theorem c_sizeOf {r : Nat} (hr : r < 4) : ab_ev X (d + 1) 21 [.inr (3, i), .inl (.int (nI r))] s = some (.inl (some (.inl (.int (sA s 4 i r)))), s) := by
  rw [b21, at23 hr]
  rfl
theorem c_byOf {r : Nat} (hr : r < 4) : ab_ev X (d + 1) 24 [.inr (3, i), .inl (.int (nI r))] s = some (.inl (some (.inl (.int (sA s 5 i r)))), s) := by
  rw [b24, at24 hr]
  rfl
theorem c_streetAt {r k z : Nat} (hr : r < 4) (hk : k < 1000) (hz : sA s 4 i r = nI z) (h20 : z ≤ 20) : ab_ev X d 22 [.inr (3, i), .inl (.int (nI r)), .inl (.int (nI k))] s = some (.inl (some (.inl (.int (if k < z then sA s 3 i (20 * r + k) else -nI 1)))), s) := by
  have e : nI r * nI 20 + nI k = nI (20 * r + k) := by rw [pk_mul, nI_add, Nat.mul_comm]
  rw [b22]
  by_cases h : k < z
  · simp (disch := omega) only [e, nI_ltI, nI_leI, if_neg, nI_clamp, hz, if_pos h]
  · simp (disch := omega) only [e, nI_ltI, nI_leI, if_neg, nI_clamp, hz]
    rw [if_pos (by omega)]
    first | done | rw [if_neg h]
/-- the place of x in a row's part from a on, z long; -1: nowhere -/
def pl (F : Nat → Int32) (a z : Nat) (x : Int32) : Nat := fst (fun k => F (a + k) == x) z
theorem l64 {r z : Nat} {x : Int32} (hr : r < 4) (hz : sA s 4 i r = nI z) (h20 : z ≤ 20) : ∀ (j k : Nat), k + j = z → (∀ q, q < k → (sA s 3 i (20 * r + q) == x) = false) → ab_at X (d + 1) 64 9 [some (.inr (3, i)), some (.inl (.int (nI r))), some (.inl (.int x)), some (.inl (.int (nI z))), some (.inl (.int (nI k)))] [] s = some (.inl (some (.inl (.int (if pl (sA s 3 i) (20 * r) z x < z then nI (pl (sA s 3 i) (20 * r) z x) else -nI 1)))), s)
  | 0, k, e, h => by
    obtain rfl : k = z := by omega
    rw [b64_9, if_pos (nI_le (Nat.le_refl _) (by omega)), if_neg]
    unfold pl
    rw [fst_eqn h]
    omega
  | j + 1, k, e, h => by
    rw [b64_9, if_neg (nI_ge (by omega) (by omega)), c_streetAt hr (by omega) hz h20, if_pos (by omega)]
    show (if sA s 3 i (20 * r + k) = x then _ else _) = _
    by_cases hx : sA s 3 i (20 * r + k) = x
    · have hp : pl (sA s 3 i) (20 * r) z x = k := fst_eq (by omega) (by simp [hx]) h
      rw [if_pos hx, hp, if_pos (by omega)]
    · rw [if_neg hx, nI_add]
      refine l64 hr hz h20 j (k + 1) (by omega) (fun q hq => ?_)
      by_cases e2 : q = k
      · rw [e2]
        simpa using hx
      · exact h q (by omega)
theorem c_placeOf {r z : Nat} {x : Int32} (hr : r < 4) (hz : sA s 4 i r = nI z) (h20 : z ≤ 20) : ab_ev X (d + 2) 64 [.inr (3, i), .inl (.int (nI r)), .inl (.int x)] s = some (.inl (some (.inl (.int (if pl (sA s 3 i) (20 * r) z x < z then nI (pl (sA s 3 i) (20 * r) z x) else -nI 1)))), s) := by
  rw [b64, c_sizeOf hr, hz]
  exact l64 hr hz h20 z 0 (by omega) (fun q hq => by omega)
theorem l87 {m : Nat} {x : Int32} {z : Nat → Nat} (hm : si s 7 i = nI m) (h4 : m ≤ 4) (hz : ∀ r, r < m → sA s 4 i r = nI (z r)) (h20 : ∀ r, r < m → z r ≤ 20) : ∀ (j k : Nat), k + j = m → ab_at X (d + 3) 87 4 [some (.inr (3, i)), some (.inl (.int x)), some (.inl (.int (nI (bs (fun r => decide (pl (sA s 3 i) (20 * r) (z r) x < z r)) k)))), some (.inl (.int (nI k)))] [] s = some (.inl (some (.inl (.int (nI (bs (fun r => decide (pl (sA s 3 i) (20 * r) (z r) x < z r)) m))))), s)
  | 0, k, e => by
    obtain rfl : k = m := by omega
    rw [b87_4, hm, if_pos (nI_le (Nat.le_refl _) (by omega))]
  | j + 1, k, e => by
    have hk : k < m := by omega
    rw [b87_4, hm, if_neg (nI_ge hk (by omega)), c_placeOf (by omega) (hz k hk) (h20 k hk)]
    show (if _ = _ then _ else _) = _
    by_cases h : pl (sA s 3 i) (20 * k) (z k) x < z k
    · have := h20 k hk
      rw [if_pos h, if_neg (n_m1 _ (by omega)), n_sh _ (by omega), n_or, nI_add]
      have e2 : bs (fun r => decide (pl (sA s 3 i) (20 * r) (z r) x < z r)) (k + 1) = bs (fun r => decide (pl (sA s 3 i) (20 * r) (z r) x < z r)) k ||| 2 ^ k := by
        rw [bs, if_pos (by simpa using h)]
      rw [← e2]
      exact l87 hm h4 hz h20 j (k + 1) (by omega)
    · rw [if_neg h, if_pos rfl, nI_add]
      have e2 : bs (fun r => decide (pl (sA s 3 i) (20 * r) (z r) x < z r)) (k + 1) = bs (fun r => decide (pl (sA s 3 i) (20 * r) (z r) x < z r)) k := by
        rw [bs, if_neg (by simpa using h)]
      rw [← e2]
      exact l87 hm h4 hz h20 j (k + 1) (by omega)
theorem c_roundsOf {m : Nat} {x : Int32} {z : Nat → Nat} (hm : si s 7 i = nI m) (h4 : m ≤ 4) (hz : ∀ r, r < m → sA s 4 i r = nI (z r)) (h20 : ∀ r, r < m → z r ≤ 20) : ab_ev X (d + 3) 87 [.inr (3, i), .inl (.int x)] s = some (.inl (some (.inl (.int (nI (bs (fun r => decide (pl (sA s 3 i) (20 * r) (z r) x < z r)) m))))), s) := by
  rw [b87]
  exact l87 hm h4 hz h20 m 0 (by omega)
/-- a row with x let in at place p of its part from a on, z long -/
def ins (F : Nat → Int32) (a z p : Nat) (x : Int32) : Nat → Int32 := fun j => if a + p < j ∧ j ≤ a + z then F (j - 1) else if j = a + p then x else F j
def insK (F : Nat → Int32) (a z q : Nat) : Nat → Int32 := fun j => if a + q < j ∧ j ≤ a + z then F (j - 1) else F j
/-- a row without place p of its part from a on, z long -/
def del (F : Nat → Int32) (a z p : Nat) : Nat → Int32 := fun j => if a + p ≤ j ∧ j + 1 < a + z then F (j + 1) else F j
def delK (F : Nat → Int32) (a p q : Nat) : Nat → Int32 := fun j => if a + p ≤ j ∧ j < a + q then F (j + 1) else F j
theorem l65 {F : Nat → Int32} {r z p : Nat} {x : Int32} (hr : r < 4) (hz : sA s 4 i r = nI z) (h20 : z < 20) (hp : p ≤ z) : ∀ (j q : Nat), p + j = q → q ≤ z → ab_at X (d + 1) 65 19 [some (.inr (3, i)), some (.inl (.int (nI r))), some (.inl (.int (nI p))), some (.inl (.int x)), some (.inl (.int (nI z))), some (.inl (.int (nI q)))] [] (wA s 3 i (insK F (20 * r) z q)) = some (.inl none, wA (wA s 3 i (ins F (20 * r) z p x)) 4 i (va_up (sA s 4 i) r (nI (z + 1))))
  | 0, q, e, h => by
    obtain rfl : p = q := by omega
    rw [b65_19, if_pos (nI_le (Nat.le_refl _) (by omega)), pk_mul, nI_add, put22 (by omega), e_bU, nI_add, put23 hr]
    simp (disch := omega) only [E0, E1, e_bU]
    have e2 : va_up (insK F (20 * r) z p) (r * 20 + p) x = ins F (20 * r) z p x := by
      funext k
      unfold va_up insK ins
      by_cases h1 : k = r * 20 + p
      · rw [if_pos h1, if_neg (by omega), if_pos (by omega)]
      · rw [if_neg h1]
        by_cases h2 : 20 * r + p < k ∧ k ≤ 20 * r + z
        · rw [if_pos h2, if_pos h2]
        · rw [if_neg h2, if_neg h2, if_neg (by omega)]
    rw [e2]
  | j + 1, q, e, h => by
    have hz2 : sA (wA s 3 i (insK F (20 * r) z q)) 4 i r = nI z := hz
    have e3 : (nI q + -nI 1) = nI (q - 1) := by
      obtain ⟨q, rfl⟩ : ∃ t, q = t + 1 := ⟨q - 1, by omega⟩
      exact pk_m1 q
    rw [b65_19, if_neg (nI_ge (by omega) (by omega)), pk_sub (by omega), c_streetAt hr (by omega) hz2 (by omega), if_pos (by omega), pk_mul, nI_add]
    show ab_bU _ _ _ = _
    rw [put22 (by omega), e3]
    simp (disch := omega) only [E0, E1, e_bU]
    have e2 : va_up (insK F (20 * r) z q) (r * 20 + q) (insK F (20 * r) z q (20 * r + (q - 1))) = insK F (20 * r) z (q - 1) := by
      funext k
      unfold va_up insK
      by_cases h1 : k = r * 20 + q
      · rw [if_pos h1, if_neg (by omega), if_pos (by omega)]
        congr 1
        omega
      · rw [if_neg h1]
        by_cases h2 : 20 * r + q < k ∧ k ≤ 20 * r + z
        · rw [if_pos h2, if_pos (by omega)]
        · rw [if_neg h2, if_neg (by omega)]
    rw [e2]
    exact l65 hr hz h20 hp j (q - 1) (by omega) (by omega)
theorem c_insert {r z p : Nat} {x : Int32} (hr : r < 4) (hz : sA s 4 i r = nI z) (h20 : z < 20) (hp : p ≤ z) : ab_ev X (d + 2) 65 [.inr (3, i), .inl (.int (nI r)), .inl (.int (nI p)), .inl (.int x)] s = some (.inl none, wA (wA s 3 i (ins (sA s 3 i) (20 * r) z p x)) 4 i (va_up (sA s 4 i) r (nI (z + 1)))) := by
  rw [b65, c_sizeOf hr, hz]
  show (if _ then _ else _) = _
  rw [if_pos (nI_lt h20 (by omega))]
  have h := l65 (X := X) (d := d + 1) (F := sA s 3 i) (x := x) hr hz h20 hp (z - p) z (by omega) (Nat.le_refl _)
  have e : wA s 3 i (insK (sA s 3 i) (20 * r) z z) = s := by
    have e2 : insK (sA s 3 i) (20 * r) z z = sA s 3 i := by
      funext k
      unfold insK
      rw [if_neg (by omega)]
    rw [e2]
    exact wA_id _ _ _
  rw [e] at h
  exact h
theorem l136 {F : Nat → Int32} {r z p : Nat} (hr : r < 4) (hz : sA s 4 i r = nI z) (h20 : z ≤ 20) (hp : p < z) : ∀ (j q : Nat), q + j + 1 = z → p ≤ q → ab_at X (d + 1) 136 14 [some (.inr (3, i)), some (.inl (.int (nI r))), some (.inl (.int (nI p))), some (.inl (.int (nI z))), some (.inl (.int (nI q)))] [] (wA s 3 i (delK F (20 * r) p q)) = some (.inl none, wA (wA s 3 i (del F (20 * r) z p)) 4 i (va_up (sA s 4 i) r (nI (z - 1))))
  | 0, q, e, h => by
    have e2 : delK F (20 * r) p q = del F (20 * r) z p := by
      funext k
      unfold delK del
      by_cases h1 : 20 * r + p ≤ k ∧ k < 20 * r + q
      · rw [if_pos h1, if_pos (by omega)]
      · rw [if_neg h1, if_neg (by omega)]
    rw [b136_14, pk_sub (by omega), if_pos (nI_le (by omega) (by omega)), e2, put23 hr]
    simp (disch := omega) only [E0, E1, e_bU]
  | j + 1, q, e, h => by
    have hz2 : sA (wA s 3 i (delK F (20 * r) p q)) 4 i r = nI z := hz
    rw [b136_14, pk_sub (by omega), if_neg (nI_ge (by omega) (by omega)), nI_add, c_streetAt hr (by omega) hz2 h20, if_pos (by omega), pk_mul, nI_add]
    show ab_bU _ _ _ = _
    rw [put22 (by omega)]
    simp (disch := omega) only [E0, E1, e_bU]
    have e2 : va_up (delK F (20 * r) p q) (r * 20 + q) (delK F (20 * r) p q (20 * r + (q + 1))) = delK F (20 * r) p (q + 1) := by
      funext k
      unfold va_up delK
      by_cases h1 : k = r * 20 + q
      · rw [if_pos h1, if_neg (by omega), if_pos (by omega)]
        congr 1
        omega
      · rw [if_neg h1]
        by_cases h2 : 20 * r + p ≤ k ∧ k < 20 * r + q
        · rw [if_pos h2, if_pos (by omega)]
        · rw [if_neg h2, if_neg (by omega)]
    rw [e2]
    exact l136 hr hz h20 hp j (q + 1) (by omega) (by omega)
theorem c_remove {r z p : Nat} (hr : r < 4) (hz : sA s 4 i r = nI z) (h20 : z ≤ 20) (hp : p < z) : ab_ev X (d + 2) 136 [.inr (3, i), .inl (.int (nI r)), .inl (.int (nI p))] s = some (.inl none, wA (wA s 3 i (del (sA s 3 i) (20 * r) z p)) 4 i (va_up (sA s 4 i) r (nI (z - 1)))) := by
  rw [b136, c_sizeOf hr, hz]
  show (if _ then _ else _) = _
  rw [if_pos (nI_lt (by omega) (by omega))]
  have h := l136 (X := X) (d := d + 1) (F := sA s 3 i) hr hz h20 hp (z - 1 - p) p (by omega) (Nat.le_refl _)
  have e : wA s 3 i (delK (sA s 3 i) (20 * r) p p) = s := by
    have e2 : delK (sA s 3 i) (20 * r) p p = sA s 3 i := by
      funext k
      unfold delK
      rw [if_neg (by omega)]
    rw [e2]
    exact wA_id _ _ _
  rw [e] at h
  exact h
theorem c_begin {m : Nat} {x : Int32} (hm : si s 7 i = nI m) (h4 : m < 4) : ab_ev X (d + 1) 62 [.inr (3, i), .inl (.int x)] s = some (.inl (some (.inl (.int (nI m)))), wi (wA (wA s 4 i (va_up (sA s 4 i) m (nI 0))) 5 i (va_up (sA s 5 i) m x)) 7 i (nI (m + 1))) := by
  rw [b62, hm, put23 h4, e_bU, put24 h4, e_bU, nI_add, c_min _ _ (by omega) (by omega), Nat.min_eq_left (by omega)]
  rfl
end RND
