/-! More that the outlook answers. -/
theorem n_l2i : ∀ k, k < 64 → lN 1 <<< ((nI k).toInt64 &&& 63) = lN (2 ^ k) := by decide +kernel
theorem n_orJ (a b : Nat) : lN a ||| lN b = lN (a ||| b) := by
  apply Int64.toBitVec_inj.1
  show BitVec.ofNat 64 a ||| BitVec.ofNat 64 b = BitVec.ofNat 64 (a ||| b)
  apply BitVec.eq_of_getLsbD_eq
  intro i hi
  simp [hi]
/-- the first k values of h, as bits -/
def vb (h : Nat → Nat) : Nat → Nat
  | 0 => 0
  | k + 1 => vb h k ||| 2 ^ h k
theorem vb_bit (h : Nat → Nat) (v : Nat) : ∀ k, (vb h k).testBit v = decide (∃ j, j < k ∧ h j = v)
  | 0 => by simp [vb]
  | k + 1 => by
    rw [vb, Nat.testBit_or, vb_bit h v k, two_bit]
    by_cases h1 : ∃ j, j < k ∧ h j = v
    · obtain ⟨j, hj, e⟩ := h1
      have h2 : ∃ j, j < k + 1 ∧ h j = v := ⟨j, by omega, e⟩
      have h1 : ∃ j, j < k ∧ h j = v := ⟨j, hj, e⟩
      simp [h1, h2]
    · by_cases h3 : h k = v
      · have h2 : ∃ j, j < k + 1 ∧ h j = v := ⟨k, by omega, h3⟩
        simp [h3, h2]
      · have h2 : ¬ ∃ j, j < k + 1 ∧ h j = v := by
          rintro ⟨j, hj, e⟩
          by_cases h4 : j = k
          · rw [h4] at e
            exact h3 e
          · exact h1 ⟨j, by omega, e⟩
        simp [h1, h2, h3]
/-- the smallest that all cycles of the first k streets divide -/
def pr (f : Nat → Nat) (n : Nat) : Nat → Nat
  | 0 => 1
  | k + 1 => Nat.lcm (pr f n k) (cyc f n k)
theorem dvd_L : ∀ c, c < 21 → 0 < c → c ∣ 232792560 := by decide +kernel
section OU2
variable {X : (Nat → Int32) × Nat} {d i n : Nat} {s : ab_S} {nm f g src : Nat → Nat}
theorem l173 {t N : Nat} (hn20 : n ≤ 20) (h2 : ∀ k, k < n → sa s 2 k = nI (f k)) (hf : ∀ k, k < n → f k < n) (ht : t < n) (hN : N < 2 ^ 30) : ∀ (j k : Nat), k + j = min (N + 1) 20 → ab_at X (d + 1) 173 8 [some (.inr (6, 0)), some (.inl (.int (nI t))), some (.inl (.int (nI N))), some (.inl (.int (nI (vb (fun q => it f q t) k)))), some (.inl (.int (nI (it f k t)))), some (.inl (.int (nI k)))] [] s = some (.inl (some (.inl (.int (nI (vb (fun q => it f q t) (min (N + 1) 20)))))), s)
  | 0, k, e => by
    rw [b173_8]
    by_cases h : N < k
    · rw [if_pos (nI_lt h (by omega)), ← e]
      rfl
    · rw [if_neg (nI_nlt (by omega) (by omega)), if_pos (nI_le (by omega) (by omega)), ← e]
      rfl
  | j + 1, k, e => by
    have a1 := it_lt hf k ht
    rw [b173_8, if_neg (nI_nlt (by omega) (by omega)), if_neg (nI_ge (by omega) (by omega)), at29 (by omega), h2 _ a1, e_bI, n_sh _ (by omega), n_or, nI_add]
    exact l173 hn20 h2 hf ht hN j (k + 1) (by omega)
theorem c_visitedBy {t N : Nat} (hn20 : n ≤ 20) (h2 : ∀ k, k < n → sa s 2 k = nI (f k)) (hf : ∀ k, k < n → f k < n) (ht : t < n) (hN : N < 2 ^ 30) : ab_ev X (d + 1) 173 [.inr (6, 0), .inl (.int (nI t)), .inl (.int (nI N))] s = some (.inl (some (.inl (.int (nI (vb (fun q => it f q t) (min (N + 1) 20)))))), s) := by
  rw [b173]
  exact l173 hn20 h2 hf ht hN (min (N + 1) 20) 0 (by omega)
theorem l176 {t N : Nat} (hn20 : n ≤ 20) (h1 : ∀ k, k < n → sa s 1 k = nI (nm k)) (hnm : ∀ k, k < n → nm k < n) (h3 : ∀ k, k < n → sa s 3 k = nI (g k)) (hg : ∀ k, k < n → g k < n) (ht : t < n) (hN : N < 2 ^ 30) : ∀ (j k : Nat), k + j = min (N + 1) 20 → ab_at X (d + 1) 176 8 [some (.inr (6, 0)), some (.inl (.int (nI t))), some (.inl (.int (nI N))), some (.inl (.int (nI (vb (fun q => nm (it g q t)) k)))), some (.inl (.int (nI (it g k t)))), some (.inl (.int (nI k)))] [] s = some (.inl (some (.inl (.int (nI (vb (fun q => nm (it g q t)) (min (N + 1) 20)))))), s)
  | 0, k, e => by
    rw [b176_8]
    by_cases h : N < k
    · rw [if_pos (nI_lt h (by omega)), ← e]
      rfl
    · rw [if_neg (nI_nlt (by omega) (by omega)), if_pos (nI_le (by omega) (by omega)), ← e]
      rfl
  | j + 1, k, e => by
    have a1 := it_lt hg k ht
    have a2 := hnm _ a1
    rw [b176_8, if_neg (nI_nlt (by omega) (by omega)), if_neg (nI_ge (by omega) (by omega)), at28 (by omega), h1 _ a1, e_bI, at30 (by omega), h3 _ a1, e_bI, n_sh _ (by omega), n_or, nI_add]
    exact l176 hn20 h1 hnm h3 hg ht hN j (k + 1) (by omega)
theorem c_namesOn {t N : Nat} (hn20 : n ≤ 20) (h1 : ∀ k, k < n → sa s 1 k = nI (nm k)) (hnm : ∀ k, k < n → nm k < n) (h3 : ∀ k, k < n → sa s 3 k = nI (g k)) (hg : ∀ k, k < n → g k < n) (ht : t < n) (hN : N < 2 ^ 30) : ab_ev X (d + 1) 176 [.inr (6, 0), .inl (.int (nI t)), .inl (.int (nI N))] s = some (.inl (some (.inl (.int (nI (vb (fun q => nm (it g q t)) (min (N + 1) 20)))))), s) := by
  rw [b176]
  exact l176 hn20 h1 hnm h3 hg ht hN (min (N + 1) 20) 0 (by omega)
theorem l180 {v t N : Nat} (hn20 : n ≤ 20) (h1 : ∀ k, k < n → sa s 1 k = nI (nm k)) (hnm : ∀ k, k < n → nm k < n) (h3 : ∀ k, k < n → sa s 3 k = nI (g k)) (hg : ∀ k, k < n → g k < n) (ht : t < n) (hv : v < 2 ^ 31) (hN : N < 62) : ∀ (j k : Nat), k + j = N + 1 → ab_at X (d + 1) 180 9 [some (.inr (6, 0)), some (.inl (.int (nI v))), some (.inl (.int (nI t))), some (.inl (.int (nI N))), some (.inl (.long (lN (bs (fun q => nm (it g q t) == v) k)))), none, some (.inl (.int (nI (it g k t)))), some (.inl (.int (nI k)))] [] s = some (.inl (some (.inl (.long (lN (bs (fun q => nm (it g q t) == v) (N + 1)))))), s)
  | 0, k, e => by
    obtain rfl : k = N + 1 := by omega
    rw [b180_9, if_pos (nI_lt (by omega) (by omega))]
  | j + 1, k, e => by
    have a1 := it_lt hg k ht
    have a2 := hnm _ a1
    have ih := l180 hn20 h1 hnm h3 hg ht hv hN j (k + 1) (by omega)
    rw [bs] at ih
    rw [b180_9, if_neg (nI_nlt (by omega) (by omega)), at28 (by omega), h1 _ a1, e_bI]
    by_cases h : nm (it g k t) = v
    · rw [if_pos (by simpa using h)] at ih
      rw [if_pos (by rw [h]), at30 (by omega), h3 _ a1, e_bI, n_l2i _ (by omega), n_orJ, nI_add]
      exact ih
    · rw [if_neg (by simpa using h)] at ih
      rw [if_neg (fun q => h ((nI_eq (by omega) hv).mp q)), at30 (by omega), h3 _ a1, e_bI, nI_add]
      exact ih
theorem c_nightsOf {v t N : Nat} (hn20 : n ≤ 20) (h1 : ∀ k, k < n → sa s 1 k = nI (nm k)) (hnm : ∀ k, k < n → nm k < n) (h3 : ∀ k, k < n → sa s 3 k = nI (g k)) (hg : ∀ k, k < n → g k < n) (ht : t < n) (hv : v < 2 ^ 31) (hN : N < 62) : ab_ev X (d + 1) 180 [.inr (6, 0), .inl (.int (nI v)), .inl (.int (nI t)), .inl (.int (nI N))] s = some (.inl (some (.inl (.long (lN (bs (fun q => nm (it g q t) == v) (N + 1)))))), s) := by
  rw [b180]
  exact l180 hn20 h1 hnm h3 hg ht hv hN (N + 1) 0 (by omega)
/-- whether a number told is another one than v -/
def unl (y : Int64) (v : Nat) : Bool := decide (y.toInt ≠ -1) && decide (y.toInt ≠ v)
theorem l209 {t : Nat} (h8 : sz s 8 = nI n) (hn20 : n ≤ 20) (h1 : ∀ k, k < n → sa s 1 k = nI (nm k)) (hnm : ∀ k, k < n → nm k < n) (h4 : ∀ k, k < n → sa s 4 k = nI (src k)) (h5 : ∀ k, k < n → src k < n) (hz : si s 11 t = nI n) : ∀ (j k : Nat) (u : Option ab_V), k + j = n → ab_at X (d + 2) 209 4 [some (.inr (6, 0)), some (.inr (8, t)), some (.inl (.int (nI (bs (fun q => unl (sB s 0 t q) (nm (src q))) k)))), some (.inl (.int (nI k))), u, none] [] s = some (.inl (some (.inl (.int (nI (bs (fun q => unl (sB s 0 t q) (nm (src q))) n))))), s)
  | 0, k, u, e => by
    obtain rfl : k = n := by omega
    rw [b209_4, h8, if_pos (nI_le (Nat.le_refl _) (by omega))]
  | j + 1, k, u, e => by
    have hk : k < n := by omega
    have a1 := h5 k hk
    have a2 := hnm _ a1
    have m1 : (-lN 1).toInt = -1 := by decide
    have ih := fun u => l209 h8 hn20 h1 hnm h4 h5 hz j (k + 1) u (by omega)
    rw [bs] at ih
    rw [b209_4, h8, if_neg (nI_ge hk (by omega)), c_get hz (by omega) hk, e_bJ]
    by_cases q1 : (sB s 0 t k).toInt = -1
    · rw [if_neg (by unfold unl; simp [q1])] at ih
      rw [if_pos ((j_eq _ _).mpr (q1.trans m1.symm)), nI_add]
      exact ih _
    · rw [if_neg (fun z => q1 (((j_eq _ _).mp z).trans m1)), c_nameThen hn20 h1 h4 h5 hk, e_bI, nI_l (by omega)]
      by_cases q2 : (sB s 0 t k).toInt = (nm (src k) : Int)
      · rw [if_neg (by unfold unl; simp [q2])] at ih
        rw [if_pos ((j_eq _ _).mpr (by rw [lN_int (by omega)]; exact q2)), nI_add]
        exact ih _
      · rw [if_pos (by unfold unl; simp [q1, q2])] at ih
        rw [if_neg (fun z => q2 (by have := (j_eq _ _).mp z; rw [lN_int (by omega)] at this; exact this)), n_sh _ (by omega), n_or, nI_add]
        exact ih _
theorem c_unlike {t : Nat} (h8 : sz s 8 = nI n) (hn20 : n ≤ 20) (h1 : ∀ k, k < n → sa s 1 k = nI (nm k)) (hnm : ∀ k, k < n → nm k < n) (h4 : ∀ k, k < n → sa s 4 k = nI (src k)) (h5 : ∀ k, k < n → src k < n) (hz : si s 11 t = nI n) : ab_ev X (d + 2) 209 [.inr (6, 0), .inr (8, t)] s = some (.inl (some (.inl (.int (nI (bs (fun q => unl (sB s 0 t q) (nm (src q))) n))))), s) := by
  rw [b209]
  exact l209 h8 hn20 h1 hnm h4 h5 hz n 0 _ (by omega)
theorem l164 {t z : Nat} {w : Nat → Nat} (hn20 : n ≤ 20) (h1 : ∀ k, k < n → sa s 1 k = nI (nm k)) (hnm : ∀ k, k < n → nm k < n) (h4 : ∀ k, k < n → sa s 4 k = nI (src k)) (h5 : ∀ k, k < n → src k < n) (hz : si s 11 t = nI z) (h30 : z ≤ 30) (hw : ∀ k, k < z → sB s 0 t k = lN (w k)) (hw2 : ∀ k, k < z → w k < 400 ∧ w k % 20 < n) : ∀ (j k : Nat) (u : Option ab_V), k + j = z → (∀ q, q < k → nm (src (w q % 20)) = w q / 20) → ab_at X (d + 2) 164 2 [some (.inr (6, 0)), some (.inr (8, t)), some (.inl (.int (nI k))), u] [] s = some (.inl (some (.inl (.int (if ∀ q, q < z → nm (src (w q % 20)) = w q / 20 then nI 1 else nI 0)))), s)
  | 0, k, u, e, h => by
    obtain rfl : k = z := by omega
    rw [b164_2, hz, if_pos (nI_le (Nat.le_refl _) (by omega)), if_pos h]
  | j + 1, k, u, e, h => by
    have hk : k < z := by omega
    obtain ⟨b1, b2⟩ := hw2 k hk
    have a1 := h5 _ b2
    have a2 := hnm _ a1
    rw [b164_2, hz, if_neg (nI_ge hk (by omega)), c_get hz h30 hk, e_bJ, hw k hk, lN_i, n_rem (by omega) (by omega) (by omega), c_nameThen hn20 h1 h4 h5 b2, e_bI, pk_div (by omega) (by omega) (by omega)]
    by_cases q : nm (src (w k % 20)) = w k / 20
    · rw [if_pos (by rw [q]), nI_add]
      refine l164 hn20 h1 hnm h4 h5 hz h30 hw hw2 j (k + 1) _ (by omega) (fun r hr => ?_)
      by_cases e2 : r = k
      · rw [e2]
        exact q
      · exact h r (by omega)
    · rw [if_neg (fun z => q ((nI_eq (by omega) (by omega)).mp z)), if_neg (fun z => q (z k hk))]
theorem c_allHang {t z : Nat} {w : Nat → Nat} (hn20 : n ≤ 20) (h1 : ∀ k, k < n → sa s 1 k = nI (nm k)) (hnm : ∀ k, k < n → nm k < n) (h4 : ∀ k, k < n → sa s 4 k = nI (src k)) (h5 : ∀ k, k < n → src k < n) (hz : si s 11 t = nI z) (h30 : z ≤ 30) (hw : ∀ k, k < z → sB s 0 t k = lN (w k)) (hw2 : ∀ k, k < z → w k < 400 ∧ w k % 20 < n) : ab_ev X (d + 2) 164 [.inr (6, 0), .inr (8, t)] s = some (.inl (some (.inl (.int (if ∀ q, q < z → nm (src (w q % 20)) = w q / 20 then nI 1 else nI 0)))), s) := by
  rw [b164]
  exact l164 hn20 h1 hnm h4 h5 hz h30 hw hw2 z 0 _ (by omega) (fun q hq => by omega)
/-- far from one another by their numbers -/
def adf (a b : Nat) : Nat := (a - b) + (b - a)
theorem c_abs {a b : Nat} (ha : a < 2 ^ 30) (hb : b < 2 ^ 30) : ab_ev X d 92 [.inl (.int (nI a - nI b))] s = some (.inl (some (.inl (.int (nI (adf a b))))), s) := by
  rw [b92]
  have h1 : (nI a - nI b).toInt = (a : Int) - b := pk_sub_toInt ha hb
  have h0 : nI 0 ≤ nI a - nI b ↔ b ≤ a := by
    rw [Int32.le_iff_toInt_le, h1, nI_toInt (by omega)]
    omega
  unfold adf
  by_cases h : b ≤ a
  · rw [if_pos (h0.mpr h), pk_sub h, show a - b + (b - a) = a - b by omega]
  · rw [if_neg (fun z => h (h0.mp z))]
    have e : -(nI a - nI b) = nI (a - b + (b - a)) := by
      rw [Int32.neg_sub, pk_sub (by omega)]
      congr 1
      omega
    rw [e]
/-- the harm -/
def hrm (nm src : Nat → Nat) (n : Nat) : Nat → Nat
  | 0 => 0
  | k + 1 => hrm nm src n k + (if (shd nm n).testBit (nm (src k)) then 0 else adf k (src k))
theorem hrm_le (nm : Nat → Nat) {src : Nat → Nat} {n : Nat} (h5 : ∀ k, k < n → src k < n) : ∀ k, k ≤ n → hrm nm src n k ≤ k * n
  | 0, _ => by rw [hrm]; omega
  | k + 1, h => by
    have ih := hrm_le nm h5 k (by omega)
    have := h5 k (by omega)
    rw [hrm, Nat.succ_mul]
    unfold adf
    split <;> omega
theorem l203 (h8 : sz s 8 = nI n) (h9 : sz s 9 = nI (sh_s nm n)) (hn20 : n ≤ 20) (h1 : ∀ k, k < n → sa s 1 k = nI (nm k)) (hnm : ∀ k, k < n → nm k < n) (h4 : ∀ k, k < n → sa s 4 k = nI (src k)) (h5 : ∀ k, k < n → src k < n) : ∀ (j k : Nat), k + j = n → ab_at X (d + 2) 203 4 [some (.inr (6, 0)), some (.inl (.int (nI (hrm nm src n k)))), some (.inl (.int (nI k)))] [] s = some (.inl (some (.inl (.int (nI (hrm nm src n n))))), s)
  | 0, k, e => by
    obtain rfl : k = n := by omega
    rw [b203_4, h8, if_pos (nI_le (Nat.le_refl _) (by omega))]
  | j + 1, k, e => by
    have hk : k < n := by omega
    have a1 := h5 k hk
    have a2 := hnm _ a1
    have ih := l203 h8 h9 hn20 h1 hnm h4 h5 j (k + 1) (by omega)
    rw [hrm] at ih
    rw [b203_4, h8, if_neg (nI_ge hk (by omega)), c_nameThen hn20 h1 h4 h5 hk, e_bI, h9, sh_s_eq hnm, n_shr1 (show shd nm n < 2 ^ 31 from bs_lt20 _ (by omega)) (by omega)]
    cases hb : (shd nm n).testBit (nm (src k)) with
    | true =>
      rw [hb, if_pos rfl] at ih
      rw [cond_true, if_neg (by decide), nI_add]
      exact ih
    | false =>
      rw [hb, if_neg (by decide)] at ih
      rw [cond_false, if_pos rfl, at31 (by omega), h4 k hk, e_bI, c_abs (by omega) (by omega), e_bI, nI_add, nI_add]
      exact ih
theorem c_harmThen (h8 : sz s 8 = nI n) (h9 : sz s 9 = nI (sh_s nm n)) (hn20 : n ≤ 20) (h1 : ∀ k, k < n → sa s 1 k = nI (nm k)) (hnm : ∀ k, k < n → nm k < n) (h4 : ∀ k, k < n → sa s 4 k = nI (src k)) (h5 : ∀ k, k < n → src k < n) : ab_ev X (d + 2) 203 [.inr (6, 0)] s = some (.inl (some (.inl (.int (nI (hrm nm src n n))))), s) := by
  rw [b203]
  exact l203 h8 h9 hn20 h1 hnm h4 h5 n 0 (by omega)
theorem l28 {a b : Nat} (ha : 0 < a) (hb : 0 < b) (hb2 : b < 2 ^ 31) (hL : Nat.lcm a b < 2 ^ 31) : ∀ (j k : Nat), k + j = b → 0 < k → (∀ q, 0 < q → q < k → ¬ b ∣ a * q) → ab_at X d 28 2 [some (.inl (.int (nI a))), some (.inl (.int (nI b))), some (.inl (.int (nI k)))] [] s = some (.inl (some (.inl (.int (nI (Nat.lcm a b))))), s)
  | 0, k, e, h0, h => by
    obtain rfl : k = b := by omega
    have e1 : Nat.lcm a k = a * k := by
      have h1 : k / Nat.gcd a k = k := by
        have hg := Nat.gcd_pos_of_pos_left k ha
        have hd : Nat.gcd a k ∣ k := Nat.gcd_dvd_right a k
        obtain ⟨q, hq⟩ := hd
        have hqk : k / Nat.gcd a k = q := Nat.div_eq_of_eq_mul_right hg hq
        rw [hqk]
        have hq0 : 0 < q := by
          rcases Nat.eq_zero_or_pos q with z | z
          · rw [z] at hq
            omega
          · exact z
        rcases Nat.lt_or_ge q k with hlt | hge
        · refine absurd ?_ (h q hq0 hlt)
          obtain ⟨p, hp⟩ := Nat.gcd_dvd_left a k
          refine ⟨p, ?_⟩
          calc a * q = Nat.gcd a k * p * q := by rw [← hp]
            _ = Nat.gcd a k * q * p := by rw [Nat.mul_assoc, Nat.mul_comm p q, ← Nat.mul_assoc]
            _ = k * p := by rw [← hq]
        · have : q ≤ k := by
            rw [hq]
            exact Nat.le_mul_of_pos_left q hg
          omega
      rw [Nat.lcm, Nat.mul_div_assoc _ (Nat.gcd_dvd_right a k), h1]
    rw [b28_2, if_pos (nI_le (Nat.le_refl _) (by omega)), pk_mul, e1]
  | j + 1, k, e, h0, h => by
    have hk : k < b := by omega
    have hle : a * k ≤ Nat.lcm a b ∨ b ∣ a * k := by
      rcases Nat.lt_or_ge (Nat.lcm a b) (a * k) with q | q
      · exfalso
        have hd := Nat.dvd_lcm_left a b
        obtain ⟨c, hc⟩ := hd
        have hck : c < k := by
          rw [hc] at q
          exact Nat.lt_of_mul_lt_mul_left q
        have hc0 : 0 < c := by
          rcases Nat.eq_zero_or_pos c with z | z
          · rw [z, Nat.mul_zero] at hc
            have := Nat.lcm_pos ha hb
            omega
          · exact z
        exact h c hc0 hck (hc ▸ Nat.dvd_lcm_right a b)
      · exact Or.inl q
    have hak : a * k < 2 ^ 31 := by
      rcases hle with q | q
      · omega
      · have h1 : Nat.lcm a b ≤ a * k := Nat.le_of_dvd (Nat.mul_pos ha h0) (Nat.lcm_dvd (Nat.dvd_mul_right a k) q)
        rcases Nat.lt_or_ge (Nat.lcm a b) (a * k) with q2 | q2
        · exfalso
          obtain ⟨c, hc⟩ := Nat.dvd_lcm_left a b
          have hck : c < k := by
            rw [hc] at q2
            exact Nat.lt_of_mul_lt_mul_left q2
          have hc0 : 0 < c := by
            rcases Nat.eq_zero_or_pos c with z | z
            · rw [z, Nat.mul_zero] at hc
              have := Nat.lcm_pos ha hb
              omega
            · exact z
          exact h c hc0 hck (hc ▸ Nat.dvd_lcm_right a b)
        · omega
    rw [b28_2, if_neg (nI_ge hk (by omega)), if_neg (show ¬ nI b = nI 0 from nI_ne0 hb hb2), pk_mul, n_rem hak hb hb2]
    have hm := Nat.mod_lt (a * k) hb
    by_cases q : a * k % b = 0
    · have hdv := Nat.dvd_of_mod_eq_zero q
      have h1 : Nat.lcm a b ≤ a * k := Nat.le_of_dvd (Nat.mul_pos ha h0) (Nat.lcm_dvd (Nat.dvd_mul_right a k) hdv)
      have h2 : a * k ≤ Nat.lcm a b := by
        rcases Nat.lt_or_ge (Nat.lcm a b) (a * k) with q2 | q2
        · exfalso
          obtain ⟨c, hc⟩ := Nat.dvd_lcm_left a b
          have hck : c < k := by
            rw [hc] at q2
            exact Nat.lt_of_mul_lt_mul_left q2
          have hc0 : 0 < c := by
            rcases Nat.eq_zero_or_pos c with z | z
            · rw [z, Nat.mul_zero] at hc
              have := Nat.lcm_pos ha hb
              omega
            · exact z
          exact h c hc0 hck (hc ▸ Nat.dvd_lcm_right a b)
        · exact q2
      rw [if_pos (by rw [q]), show Nat.lcm a b = a * k by omega]
    · rw [if_neg (fun z => q ((nI_eq (by omega) (by omega)).mp z)), nI_add]
      refine l28 ha hb hb2 hL j (k + 1) (by omega) (by omega) (fun r h3 h4 => ?_)
      by_cases e2 : r = k
      · rw [e2]
        exact fun z => q (Nat.mod_eq_zero_of_dvd z)
      · exact h r h3 (by omega)
theorem c_lcm {a b : Nat} (ha : 0 < a) (hb : 0 < b) (hb2 : b < 2 ^ 31) (hL : Nat.lcm a b < 2 ^ 31) : ab_ev X d 28 [.inl (.int (nI a)), .inl (.int (nI b))] s = some (.inl (some (.inl (.int (nI (Nat.lcm a b))))), s) := by
  rw [b28]
  exact l28 ha hb hb2 hL (b - 1) 1 (by omega) (by omega) (fun q h1 h2 => by omega)
theorem pr_L (hn20 : n ≤ 20) (hf : ∀ k, k < n → f k < n) (hi : ∀ a b, a < n → b < n → f a = f b → a = b) : ∀ k, k ≤ n → pr f n k ∣ 232792560 ∧ 0 < pr f n k
  | 0, _ => ⟨Nat.one_dvd _, Nat.one_pos⟩
  | k + 1, h => by
    obtain ⟨a, b⟩ := pr_L hn20 hf hi k (by omega)
    have c1 := cyc_le hf hi (s := k) (by omega)
    have c2 := cyc_pos f n k
    exact ⟨Nat.lcm_dvd a (dvd_L _ (by omega) c2), Nat.lcm_pos b c2⟩
theorem l26 (h8 : sz s 8 = nI n) (hn20 : n ≤ 20) (h2 : ∀ k, k < n → sa s 2 k = nI (f k)) (hf : ∀ k, k < n → f k < n) (hi : ∀ a b, a < n → b < n → f a = f b → a = b) : ∀ (j k : Nat), k + j = n → ab_at X (d + 2) 26 4 [some (.inr (6, 0)), some (.inl (.int (nI (pr f n k)))), some (.inl (.int (nI k)))] [] s = some (.inl (some (.inl (.int (nI (pr f n n))))), s)
  | 0, k, e => by
    obtain rfl : k = n := by omega
    rw [b26_4, h8, if_pos (nI_le (Nat.le_refl _) (by omega))]
  | j + 1, k, e => by
    have hk : k < n := by omega
    obtain ⟨a1, a2⟩ := pr_L hn20 hf hi k (by omega)
    obtain ⟨b1, b2⟩ := pr_L hn20 hf hi (k + 1) (by omega)
    have c1 := cyc_le hf hi hk
    have b3 := Nat.le_of_dvd (by omega) b1
    rw [b26_4, h8, if_neg (nI_ge hk (by omega)), c_cycleOf hn20 h2 hf hi hk, e_bI, c_lcm a2 (cyc_pos f n k) (by omega) (by rw [pr] at b3; omega), e_bI, nI_add]
    exact l26 h8 hn20 h2 hf hi j (k + 1) (by omega)
theorem c_period (h8 : sz s 8 = nI n) (hn20 : n ≤ 20) (h2 : ∀ k, k < n → sa s 2 k = nI (f k)) (hf : ∀ k, k < n → f k < n) (hi : ∀ a b, a < n → b < n → f a = f b → a = b) : ab_ev X (d + 2) 26 [.inr (6, 0)] s = some (.inl (some (.inl (.int (nI (pr f n n))))), s) := by
  rw [b26]
  exact l26 h8 hn20 h2 hf hi n 0 (by omega)
end OU2
