/-! Streets, people, names as bits. -/
/-- on how many of the first k streets a name hangs -/
def ct (nm : Nat → Nat) (k v : Nat) : Nat := fb_ct (fun q => nm q == v) k
theorem ct_succ (nm : Nat → Nat) (k v : Nat) : ct nm (k + 1) v = ct nm k v + (if nm k = v then 1 else 0) := by
  unfold ct
  rw [fb_ct_succ]
  by_cases h : nm k = v
  · rw [if_pos h, if_pos (by simpa using h)]
  · rw [if_neg h, if_neg (by simpa using h)]
theorem ct_out {nm : Nat → Nat} {n v : Nat} (h : ∀ k, k < n → nm k < n) (hv : n ≤ v) : ct nm n v = 0 := by
  refine fb_ct_zero.mpr (fun k hk => ?_)
  have := h k hk
  have : ¬ nm k = v := by omega
  simpa using this
theorem two_bit (a b : Nat) : (2 ^ a).testBit b = decide (a = b) := by
  rw [Nat.testBit_two_pow]
theorem sh_o_bit (nm : Nat → Nat) (v : Nat) : ∀ k, (sh_o nm k).testBit v = decide (0 < ct nm k v)
  | 0 => by simp [sh_o, ct, fb_ct]
  | k + 1 => by
    rw [sh_o, Nat.testBit_or, sh_o_bit nm v k, two_bit, ct_succ]
    by_cases h : nm k = v
    · rw [if_pos h]
      simp [h]
    · rw [if_neg h]
      simp [h]
theorem sh_s_bit (nm : Nat → Nat) (v : Nat) : ∀ k, (sh_s nm k).testBit v = decide (1 < ct nm k v)
  | 0 => by simp [sh_s, ct, fb_ct]
  | k + 1 => by
    rw [sh_s, Nat.testBit_or, Nat.testBit_and, sh_s_bit nm v k, sh_o_bit nm v k, two_bit, ct_succ]
    by_cases h : nm k = v
    · rw [if_pos h]
      have e : decide (1 < ct nm k v + 1) = (decide (1 < ct nm k v) || decide (0 < ct nm k v)) := by
        by_cases h1 : 1 < ct nm k v
        · have h2 : 1 < ct nm k v + 1 := by omega
          simp [h1, h2]
        · by_cases h3 : 0 < ct nm k v
          · have h2 : 1 < ct nm k v + 1 := by omega
            simp [h1, h2, h3]
          · have h2 : ¬ 1 < ct nm k v + 1 := by omega
            simp [h1, h2, h3]
      rw [e]
      simp [h]
    · rw [if_neg h]
      simp [h]
/-- the names that hang on two streets and more -/
def shd (nm : Nat → Nat) (n : Nat) : Nat := bs (fun v => decide (1 < ct nm n v)) n
theorem sh_s_eq {nm : Nat → Nat} {n : Nat} (h : ∀ k, k < n → nm k < n) : sh_s nm n = shd nm n := by
  apply Nat.eq_of_testBit_eq
  intro v
  rw [sh_s_bit, shd, bs_bit]
  by_cases hv : v < n
  · simp [hv]
  · rw [ct_out h (by omega)]
    simp [hv]
theorem n_m1bits : ∀ i, i < 32 → (-nI 1).toBitVec.getLsbD i = true := by decide +kernel
theorem n_clr {M : Nat} {b : Nat} (hb : b < 32) : nI M &&& (nI (2 ^ b) ^^^ -nI 1) = nI (M ^^^ (M &&& 2 ^ b)) := by
  rw [← n_xor, ← n_and]
  apply Int32.toBitVec_inj.1
  apply BitVec.eq_of_getLsbD_eq
  intro i hi
  rw [Int32.toBitVec_and, Int32.toBitVec_xor, Int32.toBitVec_xor, Int32.toBitVec_and, BitVec.getLsbD_and, BitVec.getLsbD_xor, BitVec.getLsbD_xor, BitVec.getLsbD_and, n_m1bits i hi]
  cases (nI M).toBitVec.getLsbD i <;> cases (nI (2 ^ b)).toBitVec.getLsbD i <;> rfl
theorem clr_bit (M b i : Nat) : (M ^^^ (M &&& 2 ^ b)).testBit i = (M.testBit i && !decide (b = i)) := by
  rw [Nat.testBit_xor, Nat.testBit_and, two_bit]
  cases M.testBit i <;> cases decide (b = i) <;> rfl
def ls_ (nm : Nat → Nat) (n : Nat) : Nat → Nat
  | 0 => 2 ^ n - 1
  | k + 1 => ls_ nm n k ^^^ (ls_ nm n k &&& 2 ^ nm k)
/-- the names that hang nowhere -/
def lst (nm : Nat → Nat) (n : Nat) : Nat := bs (fun v => ct nm n v == 0) n
theorem ls_bit (nm : Nat → Nat) (n v : Nat) : ∀ k, (ls_ nm n k).testBit v = (decide (v < n) && (ct nm k v == 0))
  | 0 => by simp [ls_, ct, fb_ct, Nat.testBit_two_pow_sub_one]
  | k + 1 => by
    rw [ls_, clr_bit, ls_bit nm n v k, ct_succ]
    by_cases h : nm k = v
    · simp [h]
    · simp [h]
theorem ls_eq (nm : Nat → Nat) (n : Nat) : ls_ nm n n = lst nm n := by
  apply Nat.eq_of_testBit_eq
  intro v
  rw [ls_bit, lst, bs_bit]
section TWB
variable {X : (Nat → Int32) × Nat} {d i n : Nat} {nm : Nat → Nat} {s : ab_S}
theorem l7 {m : Nat} (hn : si s 1 i = nI n) (h20 : n ≤ 20) (hnm : ∀ k, k < n → sA s 0 i k = nI (nm k)) (hlt : ∀ k, k < n → nm k < n) (hm : m < 2 ^ 31) : ∀ (j k : Nat), k + j = n → ab_at X (d + 1) 7 9 [some (.inr (2, i)), some (.inl (.int (nI m))), some (.inl (.int (nI (fb_ct (fun q => m.testBit (nm q)) k)))), some (.inl (.int (nI k)))] [] s = some (.inl (some (.inl (.int (nI (fb_ct (fun q => m.testBit (nm q)) n))))), s)
  | 0, k, e => by
    obtain rfl : k = n := by omega
    rw [b7_9, hn, if_pos (nI_le (Nat.le_refl _) (by omega))]
  | j + 1, k, e => by
    have hk : k < n := by omega
    have a1 := hlt k hk
    have ih := l7 hn h20 hnm hlt hm j (k + 1) (by omega)
    rw [fb_ct_succ] at ih
    rw [b7_9, hn, if_neg (nI_ge hk (by omega)), at19 (by omega), hnm k hk, e_bI, n_shr1 hm (by omega), nI_add, nI_add]
    have e1 : (bif m.testBit (nm k) then 1 else 0) = (if m.testBit (nm k) = true then 1 else 0 : Nat) := by cases m.testBit (nm k) <;> rfl
    rw [e1]
    exact ih
/-- how many streets bear a name that hangs on another one, too -/
def wrg (nm : Nat → Nat) (n : Nat) : Nat := fb_ct (fun q => decide (1 < ct nm n (nm q))) n
theorem c_wrong (hn : si s 1 i = nI n) (h20 : n ≤ 20) (hnm : ∀ k, k < n → sA s 0 i k = nI (nm k)) (hlt : ∀ k, k < n → nm k < n) : ab_ev X (d + 2) 7 [.inr (2, i)] s = some (.inl (some (.inl (.int (nI (wrg nm n))))), s) := by
  rw [b7, c_shared hn h20 hnm hlt, e_bI, sh_s_eq hlt]
  have h := l7 (X := X) (d := d + 1) (m := shd nm n) hn h20 hnm hlt (bs_lt20 _ (by omega)) n 0 (by omega)
  have e : fb_ct (fun q => (shd nm n).testBit (nm q)) n = wrg nm n := by
    refine fb_ct_cong (fun k hk => ?_)
    rw [shd, bs_bit, decide_eq_true (hlt k hk), Bool.true_and]
  rw [e] at h
  exact h
theorem l35 (hn : si s 1 i = nI n) (h20 : n ≤ 20) (hnm : ∀ k, k < n → sA s 0 i k = nI (nm k)) (hlt : ∀ k, k < n → nm k < n) : ∀ (j k : Nat), k + j = n → ab_at X (d + 1) 35 11 [some (.inr (2, i)), some (.inl (.int (nI (ls_ nm n k)))), some (.inl (.int (nI k)))] [] s = some (.inl (some (.inl (.int (nI (ls_ nm n n))))), s)
  | 0, k, e => by
    obtain rfl : k = n := by omega
    rw [b35_11, hn, if_pos (nI_le (Nat.le_refl _) (by omega))]
  | j + 1, k, e => by
    have hk : k < n := by omega
    have a1 := hlt k hk
    rw [b35_11, hn, if_neg (nI_ge hk (by omega)), at19 (by omega), hnm k hk, e_bI, n_sh _ (by omega), n_clr (by omega), nI_add]
    exact l35 hn h20 hnm hlt j (k + 1) (by omega)
theorem c_lost (hn : si s 1 i = nI n) (h20 : n ≤ 20) (hnm : ∀ k, k < n → sA s 0 i k = nI (nm k)) (hlt : ∀ k, k < n → nm k < n) : ab_ev X (d + 1) 35 [.inr (2, i)] s = some (.inl (some (.inl (.int (nI (lst nm n))))), s) := by
  have h1 : 1 ≤ 2 ^ n := Nat.one_le_two_pow
  rw [b35, hn, n_sh _ (by omega), pk_sub h1, ← ls_eq]
  exact l35 hn h20 hnm hlt n 0 (by omega)
theorem l99 {v : Nat} (hn : si s 1 i = nI n) (h20 : n ≤ 20) (hnm : ∀ k, k < n → sA s 0 i k = nI (nm k)) (hlt : ∀ k, k < n → nm k < n) (hv : v < 2 ^ 31) : ∀ (j k : Nat), k + j = n → ab_at X (d + 1) 99 4 [some (.inr (2, i)), some (.inl (.int (nI v))), some (.inl (.int (nI (bs (fun q => nm q == v) k)))), some (.inl (.int (nI k)))] [] s = some (.inl (some (.inl (.int (nI (bs (fun q => nm q == v) n))))), s)
  | 0, k, e => by
    obtain rfl : k = n := by omega
    rw [b99_4, hn, if_pos (nI_le (Nat.le_refl _) (by omega))]
  | j + 1, k, e => by
    have hk : k < n := by omega
    have a1 := hlt k hk
    have ih := l99 hn h20 hnm hlt hv j (k + 1) (by omega)
    rw [bs] at ih
    rw [b99_4, hn, if_neg (nI_ge hk (by omega)), at19 (by omega), hnm k hk, e_bI]
    by_cases h : nm k = v
    · rw [if_pos (by simpa using h)] at ih
      rw [if_pos (by rw [h]), n_sh _ (by omega), n_or, nI_add]
      exact ih
    · rw [if_neg (by simpa using h)] at ih
      rw [if_neg (fun q => h ((nI_eq (by omega) hv).mp q)), nI_add]
      exact ih
theorem c_streetsOf {v : Nat} (hn : si s 1 i = nI n) (h20 : n ≤ 20) (hnm : ∀ k, k < n → sA s 0 i k = nI (nm k)) (hlt : ∀ k, k < n → nm k < n) (hv : v < 2 ^ 31) : ab_ev X (d + 1) 99 [.inr (2, i), .inl (.int (nI v))] s = some (.inl (some (.inl (.int (nI (bs (fun q => nm q == v) n))))), s) := by
  rw [b99]
  exact l99 hn h20 hnm hlt hv n 0 (by omega)
theorem l88 {v np : Nat} {lo : Nat → Nat} (hp : si s 3 i = nI np) (h8 : np ≤ 8) (hlo : ∀ k, k < np → sA s 1 i k = nI (lo k)) (hlt : ∀ k, k < np → lo k < 20) (hv : v < 2 ^ 31) : ∀ (j k : Nat), k + j = np → ab_at X (d + 1) 88 4 [some (.inr (2, i)), some (.inl (.int (nI v))), some (.inl (.int (nI (bs (fun q => lo q == v) k)))), some (.inl (.int (nI k)))] [] s = some (.inl (some (.inl (.int (nI (bs (fun q => lo q == v) np))))), s)
  | 0, k, e => by
    obtain rfl : k = np := by omega
    rw [b88_4, hp, if_pos (nI_le (Nat.le_refl _) (by omega))]
  | j + 1, k, e => by
    have hk : k < np := by omega
    have a1 := hlt k hk
    have ih := l88 hp h8 hlo hlt hv j (k + 1) (by omega)
    rw [bs] at ih
    rw [b88_4, hp, if_neg (nI_ge hk (by omega)), at20 (by omega), hlo k hk, e_bI]
    by_cases h : lo k = v
    · rw [if_pos (by simpa using h)] at ih
      rw [if_pos (by rw [h]), n_sh _ (by omega), n_or, nI_add]
      exact ih
    · rw [if_neg (by simpa using h)] at ih
      rw [if_neg (fun q => h ((nI_eq (by omega) hv).mp q)), nI_add]
      exact ih
theorem c_peopleOn {v np : Nat} {lo : Nat → Nat} (hp : si s 3 i = nI np) (h8 : np ≤ 8) (hlo : ∀ k, k < np → sA s 1 i k = nI (lo k)) (hlt : ∀ k, k < np → lo k < 20) (hv : v < 2 ^ 31) : ab_ev X (d + 1) 88 [.inr (2, i), .inl (.int (nI v))] s = some (.inl (some (.inl (.int (nI (bs (fun q => lo q == v) np))))), s) := by
  rw [b88]
  exact l88 hp h8 hlo hlt hv np 0 (by omega)
theorem l104 {h m np : Nat} {lo li : Nat → Nat} (hp : si s 3 i = nI np) (h8 : np ≤ 8) (hlo : ∀ k, k < np → sA s 1 i k = nI (lo k)) (hlt : ∀ k, k < np → lo k < 20) (hli : ∀ k, k < np → sA s 2 i k = nI (li k)) (hl2 : ∀ k, k < np → li k < 2 ^ 31) (hv : h < 2 ^ 31) (hm : m < 2 ^ 31) : ∀ (j k : Nat), k + j = np → ab_at X (d + 1) 104 5 [some (.inr (2, i)), some (.inl (.int (nI h))), some (.inl (.int (nI m))), some (.inl (.int (nI (bs (fun q => li q == h && m.testBit (lo q)) k)))), some (.inl (.int (nI k)))] [] s = some (.inl (some (.inl (.int (nI (bs (fun q => li q == h && m.testBit (lo q)) np))))), s)
  | 0, k, e => by
    obtain rfl : k = np := by omega
    rw [b104_5, hp, if_pos (nI_le (Nat.le_refl _) (by omega))]
  | j + 1, k, e => by
    have hk : k < np := by omega
    have a1 := hlt k hk
    have a2 := hl2 k hk
    have ih := l104 hp h8 hlo hlt hli hl2 hv hm j (k + 1) (by omega)
    rw [bs] at ih
    rw [b104_5, hp, if_neg (nI_ge hk (by omega)), at21 (by omega), hli k hk, e_bI]
    by_cases h1 : li k = h
    · rw [if_pos (by rw [h1]), at20 (by omega), hlo k hk, e_bI, n_shr1 hm (by omega)]
      cases hb : m.testBit (lo k) with
      | true =>
        rw [hb] at ih
        rw [if_pos (by simp [h1])] at ih
        rw [cond_true, if_neg (by decide), n_sh _ (by omega), n_or, nI_add]
        exact ih
      | false =>
        rw [hb] at ih
        rw [if_neg (by simp)] at ih
        rw [cond_false, if_pos rfl, nI_add]
        exact ih
    · rw [if_neg (by simp [h1])] at ih
      rw [if_neg (fun q => h1 ((nI_eq a2 hv).mp q)), nI_add]
      exact ih
theorem c_peopleIn {h m np : Nat} {lo li : Nat → Nat} (hp : si s 3 i = nI np) (h8 : np ≤ 8) (hlo : ∀ k, k < np → sA s 1 i k = nI (lo k)) (hlt : ∀ k, k < np → lo k < 20) (hli : ∀ k, k < np → sA s 2 i k = nI (li k)) (hl2 : ∀ k, k < np → li k < 2 ^ 31) (hv : h < 2 ^ 31) (hm : m < 2 ^ 31) : ab_ev X (d + 1) 104 [.inr (2, i), .inl (.int (nI h)), .inl (.int (nI m))] s = some (.inl (some (.inl (.int (nI (bs (fun q => li q == h && m.testBit (lo q)) np))))), s) := by
  rw [b104]
  exact l104 hp h8 hlo hlt hli hl2 hv hm np 0 (by omega)
theorem l215 {v : Nat} (hn : si s 1 i = nI n) (h20 : n ≤ 20) (hnm : ∀ k, k < n → sA s 0 i k = nI (nm k)) (hlt : ∀ k, k < n → nm k < n) (hv : v < 2 ^ 31) : ∀ (j k : Nat), k + j = n → (∀ q, q < k → (nm q == v) = false) → ab_at X (d + 1) 215 2 [some (.inr (2, i)), some (.inl (.int (nI v))), some (.inl (.int (nI k)))] [] s = some (.inl (some (.inl (.int (if inv nm n v < n then nI (inv nm n v) else nI 0)))), s)
  | 0, k, e, h => by
    obtain rfl : k = n := by omega
    rw [b215_2, hn, if_pos (nI_le (Nat.le_refl _) (by omega)), if_neg]
    unfold inv
    rw [fst_eqn h]
    omega
  | j + 1, k, e, h => by
    have hk : k < n := by omega
    have a1 := hlt k hk
    rw [b215_2, hn, if_neg (nI_ge hk (by omega)), at19 (by omega), hnm k hk, e_bI]
    by_cases h1 : nm k = v
    · have e1 : inv nm n v = k := fst_eq hk (by simp [h1]) h
      rw [if_pos (by rw [h1]), e1, if_pos hk]
    · rw [if_neg (fun q => h1 ((nI_eq (by omega) hv).mp q)), nI_add]
      refine l215 hn h20 hnm hlt hv j (k + 1) (by omega) (fun q hq => ?_)
      by_cases e2 : q = k
      · rw [e2]
        simpa using h1
      · exact h q (by omega)
theorem c_streetBearing {v : Nat} (hn : si s 1 i = nI n) (h20 : n ≤ 20) (hnm : ∀ k, k < n → sA s 0 i k = nI (nm k)) (hlt : ∀ k, k < n → nm k < n) (hv : v < 2 ^ 31) : ab_ev X (d + 1) 215 [.inr (2, i), .inl (.int (nI v))] s = some (.inl (some (.inl (.int (if inv nm n v < n then nI (inv nm n v) else nI 0)))), s) := by
  rw [b215]
  exact l215 hn h20 hnm hlt hv n 0 (by omega) (fun q hq => by omega)
end TWB
