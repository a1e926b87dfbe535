/-! Whole calls: beside, visits, under, written, served. -/
section OP14
variable {X : (Nat → Int32) × Nat} {d k n nr bm np hs ml : Nat} {u5 u6 : Option ab_V} {s : ab_S} {nm z f g lo li : Nat → Nat} {st : Nat → Nat → Nat} {by' : Nat → Int32}
theorem it_20 (hn : n ≤ 20) (hf : ∀ q, q < n → f q < n) (hi : ∀ a b, a < n → b < n → f a = f b → a = b) {v N : Nat} (hv : v < n) {P : Nat → Prop} : (∃ q, q < N + 1 ∧ P (it f q v)) ↔ ∃ q, q < min (N + 1) 20 ∧ P (it f q v) := by
  constructor
  · rintro ⟨q, hq, h⟩
    have c1 := cyc_le hf hi hv
    have c2 := Nat.mod_lt q (cyc_pos f n v)
    have c3 := Nat.mod_le q (cyc f n v)
    refine ⟨q % cyc f n v, by omega, ?_⟩
    rw [← it_mod hf hi hv]
    exact h
  · rintro ⟨q, hq, h⟩
    exact ⟨q, by omega, h⟩
theorem pr_lt (hn : n ≤ 20) (hf : ∀ q, q < n → f q < n) (hi : ∀ a b, a < n → b < n → f a = f b → a = b) : pr f n n < 2 ^ 30 := by
  obtain ⟨h1, h2⟩ := pr_L hn hf hi n (Nat.le_refl _)
  have h3 := Nat.le_of_dvd (by decide) h1
  omega
theorem l170 {a b P : Nat} {x1 x2 : Int32} (hP : P < 2 ^ 30) (hn : n ≤ 20) (h2 : ∀ k, k < n → sa s 2 k = nI (f k)) (hf : ∀ k, k < n → f k < n) (ha : a < n) (hb : b < n) : ∀ (j i : Nat), i + j = P → ab_at X (d + 1) 170 37 [some (.inr (0, 0)), some (.inl (.int x1)), some (.inl (.int x2)), some (.inl (.int (nI P))), some (.inl (.int (nI (it f i a)))), some (.inl (.int (nI (it f i b)))), some (.inl (.int (nI (fb_ct (fun q => adf (it f q a) (it f q b) == 1) i)))), some (.inl (.int (nI i)))] [] s = some (.inl (some (.inl (.int (nI (fb_ct (fun q => adf (it f q a) (it f q b) == 1) P))))), s)
  | 0, i, e => by
    obtain rfl : i = P := by omega
    rw [b170_37, if_pos (nI_le (Nat.le_refl _) (by omega))]
  | j + 1, i, e => by
    have c1 := it_lt hf i ha
    have c2 := it_lt hf i hb
    have c3 : adf (it f i a) (it f i b) < 2 ^ 31 := by unfold adf; omega
    have ih := l170 (x1 := x1) (x2 := x2) hP hn h2 hf ha hb j (i + 1) (by omega)
    rw [fb_ct_succ] at ih
    rw [b170_37, if_neg (nI_ge (by omega) (by omega)), c_abs (by omega) (by omega), e_bI]
    by_cases q : adf (it f i a) (it f i b) = 1
    · rw [if_pos (by rw [q]), at29 (by omega), h2 _ c1, e_bI, at29 (by omega), h2 _ c2, e_bI, nI_add, nI_add]
      rw [if_pos (beq_iff_eq.mpr q)] at ih
      exact ih
    · rw [if_neg (fun z => q ((nI_eq c3 (by omega)).mp z)), at29 (by omega), h2 _ c1, e_bI, at29 (by omega), h2 _ c2, e_bI, nI_add]
      rw [if_neg (by simpa using q)] at ih
      exact ih
theorem l329 {a b P : Nat} (hP : P < 2 ^ 30) (hn : n ≤ 20) (h2 : ∀ k, k < n → sa s 13 k = nI (f k)) (hf : ∀ k, k < n → f k < n) (hi : ∀ a b, a < n → b < n → f a = f b → a = b) (ha : a < n) (hb : b < n) : ∀ (j i : Nat), i + j = P → ab_at X (d + 2) 329 56 [some (.inr (9, 0)), some (.inl (.int (nI a))), some (.inl (.int (nI b))), some (.inl (.int (nI P))), some (.inl (.int (nI (fb_ct (fun q => adf (it f q a) (it f q b) == 1) i)))), some (.inl (.int (nI i)))] [] s = some (.inl (some (.inl (.int (nI (fb_ct (fun q => adf (it f q a) (it f q b) == 1) P))))), s)
  | 0, i, e => by
    obtain rfl : i = P := by omega
    rw [b329_56, if_pos (nI_le (Nat.le_refl _) (by omega))]
  | j + 1, i, e => by
    have c1 := it_lt hf i ha
    have c2 := it_lt hf i hb
    have c3 : adf (it f i a) (it f i b) < 2 ^ 31 := by unfold adf; omega
    have e1 : ah f n a (nI i).toInt = it f i a := by rw [nI_toInt (by omega), ah_nat hf hi ha]
    have e2 : ah f n b (nI i).toInt = it f i b := by rw [nI_toInt (by omega), ah_nat hf hi hb]
    have ih := l329 hP hn h2 hf hi ha hb j (i + 1) (by omega)
    rw [fb_ct_succ] at ih
    rw [b329_56, if_neg (nI_ge (by omega) (by omega)), r285 hn h2 hf hi ha, e_bI, r285 hn h2 hf hi hb, e_bI, e1, e2, c_abs (by omega) (by omega), e_bI]
    by_cases q : adf (it f i a) (it f i b) = 1
    · rw [if_pos (by rw [q]), nI_add, nI_add]
      rw [if_pos (beq_iff_eq.mpr q)] at ih
      exact ih
    · rw [if_neg (fun z => q ((nI_eq c3 (by omega)).mp z)), nI_add, nI_add]
      rw [if_neg (by simpa using q)] at ih
      exact ih
/-- where names go from the first k streets -/
def vsB (nm f : Nat → Nat) (v M : Nat) : Nat → Nat
  | 0 => 0
  | k + 1 => if nm k = v then vsB nm f v M k ||| vb (fun q => it f q k) M else vsB nm f v M k
theorem vsB_bit {v M t : Nat} : ∀ k, (vsB nm f v M k).testBit t = decide (∃ a, a < k ∧ nm a = v ∧ ∃ q, q < M ∧ it f q a = t)
  | 0 => by simp [vsB]
  | k + 1 => by
    rw [vsB]
    by_cases h : nm k = v
    · rw [if_pos h, Nat.testBit_or, vsB_bit k, vb_bit, Bool.eq_iff_iff, Bool.or_eq_true, decide_eq_true_iff, decide_eq_true_iff, decide_eq_true_iff]
      constructor
      · rintro (⟨a, h1, h2⟩ | h1)
        · exact ⟨a, by omega, h2⟩
        · exact ⟨k, by omega, h, h1⟩
      · rintro ⟨a, h1, h2, h3⟩
        by_cases h4 : a = k
        · rw [h4] at h3
          exact Or.inr h3
        · exact Or.inl ⟨a, by omega, h2, h3⟩
    · rw [if_neg h, vsB_bit k, Bool.eq_iff_iff, decide_eq_true_iff, decide_eq_true_iff]
      constructor
      · rintro ⟨a, h1, h2⟩
        exact ⟨a, by omega, h2⟩
      · rintro ⟨a, h1, h2, h3⟩
        by_cases h4 : a = k
        · rw [h4] at h2
          exact absurd h2 h
        · exact ⟨a, by omega, h2, h3⟩
theorem l172 {v N : Nat} (hcn : si s 1 0 = nI n) (hn : n ≤ 20) (hnm : ∀ k, k < n → sA s 0 0 k = nI (nm k)) (hlt : ∀ k, k < n → nm k < n) (h2 : ∀ k, k < n → sa s 2 k = nI (f k)) (hf : ∀ k, k < n → f k < n) (hv : v < n) (hN : N ≤ 999) : ∀ (j i : Nat), i + j = n → ab_at X (d + 2) 172 30 [some (.inr (0, 0)), some (.inl (.int (nI v))), some (.inl (.int (nI N))), some (.inl (.int (nI (vsB nm f v (min (N + 1) 20) i)))), some (.inl (.int (nI i)))] [] s = some (.inl (some (.inl (.int (nI (vsB nm f v (min (N + 1) 20) n))))), s)
  | 0, i, e => by
    obtain rfl : i = n := by omega
    rw [b172_30, hcn, if_pos (nI_le (Nat.le_refl _) (by omega))]
  | j + 1, i, e => by
    have hi : i < n := by omega
    have c1 := hlt i hi
    have ih := l172 hcn hn hnm hlt h2 hf hv hN j (i + 1) (by omega)
    rw [vsB] at ih
    rw [b172_30, hcn, if_neg (nI_ge hi (by omega)), at19 (by omega), hnm i hi, e_bI]
    by_cases q : nm i = v
    · rw [if_pos (by rw [q]), c_visitedBy hn h2 hf hi (by omega), e_bI, n_or, nI_add]
      rw [if_pos q] at ih
      exact ih
    · rw [if_neg (fun z => q ((nI_eq (by omega) (by omega)).mp z)), nI_add]
      rw [if_neg q] at ih
      exact ih
theorem l330b {v N i B : Nat} (h : RW s n nm nr z st bm by') (h2 : ∀ k, k < n → sa s 13 k = nI (f k)) (hf : ∀ k, k < n → f k < n) (hi : ∀ a b, a < n → b < n → f a = f b → a = b) (hgf : ∀ q, q < n → g (f q) = q) (hg : ∀ q, q < n → g q < n) (hv : v < n) (hin : i < n) (hN : N ≤ 999) : ∀ (j p : Nat), p + j = N + 1 → ab_at X (d + 3) 330 64 [some (.inr (9, 0)), some (.inl (.int (nI v))), some (.inl (.int (nI N))), some (.inl (.int (nI (if ∃ q, q < p ∧ nm (it g q i) = v then B ||| 2 ^ i else B)))), some (.inl (.int (nI i))), some (.inl (.int (nI p)))] [] s = ab_at X (d + 3) 330 52 [some (.inr (9, 0)), some (.inl (.int (nI v))), some (.inl (.int (nI N))), some (.inl (.int (nI (if ∃ q, q < N + 1 ∧ nm (it g q i) = v then B ||| 2 ^ i else B)))), some (.inl (.int (nI (i + 1)))), some (.inl (.int (nI (N + 1))))] [] s
  | 0, p, e => by
    obtain rfl : p = N + 1 := by omega
    rw [b330_64, if_pos (nI_lt (by omega) (by omega)), nI_add]
  | j + 1, p, e => by
    have hn := h.2.1
    have c1 := it_lt hg p hin
    have c2 := h.2.2.2.1 _ c1
    have e1 : ah f n i (-nI p).toInt = it g p i := by rw [n_negi (by omega), ah_neg hf hi hgf hin]
    have ih := l330b (B := B) h h2 hf hi hgf hg hv hin hN j (p + 1) (by omega)
    rw [b330_64, if_neg (nI_nlt (by omega) (by omega)), r284 (d := d) h h2 hf hi hin, e_bI, e1]
    have iff1 : (∃ q, q < p + 1 ∧ nm (it g q i) = v) ↔ (∃ q, q < p ∧ nm (it g q i) = v) ∨ nm (it g p i) = v := by
      constructor
      · rintro ⟨q, hq, e⟩
        by_cases h4 : q = p
        · rw [h4] at e
          exact Or.inr e
        · exact Or.inl ⟨q, by omega, e⟩
      · rintro (⟨q, hq, e⟩ | e)
        · exact ⟨q, by omega, e⟩
        · exact ⟨p, by omega, e⟩
    by_cases q : nm (it g p i) = v
    · rw [if_pos (by rw [q]), n_sh _ (by omega), n_or, nI_add, ← ih]
      rw [if_pos (iff1.mpr (Or.inr q))]
      by_cases q2 : ∃ q, q < p ∧ nm (it g q i) = v
      · rw [if_pos q2, Nat.or_assoc, Nat.or_self]
      · rw [if_neg q2]
    · rw [if_neg (fun z => q ((nI_eq (by omega) (by omega)).mp z)), nI_add, ← ih]
      by_cases q2 : ∃ q, q < p ∧ nm (it g q i) = v
      · rw [if_pos q2, if_pos (iff1.mpr (Or.inl q2))]
      · rw [if_neg q2, if_neg (fun z => (iff1.mp z).elim q2 q)]
theorem l330 {v N : Nat} (h : RW s n nm nr z st bm by') (h2 : ∀ k, k < n → sa s 13 k = nI (f k)) (hf : ∀ k, k < n → f k < n) (hi : ∀ a b, a < n → b < n → f a = f b → a = b) (hgf : ∀ q, q < n → g (f q) = q) (hg : ∀ q, q < n → g q < n) (hv : v < n) (hN : N ≤ 999) : ∀ (j i : Nat) (u : Option ab_V), i + j = n → ab_at X (d + 3) 330 52 [some (.inr (9, 0)), some (.inl (.int (nI v))), some (.inl (.int (nI N))), some (.inl (.int (nI (bs (fun t => decide (∃ q, q < N + 1 ∧ nm (it g q t) = v)) i)))), some (.inl (.int (nI i))), u] [] s = some (.inl (some (.inl (.int (nI (bs (fun t => decide (∃ q, q < N + 1 ∧ nm (it g q t) = v)) n))))), s)
  | 0, i, u, e => by
    obtain rfl : i = n := by omega
    have hn := h.2.1
    rw [b330_52, r267 h.1, e_bI, if_pos (nI_le (Nat.le_refl _) (by omega))]
  | j + 1, i, u, e => by
    have hn := h.2.1
    have hin : i < n := by omega
    have ih := fun u => l330 h h2 hf hi hgf hg hv hN j (i + 1) u (by omega)
    have l1 := l330b (X := X) (d := d) (B := bs (fun t => decide (∃ q, q < N + 1 ∧ nm (it g q t) = v)) i) h h2 hf hi hgf hg hv hin hN (N + 1) 0 (by omega)
    rw [if_neg (show ¬ ∃ q, q < 0 ∧ nm (it g q i) = v from fun ⟨q, hq, _⟩ => by omega)] at l1
    rw [b330_52, r267 h.1, e_bI, if_neg (nI_ge hin (by omega)), l1, ← ih (some (.inl (.int (nI (N + 1)))))]
    rw [bs]
    by_cases q : ∃ q, q < N + 1 ∧ nm (it g q i) = v
    · rw [if_pos q, if_pos (decide_eq_true q)]
    · rw [if_neg q, if_neg (by rw [decide_eq_false q]; decide)]
theorem l331 {v N t : Nat} (h : RW s n nm nr z st bm by') (h2 : ∀ k, k < n → sa s 13 k = nI (f k)) (hf : ∀ k, k < n → f k < n) (hi : ∀ a b, a < n → b < n → f a = f b → a = b) (hgf : ∀ q, q < n → g (f q) = q) (hg : ∀ q, q < n → g q < n) (hv : v < 8) (ht : t < n) (hvt : sa s 8 (116 + v) = nI t) (hN : N ≤ 999) : ∀ (j p : Nat), p + j = N + 1 → ab_at X (d + 3) 331 51 [some (.inr (9, 0)), some (.inl (.int (nI v))), some (.inl (.int (nI N))), some (.inl (.int (nI (vb (fun q => nm (it g q t)) p)))), some (.inl (.int (nI p)))] [] s = some (.inl (some (.inl (.int (nI (vb (fun q => nm (it g q t)) (N + 1)))))), s)
  | 0, p, e => by
    obtain rfl : p = N + 1 := by omega
    rw [b331_51, if_pos (nI_lt (by omega) (by omega))]
  | j + 1, p, e => by
    have hn := h.2.1
    have c1 := it_lt hg p ht
    have c2 := h.2.2.2.1 _ c1
    have e1 : ah f n t (-nI p).toInt = it g p t := by rw [n_negi (by omega), ah_neg hf hi hgf ht]
    have ih := l331 h h2 hf hi hgf hg hv ht hvt hN j (p + 1) (by omega)
    rw [vb] at ih
    rw [b331_51, if_neg (nI_nlt (by omega) (by omega)), nI_add, r_in (j := 116 + v) (by omega) (by decide), nI_clamp (by omega), hvt, r284 (d := d) h h2 hf hi ht, e_bI, e1, n_sh _ (by omega), n_or, nI_add]
    exact ih
theorem l191 {v t0 M : Nat} {x2 : Int32} (hn : n ≤ 20) (h1 : ∀ k, k < n → sa s 1 k = nI (nm k)) (hnm : ∀ k, k < n → nm k < n) (h2 : ∀ k, k < n → sa s 2 k = nI (f k)) (hf : ∀ k, k < n → f k < n) (hv : v < n) (ht : t0 < n) (hM : M ≤ 99) : ∀ (j i : Nat), i + j = 100 → ab_at X (d + 1) 191 38 [some (.inr (0, 0)), some (.inl (.int (nI v))), some (.inl (.int x2)), some (.inl (.int (nI M))), some (.inl (.int (nI (it f i t0)))), some (.inl (.int (nI (fb_ct (fun q => decide (M ≤ q) && nm (it f q t0) == v) i)))), some (.inl (.int (nI i)))] [] s = some (.inl (some (.inl (.int (nI (fb_ct (fun q => decide (M ≤ q) && nm (it f q t0) == v) 100))))), s)
  | 0, i, e => by
    obtain rfl : i = 100 := by omega
    rw [b191_38, if_pos (nI_lt (by omega) (by omega))]
  | j + 1, i, e => by
    have c1 := it_lt hf i ht
    have c2 := hnm _ c1
    have ih := l191 (x2 := x2) hn h1 hnm h2 hf hv ht hM j (i + 1) (by omega)
    rw [fb_ct_succ] at ih
    rw [b191_38, if_neg (nI_nlt (show i ≤ 99 by omega) (by omega))]
    by_cases q : i < M
    · rw [if_pos (nI_lt q (by omega)), at29 (by omega), h2 _ c1, e_bI, nI_add]
      rw [if_neg (by rw [decide_eq_false (show ¬ M ≤ i by omega)]; simp)] at ih
      exact ih
    · rw [if_neg (nI_nlt (by omega) (by omega)), at28 (by omega), h1 _ c1, e_bI]
      by_cases q2 : nm (it f i t0) = v
      · rw [if_pos (by rw [q2]), at29 (by omega), h2 _ c1, e_bI, nI_add, nI_add]
        rw [if_pos (by rw [q2, decide_eq_true (show M ≤ i by omega)]; simp)] at ih
        exact ih
      · rw [if_neg (fun z => q2 ((nI_eq (by omega) (by omega)).mp z)), at29 (by omega), h2 _ c1, e_bI, nI_add]
        rw [if_neg (by simp [q2])] at ih
        exact ih
theorem l336 {v t0 M : Nat} {x3 : Int32} (h : RW s n nm nr z st bm by') (h2 : ∀ k, k < n → sa s 13 k = nI (f k)) (hf : ∀ k, k < n → f k < n) (hi : ∀ a b, a < n → b < n → f a = f b → a = b) (hv : v < n) (ht : t0 < n) (hM : M ≤ 99) : ∀ (j i : Nat), i + j = 100 → M ≤ i → ab_at X (d + 3) 336 62 [some (.inr (9, 0)), some (.inl (.int (nI v))), some (.inl (.int (nI t0))), some (.inl (.int x3)), some (.inl (.int (nI (fb_ct (fun q => decide (M ≤ q) && nm (it f q t0) == v) i)))), some (.inl (.int (nI i)))] [] s = some (.inl (some (.inl (.int (nI (fb_ct (fun q => decide (M ≤ q) && nm (it f q t0) == v) 100))))), s)
  | 0, i, e, hm => by
    obtain rfl : i = 100 := by omega
    rw [b336_62, if_pos (nI_lt (by omega) (by omega))]
  | j + 1, i, e, hm => by
    have hn := h.2.1
    have c1 := it_lt hf i ht
    have c2 := h.2.2.2.1 _ c1
    have e0 : -(-nI i) = nI i := Int32.neg_neg
    have e1 : ah f n t0 (- -nI i).toInt = it f i t0 := by rw [e0, nI_toInt (by omega), ah_nat hf hi ht]
    have ih := l336 (x3 := x3) h h2 hf hi hv ht hM j (i + 1) (by omega) (by omega)
    rw [fb_ct_succ] at ih
    rw [b336_62, if_neg (nI_nlt (show i ≤ 99 by omega) (by omega)), r284 (d := d) h h2 hf hi ht, e_bI, e1]
    by_cases q2 : nm (it f i t0) = v
    · rw [if_pos (by rw [q2]), nI_add, nI_add]
      rw [if_pos (by rw [q2, decide_eq_true hm]; simp)] at ih
      exact ih
    · rw [if_neg (fun z => q2 ((nI_eq (by omega) (by omega)).mp z)), nI_add, nI_add]
      rw [if_neg (by simp [q2])] at ih
      exact ih
/-- the first so far -/
def fsf (B : Nat → Bool) (i : Nat) : Int32 := if fst B i < i then nI (fst B i) else -nI 1
theorem fsf_no {B : Nat → Bool} {i : Nat} (h : B i = false) : fsf B (i + 1) = fsf B i := by
  have h1 := fst_le B i
  unfold fsf
  rw [fst]
  by_cases q : fst B i < i
  · rw [if_pos q, if_pos (show fst B i < i + 1 by omega), if_pos q]
  · rw [if_neg q, h, if_neg (show ¬ false = true by decide), if_neg (show ¬ i + 1 < i + 1 by omega), if_neg q]
theorem fsf_yes {B : Nat → Bool} {i : Nat} (h : B i = true) (h0 : fb_ct B i = 0) : fsf B (i + 1) = nI i := by
  have h1 : fst B i = i := fst_eqn (fb_ct_zero.mp h0)
  unfold fsf
  rw [fst, h1, if_neg (show ¬ i < i by omega), h, if_pos rfl, if_pos (show i < i + 1 by omega)]
theorem fsf_kept {B : Nat → Bool} {i : Nat} (h0 : ¬ fb_ct B i = 0) : fsf B (i + 1) = fsf B i ∧ fst B i < i := by
  obtain ⟨q, hq, hb⟩ := fb_ct_pos.mp (show 0 < fb_ct B i by omega)
  have h2 : fst B i < i := by
    rcases Nat.lt_or_ge (fst B i) i with q2 | q2
    · exact q2
    · have h1 := fst_le B i
      have h3 : fst B i = i := by omega
      have := fst_no B i q (by omega)
      rw [this] at hb
      cases hb
  unfold fsf
  rw [fst, if_pos h2, if_pos (by omega), if_pos h2]
  exact ⟨rfl, h2⟩
theorem l193 {v t0 w : Nat} {x1 : Int32} (hw : w < 2) (hn : n ≤ 20) (h1 : ∀ k, k < n → sa s 1 k = nI (nm k)) (hnm : ∀ k, k < n → nm k < n) (h3 : ∀ k, k < n → sa s 3 k = nI (g k)) (hg : ∀ k, k < n → g k < n) (hv : v < n) (ht : t0 < n) : ∀ (j i : Nat), i + j = 100 → ab_at X (d + 1) 193 50 [some (.inr (0, 0)), some (.inl (.int x1)), some (.inl (.int (nI v))), some (.inl (.int (nI w))), some (.inl (.int (nI (it g i t0)))), some (.inl (.int (nI (fb_ct (fun q => nm (it g q t0) == v) i)))), some (.inl (.int (fsf (fun q => nm (it g q t0) == v) i))), some (.inl (.int (nI i)))] [] s = some (.inl (some (.inl (.int (if w = 0 then nI (fb_ct (fun q => nm (it g q t0) == v) 100) else fsf (fun q => nm (it g q t0) == v) 100)))), s)
  | 0, i, e => by
    obtain rfl : i = 100 := by omega
    rw [b193_50, if_pos (nI_le (Nat.le_refl _) (by omega))]
    by_cases q : w = 0
    · rw [if_pos (by rw [q]), if_pos q]
    · rw [if_neg (show ¬ nI w = nI 0 from nI_ne0 (by omega) (by omega)), if_neg q]
  | j + 1, i, e => by
    have c1 := it_lt hg i ht
    have c2 := hnm _ c1
    have c3 := fb_ct_le (fun q => nm (it g q t0) == v) i
    have ih := l193 (x1 := x1) hw hn h1 hnm h3 hg hv ht j (i + 1) (by omega)
    rw [fb_ct_succ] at ih
    rw [b193_50, if_neg (nI_ge (show i < 100 by omega) (by omega)), at28 (by omega), h1 _ c1, e_bI]
    by_cases q : nm (it g i t0) = v
    · have hB : (fun q => nm (it g q t0) == v) i = true := beq_iff_eq.mpr q
      rw [if_pos (by rw [q])]
      rw [if_pos (beq_iff_eq.mpr q)] at ih
      by_cases q2 : fb_ct (fun q => nm (it g q t0) == v) i = 0
      · rw [fsf_yes (B := fun q => nm (it g q t0) == v) hB q2] at ih
        rw [if_pos (by rw [q2]), at30 (by omega), h3 _ c1, e_bI, nI_add, nI_add]
        exact ih
      · rw [(fsf_kept (B := fun q => nm (it g q t0) == v) q2).1] at ih
        rw [if_neg (show ¬ nI (fb_ct (fun q => nm (it g q t0) == v) i) = nI 0 from nI_ne0 (by omega) (by omega)), at30 (by omega), h3 _ c1, e_bI, nI_add, nI_add]
        exact ih
    · have hB : (fun q => nm (it g q t0) == v) i = false := beq_eq_false_iff_ne.mpr q
      rw [fsf_no (B := fun q => nm (it g q t0) == v) hB] at ih
      rw [if_neg (by simpa using q)] at ih
      rw [if_neg (fun z => q ((nI_eq (by omega) (by omega)).mp z)), at30 (by omega), h3 _ c1, e_bI, nI_add]
      exact ih
theorem l337 {v u t0 w : Nat} (hw : w < 2) (h : RW s n nm nr z st bm by') (h2 : ∀ k, k < n → sa s 13 k = nI (f k)) (hf : ∀ k, k < n → f k < n) (hi : ∀ a b, a < n → b < n → f a = f b → a = b) (hgf : ∀ q, q < n → g (f q) = q) (hg : ∀ q, q < n → g q < n) (hv : v < n) (hu : u < 8) (ht : t0 < n) (hut : sa s 8 (116 + u) = nI t0) : ∀ (j i : Nat), i + j = 100 → ab_at X (d + 3) 337 62 [some (.inr (9, 0)), some (.inl (.int (nI u))), some (.inl (.int (nI v))), some (.inl (.int (nI w))), some (.inl (.int (nI (fb_ct (fun q => nm (it g q t0) == v) i)))), some (.inl (.int (fsf (fun q => nm (it g q t0) == v) i))), some (.inl (.int (nI i)))] [] s = some (.inl (some (.inl (.int (if w = 0 then nI (fb_ct (fun q => nm (it g q t0) == v) 100) else fsf (fun q => nm (it g q t0) == v) 100)))), s)
  | 0, i, e => by
    obtain rfl : i = 100 := by omega
    rw [b337_62, if_pos (nI_lt (by omega) (by omega))]
    by_cases q : w = 0
    · rw [if_pos (by rw [q]), if_pos q]
    · rw [if_neg (show ¬ nI w = nI 0 from nI_ne0 (by omega) (by omega)), if_neg q]
  | j + 1, i, e => by
    have hn := h.2.1
    have c1 := it_lt hg i ht
    have c2 := h.2.2.2.1 _ c1
    have c3 := fb_ct_le (fun q => nm (it g q t0) == v) i
    have e1 : ah f n t0 (-nI i).toInt = it g i t0 := by rw [n_negi (by omega), ah_neg hf hi hgf ht]
    have ih := l337 hw h h2 hf hi hgf hg hv hu ht hut j (i + 1) (by omega)
    rw [fb_ct_succ] at ih
    rw [b337_62, if_neg (nI_nlt (show i ≤ 99 by omega) (by omega)), nI_add, r_in (j := 116 + u) (by omega) (by decide), nI_clamp (by omega), hut, r284 (d := d) h h2 hf hi ht, e_bI, e1]
    by_cases q : nm (it g i t0) = v
    · have hB : (fun q => nm (it g q t0) == v) i = true := beq_iff_eq.mpr q
      rw [if_pos (by rw [q])]
      rw [if_pos (beq_iff_eq.mpr q)] at ih
      by_cases q2 : fb_ct (fun q => nm (it g q t0) == v) i = 0
      · have e3 : fsf (fun q => nm (it g q t0) == v) i = -nI 1 := by
          unfold fsf
          rw [fst_eqn (fb_ct_zero.mp q2), if_neg (by omega)]
        rw [fsf_yes (B := fun q => nm (it g q t0) == v) hB q2] at ih
        rw [if_pos e3, nI_add, nI_add]
        exact ih
      · have e4 := fsf_kept (B := fun q => nm (it g q t0) == v) q2
        have e3 : ¬ fsf (fun q => nm (it g q t0) == v) i = -nI 1 := by
          unfold fsf
          rw [if_pos e4.2]
          exact n_m1 _ (by have := e4.2; omega)
        rw [e4.1] at ih
        rw [if_neg e3, nI_add, nI_add]
        exact ih
    · have hB : (fun q => nm (it g q t0) == v) i = false := beq_eq_false_iff_ne.mpr q
      rw [fsf_no (B := fun q => nm (it g q t0) == v) hB] at ih
      rw [if_neg (by simpa using q)] at ih
      rw [if_neg (fun z => q ((nI_eq (by omega) (by omega)).mp z)), nI_add]
      exact ih
theorem o171 (h : BW s n nm nr z st bm by') (hk : k + 5 < X.2) (hX : X.2 < 2 ^ 31) : ∃ (s2 : ab_S) (v5 v6 : Option ab_V), sW s s2 ∧ ab_at X (d + 31) 360 2001 [some (.inr (14, 0)), some (.inr (0, 0)), some (.inr (9, 0)), some (.inr (15, 0)), some (.inl (.int (nI k))), u5, u6, none] [] s = ab_at X (d + 31) 360 23 [some (.inr (14, 0)), some (.inr (0, 0)), some (.inr (9, 0)), some (.inr (15, 0)), some (.inl (.int (nI (k + 6)))), v5, v6, none] [] s2 := by
  obtain ⟨hT, hR⟩ := id h
  obtain ⟨hcn, hn, t3, t4, -⟩ := id hT
  have hr1 : sa (ths s) 8 1 = nI n := hR.1
  have i_0 : (nI 0).toInt = 0 := by decide
  have j_0 : (lN 0).toInt = 0 := by decide
  have i_999 : (nI 999).toInt = 999 := by decide
  have j_999 : (lN 999).toInt = 999 := by decide
  by_cases h1 : inS (X.1 (k + 1)) n = true
  rotate_left
  · have cc : ab_ev X (d + 30) 171 [.inr (0, 0), .inl (.int (X.1 (k + 1))), .inl (.int (X.1 (k + 2))), .inr (15, 0)] s = some (.inl (some (.inl (.int (nI 1)))), ths s) := by
      rw [b171, b172, c_n98 hcn (by omega), if_neg h1, e_xU, e_px, e_xI]
      rfl
    have r : ab_ev X (d + 30) 330 [.inr (9, 0), .inl (.int (X.1 (k + 1))), .inl (.int (X.1 (k + 2)))] (ths s) = some (.inl (some (.inl (.int (nI 0)))), pz (ths s) 11 (nI 1)) := by
      rw [b330, r266 (n := n) hr1 (by omega), if_neg h1, e_bI, if_pos rfl]
    exact ⟨_, _, _, Or.inr (sV_pz (by omega)), w2001 hk hX cc r rfl (fun q => absurd q (by decide))⟩
  by_cases h2 : inR (X.1 (k + 2)).toInt 0 999 = true
  rotate_left
  · have cc : ab_ev X (d + 30) 171 [.inr (0, 0), .inl (.int (X.1 (k + 1))), .inl (.int (X.1 (k + 2))), .inr (15, 0)] s = some (.inl (some (.inl (.int (nI 2)))), ths s) := by
      rw [b171, b172, c_n98 hcn (by omega), if_pos h1, e_bU, c_n103, i_0, i_999, if_neg h2, e_xU, e_px, e_xI]
      rfl
    have r : ab_ev X (d + 30) 330 [.inr (9, 0), .inl (.int (X.1 (k + 1))), .inl (.int (X.1 (k + 2)))] (ths s) = some (.inl (some (.inl (.int (nI 0)))), pz (ths s) 11 (nI 2)) := by
      rw [b330, r266 (n := n) hr1 (by omega), if_pos h1, e_bI, if_neg (show ¬ nI 1 = nI 0 by decide), r232, j_of, j_0, j_999, if_neg h2, e_bI, if_pos rfl]
    exact ⟨_, _, _, Or.inr (sV_pz (by omega)), w2001 hk hX cc r rfl (fun q => absurd q (by decide))⟩
  have hg : ∀ q, q < n → inv (to_ nr z st bm by') n q < n := fun q hq => (inv_lt hT.to_lt hT.to_inj hq).1
  have hgf : ∀ q, q < n → inv (to_ nr z st bm by') n (to_ nr z st bm by' q) = q := fun q hq => inv_f hT.to_inj hq
  have hgi : ∀ a b, a < n → b < n → inv (to_ nr z st bm by') n a = inv (to_ nr z st bm by') n b → a = b := fun a b ha hb e => by
    have q1 := (inv_lt hT.to_lt hT.to_inj ha).2
    have q2 := (inv_lt hT.to_lt hT.to_inj hb).2
    rw [← q1, ← q2, e]
  obtain ⟨v, hv, ev⟩ := inS_rep h1
  obtain ⟨N, hN, eN⟩ := inS_rep (x := X.1 (k + 2)) (n := 1000) (inS_def.mpr (by have := inR_iff.mp h2; omega))
  obtain ⟨s1, a1, a2, a3⟩ := c_look (X := X) (d := d + 25) hT
  obtain ⟨o1, o2, o3, o4, o5, o6⟩ := id a3
  have hT1 : TW s1 0 n nm nr z st bm by' := hT.same a2.2.2.2.1 a2.2.2.2.2.2.1
  have l1 := l172 (X := X) (d := d + 27) (s := s1) (N := N) hT1.1 hn hT1.2.2.1 t4 o4 hT.to_lt hv (by omega) n 0 (by omega)
  have ew : vsB nm (to_ nr z st bm by') v (min (N + 1) 20) n = bs (fun t => decide (∃ q, q < N + 1 ∧ nm (it (inv (to_ nr z st bm by') n) q t) = v)) n := by
    apply Nat.eq_of_testBit_eq
    intro t
    rw [vsB_bit, bs_bit, Bool.eq_iff_iff, Bool.and_eq_true, decide_eq_true_iff, decide_eq_true_iff, decide_eq_true_iff]
    constructor
    · rintro ⟨a, ha, e1, q, hq, e2⟩
      have e3 : t < n := by rw [← e2]; exact it_lt hT.to_lt q ha
      refine ⟨e3, q, by omega, ?_⟩
      rw [← e2, it_back hT.to_lt hgf q ha]
      exact e1
    · rintro ⟨ht, hq⟩
      obtain ⟨q, hq, e⟩ := (it_20 hn hg hgi ht (P := fun y => nm y = v)).mp hq
      refine ⟨_, it_lt hg q ht, e, q, hq, ?_⟩
      exact it_back (f := inv (to_ nr z st bm by') n) (g := to_ nr z st bm by') hg (fun y hy => (inv_lt hT.to_lt hT.to_inj hy).2) q ht
  obtain ⟨w, hw⟩ : ∃ w, w = nI (vsB nm (to_ nr z st bm by') v (min (N + 1) 20) n) := ⟨_, rfl⟩
  have cc : ab_ev X (d + 30) 171 [.inr (0, 0), .inl (.int (X.1 (k + 1))), .inl (.int (X.1 (k + 2))), .inr (15, 0)] s = some (.inl (some (.inl (.int (nI 0)))), pb s1 3 (va_up (sb s1 3) 0 w.toInt64)) := by
    rw [b171, b172, c_n98 hcn (by omega), if_pos h1, e_bU, c_n103, i_0, i_999, if_pos h2, e_bU, a1, e_bU, ev, eN]
    have l1' : ab_at X (d + 29) 172 30 [some (.inr (0, 0)), some (.inl (.int (nI v))), some (.inl (.int (nI N))), some (.inl (.int (nI 0))), some (.inl (.int (nI 0)))] [] s1 = _ := l1
    rw [l1', e_bI, hw]
  have hV : sV s (pz (pb s1 3 (va_up (sb s1 3) 0 w.toInt64)) 11 (nI 0)) := sV_trans a2.V (sV_trans sV_pb (sV_pz (by omega)))
  have hb := h.same hV
  obtain ⟨s2, r1, r2, r3, -, r5⟩ := r268 (X := X) (d := d + 27) hb.2
  have hr1' : sa (pb s1 3 (va_up (sb s1 3) 0 w.toInt64)) 8 1 = nI n := hb.2.1
  have r : ab_ev X (d + 30) 330 [.inr (9, 0), .inl (.int (X.1 (k + 1))), .inl (.int (X.1 (k + 2)))] (pb s1 3 (va_up (sb s1 3) 0 w.toInt64)) = some (.inl (some (.inl (.int w))), s2) := by
    have hr1 := hr1'
    rw [b330, r266 (n := n) hr1 (by omega), if_pos h1, e_bI, if_neg (show ¬ nI 1 = nI 0 by decide), r232, j_of, j_0, j_999, if_pos h2, e_bI, if_neg (show ¬ nI 1 = nI 0 by decide), r1, e_bU, ev, eN, hw, ew]
    exact l330 (d := d + 27) (N := N) (hb.same r2.V).2 r5 hT.to_lt hT.to_inj hgf hg hv (by omega) n 0 _ (by omega)
  refine ⟨s2, _, _, Or.inl (sV_trans hV r2.V), w2001 hk hX cc r r3 (fun _ => ?_)⟩
  rw [r2.2.2.2.2.2.2.1]
  rfl
theorem o174 (h : PW s n nm nr z st bm by' np hs lo li) (hk : k + 5 < X.2) (hX : X.2 < 2 ^ 31) : ∃ (s2 : ab_S) (v5 v6 : Option ab_V), sW s s2 ∧ ab_at X (d + 31) 360 2069 [some (.inr (14, 0)), some (.inr (0, 0)), some (.inr (9, 0)), some (.inr (15, 0)), some (.inl (.int (nI k))), u5, u6, none] [] s = ab_at X (d + 31) 360 23 [some (.inr (14, 0)), some (.inr (0, 0)), some (.inr (9, 0)), some (.inr (15, 0)), some (.inl (.int (nI (k + 6)))), v5, v6, none] [] s2 := by
  obtain ⟨⟨hT, hR⟩, p1, p2, p3, p4, p5, p6, p7⟩ := id h
  have hr3 : sa (ths s) 8 3 = nI np := p2
  have hr4 : sa (ths s) 8 4 = nI hs := p5
  obtain ⟨hcn, hn, t3, t4, -⟩ := id hT
  have hr1 : sa (ths s) 8 1 = nI n := hR.1
  have i_0 : (nI 0).toInt = 0 := by decide
  have j_0 : (lN 0).toInt = 0 := by decide
  have i_999 : (nI 999).toInt = 999 := by decide
  have j_999 : (lN 999).toInt = 999 := by decide
  by_cases h1 : inS (X.1 (k + 1)) np = true
  rotate_left
  · have cc : ab_ev X (d + 30) 174 [.inr (0, 0), .inl (.int (X.1 (k + 1))), .inl (.int (X.1 (k + 2))), .inr (15, 0)] s = some (.inl (some (.inl (.int (nI 1)))), ths s) := by
      rw [b174, b175, c_n95 p1 (by omega), if_neg h1, e_xU, e_px, e_xI]
      rfl
    have r : ab_ev X (d + 30) 331 [.inr (9, 0), .inl (.int (X.1 (k + 1))), .inl (.int (X.1 (k + 2)))] (ths s) = some (.inl (some (.inl (.int (nI 0)))), pz (ths s) 11 (nI 1)) := by
      rw [b331, r276 (n := np) hr3 (by omega), if_neg h1, e_bI, if_pos rfl]
    exact ⟨_, _, _, Or.inr (sV_pz (by omega)), w2069 hk hX cc r rfl (fun q => absurd q (by decide))⟩
  by_cases h2 : inR (X.1 (k + 2)).toInt 0 999 = true
  rotate_left
  · have cc : ab_ev X (d + 30) 174 [.inr (0, 0), .inl (.int (X.1 (k + 1))), .inl (.int (X.1 (k + 2))), .inr (15, 0)] s = some (.inl (some (.inl (.int (nI 2)))), ths s) := by
      rw [b174, b175, c_n95 p1 (by omega), if_pos h1, e_bU, c_n103, i_0, i_999, if_neg h2, e_xU, e_px, e_xI]
      rfl
    have r : ab_ev X (d + 30) 331 [.inr (9, 0), .inl (.int (X.1 (k + 1))), .inl (.int (X.1 (k + 2)))] (ths s) = some (.inl (some (.inl (.int (nI 0)))), pz (ths s) 11 (nI 2)) := by
      rw [b331, r276 (n := np) hr3 (by omega), if_pos h1, e_bI, if_neg (show ¬ nI 1 = nI 0 by decide), r232, j_of, j_0, j_999, if_neg h2, e_bI, if_pos rfl]
    exact ⟨_, _, _, Or.inr (sV_pz (by omega)), w2069 hk hX cc r rfl (fun q => absurd q (by decide))⟩
  have hg : ∀ q, q < n → inv (to_ nr z st bm by') n q < n := fun q hq => (inv_lt hT.to_lt hT.to_inj hq).1
  have hgf : ∀ q, q < n → inv (to_ nr z st bm by') n (to_ nr z st bm by' q) = q := fun q hq => inv_f hT.to_inj hq
  have hgi : ∀ a b, a < n → b < n → inv (to_ nr z st bm by') n a = inv (to_ nr z st bm by') n b → a = b := fun a b ha hb e => by
    have q1 := (inv_lt hT.to_lt hT.to_inj ha).2
    have q2 := (inv_lt hT.to_lt hT.to_inj hb).2
    rw [← q1, ← q2, e]
  obtain ⟨v, hv, ev⟩ := inS_rep h1
  obtain ⟨N, hN, eN⟩ := inS_rep (x := X.1 (k + 2)) (n := 1000) (inS_def.mpr (by have := inR_iff.mp h2; omega))
  obtain ⟨q1, q2, q3, -, -, -⟩ := p7 v hv
  obtain ⟨s1, a1, a2, a3⟩ := c_look (X := X) (d := d + 25) hT
  obtain ⟨o1, o2, o3, o4, o5, o6⟩ := id a3
  have q1' : sA s1 1 0 v = nI (lo v) := by rw [a2.2.2.2.2.2.1]; exact q1
  have ew : vb (fun q => nm (it (inv (to_ nr z st bm by') n) q (lo v))) (min (N + 1) 20) = vb (fun q => nm (it (inv (to_ nr z st bm by') n) q (lo v))) (N + 1) := by
    apply Nat.eq_of_testBit_eq
    intro t
    rw [vb_bit, vb_bit, Bool.eq_iff_iff, decide_eq_true_iff, decide_eq_true_iff]
    exact (it_20 hn hg hgi q3 (P := fun y => nm y = t)).symm
  obtain ⟨w, hw⟩ : ∃ w, w = nI (vb (fun q => nm (it (inv (to_ nr z st bm by') n) q (lo v))) (N + 1)) := ⟨_, rfl⟩
  have cc : ab_ev X (d + 30) 174 [.inr (0, 0), .inl (.int (X.1 (k + 1))), .inl (.int (X.1 (k + 2))), .inr (15, 0)] s = some (.inl (some (.inl (.int (nI 0)))), pb s1 3 (va_up (sb s1 3) 0 w.toInt64)) := by
    rw [b174, b175, c_n95 p1 (by omega), if_pos h1, e_bU, c_n103, i_0, i_999, if_pos h2, e_bU, a1, e_bU, ev, eN, at20 (by omega), q1', e_bI, c_namesOn hn o3 t4 o5 hg q3 (by omega), e_bI, e_bI, ew, hw]
  have hV : sV s (pz (pb s1 3 (va_up (sb s1 3) 0 w.toInt64)) 11 (nI 0)) := sV_trans a2.V (sV_trans sV_pb (sV_pz (by omega)))
  have hb := h.same hV
  obtain ⟨s2, r1, r2, r3, -, r5⟩ := r268 (X := X) (d := d + 27) hb.1.2
  have hr3' : sa (pb s1 3 (va_up (sb s1 3) 0 w.toInt64)) 8 3 = nI np := hb.2.2.1
  have q2' : sa s2 8 (116 + v) = nI (lo v) := by
    rw [r2.known]
    exact (hb.2.2.2.2.2.2.2 v hv).2.1
  have r : ab_ev X (d + 30) 331 [.inr (9, 0), .inl (.int (X.1 (k + 1))), .inl (.int (X.1 (k + 2)))] (pb s1 3 (va_up (sb s1 3) 0 w.toInt64)) = some (.inl (some (.inl (.int w))), s2) := by
    have hr3 := hr3'
    rw [b331, r276 (n := np) hr3 (by omega), if_pos h1, e_bI, if_neg (show ¬ nI 1 = nI 0 by decide), r232, j_of, j_0, j_999, if_pos h2, e_bI, if_neg (show ¬ nI 1 = nI 0 by decide), r1, e_bU, ev, eN, hw]
    exact l331 (d := d + 27) (N := N) (hb.1.same r2.V).2 r5 hT.to_lt hT.to_inj hgf hg (by omega) q3 q2' (by omega) (N + 1) 0 (by omega)
  refine ⟨s2, _, _, Or.inl (sV_trans hV r2.V), w2069 hk hX cc r r3 (fun _ => ?_)⟩
  rw [r2.2.2.2.2.2.2.1]
  rfl
theorem o190 (h : BW s n nm nr z st bm by') (hk : k + 5 < X.2) (hX : X.2 < 2 ^ 31) : ∃ (s2 : ab_S) (v5 v6 : Option ab_V), sW s s2 ∧ ab_at X (d + 31) 360 2205 [some (.inr (14, 0)), some (.inr (0, 0)), some (.inr (9, 0)), some (.inr (15, 0)), some (.inl (.int (nI k))), u5, u6, none] [] s = ab_at X (d + 31) 360 23 [some (.inr (14, 0)), some (.inr (0, 0)), some (.inr (9, 0)), some (.inr (15, 0)), some (.inl (.int (nI (k + 6)))), v5, v6, none] [] s2 := by
  obtain ⟨hT, hR⟩ := id h
  obtain ⟨hcn, hn, t3, t4, -⟩ := id hT
  have hr1 : sa (ths s) 8 1 = nI n := hR.1
  have i_0 : (nI 0).toInt = 0 := by decide
  have j_0 : (lN 0).toInt = 0 := by decide
  have i_99 : (nI 99).toInt = 99 := by decide
  have j_99 : (lN 99).toInt = 99 := by decide
  by_cases h1 : inS (X.1 (k + 1)) n = true
  rotate_left
  · have cc : ab_ev X (d + 30) 190 [.inr (0, 0), .inl (.int (X.1 (k + 1))), .inl (.int (X.1 (k + 2))), .inl (.int (X.1 (k + 3))), .inr (15, 0)] s = some (.inl (some (.inl (.int (nI 1)))), ths s) := by
      rw [b190, b191, c_n98 hcn (by omega), if_neg h1, e_xU, e_px, e_xI]
      rfl
    have r : ab_ev X (d + 30) 336 [.inr (9, 0), .inl (.int (X.1 (k + 1))), .inl (.int (X.1 (k + 2))), .inl (.int (X.1 (k + 3)))] (ths s) = some (.inl (some (.inl (.int (nI 0)))), pz (ths s) 11 (nI 1)) := by
      rw [b336, r266 (n := n) hr1 (by omega), if_neg h1, e_bI, if_pos rfl]
    exact ⟨_, _, _, Or.inr (sV_pz (by omega)), w2205 hk hX cc r rfl (fun q => absurd q (by decide))⟩
  by_cases h2 : inS (X.1 (k + 2)) n = true
  rotate_left
  · have cc : ab_ev X (d + 30) 190 [.inr (0, 0), .inl (.int (X.1 (k + 1))), .inl (.int (X.1 (k + 2))), .inl (.int (X.1 (k + 3))), .inr (15, 0)] s = some (.inl (some (.inl (.int (nI 1)))), ths s) := by
      rw [b190, b191, c_n98 hcn (by omega), if_pos h1, e_bU, c_n86 hcn (by omega), if_neg h2, e_xU, e_px, e_xI]
      rfl
    have r : ab_ev X (d + 30) 336 [.inr (9, 0), .inl (.int (X.1 (k + 1))), .inl (.int (X.1 (k + 2))), .inl (.int (X.1 (k + 3)))] (ths s) = some (.inl (some (.inl (.int (nI 0)))), pz (ths s) 11 (nI 1)) := by
      rw [b336, r266 (n := n) hr1 (by omega), if_pos h1, e_bI, if_neg (show ¬ nI 1 = nI 0 by decide), r266 (n := n) hr1 (by omega), if_neg h2, e_bI, if_pos rfl]
    exact ⟨_, _, _, Or.inr (sV_pz (by omega)), w2205 hk hX cc r rfl (fun q => absurd q (by decide))⟩
  by_cases h3 : inR (X.1 (k + 3)).toInt 0 99 = true
  rotate_left
  · have cc : ab_ev X (d + 30) 190 [.inr (0, 0), .inl (.int (X.1 (k + 1))), .inl (.int (X.1 (k + 2))), .inl (.int (X.1 (k + 3))), .inr (15, 0)] s = some (.inl (some (.inl (.int (nI 2)))), ths s) := by
      rw [b190, b191, c_n98 hcn (by omega), if_pos h1, e_bU, c_n86 hcn (by omega), if_pos h2, e_bU, c_n103, i_0, i_99, if_neg h3, e_xU, e_px, e_xI]
      rfl
    have r : ab_ev X (d + 30) 336 [.inr (9, 0), .inl (.int (X.1 (k + 1))), .inl (.int (X.1 (k + 2))), .inl (.int (X.1 (k + 3)))] (ths s) = some (.inl (some (.inl (.int (nI 0)))), pz (ths s) 11 (nI 2)) := by
      rw [b336, r266 (n := n) hr1 (by omega), if_pos h1, e_bI, if_neg (show ¬ nI 1 = nI 0 by decide), r266 (n := n) hr1 (by omega), if_pos h2, e_bI, if_neg (show ¬ nI 1 = nI 0 by decide), r232, j_of, j_0, j_99, if_neg h3, e_bI, if_pos rfl]
    exact ⟨_, _, _, Or.inr (sV_pz (by omega)), w2205 hk hX cc r rfl (fun q => absurd q (by decide))⟩
  have hg : ∀ q, q < n → inv (to_ nr z st bm by') n q < n := fun q hq => (inv_lt hT.to_lt hT.to_inj hq).1
  have hgf : ∀ q, q < n → inv (to_ nr z st bm by') n (to_ nr z st bm by' q) = q := fun q hq => inv_f hT.to_inj hq
  have hgi : ∀ a b, a < n → b < n → inv (to_ nr z st bm by') n a = inv (to_ nr z st bm by') n b → a = b := fun a b ha hb e => by
    have q1 := (inv_lt hT.to_lt hT.to_inj ha).2
    have q2 := (inv_lt hT.to_lt hT.to_inj hb).2
    rw [← q1, ← q2, e]
  obtain ⟨v, hv, ev⟩ := inS_rep h1
  obtain ⟨t0, ht, et⟩ := inS_rep h2
  obtain ⟨M, hM, eM⟩ := inS_rep (x := X.1 (k + 3)) (n := 100) (inS_def.mpr (by have := inR_iff.mp h3; omega))
  obtain ⟨s1, a1, a2, a3⟩ := c_look (X := X) (d := d + 25) hT
  obtain ⟨o1, o2, o3, o4, o5, o6⟩ := id a3
  have l1 := l191 (X := X) (d := d + 28) (x2 := nI t0) hn o3 t4 o4 hT.to_lt hv ht (show M ≤ 99 by omega) 100 0 (by omega)
  obtain ⟨w, hw⟩ : ∃ w, w = nI (fb_ct (fun q => decide (M ≤ q) && nm (it (to_ nr z st bm by') q t0) == v) 100) := ⟨_, rfl⟩
  have cc : ab_ev X (d + 30) 190 [.inr (0, 0), .inl (.int (X.1 (k + 1))), .inl (.int (X.1 (k + 2))), .inl (.int (X.1 (k + 3))), .inr (15, 0)] s = some (.inl (some (.inl (.int (nI 0)))), pb s1 3 (va_up (sb s1 3) 0 w.toInt64)) := by
    rw [b190, b191, c_n98 hcn (by omega), if_pos h1, e_bU, c_n86 hcn (by omega), if_pos h2, e_bU, c_n103, i_0, i_99, if_pos h3, e_bU, a1, e_bU, ev, et, eM]
    have l1' : ab_at X (d + 29) 191 38 [some (.inr (0, 0)), some (.inl (.int (nI v))), some (.inl (.int (nI t0))), some (.inl (.int (nI M))), some (.inl (.int (nI t0))), some (.inl (.int (nI 0))), some (.inl (.int (nI 0)))] [] s1 = _ := l1
    rw [l1', e_bI, hw]
  have hV : sV s (pz (pb s1 3 (va_up (sb s1 3) 0 w.toInt64)) 11 (nI 0)) := sV_trans a2.V (sV_trans sV_pb (sV_pz (by omega)))
  have hb := h.same hV
  obtain ⟨s2, r1, r2, r3, -, r5⟩ := r268 (X := X) (d := d + 27) hb.2
  have hr1' : sa (pb s1 3 (va_up (sb s1 3) 0 w.toInt64)) 8 1 = nI n := hb.2.1
  have r : ab_ev X (d + 30) 336 [.inr (9, 0), .inl (.int (X.1 (k + 1))), .inl (.int (X.1 (k + 2))), .inl (.int (X.1 (k + 3)))] (pb s1 3 (va_up (sb s1 3) 0 w.toInt64)) = some (.inl (some (.inl (.int w))), s2) := by
    have hr1 := hr1'
    have l2 := l336 (X := X) (d := d + 27) (x3 := nI M) (hb.same r2.V).2 r5 hT.to_lt hT.to_inj hv ht (show M ≤ 99 by omega) (100 - M) M (by omega) (Nat.le_refl _)
    have e0 : fb_ct (fun q => decide (M ≤ q) && nm (it (to_ nr z st bm by') q t0) == v) M = 0 := fb_ct_zero.mpr (fun q hq => by rw [decide_eq_false (show ¬ M ≤ q by omega)]; simp)
    rw [e0] at l2
    rw [b336, r266 (n := n) hr1 (by omega), if_pos h1, e_bI, if_neg (show ¬ nI 1 = nI 0 by decide), r266 (n := n) hr1 (by omega), if_pos h2, e_bI, if_neg (show ¬ nI 1 = nI 0 by decide), r232, j_of, j_0, j_99, if_pos h3, e_bI, if_neg (show ¬ nI 1 = nI 0 by decide), r1, e_bU, ev, et, eM, hw]
    exact l2
  refine ⟨s2, _, _, Or.inl (sV_trans hV r2.V), w2205 hk hX cc r r3 (fun _ => ?_)⟩
  rw [r2.2.2.2.2.2.2.1]
  rfl
theorem o192 (h : PW s n nm nr z st bm by' np hs lo li) (hk : k + 5 < X.2) (hX : X.2 < 2 ^ 31) : ∃ (s2 : ab_S) (v5 v6 : Option ab_V), sW s s2 ∧ ab_at X (d + 31) 360 2285 [some (.inr (14, 0)), some (.inr (0, 0)), some (.inr (9, 0)), some (.inr (15, 0)), some (.inl (.int (nI k))), u5, u6, none] [] s = ab_at X (d + 31) 360 23 [some (.inr (14, 0)), some (.inr (0, 0)), some (.inr (9, 0)), some (.inr (15, 0)), some (.inl (.int (nI (k + 6)))), v5, v6, none] [] s2 := by
  obtain ⟨⟨hT, hR⟩, p1, p2, p3, p4, p5, p6, p7⟩ := id h
  have hr3 : sa (ths s) 8 3 = nI np := p2
  have hr4 : sa (ths s) 8 4 = nI hs := p5
  obtain ⟨hcn, hn, t3, t4, -⟩ := id hT
  have hr1 : sa (ths s) 8 1 = nI n := hR.1
  have i_0 : (nI 0).toInt = 0 := by decide
  have j_0 : (lN 0).toInt = 0 := by decide
  have i_1 : (nI 1).toInt = 1 := by decide
  have j_1 : (lN 1).toInt = 1 := by decide
  by_cases h1 : inS (X.1 (k + 1)) np = true
  rotate_left
  · have cc : ab_ev X (d + 30) 192 [.inr (0, 0), .inl (.int (X.1 (k + 1))), .inl (.int (X.1 (k + 2))), .inl (.int (X.1 (k + 3))), .inr (15, 0)] s = some (.inl (some (.inl (.int (nI 1)))), ths s) := by
      rw [b192, b193, c_n95 p1 (by omega), if_neg h1, e_xU, e_px, e_xI]
      rfl
    have r : ab_ev X (d + 30) 337 [.inr (9, 0), .inl (.int (X.1 (k + 1))), .inl (.int (X.1 (k + 2))), .inl (.int (X.1 (k + 3)))] (ths s) = some (.inl (some (.inl (.int (nI 0)))), pz (ths s) 11 (nI 1)) := by
      rw [b337, r276 (n := np) hr3 (by omega), if_neg h1, e_bI, if_pos rfl]
    exact ⟨_, _, _, Or.inr (sV_pz (by omega)), w2285 hk hX cc r rfl (fun q => absurd q (by decide))⟩
  by_cases h2 : inS (X.1 (k + 2)) n = true
  rotate_left
  · have cc : ab_ev X (d + 30) 192 [.inr (0, 0), .inl (.int (X.1 (k + 1))), .inl (.int (X.1 (k + 2))), .inl (.int (X.1 (k + 3))), .inr (15, 0)] s = some (.inl (some (.inl (.int (nI 1)))), ths s) := by
      rw [b192, b193, c_n95 p1 (by omega), if_pos h1, e_bU, c_n98 hcn (by omega), if_neg h2, e_xU, e_px, e_xI]
      rfl
    have r : ab_ev X (d + 30) 337 [.inr (9, 0), .inl (.int (X.1 (k + 1))), .inl (.int (X.1 (k + 2))), .inl (.int (X.1 (k + 3)))] (ths s) = some (.inl (some (.inl (.int (nI 0)))), pz (ths s) 11 (nI 1)) := by
      rw [b337, r276 (n := np) hr3 (by omega), if_pos h1, e_bI, if_neg (show ¬ nI 1 = nI 0 by decide), r266 (n := n) hr1 (by omega), if_neg h2, e_bI, if_pos rfl]
    exact ⟨_, _, _, Or.inr (sV_pz (by omega)), w2285 hk hX cc r rfl (fun q => absurd q (by decide))⟩
  by_cases h3 : inR (X.1 (k + 3)).toInt 0 1 = true
  rotate_left
  · have cc : ab_ev X (d + 30) 192 [.inr (0, 0), .inl (.int (X.1 (k + 1))), .inl (.int (X.1 (k + 2))), .inl (.int (X.1 (k + 3))), .inr (15, 0)] s = some (.inl (some (.inl (.int (nI 2)))), ths s) := by
      rw [b192, b193, c_n95 p1 (by omega), if_pos h1, e_bU, c_n98 hcn (by omega), if_pos h2, e_bU, c_n103, i_0, i_1, if_neg h3, e_xU, e_px, e_xI]
      rfl
    have r : ab_ev X (d + 30) 337 [.inr (9, 0), .inl (.int (X.1 (k + 1))), .inl (.int (X.1 (k + 2))), .inl (.int (X.1 (k + 3)))] (ths s) = some (.inl (some (.inl (.int (nI 0)))), pz (ths s) 11 (nI 2)) := by
      rw [b337, r276 (n := np) hr3 (by omega), if_pos h1, e_bI, if_neg (show ¬ nI 1 = nI 0 by decide), r266 (n := n) hr1 (by omega), if_pos h2, e_bI, if_neg (show ¬ nI 1 = nI 0 by decide), r232, j_of, j_0, j_1, if_neg h3, e_bI, if_pos rfl]
    exact ⟨_, _, _, Or.inr (sV_pz (by omega)), w2285 hk hX cc r rfl (fun q => absurd q (by decide))⟩
  have hg : ∀ q, q < n → inv (to_ nr z st bm by') n q < n := fun q hq => (inv_lt hT.to_lt hT.to_inj hq).1
  have hgf : ∀ q, q < n → inv (to_ nr z st bm by') n (to_ nr z st bm by' q) = q := fun q hq => inv_f hT.to_inj hq
  have hgi : ∀ a b, a < n → b < n → inv (to_ nr z st bm by') n a = inv (to_ nr z st bm by') n b → a = b := fun a b ha hb e => by
    have q1 := (inv_lt hT.to_lt hT.to_inj ha).2
    have q2 := (inv_lt hT.to_lt hT.to_inj hb).2
    rw [← q1, ← q2, e]
  obtain ⟨u, hu, eu⟩ := inS_rep h1
  obtain ⟨v, hv, ev⟩ := inS_rep h2
  obtain ⟨y, hy, ey⟩ := inS_rep (x := X.1 (k + 3)) (n := 2) (inS_def.mpr (by have := inR_iff.mp h3; omega))
  obtain ⟨q1, q2, q3, -, -, -⟩ := p7 u hu
  obtain ⟨s1, a1, a2, a3⟩ := c_look (X := X) (d := d + 25) hT
  obtain ⟨o1, o2, o3, o4, o5, o6⟩ := id a3
  have q1' : sA s1 1 0 u = nI (lo u) := by rw [a2.2.2.2.2.2.1]; exact q1
  have l1 := l193 (X := X) (d := d + 28) (x1 := nI u) (w := y) hy hn o3 t4 o5 hg hv q3 100 0 (by omega)
  obtain ⟨w, hw⟩ : ∃ w, w = (if y = 0 then nI (fb_ct (fun q => nm (it (inv (to_ nr z st bm by') n) q (lo u)) == v) 100) else fsf (fun q => nm (it (inv (to_ nr z st bm by') n) q (lo u)) == v) 100) := ⟨_, rfl⟩
  have cc : ab_ev X (d + 30) 192 [.inr (0, 0), .inl (.int (X.1 (k + 1))), .inl (.int (X.1 (k + 2))), .inl (.int (X.1 (k + 3))), .inr (15, 0)] s = some (.inl (some (.inl (.int (nI 0)))), pb s1 3 (va_up (sb s1 3) 0 w.toInt64)) := by
    rw [b192, b193, c_n95 p1 (by omega), if_pos h1, e_bU, c_n98 hcn (by omega), if_pos h2, e_bU, c_n103, i_0, i_1, if_pos h3, e_bU, a1, e_bU, eu, ev, ey, at20 (by omega), q1', e_bI]
    have l1' : ab_at X (d + 29) 193 50 [some (.inr (0, 0)), some (.inl (.int (nI u))), some (.inl (.int (nI v))), some (.inl (.int (nI y))), some (.inl (.int (nI (lo u)))), some (.inl (.int (nI 0))), some (.inl (.int (-nI 1))), some (.inl (.int (nI 0)))] [] s1 = _ := l1
    rw [l1', e_bI, hw]
  have hV : sV s (pz (pb s1 3 (va_up (sb s1 3) 0 w.toInt64)) 11 (nI 0)) := sV_trans a2.V (sV_trans sV_pb (sV_pz (by omega)))
  have hb := h.same hV
  obtain ⟨s2, r1, r2, r3, -, r5⟩ := r268 (X := X) (d := d + 27) hb.1.2
  have hr1' : sa (pb s1 3 (va_up (sb s1 3) 0 w.toInt64)) 8 1 = nI n := hb.1.2.1
  have hr3' : sa (pb s1 3 (va_up (sb s1 3) 0 w.toInt64)) 8 3 = nI np := hb.2.2.1
  have q2' : sa s2 8 (116 + u) = nI (lo u) := by
    rw [r2.known]
    exact (hb.2.2.2.2.2.2.2 u hu).2.1
  have r : ab_ev X (d + 30) 337 [.inr (9, 0), .inl (.int (X.1 (k + 1))), .inl (.int (X.1 (k + 2))), .inl (.int (X.1 (k + 3)))] (pb s1 3 (va_up (sb s1 3) 0 w.toInt64)) = some (.inl (some (.inl (.int w))), s2) := by
    have hr1 := hr1'
    have hr3 := hr3'
    rw [b337, r276 (n := np) hr3 (by omega), if_pos h1, e_bI, if_neg (show ¬ nI 1 = nI 0 by decide), r266 (n := n) hr1 (by omega), if_pos h2, e_bI, if_neg (show ¬ nI 1 = nI 0 by decide), r232, j_of, j_0, j_1, if_pos h3, e_bI, if_neg (show ¬ nI 1 = nI 0 by decide), r1, e_bU, eu, ev, ey, hw]
    exact l337 (d := d + 27) hy (hb.1.same r2.V).2 r5 hT.to_lt hT.to_inj hgf hg hv (by omega) q3 q2' 100 0 (by omega)
  refine ⟨s2, _, _, Or.inl (sV_trans hV r2.V), w2285 hk hX cc r r3 (fun _ => ?_)⟩
  rw [r2.2.2.2.2.2.2.1]
  rfl
end OP14
