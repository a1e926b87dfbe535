/-! A whole call: the fewest changes. -/
theorem ct_two {P : Nat → Bool} {n a b : Nat} (ha : a < n) (hb : b < n) (hab : ¬ a = b) (h1 : P a = true) (h2 : P b = true) : 2 ≤ fb_ct P n := by
  have h3 := fb_ct_upd P false ha
  have h4 : 0 < fb_ct (fun k => if k = a then false else P k) n := fb_ct_pos.mpr ⟨b, hb, by
    show (if b = a then false else P b) = true
    rw [if_neg (fun e => hab e.symm)]
    exact h2⟩
  rw [h1, if_pos rfl, if_neg (show ¬ false = true by decide)] at h3
  omega
theorem shd_wrg {nm : Nat → Nat} {n : Nat} (hlt : ∀ k, k < n → nm k < n) : shd nm n = 0 ↔ wrg nm n = 0 := by
  constructor
  · intro h
    refine fb_ct_zero.mpr (fun q hq => ?_)
    have h1 : (shd nm n).testBit (nm q) = false := by rw [h]; exact Nat.zero_testBit _
    rw [shd, bs_bit, decide_eq_true (hlt q hq), Bool.true_and] at h1
    exact h1
  · intro h
    apply Nat.eq_of_testBit_eq
    intro v
    rw [Nat.zero_testBit, shd, bs_bit]
    by_cases hv : v < n
    · rw [decide_eq_true hv, Bool.true_and]
      refine decide_eq_false (fun hc => ?_)
      obtain ⟨q, hq, e⟩ := fb_ct_pos.mp (show 0 < ct nm n v by omega)
      have e2 : nm q = v := beq_iff_eq.mp e
      have h1 := fb_ct_zero.mp h q hq
      rw [e2] at h1
      have := of_decide_eq_false h1
      omega
    · rw [decide_eq_false hv, Bool.false_and]
theorem wrg_inj {nm : Nat → Nat} {n : Nat} (h : wrg nm n = 0) : ∀ a b, a < n → b < n → nm a = nm b → a = b := by
  intro a b ha hb e
  by_cases q : a = b
  · exact q
  · have h1 := fb_ct_zero.mp h a ha
    have h2 : 2 ≤ ct nm n (nm a) := ct_two ha hb q (beq_self_eq_true _) (beq_iff_eq.mpr e.symm)
    have := of_decide_eq_false h1
    omega
theorem lst_zero {w : Nat → Nat} {n : Nat} : lst w n = 0 ↔ ∀ v, v < n → inv w n v < n := by
  constructor
  · intro h v hv
    have h1 : (lst w n).testBit v = false := by rw [h]; exact Nat.zero_testBit _
    rw [lst, bs_bit, decide_eq_true hv, Bool.true_and] at h1
    have h2 : 0 < ct w n v := by
      have := beq_eq_false_iff_ne.mp h1
      omega
    obtain ⟨q, hq, e⟩ := fb_ct_pos.mp h2
    unfold inv
    rcases Nat.lt_or_ge (fst (fun q => w q == v) n) n with q1 | q1
    · exact q1
    · have q2 := fst_no (fun q => w q == v) n q (by omega)
      have q3 : (w q == v) = false := q2
      rw [q3] at e
      cases e
  · intro h
    apply Nat.eq_of_testBit_eq
    intro v
    rw [Nat.zero_testBit, lst, bs_bit]
    by_cases hv : v < n
    · rw [decide_eq_true hv, Bool.true_and]
      refine beq_eq_false_iff_ne.mpr (fun hc => ?_)
      have h1 := fst_yes (fun q => w q == v) n (h v hv)
      have h2 := fb_ct_zero.mp hc _ (h v hv)
      have h3 : (w (inv w n v) == v) = true := h1
      have h4 : (w (inv w n v) == v) = false := h2
      rw [h4] at h3
      cases h3
    · rw [decide_eq_false hv, Bool.false_and]
theorem inv_at {w : Nat → Nat} {n v : Nat} (h : inv w n v < n) : w (inv w n v) = v := beq_iff_eq.mp (fst_yes (fun q => w q == v) n h)
theorem onto_inj {w : Nat → Nat} {n : Nat} (h : ∀ v, v < n → inv w n v < n) : ∀ a b, a < n → b < n → w a = w b → a = b := by
  have hi : ∀ a b, a < n → b < n → inv w n a = inv w n b → a = b := fun a b ha hb e => by
    rw [← inv_at (h a ha), ← inv_at (h b hb), e]
  intro a b ha hb e
  obtain ⟨u, hu, rfl⟩ := prm_onto h hi ha
  obtain ⟨v, hv, rfl⟩ := prm_onto h hi hb
  rw [inv_at (h u hu), inv_at (h v hv)] at e
  rw [e]
/-- the streets of the rings of the first k -/
def dn_ (f : Nat → Nat) (n : Nat) : Nat → Nat
  | 0 => 0
  | k + 1 => if (dn_ f n k).testBit k = true then dn_ f n k else dn_ f n k ||| vb (fun j => it f j k) (cyc f n k)
/-- how many rings the first k are of -/
def rg (f : Nat → Nat) (n : Nat) : Nat → Nat
  | 0 => 0
  | k + 1 => rg f n k + (if (dn_ f n k).testBit k = true then 0 else 1)
theorem rg_le (f : Nat → Nat) (n : Nat) : ∀ k, rg f n k ≤ k
  | 0 => Nat.le_refl _
  | k + 1 => by
    have := rg_le f n k
    rw [rg]
    split <;> omega
theorem it_cyc {f : Nat → Nat} {n : Nat} (hf : ∀ q, q < n → f q < n) (hi : ∀ a b, a < n → b < n → f a = f b → a = b) {v : Nat} (hv : v < n) {t : Nat} : (∃ j, it f j v = t) ↔ ∃ j, j < cyc f n v ∧ it f j v = t := by
  constructor
  · rintro ⟨j, e⟩
    refine ⟨j % cyc f n v, Nat.mod_lt _ (cyc_pos f n v), ?_⟩
    rw [← it_mod hf hi hv]
    exact e
  · rintro ⟨j, -, e⟩
    exact ⟨j, e⟩
theorem it_ret {f : Nat → Nat} {n : Nat} (hf : ∀ q, q < n → f q < n) (hi : ∀ a b, a < n → b < n → f a = f b → a = b) {v : Nat} (hv : v < n) (j : Nat) : ∃ m, it f m (it f j v) = v := by
  have c := cyc_pos f n v
  refine ⟨cyc f n v * j - j, ?_⟩
  rw [← it_add]
  have h1 : j ≤ cyc f n v * j := Nat.le_mul_of_pos_left j c
  rw [Nat.sub_add_cancel h1, it_mul hf hi hv]
theorem dn_bit {f : Nat → Nat} {n : Nat} (hf : ∀ q, q < n → f q < n) (hi : ∀ a b, a < n → b < n → f a = f b → a = b) (t : Nat) : ∀ k, k ≤ n → ((dn_ f n k).testBit t = true ↔ ∃ a, a < k ∧ ∃ j, it f j a = t)
  | 0, _ => by
    rw [dn_, Nat.zero_testBit]
    constructor
    · intro h
      cases h
    · rintro ⟨a, ha, -⟩
      omega
  | k + 1, hk => by
    have ih := fun t => dn_bit hf hi t k (by omega)
    rw [dn_]
    by_cases q : (dn_ f n k).testBit k = true
    · rw [if_pos q, ih]
      constructor
      · rintro ⟨a, ha, h⟩
        exact ⟨a, by omega, h⟩
      · rintro ⟨a, ha, j, h⟩
        by_cases e : a = k
        · subst e
          obtain ⟨b, hb, i, h2⟩ := (ih a).mp q
          refine ⟨b, hb, j + i, ?_⟩
          rw [it_add, h2, h]
        · exact ⟨a, by omega, j, h⟩
    · rw [if_neg q, Nat.testBit_or, Bool.or_eq_true, ih, vb_bit, decide_eq_true_iff]
      constructor
      · rintro (⟨a, ha, h⟩ | ⟨j, hj, h⟩)
        · exact ⟨a, by omega, h⟩
        · exact ⟨k, by omega, j, h⟩
      · rintro ⟨a, ha, h⟩
        by_cases e : a = k
        · subst e
          exact Or.inr ((it_cyc hf hi (by omega)).mp h)
        · exact Or.inl ⟨a, by omega, h⟩
theorem dn_lt {f : Nat → Nat} {n : Nat} (hf : ∀ q, q < n → f q < n) (hi : ∀ a b, a < n → b < n → f a = f b → a = b) {k : Nat} (hk : k ≤ n) : dn_ f n k < 2 ^ n := by
  refine Nat.lt_pow_two_of_testBit _ (fun i hin => ?_)
  cases e : (dn_ f n k).testBit i with
  | false => rfl
  | true =>
    obtain ⟨a, ha, j, h⟩ := (dn_bit hf hi i k hk).mp e
    have := it_lt hf j (show a < n by omega)
    omega
theorem dn_back {f g : Nat → Nat} {n : Nat} (hf : ∀ q, q < n → f q < n) (hi : ∀ a b, a < n → b < n → f a = f b → a = b) (hg : ∀ q, q < n → g q < n) (hgi : ∀ a b, a < n → b < n → g a = g b → a = b) (hgf : ∀ q, q < n → g (f q) = q) (hfg : ∀ q, q < n → f (g q) = q) {k : Nat} (hk : k ≤ n) : dn_ f n k = dn_ g n k := by
  apply Nat.eq_of_testBit_eq
  intro t
  rw [Bool.eq_iff_iff, dn_bit hf hi t k hk, dn_bit hg hgi t k hk]
  constructor
  · rintro ⟨a, ha, j, h⟩
    refine ⟨a, ha, ?_⟩
    have h1 := it_back hf hgf j (show a < n by omega)
    have h2 := it_lt hf j (show a < n by omega)
    rw [h] at h1 h2
    obtain ⟨m, hm⟩ := it_ret hg hgi h2 j
    rw [h1] at hm
    exact ⟨m, hm⟩
  · rintro ⟨a, ha, j, h⟩
    refine ⟨a, ha, ?_⟩
    have h1 := it_back hg hfg j (show a < n by omega)
    have h2 := it_lt hg j (show a < n by omega)
    rw [h] at h1 h2
    obtain ⟨m, hm⟩ := it_ret hf hi h2 j
    rw [h1] at hm
    exact ⟨m, hm⟩
theorem rg_back {f g : Nat → Nat} {n : Nat} (hf : ∀ q, q < n → f q < n) (hi : ∀ a b, a < n → b < n → f a = f b → a = b) (hg : ∀ q, q < n → g q < n) (hgi : ∀ a b, a < n → b < n → g a = g b → a = b) (hgf : ∀ q, q < n → g (f q) = q) (hfg : ∀ q, q < n → f (g q) = q) : ∀ k, k ≤ n → rg f n k = rg g n k
  | 0, _ => rfl
  | k + 1, hk => by rw [rg, rg, rg_back hf hi hg hgi hgf hfg k (by omega), dn_back hf hi hg hgi hgf hfg (show k ≤ n by omega)]
/-- a ring that is walked is not met before its end -/
theorem dn_new {f : Nat → Nat} {n : Nat} (hf : ∀ q, q < n → f q < n) (hi : ∀ a b, a < n → b < n → f a = f b → a = b) {k i : Nat} (hk : k < n) (h : ¬ (dn_ f n k).testBit k = true) (hic : i < cyc f n k) : (dn_ f n k ||| vb (fun j => it f j k) i).testBit (it f i k) = false := by
  cases e : (dn_ f n k ||| vb (fun j => it f j k) i).testBit (it f i k) with
  | false => rfl
  | true =>
    exfalso
    rw [Nat.testBit_or, Bool.or_eq_true, vb_bit, decide_eq_true_iff] at e
    rcases e with e | ⟨j, hj, e⟩
    · obtain ⟨a, ha, j, e⟩ := (dn_bit hf hi _ k (by omega)).mp e
      obtain ⟨m, hm⟩ := it_ret hf hi hk i
      refine h ((dn_bit hf hi k k (by omega)).mpr ⟨a, ha, m + j, ?_⟩)
      rw [it_add, e, hm]
    · have e2 := (it_eq hf hi hk j i).mp e
      rw [Nat.mod_eq_of_lt (by omega), Nat.mod_eq_of_lt hic] at e2
      omega
theorem dn_met {f : Nat → Nat} {n : Nat} (hf : ∀ q, q < n → f q < n) (hi : ∀ a b, a < n → b < n → f a = f b → a = b) {k : Nat} (hk : k < n) : (dn_ f n k ||| vb (fun j => it f j k) (cyc f n k)).testBit (it f (cyc f n k) k) = true := by
  rw [cyc_it hf hi hk, Nat.testBit_or, Bool.or_eq_true, vb_bit, decide_eq_true_iff]
  exact Or.inr ⟨0, cyc_pos f n k, rfl⟩
theorem dnv_lt {f : Nat → Nat} {n : Nat} (hf : ∀ q, q < n → f q < n) (hi : ∀ a b, a < n → b < n → f a = f b → a = b) {k i : Nat} (hk : k < n) (hn : n ≤ 20) : dn_ f n k ||| vb (fun j => it f j k) i < 2 ^ 31 := by
  have h1 := dn_lt hf hi (show k ≤ n by omega)
  have h2 : vb (fun j => it f j k) i < 2 ^ n := Nat.lt_pow_two_of_testBit _ (fun b hb => by
    rw [vb_bit]
    refine decide_eq_false (fun ⟨j, _, e⟩ => ?_)
    have := it_lt hf j hk
    omega)
  have h3 := Nat.or_lt_two_pow h1 h2
  exact Nat.lt_of_lt_of_le h3 (Nat.pow_le_pow_right (by decide) (by omega))
section OP18
variable {X : (Nat → Int32) × Nat} {d k n nr bm np hs ml : Nat} {u5 u6 : Option ab_V} {s : ab_S} {nm z f g lo li src w : Nat → Nat} {st : Nat → Nat → Nat} {by' : Nat → Int32}
theorem l214a {t i : Nat} (hcn : si s 1 i = nI n) (hn : n ≤ 20) (hz : si s 11 t = nI n) (hw : ∀ k, k < n → sB s 0 t k = lN (w k)) (hw2 : ∀ k, k < n → w k < n) : ∀ (j k : Nat), k + j = n → ab_at X (d + 1) 214 11 [some (.inr (2, i)), some (.inr (8, t)), some (.inl (.int (nI (ls_ w n k)))), some (.inl (.int (nI k))), none, none, none, none] [] s = (if lst w n = 0 then ab_at X (d + 1) 214 55 [some (.inr (2, i)), some (.inr (8, t)), some (.inl (.int (nI (lst w n)))), some (.inl (.int (nI n))), some (.inl (.int (nI 0))), some (.inl (.int (nI 0))), none, none] [] s else some (.inl (some (.inl (.int (-nI 1)))), s))
  | 0, k, e => by
    obtain rfl : k = n := by omega
    have h1 : lst w k < 2 ^ 31 := bs_lt20 _ (by omega)
    rw [b214_11, hcn, if_pos (nI_le (Nat.le_refl _) (by omega)), ls_eq]
    by_cases q : lst w k = 0
    · rw [if_pos (by rw [q]), if_pos q]
    · rw [if_neg (fun z => q ((nI_eq h1 (by omega)).mp z)), if_neg q]
  | j + 1, k, e => by
    have hk : k < n := by omega
    have a1 := hw2 k hk
    rw [b214_11, hcn, if_neg (nI_ge hk (by omega)), c_get hz (by omega) hk, e_bJ, hw k hk, lN_i, n_sh _ (by omega), n_clr (by omega), nI_add]
    exact l214a hcn hn hz hw hw2 j (k + 1) (by omega)
theorem l214b {t i k : Nat} {x2 x3 : Int32} (hcn : si s 1 i = nI n) (hn : n ≤ 20) (hnm : ∀ k, k < n → sA s 0 i k = nI (nm k)) (hlt : ∀ k, k < n → nm k < n) (hz : si s 11 t = nI n) (hw : ∀ k, k < n → sB s 0 t k = lN (w k)) (hw2 : ∀ k, k < n → w k < n) (hi : ∀ a b, a < n → b < n → nm a = nm b → a = b) (hf : ∀ q, q < n → inv nm n (w q) < n) (hfi : ∀ a b, a < n → b < n → inv nm n (w a) = inv nm n (w b) → a = b) (hk : k < n) (h0 : ¬ (dn_ (fun q => inv nm n (w q)) n k).testBit k = true) : ∀ (j p : Nat), p + j = cyc (fun q => inv nm n (w q)) n k → ∃ u6 u7 : Option ab_V, ab_at X (d + 2) 214 83 [some (.inr (2, i)), some (.inr (8, t)), some (.inl (.int x2)), some (.inl (.int x3)), some (.inl (.int (nI (dn_ (fun q => inv nm n (w q)) n k ||| vb (fun j => it (fun q => inv nm n (w q)) j k) p)))), some (.inl (.int (nI k))), some (.inl (.int (nI (it (fun q => inv nm n (w q)) p k)))), some (.inl (.int (nI p)))] [] s = ab_at X (d + 2) 214 55 [some (.inr (2, i)), some (.inr (8, t)), some (.inl (.int x2)), some (.inl (.int x3)), some (.inl (.int (nI (dn_ (fun q => inv nm n (w q)) n k ||| vb (fun j => it (fun q => inv nm n (w q)) j k) (cyc (fun q => inv nm n (w q)) n k))))), some (.inl (.int (nI (k + 1)))), u6, u7] [] s
  | 0, p, e => by
    have hcl := cyc_le hf hfi hk
    have e0 : p = cyc (fun q => inv nm n (w q)) n k := by omega
    rw [← e0]
    have hb := b214_83 (X := X) (d := d + 1) (i0 := i) (i1 := t) (x2 := x2) (x3 := x3) (x4 := nI (dn_ (fun q => inv nm n (w q)) n k ||| vb (fun j => it (fun q => inv nm n (w q)) j k) p)) (x5 := nI k) (x6 := nI (it (fun q => inv nm n (w q)) p k)) (x7 := nI p) (s := s)
    refine ⟨some (.inl (.int (nI (it (fun q => inv nm n (w q)) p k)))), some (.inl (.int (nI p))), ?_⟩
    rw [hb, hcn]
    by_cases q : nI n ≤ nI p
    · rw [if_pos q, nI_add]
    · have c1 := it_lt hf p hk
      have c2 := dnv_lt hf hfi (i := p) hk hn
      have c3 := dn_met hf hfi hk
      rw [← e0] at c3
      rw [if_neg q, n_shr1 c2 (by omega), c3, cond_true, if_neg (show ¬ nI 1 = nI 0 by decide), nI_add]
  | j + 1, p, e => by
    have hcl := cyc_le hf hfi hk
    have c1 := it_lt hf p hk
    have c2 := dnv_lt hf hfi (i := p) hk hn
    have c3 := dn_new hf hfi hk h0 (show p < cyc (fun q => inv nm n (w q)) n k by omega)
    have c4 := hw2 _ c1
    obtain ⟨u6, u7, ih⟩ := l214b (x2 := x2) (x3 := x3) hcn hn hnm hlt hz hw hw2 hi hf hfi hk h0 j (p + 1) (by omega)
    refine ⟨u6, u7, ?_⟩
    have e5 : it (fun q => inv nm n (w q)) (p + 1) k = inv nm n (w (it (fun q => inv nm n (w q)) p k)) := rfl
    have e6 : vb (fun j => it (fun q => inv nm n (w q)) j k) (p + 1) = vb (fun j => it (fun q => inv nm n (w q)) j k) p ||| 2 ^ it (fun q => inv nm n (w q)) p k := rfl
    rw [← ih, b214_83, hcn, if_neg (nI_ge (by omega) (by omega)), n_shr1 c2 (by omega), c3, cond_false, if_pos rfl, c_get hz (by omega) c1, e_bJ, hw _ c1, lN_i, c_streetBearing hcn hn hnm hlt (by omega), e_bI, if_pos (hf _ c1), n_sh _ (by omega), n_or, nI_add, e5, e6, Nat.or_assoc]
theorem l214c {t i : Nat} {x2 : Int32} (hcn : si s 1 i = nI n) (hn : n ≤ 20) (hnm : ∀ k, k < n → sA s 0 i k = nI (nm k)) (hlt : ∀ k, k < n → nm k < n) (hz : si s 11 t = nI n) (hw : ∀ k, k < n → sB s 0 t k = lN (w k)) (hw2 : ∀ k, k < n → w k < n) (hi : ∀ a b, a < n → b < n → nm a = nm b → a = b) (hf : ∀ q, q < n → inv nm n (w q) < n) (hfi : ∀ a b, a < n → b < n → inv nm n (w a) = inv nm n (w b) → a = b) : ∀ (j k : Nat) (u6 u7 : Option ab_V), k + j = n → ab_at X (d + 2) 214 55 [some (.inr (2, i)), some (.inr (8, t)), some (.inl (.int x2)), some (.inl (.int (nI (n - rg (fun q => inv nm n (w q)) n k)))), some (.inl (.int (nI (dn_ (fun q => inv nm n (w q)) n k)))), some (.inl (.int (nI k))), u6, u7] [] s = some (.inl (some (.inl (.int (nI (n - rg (fun q => inv nm n (w q)) n n))))), s)
  | 0, k, u6, u7, e => by
    obtain rfl : k = n := by omega
    rw [b214_55, hcn, if_pos (nI_le (Nat.le_refl _) (by omega))]
  | j + 1, k, u6, u7, e => by
    have hk : k < n := by omega
    have r1 := rg_le (fun q => inv nm n (w q)) n k
    have c0 := dn_lt hf hfi (show k ≤ n by omega)
    have c1 : dn_ (fun q => inv nm n (w q)) n k < 2 ^ 31 := Nat.lt_of_lt_of_le c0 (Nat.pow_le_pow_right (by decide) (by omega))
    have ih := fun u6 u7 => l214c (x2 := x2) hcn hn hnm hlt hz hw hw2 hi hf hfi j (k + 1) u6 u7 (by omega)
    rw [b214_55, hcn, if_neg (nI_ge hk (by omega)), n_shr1 c1 (by omega)]
    by_cases q : (dn_ (fun q => inv nm n (w q)) n k).testBit k = true
    · have e1 : dn_ (fun q => inv nm n (w q)) n (k + 1) = dn_ (fun q => inv nm n (w q)) n k := by rw [dn_, if_pos q]
      have e2 : rg (fun q => inv nm n (w q)) n (k + 1) = rg (fun q => inv nm n (w q)) n k := by rw [rg, if_pos q]; rfl
      rw [e1, e2] at ih
      have e3 : nI 1 - nI 1 = nI 0 := by decide
      rw [q, cond_true, e3, pk_sub (by omega), Nat.sub_zero, b214_83, hcn, if_neg (nI_ge (show 0 < n by omega) (by omega)), n_shr1 c1 (by omega), q, cond_true, if_neg (show ¬ nI 1 = nI 0 by decide), nI_add]
      exact ih _ _
    · have q2 : (dn_ (fun q => inv nm n (w q)) n k).testBit k = false := by simpa using q
      have e1 : dn_ (fun q => inv nm n (w q)) n (k + 1) = dn_ (fun q => inv nm n (w q)) n k ||| vb (fun j => it (fun q => inv nm n (w q)) j k) (cyc (fun q => inv nm n (w q)) n k) := by rw [dn_, if_neg q]
      have e2 : rg (fun q => inv nm n (w q)) n (k + 1) = rg (fun q => inv nm n (w q)) n k + 1 := by rw [rg, if_neg q]
      rw [e1, e2] at ih
      have e3 : nI 1 - nI 0 = nI 1 := by decide
      obtain ⟨v6, v7, l1⟩ := l214b (X := X) (d := d) (x2 := x2) (x3 := nI (n - (rg (fun q => inv nm n (w q)) n k + 1))) hcn hn hnm hlt hz hw hw2 hi hf hfi hk q (cyc (fun q => inv nm n (w q)) n k) 0 (by omega)
      have e4 : dn_ (fun q => inv nm n (w q)) n k ||| vb (fun j => it (fun q => inv nm n (w q)) j k) 0 = dn_ (fun q => inv nm n (w q)) n k := Nat.or_zero _
      have e5 : it (fun q => inv nm n (w q)) 0 k = k := rfl
      rw [e4, e5] at l1
      rw [q2, cond_false, e3, pk_sub (by omega), Nat.sub_sub, l1]
      exact ih _ _
theorem l349 {j v : Nat} (hR : sa s 8 1 = nI n) (hn : n ≤ 20) (hj : j < 4) (hw : ∀ k, k < n → sb s 2 (30 * j + k) = lN (w k)) (hw2 : ∀ k, k < n → w k < n) (hv : v < n) : ∀ (j' i : Nat), i + j' = n → (∀ q, q < i → (w q == v) = false) → ab_at X (d + 1) 349 2 [some (.inr (9, 0)), some (.inl (.int (nI j))), some (.inl (.int (nI v))), some (.inl (.int (nI i)))] [] s = some (.inl (some (.inl (.int (if inv w n v < n then nI (inv w n v) else -nI 1)))), s)
  | 0, i, e, hr => by
    obtain rfl : i = n := by omega
    have e1 : inv w i v = i := fst_eqn hr
    rw [b349_2, r267 hR, e_bI, if_pos (nI_le (Nat.le_refl _) (by omega)), e1, if_neg (by omega)]
  | j' + 1, i, e, hr => by
    have hi : i < n := by omega
    have a1 := hw2 i hi
    have cq : lg_cmp (lN (w i)) (nI v).toInt64 = nI 0 ↔ w i = v := by
      rw [j_eq, j_of, lN_int (by omega), nI_toInt (by omega)]
      omega
    rw [b349_2, r267 hR, e_bI, if_neg (nI_ge hi (by omega)), pk_mul, nI_add, r_in (j := 30 * j + i) (by omega) (by decide), nI_clamp (by omega), hw i hi]
    by_cases q : w i = v
    · have e1 : inv w n v = i := fst_eq hi (beq_iff_eq.mpr q) hr
      rw [if_pos (cq.mpr q), e1, if_pos hi]
    · rw [if_neg (fun z => q (cq.mp z)), nI_add]
      exact l349 hR hn hj hw hw2 hv j' (i + 1) (by omega) (fun q2 hq => by
        by_cases e6 : q2 = i
        · rw [e6]
          exact beq_eq_false_iff_ne.mpr q
        · exact hr q2 (by omega))
theorem r349 {j v : Nat} (hR : sa s 8 1 = nI n) (hn : n ≤ 20) (hj : j < 4) (hw : ∀ k, k < n → sb s 2 (30 * j + k) = lN (w k)) (hw2 : ∀ k, k < n → w k < n) (hv : v < n) : ab_ev X (d + 1) 349 [.inr (9, 0), .inl (.int (nI j)), .inl (.int (nI v))] s = some (.inl (some (.inl (.int (if inv w n v < n then nI (inv w n v) else -nI 1)))), s) := by
  rw [b349]
  exact l349 hR hn hj hw hw2 hv n 0 (by omega) (fun q hq => by omega)
theorem l348a {j : Nat} (hR : sa s 8 1 = nI n) (hn : n ≤ 20) (hj : j < 4) (hw : ∀ k, k < n → sb s 2 (30 * j + k) = lN (w k)) (hw2 : ∀ k, k < n → w k < n) : ∀ (j' i : Nat), i + j' = n → (∀ q, q < i → inv w n q < n) → ab_at X (d + 2) 348 31 [some (.inr (9, 0)), some (.inl (.int (nI j))), some (.inl (.int (nI i))), none, none, none] [] s = (if lst w n = 0 then ab_at X (d + 2) 348 64 [some (.inr (9, 0)), some (.inl (.int (nI j))), some (.inl (.int (nI 0))), some (.inl (.int (nI 0))), some (.inl (.int (nI 0))), none] [] s else some (.inl (some (.inl (.int (-nI 1)))), s))
  | 0, i, e, hr => by
    obtain rfl : i = n := by omega
    rw [b348_31, r267 hR, e_bI, if_pos (nI_le (Nat.le_refl _) (by omega)), if_pos (lst_zero.mpr hr)]
  | j' + 1, i, e, hr => by
    have hi : i < n := by omega
    rw [b348_31, r267 hR, e_bI, if_neg (nI_ge hi (by omega)), r349 hR hn hj hw hw2 hi, e_bI]
    by_cases q : inv w n i < n
    · rw [if_pos q, if_neg (n_m1 _ (by omega)), nI_add]
      exact l348a hR hn hj hw hw2 j' (i + 1) (by omega) (fun q2 hq => by
        by_cases e6 : q2 = i
        · rw [e6]
          exact q
        · exact hr q2 (by omega))
    · rw [if_neg q, if_pos rfl, if_neg (fun z => q (lst_zero.mp z i hi))]
theorem l348b {j k : Nat} {x3 : Int32} (h : RW s n nm nr z st bm by') (hj : j < 4) (hw : ∀ k, k < n → sb s 2 (30 * j + k) = lN (w k)) (hw2 : ∀ k, k < n → w k < n) (hf : ∀ q, q < n → inv w n (nm q) < n) (hfi : ∀ a b, a < n → b < n → inv w n (nm a) = inv w n (nm b) → a = b) (hk : k < n) (h0 : ¬ (dn_ (fun q => inv w n (nm q)) n k).testBit k = true) : ∀ (j' p : Nat), p + j' = cyc (fun q => inv w n (nm q)) n k → ∃ u5 : Option ab_V, ab_at X (d + 2) 348 94 [some (.inr (9, 0)), some (.inl (.int (nI j))), some (.inl (.int (nI (dn_ (fun q => inv w n (nm q)) n k ||| vb (fun j => it (fun q => inv w n (nm q)) j k) p)))), some (.inl (.int x3)), some (.inl (.int (nI k))), some (.inl (.int (nI (it (fun q => inv w n (nm q)) p k))))] [] s = ab_at X (d + 2) 348 64 [some (.inr (9, 0)), some (.inl (.int (nI j))), some (.inl (.int (nI (dn_ (fun q => inv w n (nm q)) n k ||| vb (fun j => it (fun q => inv w n (nm q)) j k) (cyc (fun q => inv w n (nm q)) n k))))), some (.inl (.int x3)), some (.inl (.int (nI (k + 1)))), u5] [] s
  | 0, p, e => by
    have hn := h.2.1
    have e0 : p = cyc (fun q => inv w n (nm q)) n k := by omega
    rw [← e0]
    have c1 := it_lt hf p hk
    have c2 := dnv_lt hf hfi (i := p) hk hn
    have c3 := dn_met hf hfi hk
    rw [← e0] at c3
    refine ⟨some (.inl (.int (nI (it (fun q => inv w n (nm q)) p k)))), ?_⟩
    rw [b348_94, r270 c2 (by omega), e_bI, if_pos c3, if_neg (show ¬ nI 1 = nI 0 by decide), nI_add]
  | j' + 1, p, e => by
    have hn := h.2.1
    have c1 := it_lt hf p hk
    have c2 := dnv_lt hf hfi (i := p) hk hn
    have c3 := dn_new hf hfi hk h0 (show p < cyc (fun q => inv w n (nm q)) n k by omega)
    have c4 := h.2.2.2.1 _ c1
    obtain ⟨u5, ih⟩ := l348b (x3 := x3) h hj hw hw2 hf hfi hk h0 j' (p + 1) (by omega)
    refine ⟨u5, ?_⟩
    have e5 : it (fun q => inv w n (nm q)) (p + 1) k = inv w n (nm (it (fun q => inv w n (nm q)) p k)) := rfl
    have e6 : vb (fun j => it (fun q => inv w n (nm q)) j k) (p + 1) = vb (fun j => it (fun q => inv w n (nm q)) j k) p ||| 2 ^ it (fun q => inv w n (nm q)) p k := rfl
    rw [← ih, b348_94, r270 c2 (by omega), e_bI, if_neg (show ¬ _ = true by rw [c3]; decide), if_pos rfl, nI_add 11, r_in (j := 11 + it (fun q => inv w n (nm q)) p k) (by omega) (by decide), nI_clamp (by omega), h.2.2.1 _ c1, r349 h.1 hn hj hw hw2 c4, e_bI, if_pos (hf _ c1), n_sh _ (by omega), n_or, e5, e6, Nat.or_assoc]
theorem l348c {j : Nat} (h : RW s n nm nr z st bm by') (hj : j < 4) (hw : ∀ k, k < n → sb s 2 (30 * j + k) = lN (w k)) (hw2 : ∀ k, k < n → w k < n) (hf : ∀ q, q < n → inv w n (nm q) < n) (hfi : ∀ a b, a < n → b < n → inv w n (nm a) = inv w n (nm b) → a = b) : ∀ (j' k : Nat) (u5 : Option ab_V), k + j' = n → ab_at X (d + 2) 348 64 [some (.inr (9, 0)), some (.inl (.int (nI j))), some (.inl (.int (nI (dn_ (fun q => inv w n (nm q)) n k)))), some (.inl (.int (nI (rg (fun q => inv w n (nm q)) n k)))), some (.inl (.int (nI k))), u5] [] s = some (.inl (some (.inl (.int (nI (n - rg (fun q => inv w n (nm q)) n n))))), s)
  | 0, k, u5, e => by
    have hn := h.2.1
    obtain rfl : k = n := by omega
    have r1 := rg_le (fun q => inv w k (nm q)) k k
    rw [b348_64, r267 h.1, e_bI, if_pos (nI_le (Nat.le_refl _) (by omega)), r267 h.1, e_bI, pk_sub r1]
  | j' + 1, k, u5, e => by
    have hn := h.2.1
    have hk : k < n := by omega
    have c0 := dn_lt hf hfi (show k ≤ n by omega)
    have c1 : dn_ (fun q => inv w n (nm q)) n k < 2 ^ 31 := Nat.lt_of_lt_of_le c0 (Nat.pow_le_pow_right (by decide) (by omega))
    have ih := fun u5 => l348c h hj hw hw2 hf hfi j' (k + 1) u5 (by omega)
    rw [b348_64, r267 h.1, e_bI, if_neg (nI_ge hk (by omega)), r270 c1 (by omega), e_bI]
    by_cases q : (dn_ (fun q => inv w n (nm q)) n k).testBit k = true
    · have e1 : dn_ (fun q => inv w n (nm q)) n (k + 1) = dn_ (fun q => inv w n (nm q)) n k := by rw [dn_, if_pos q]
      have e2 : rg (fun q => inv w n (nm q)) n (k + 1) = rg (fun q => inv w n (nm q)) n k := by rw [rg, if_pos q]; rfl
      rw [e1, e2] at ih
      rw [if_pos q, if_neg (show ¬ nI 1 = nI 0 by decide), nI_add, Nat.add_zero, b348_94, r270 c1 (by omega), e_bI, if_pos q, if_neg (show ¬ nI 1 = nI 0 by decide), nI_add]
      exact ih _
    · have e1 : dn_ (fun q => inv w n (nm q)) n (k + 1) = dn_ (fun q => inv w n (nm q)) n k ||| vb (fun j => it (fun q => inv w n (nm q)) j k) (cyc (fun q => inv w n (nm q)) n k) := by rw [dn_, if_neg q]
      have e2 : rg (fun q => inv w n (nm q)) n (k + 1) = rg (fun q => inv w n (nm q)) n k + 1 := by rw [rg, if_neg q]
      rw [e1, e2] at ih
      obtain ⟨v5, l1⟩ := l348b (X := X) (d := d) (x3 := nI (rg (fun q => inv w n (nm q)) n k + 1)) h hj hw hw2 hf hfi hk q (cyc (fun q => inv w n (nm q)) n k) 0 (by omega)
      have e4 : dn_ (fun q => inv w n (nm q)) n k ||| vb (fun j => it (fun q => inv w n (nm q)) j k) 0 = dn_ (fun q => inv w n (nm q)) n k := Nat.or_zero _
      have e5 : it (fun q => inv w n (nm q)) 0 k = k := rfl
      rw [e4, e5] at l1
      rw [if_neg q, if_pos rfl, nI_add, l1]
      exact ih _
/-- the fewest changes -/
def chV (nm w : Nat → Nat) (n : Nat) : Int32 := if shd nm n = 0 then (if lst w n = 0 then nI (n - rg (fun q => inv nm n (w q)) n n) else -nI 1) else -nI 2
theorem o212 (h : BW s n nm nr z st bm by') (ht : TR s) (hk : k + 5 < X.2) (hX : X.2 < 2 ^ 31) : ∃ (s2 : ab_S) (v5 v6 : Option ab_V), sW s s2 ∧ ab_at X (d + 31) 360 2805 [some (.inr (14, 0)), some (.inr (0, 0)), some (.inr (9, 0)), some (.inr (15, 0)), some (.inl (.int (nI k))), u5, u6, none] [] s = ab_at X (d + 31) 360 23 [some (.inr (14, 0)), some (.inr (0, 0)), some (.inr (9, 0)), some (.inr (15, 0)), some (.inl (.int (nI (k + 6)))), v5, v6, none] [] s2 := by
  obtain ⟨hT, hR⟩ := id h
  obtain ⟨hcn, hn, t3, t4, -⟩ := id hT
  have hr1 : sa s 8 1 = nI n := hR.1
  by_cases h1 : inS (X.1 (k + 1)) 4 = true
  rotate_left
  · have cc : ab_ev X (d + 30) 212 [.inr (0, 0), .inl (.int (X.1 (k + 1))), .inr (15, 0)] s = some (.inl (some (.inl (.int (nI 1)))), ths s) := by
      rw [b212, b213, c_n150_1 h1, e_xA, e_px, e_xI]
      rfl
    have r : ab_ev X (d + 30) 348 [.inr (9, 0), .inl (.int (X.1 (k + 1)))] (ths s) = some (.inl (some (.inl (.int (nI 0)))), pz (ths s) 11 (nI 1)) := by
      rw [b348, r345_1 h1, e_bI, if_neg (show ¬ nI 1 ≤ nI 0 by decide)]
    exact ⟨_, _, _, Or.inr (sV_pz (by omega)), w2805 hk hX cc r rfl (fun q => absurd q (by decide))⟩
  obtain ⟨j, hj, ej⟩ := inS_rep h1
  rcases ht.1 j hj with ⟨q1, q2⟩ | ⟨t, so, m, q1, q2, q3, q4, q5, q6, q7, q8, q9⟩
  · have cc : ab_ev X (d + 30) 212 [.inr (0, 0), .inl (.int (X.1 (k + 1))), .inr (15, 0)] s = some (.inl (some (.inl (.int (nI 2)))), ths s) := by
      rw [b212, b213, ej, c_n150_2 hj q1, e_xA, e_px, e_xI]
      rfl
    have r : ab_ev X (d + 30) 348 [.inr (9, 0), .inl (.int (X.1 (k + 1)))] (ths s) = some (.inl (some (.inl (.int (nI 0)))), pz (ths s) 11 (nI 2)) := by
      have q2' : sa (ths s) 22 j = -nI 1 := q2
      rw [b348, ej, r345_2 hj q2', e_bI, if_neg (show ¬ nI 2 ≤ nI 0 by decide)]
    exact ⟨_, _, _, Or.inr (sV_pz (by omega)), w2805 hk hX cc r rfl (fun q => absurd q (by decide))⟩
  have x0 : (nI 0).toInt = 0 := by decide
  by_cases h2 : m = n ∧ ∀ q, q < m → NB n (nI 0).toInt (sB s 0 t q) = true
  rotate_left
  · have cc : ab_ev X (d + 30) 212 [.inr (0, 0), .inl (.int (X.1 (k + 1))), .inr (15, 0)] s = some (.inl (some (.inl (.int (nI 3)))), ths s) := by
      rw [b212, b213, ej, c_n150_3 hj q1, e_bA, b213_5, c_208 hcn hn q6 q4, if_neg h2, e_xU, e_px, e_xI]
      rfl
    have r : ab_ev X (d + 30) 348 [.inr (9, 0), .inl (.int (X.1 (k + 1)))] (ths s) = some (.inl (some (.inl (.int (nI 0)))), pz (ths s) 11 (nI 3)) := by
      have h2' : ¬ (m = n ∧ ∀ q, q < n → NB n (nI 0).toInt (sb (ths s) 2 (30 * j + q)) = true) := fun z => h2 ⟨z.1, fun q hq => by rw [q9 q (by omega)]; exact z.2 q (by omega)⟩
      rw [b348, ej, r345 (s := ths s) hr1 hn hj q3 q7 q8 q4, if_neg h2', e_bI, if_neg (show ¬ nI 3 ≤ nI 0 by decide)]
    exact ⟨_, _, _, Or.inr (sV_pz (by omega)), w2805 hk hX cc r rfl (fun q => absurd q (by decide))⟩
  obtain ⟨rfl, h23⟩ := id h2
  obtain ⟨w, hw⟩ : ∃ w : Nat → Nat, w = fun q => (sB s 0 t q).toInt.toNat := ⟨_, rfl⟩
  rw [x0] at h23
  have hwB : ∀ q, q < m → sB s 0 t q = lN (w q) := fun q hq => by rw [hw]; exact (NB_rep (h23 q hq)).1
  have hw2 : ∀ q, q < m → w q < m := fun q hq => by rw [hw]; exact (NB_rep (h23 q hq)).2
  have hs31 : shd nm m < 2 ^ 31 := bs_lt20 _ (by omega)
  obtain ⟨y, hy⟩ : ∃ y, y = chV nm w m := ⟨_, rfl⟩
  have hinv : lst w m = 0 → (∀ a b, a < m → b < m → w a = w b → a = b) ∧ ∀ v, v < m → inv w m v < m := fun h9 => ⟨onto_inj (lst_zero.mp h9), lst_zero.mp h9⟩
  have c213 : (if nI (shd nm m) = nI 0 then ab_bI (ab_ev X (d + 28) 214 [.inr (2, 0), .inr (8, t)] s) (fun r5 s4 => some (.inl (some (.inl (.int r5))), s4)) ab_px else some (.inl (some (.inl (.int (-nI 2)))), s)) = some (.inl (some (.inl (.int y))), s) := by
    rw [hy]
    unfold chV
    by_cases g1 : shd nm m = 0
    · have hi := wrg_inj ((shd_wrg t4).mp g1)
      have h1n : 1 ≤ 2 ^ m := Nat.one_le_two_pow
      rw [if_pos (by rw [g1]), if_pos g1, b214, hcn, n_sh _ (by omega), pk_sub h1n]
      have l0 : ab_at X (d + 28) 214 11 [some (.inr (2, 0)), some (.inr (8, t)), some (.inl (.int (nI (2 ^ m - 1)))), some (.inl (.int (nI 0))), none, none, none, none] [] s = _ := l214a (d := d + 27) hcn hn q6 hwB hw2 m 0 (by omega)
      rw [l0]
      by_cases g2 : lst w m = 0
      · obtain ⟨i1, i2⟩ := hinv g2
        have k1 : ∀ q, q < m → inv nm m (w q) < m := fun q hq => (inv_lt t4 hi (hw2 q hq)).1
        have k2 : ∀ a b, a < m → b < m → inv nm m (w a) = inv nm m (w b) → a = b := fun a b ha hb e => i1 a b ha hb (by rw [← (inv_lt t4 hi (hw2 a ha)).2, ← (inv_lt t4 hi (hw2 b hb)).2, e])
        have l1 := l214c (X := X) (d := d + 26) (s := s) (i := 0) (t := t) (x2 := nI (lst w m)) hcn hn t3 t4 q6 hwB hw2 hi k1 k2 m 0 none none (by omega)
        have l1' : ab_at X (d + 28) 214 55 [some (.inr (2, 0)), some (.inr (8, t)), some (.inl (.int (nI (lst w m)))), some (.inl (.int (nI m))), some (.inl (.int (nI 0))), some (.inl (.int (nI 0))), none, none] [] s = _ := l1
        rw [if_pos g2, if_pos g2, l1', e_bI]
      · rw [if_neg g2, if_neg g2, e_bI]
    · rw [if_neg (fun z => g1 ((nI_eq hs31 (by omega)).mp z)), if_neg g1]
  have cc : ab_ev X (d + 30) 212 [.inr (0, 0), .inl (.int (X.1 (k + 1))), .inr (15, 0)] s = some (.inl (some (.inl (.int (nI 0)))), pb s 3 (va_up (sb s 3) 0 y.toInt64)) := by
    rw [b212, b213, ej, c_n150_3 hj q1, e_bA, b213_5, c_208 hcn hn q6 q4, if_pos h2, e_bU, c_shared hcn hn t3 t4, e_bI, sh_s_eq t4, c213, e_bI]
  have hV : sV s (pz (pb s 3 (va_up (sb s 3) 0 y.toInt64)) 11 (nI 0)) := sV_trans sV_pb (sV_pz (by omega))
  have hb := h.same hV
  have eb2 : sb (pb s 3 (va_up (sb s 3) 0 y.toInt64)) 2 = sb s 2 := (sV_pb (s := s) (F := va_up (sb s 3) 0 y.toInt64)).2.2.2.2.2.2.1 2 (by decide)
  have fb2 : ∀ q, q < m → sb (pz (pb s 3 (va_up (sb s 3) 0 y.toInt64)) 11 (nI 0)) 2 (30 * j + q) = lN (w q) := fun q hq => by
    show sb (pb s 3 (va_up (sb s 3) 0 y.toInt64)) 2 (30 * j + q) = _
    rw [eb2, ← q9 q (by omega)]
    exact hwB q hq
  have h2' : m = m ∧ ∀ q, q < m → NB m (nI 0).toInt (sb (pb s 3 (va_up (sb s 3) 0 y.toInt64)) 2 (30 * j + q)) = true := ⟨rfl, fun q hq => by rw [eb2, ← q9 q (by omega), x0]; exact h23 q hq⟩
  have r : ab_ev X (d + 30) 348 [.inr (9, 0), .inl (.int (X.1 (k + 1)))] (pb s 3 (va_up (sb s 3) 0 y.toInt64)) = some (.inl (some (.inl (.int y))), pz (pb s 3 (va_up (sb s 3) 0 y.toInt64)) 11 (nI 0)) := by
    rw [b348, ej, r345 (s := pb s 3 (va_up (sb s 3) 0 y.toInt64)) hr1 hn hj q3 q7 q8 q4, if_pos h2', e_bI, if_pos (by decide), r292 (d := d + 27) hb.2, e_bI]
    by_cases g1 : shd nm m = 0
    · have g3 := (shd_wrg t4).mp g1
      have hi := wrg_inj g3
      rw [if_pos (by rw [g3]; decide)]
      have l0 := l348a (X := X) (d := d + 28) hb.2.1 hn hj fb2 hw2 m 0 (by omega) (fun q hq => by omega)
      have l0' : ab_at X (d + 30) 348 31 [some (.inr (9, 0)), some (.inl (.int (nI j))), some (.inl (.int (nI 0))), none, none, none] [] (pz (pb s 3 (va_up (sb s 3) 0 y.toInt64)) 11 (nI 0)) = _ := l0
      rw [l0']
      by_cases g2 : lst w m = 0
      · obtain ⟨i1, i2⟩ := hinv g2
        have k1 : ∀ q, q < m → inv nm m (w q) < m := fun q hq => (inv_lt t4 hi (hw2 q hq)).1
        have k2 : ∀ a b, a < m → b < m → inv nm m (w a) = inv nm m (w b) → a = b := fun a b ha hb e => i1 a b ha hb (by rw [← (inv_lt t4 hi (hw2 a ha)).2, ← (inv_lt t4 hi (hw2 b hb)).2, e])
        have k3 : ∀ q, q < m → inv w m (nm q) < m := fun q hq => i2 _ (t4 q hq)
        have k4 : ∀ a b, a < m → b < m → inv w m (nm a) = inv w m (nm b) → a = b := fun a b ha hb e => hi a b ha hb (by rw [← inv_at (i2 _ (t4 a ha)), ← inv_at (i2 _ (t4 b hb)), e])
        have k5 : ∀ q, q < m → inv w m (nm (inv nm m (w q))) = q := fun q hq => by rw [(inv_lt t4 hi (hw2 q hq)).2, inv_f i1 hq]
        have k6 : ∀ q, q < m → inv nm m (w (inv w m (nm q))) = q := fun q hq => by rw [inv_at (i2 _ (t4 q hq)), inv_f hi hq]
        have l1 := l348c (X := X) (d := d + 28) (j := j) hb.2 hj fb2 hw2 k3 k4 m 0 none (by omega)
        have l1' : ab_at X (d + 30) 348 64 [some (.inr (9, 0)), some (.inl (.int (nI j))), some (.inl (.int (nI 0))), some (.inl (.int (nI 0))), some (.inl (.int (nI 0))), none] [] (pz (pb s 3 (va_up (sb s 3) 0 y.toInt64)) 11 (nI 0)) = _ := l1
        have e9 := rg_back (f := fun q => inv nm m (w q)) (g := fun q => inv w m (nm q)) k1 k2 k3 k4 k5 k6 m (Nat.le_refl _)
        have ey : chV nm w m = nI (m - rg (fun q => inv w m (nm q)) m m) := by
          unfold chV
          rw [if_pos g1, if_pos g2, e9]
        rw [← hy] at ey
        rw [if_pos g2, l1', ← ey]
      · have ey : chV nm w m = -nI 1 := by
          unfold chV
          rw [if_pos g1, if_neg g2]
        rw [← hy] at ey
        rw [if_neg g2, ← ey]
    · have g3 : ¬ wrg nm m = 0 := fun z => g1 ((shd_wrg t4).mpr z)
      have g4 : wrg nm m ≤ m := fb_ct_le _ m
      have ey : chV nm w m = -nI 2 := by
        unfold chV
        rw [if_neg g1]
      rw [← hy] at ey
      rw [if_neg (nI_ge (show 0 < wrg nm m by omega) (by omega)), ← ey]
  exact ⟨_, _, _, Or.inl hV, w2805 hk hX cc r rfl (fun _ => rfl)⟩
end OP18
