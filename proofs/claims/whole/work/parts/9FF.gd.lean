/-! Class and model read one text, two stores side by side. -/
section CNG
variable {T T' : Nat → Int32} {L p : Nat}
theorem skp_cong (h : ∀ q, q < L → T q = T' q) : skp T L p = skp T' L p := by
  unfold skp
  congr 1
  exact fst_cong (fun i hi => by simp only [h (p + i) (by omega)])
theorem rng_cong {lo hi : Int32} (h : ∀ q, q < L → T q = T' q) : rng lo hi T L p = rng lo hi T' L p := by
  unfold rng
  congr 1
  exact fst_cong (fun i hi => by simp only [h (p + i) (by omega)])
theorem tkA_cong (h : ∀ q, q < L → T q = T' q) : tkA T L p = tkA T' L p := rng_cong h
theorem tkB_cong (h : ∀ q, q < L → T q = T' q) : tkB T L p = tkB T' L p := rng_cong h
theorem vlI_cong (h : ∀ q, q < L → T q = T' q) : ∀ k, p + k ≤ L → vlI T p k = vlI T' p k
  | 0, _ => rfl
  | k + 1, hk => by
    show vlI T p k * nI 10 + T (p + k) - nI 48 = vlI T' p k * nI 10 + T' (p + k) - nI 48
    rw [vlI_cong h k (by omega), h (p + k) (by omega)]
theorem eqB_cong {q i : Nat} (h : ∀ q, q < L → T q = T' q) (hq : q ≤ L) : eqB T p q i = eqB T' p q i := by
  rw [Bool.eq_iff_iff, eqB_iff, eqB_iff]
  constructor
  · rintro ⟨a, b⟩
    exact ⟨a, fun k hk => (h (p + k) (by omega)).symm.trans (b k hk)⟩
  · rintro ⟨a, b⟩
    exact ⟨a, fun k hk => (h (p + k) (by omega)).trans (b k hk)⟩
theorem tokW_cong {q e : Nat} (h : ∀ q, q < L → T q = T' q) (hq : q ≤ L) : tokW T p q e = tokW T' p q e := by
  unfold tokW
  rw [fst_cong (P := fun x => eqB T p q (ab_tx x)) (Q := fun x => eqB T' p q (ab_tx x)) (fun i hi => eqB_cong h hq)]
theorem tkA_le (h : p ≤ L) : p ≤ tkA T L p ∧ tkA T L p ≤ L := rng_le h
theorem tkB_le (h : p ≤ L) : p ≤ tkB T L p ∧ tkB T L p ≤ L := rng_le h
theorem tkN_cong (h : ∀ q, q < L → T q = T' q) : tkN T L p = tkN T' L p := by
  unfold tkN
  rw [tkA_cong h, tkB_cong h]
theorem tkC_cong (h : ∀ q, q < L → T q = T' q) : tkC T L p = tkC T' L p := by
  unfold tkC
  by_cases q : p < L
  · have hA := tkA_le (T := T') (show p ≤ L by omega)
    rw [if_pos q, if_pos q, tkA_cong h, tkB_cong h, tokW_cong (q := p + 1) h (by omega), tokW_cong (q := tkA T' L p) h (by omega)]
  · rw [if_neg q, if_neg q]
theorem tkN_b (h : p ≤ L) : p ≤ tkN T L p ∧ tkN T L p ≤ L ∧ (p < L → p < tkN T L p) := by
  have hA := tkA_le (T := T) h
  have hB := tkB_le (T := T) h
  unfold tkN
  by_cases q : p < L
  · rw [if_pos q]
    by_cases q2 : tkA T L p ≤ p
    · rw [if_pos q2]
      by_cases q3 : tkB T L p ≤ p
      · rw [if_pos q3]
        omega
      · rw [if_neg q3]
        omega
    · rw [if_neg q2]
      omega
  · rw [if_neg q]
    omega
theorem dgt_rep {x : Int32} (h : (decide (x < nI 48) || decide (nI 57 < x)) = false) : ∃ g, g ≤ 9 ∧ x = nI (48 + g) := by
  have w := Bool.or_eq_false_iff.mp h
  have h1 : ¬ x < nI 48 := of_decide_eq_false w.1
  have h2 : ¬ nI 57 < x := of_decide_eq_false w.2
  rw [n_ltn x (by decide)] at h1
  rw [n_gtn x (by decide)] at h2
  have e := n_rep x (by omega)
  have e2 : x.toNatClampNeg = x.toInt.toNat := rfl
  refine ⟨x.toInt.toNat - 48, by omega, ?_⟩
  rw [show 48 + (x.toInt.toNat - 48) = x.toNatClampNeg by omega]
  exact e
theorem vl_num : ∀ k, k ≤ tkB T L p - p → ∃ v, v < 10 ^ k ∧ vlI T p k = nI v
  | 0, _ => ⟨0, by decide, rfl⟩
  | k + 1, hk => by
    obtain ⟨v, hv, e⟩ := vl_num k (by omega)
    have h1 : (decide (T (p + k) < nI 48) || decide (nI 57 < T (p + k))) = false := fst_no (fun i => decide (T (p + i) < nI 48) || decide (nI 57 < T (p + i))) (L - p) k (by
      unfold tkB rng at hk
      omega)
    obtain ⟨g, hg, e2⟩ := dgt_rep h1
    refine ⟨v * 10 + g, ?_, ?_⟩
    · rw [Nat.pow_succ]
      omega
    · show vlI T p k * nI 10 + T (p + k) - nI 48 = _
      rw [e, e2, pk_mul, nI_add, pk_sub (by omega)]
      congr 1
      omega
theorem tkV_num (x : Int32) (h : tkK T L p = nI 2) : ∃ v, v ≤ 999 ∧ tkV T L p x = nI v := by
  unfold tkK at h
  unfold tkV
  by_cases q : p < L
  · rw [if_pos q] at h
    rw [if_pos q]
    by_cases q2 : tkA T L p ≤ p
    · rw [if_pos q2] at h
      rw [if_pos q2]
      by_cases q3 : tkB T L p ≤ p
      · rw [if_pos q3] at h
        by_cases w : knw (T p) = true
        · rw [if_pos w] at h
          rw [h] at w
          exact absurd w (by decide)
        · rw [if_neg w] at h
          exact absurd h (by decide)
      · rw [if_neg q3]
        obtain ⟨v, hv, e⟩ := vl_num (T := T) (L := L) (p := p) (min 3 (tkB T L p - p)) (by omega)
        have h3 : 10 ^ min 3 (tkB T L p - p) ≤ 10 ^ 3 := Nat.pow_le_pow_right (by decide) (by omega)
        exact ⟨v, by omega, e⟩
    · rw [if_neg q2] at h
      exact absurd h (by decide)
  · rw [if_neg q] at h
    exact absurd h (by decide)
theorem tkV_same {x y : Int32} (h : tkK T L p = nI 2) : tkV T L p x = tkV T L p y := by
  unfold tkK at h
  unfold tkV
  by_cases q : p < L
  · rw [if_pos q] at h
    rw [if_pos q, if_pos q]
    by_cases q2 : tkA T L p ≤ p
    · rw [if_pos q2] at h
      rw [if_pos q2, if_pos q2]
      by_cases q3 : tkB T L p ≤ p
      · rw [if_pos q3] at h
        by_cases w : knw (T p) = true
        · rw [if_pos w] at h
          rw [h] at w
          exact absurd w (by decide)
        · rw [if_neg w] at h
          exact absurd h (by decide)
      · rw [if_neg q3, if_neg q3]
    · rw [if_neg q2] at h
      exact absurd h (by decide)
  · rw [if_neg q] at h
    exact absurd h (by decide)
theorem tkV_cong {x : Int32} (h : ∀ q, q < L → T q = T' q) : tkV T L p x = tkV T' L p x := by
  unfold tkV
  rw [tkA_cong h, tkB_cong h]
  by_cases q : p < L
  · have hB := tkB_le (T := T') (show p ≤ L by omega)
    rw [vlI_cong h (min 3 (tkB T' L p - p)) (by omega)]
  · rw [if_neg q, if_neg q]
end CNG
/-- no fault yet, and the same token -/
def GD (L p : Nat) (c m : ab_S) : Prop := L ≤ 900 ∧ p ≤ L ∧ sz c 2 = nI 0 ∧ sz m 18 = nI 0 ∧ sz c 4 = nI L ∧ sz m 13 = nI L ∧ (∀ q, q < L → sa c 0 q = sa m 12 q) ∧ sz c 5 = nI p ∧ sz m 15 = nI p ∧ sz c 6 = nI (tkN (sa m 12) L p) ∧ sz m 14 = nI (tkN (sa m 12) L p) ∧ st c 0 = tkC (sa m 12) L p ∧ sz m 16 = tkK (sa m 12) L p ∧ (tkC (sa m 12) L p = 2 → ∃ v, v ≤ 999 ∧ sz c 7 = nI v ∧ sz m 17 = nI v) ∧ sz c 3 = -nI 1
/-- one fault, the same -/
def BD (c m : ab_S) : Prop := ∃ f, 1 ≤ f ∧ f ≤ 4 ∧ sz c 2 = nI f ∧ sz m 18 = nI f ∧ sz c 3 = sz m 19
def fC (c c' : ab_S) : Prop := (∀ k, k ≠ 2 → k ≠ 3 → k ≠ 5 → k ≠ 6 → k ≠ 7 → sz c' k = sz c k) ∧ c'.2.2.2 = c.2.2.2
def fM (m m' : ab_S) : Prop := (∀ k, k < 14 ∨ 19 < k → sz m' k = sz m k) ∧ m'.2 = m.2
theorem fC_refl (c : ab_S) : fC c c := ⟨fun _ _ _ _ _ _ => rfl, rfl⟩
theorem fM_refl (c : ab_S) : fM c c := ⟨fun _ _ => rfl, rfl⟩
theorem fC.t {a b c : ab_S} (h : fC a b) (h' : fC b c) : fC a c := ⟨fun k h1 h2 h3 h4 h5 => (h'.1 k h1 h2 h3 h4 h5).trans (h.1 k h1 h2 h3 h4 h5), h'.2.trans h.2⟩
theorem fM.t {a b c : ab_S} (h : fM a b) (h' : fM b c) : fM a c := ⟨fun k h1 => (h'.1 k h1).trans (h.1 k h1), h'.2.trans h.2⟩
theorem fC_si {c c' : ab_S} (h : fC c c') : si c' = si c := by
  funext k
  show c'.2.2.2.1 k = c.2.2.2.1 k
  rw [h.2]
theorem fC_sa {c c' : ab_S} (h : fC c c') : sa c' = sa c := by
  funext k
  show c'.2.2.2.2.1 k = c.2.2.2.2.1 k
  rw [h.2]
theorem fC_sA {c c' : ab_S} (h : fC c c') : sA c' = sA c := by
  funext k
  show c'.2.2.2.2.2.1 k = c.2.2.2.2.2.1 k
  rw [h.2]
theorem fM_sa {c c' : ab_S} (h : fM c c') : sa c' = sa c := by
  funext k
  show c'.2.2.2.2.1 k = c.2.2.2.2.1 k
  rw [h.2]
theorem kTk_f (s : ab_S) (p n c : Nat) (v : Int32) : sz (kTk s p n c v) 5 = nI p ∧ sz (kTk s p n c v) 6 = nI n ∧ sz (kTk s p n c v) 7 = v ∧ st (kTk s p n c v) 0 = c ∧ (∀ k, k ≠ 5 → k ≠ 6 → k ≠ 7 → sz (kTk s p n c v) k = sz s k) ∧ (kTk s p n c v).2.2.2 = s.2.2.2 := by
  unfold kTk
  refine ⟨?_, ?_, ?_, ?_, fun k h5 h6 h7 => ?_, rfl⟩ <;> simp (disch := omega) only [E0]
theorem kMd_f (s : ab_S) (p n : Nat) (k v : Int32) : sz (kMd s p n k v) 15 = nI p ∧ sz (kMd s p n k v) 14 = nI n ∧ sz (kMd s p n k v) 16 = k ∧ sz (kMd s p n k v) 17 = v ∧ (∀ j, j < 14 ∨ 17 < j → sz (kMd s p n k v) j = sz s j) ∧ (kMd s p n k v).2 = s.2 := by
  unfold kMd
  refine ⟨?_, ?_, ?_, ?_, fun j hj => ?_, rfl⟩ <;> simp (disch := omega) only [E0]
section GDS
variable {X : (Nat → Int32) × Nat} {D E L n p : Nat} {c m : ab_S}
/-- both read the next token -/
theorem GD_adv (hL : L ≤ 900) (hn : n ≤ L) (h2 : sz c 2 = nI 0) (h18 : sz m 18 = nI 0) (h4 : sz c 4 = nI L) (h13 : sz m 13 = nI L) (hT : ∀ q, q < L → sa c 0 q = sa m 12 q) (h6 : sz c 6 = nI n) (h14 : sz m 14 = nI n) (h3 : sz c 3 = -nI 1) (hD : 5 ≤ D) (hE : 1 ≤ E) : ∃ (c' m' : ab_S) (p' : Nat), n ≤ p' ∧ ab_ev X D 43 [.inr (1, 0)] c = some (.inl none, c') ∧ ab_ev X E 234 [.inr (9, 0)] m = some (.inl none, m') ∧ GD L p' c' m' ∧ fC c c' ∧ fM m m' := by
  obtain ⟨d, rfl⟩ : ∃ d, D = d + 5 := ⟨D - 5, by omega⟩
  obtain ⟨e, rfl⟩ : ∃ e, E = e + 1 := ⟨E - 1, by omega⟩
  have hc := c_43 (X := X) (d := d) h2 h4 hL h6 hn
  have hm := r234 (X := X) (d := e) h13 hL h14 hn
  rw [skp_cong hT, tkN_cong hT, tkC_cong hT, tkV_cong hT] at hc
  obtain ⟨g1, g2⟩ := skp_le (T := sa m 12) hn
  obtain ⟨p', hp'⟩ : ∃ p', p' = skp (sa m 12) L n := ⟨_, rfl⟩
  rw [← hp'] at hc hm g1 g2
  obtain ⟨k1, k2, k3, k4, k5, k6⟩ := kTk_f c p' (tkN (sa m 12) L p') (tkC (sa m 12) L p') (tkV (sa m 12) L p' (sz c 7))
  obtain ⟨j1, j2, j3, j4, j5, j6⟩ := kMd_f m p' (tkN (sa m 12) L p') (tkK (sa m 12) L p') (tkV (sa m 12) L p' (sz m 17))
  have fc : fC c (kTk c p' (tkN (sa m 12) L p') (tkC (sa m 12) L p') (tkV (sa m 12) L p' (sz c 7))) := ⟨fun k _ _ a b e => k5 k a b e, k6⟩
  have fm : fM m (kMd m p' (tkN (sa m 12) L p') (tkK (sa m 12) L p') (tkV (sa m 12) L p' (sz m 17))) := ⟨fun k a => j5 k (by omega), j6⟩
  refine ⟨_, _, p', g1, hc, hm, ⟨hL, g2, ?_, ?_, ?_, ?_, ?_, k1, ?_, ?_, ?_, ?_, ?_, ?_, ?_⟩, fc, fm⟩
  · rw [k5 2 (by omega) (by omega) (by omega)]
    exact h2
  · rw [j5 18 (by omega)]
    exact h18
  · rw [k5 4 (by omega) (by omega) (by omega)]
    exact h4
  · rw [j5 13 (by omega)]
    exact h13
  · rw [fC_sa fc, fM_sa fm]
    exact hT
  · exact j1
  · rw [fM_sa fm]
    exact k2
  · rw [fM_sa fm]
    exact j2
  · rw [fM_sa fm]
    exact k4
  · rw [fM_sa fm]
    exact j3
  · rw [fM_sa fm, k3, j4]
    intro h
    have h' := (tk_rest.2.1).mp h
    obtain ⟨v, hv, e⟩ := tkV_num (sz c 7) h'
    exact ⟨v, hv, e, (tkV_same h').trans e⟩
  · rw [k5 3 (by omega) (by omega) (by omega)]
    exact h3
theorem GD.pL (hG : GD L p c m) (h0 : ¬ st c 0 = 0) : p < L := by
  obtain ⟨hL, hp, h2, h18, h4, h13, hT, h5, h15, h6, h14, ht, hk, hv⟩ := hG
  by_cases q : p < L
  · exact q
  · exfalso
    apply h0
    rw [ht]
    unfold tkC
    rw [if_neg q]
theorem GD.adv (hG : GD L p c m) (h0 : ¬ st c 0 = 0) (hD : 5 ≤ D) (hE : 1 ≤ E) : ∃ (c' m' : ab_S) (p' : Nat), p < p' ∧ ab_ev X D 43 [.inr (1, 0)] c = some (.inl none, c') ∧ ab_ev X E 234 [.inr (9, 0)] m = some (.inl none, m') ∧ GD L p' c' m' ∧ fC c c' ∧ fM m m' := by
  have hpL := hG.pL h0
  obtain ⟨hL, hp, h2, h18, h4, h13, hT, h5, h15, h6, h14, ht, hk, hv⟩ := hG
  have hb := tkN_b (T := sa m 12) hp
  obtain ⟨c', m', p', g1, g2⟩ := GD_adv (X := X) hL hb.2.1 h2 h18 h4 h13 hT h6 h14 hv.2 hD hE
  exact ⟨c', m', p', by omega, g2⟩
theorem GD.bad (hG : GD L p c m) : st c 0 = 1 ↔ sz m 16 = nI 3 := by
  obtain ⟨hL, hp, h2, h18, h4, h13, hT, h5, h15, h6, h14, ht, hk, hv⟩ := hG
  rw [ht, hk]
  exact tk_rest.2.2
theorem GD.no (hG : GD L p c m) : st c 0 = 0 ↔ sz m 16 = nI 0 := by
  obtain ⟨hL, hp, h2, h18, h4, h13, hT, h5, h15, h6, h14, ht, hk, hv⟩ := hG
  rw [ht, hk]
  exact tk_rest.1
theorem GD.nu (hG : GD L p c m) : st c 0 = 2 ↔ sz m 16 = nI 2 := by
  obtain ⟨hL, hp, h2, h18, h4, h13, hT, h5, h15, h6, h14, ht, hk, hv⟩ := hG
  rw [ht, hk]
  exact tk_rest.2.1
theorem GD.ch (hG : GD L p c m) {i : Nat} (hi : i < 33) (h4 : 4 ≤ i) (h1 : ab_sl (ab_tx i) = 1) : st c 0 = i ↔ sz m 16 = ab_sb (ab_tx i) 0 := by
  obtain ⟨hL, hp, h2, h18, h4', h13, hT, h5, h15, h6, h14, ht, hk, hv⟩ := hG
  rw [ht, hk]
  by_cases q : p < L
  · exact tk_char q hi h1 h4
  · unfold tkC tkK
    rw [if_neg q, if_neg q]
    obtain ⟨k1, k2, k3, k4, k5, k6, k7⟩ := ch_ok i hi h1
    exact ⟨fun z => by omega, fun z => absurd z.symm k4⟩
/-- a fault -/
theorem GD.ref (hG : GD L p c m) {f : Nat} (h1 : 1 ≤ f) (h4 : f ≤ 4) : ∃ c' m' : ab_S, ab_ev X D 55 [.inr (1, 0), .inl (.int (nI f))] c = some (.inl none, c') ∧ ab_ev X E 242 [.inr (9, 0), .inl (.int (nI f))] m = some (.inl none, m') ∧ BD c' m' ∧ fC c c' ∧ fM m m' := by
  have hb := hG.bad
  obtain ⟨hL, hp, h2, h18, h4', h13, hT, h5, h15, h6, h14, ht, hk, hv⟩ := hG
  have fin : ∀ f : Nat, 1 ≤ f → f ≤ 4 → BD (pz (pz c 2 (nI f)) 3 (sz c 5)) (pz (pz m 18 (nI f)) 19 (sz m 15)) ∧ fC c (pz (pz c 2 (nI f)) 3 (sz c 5)) ∧ fM m (pz (pz m 18 (nI f)) 19 (sz m 15)) := fun f a b => by
    refine ⟨⟨f, a, b, ?_, ?_, ?_⟩, ⟨fun k k1 k2 k3 k4 k5 => ?_, rfl⟩, ⟨fun k hk => ?_, rfl⟩⟩
    · simp (disch := omega) only [E0]
    · simp (disch := omega) only [E0]
    · simp (disch := omega) only [E0]
      rw [h5, h15]
    · simp (disch := omega) only [E0]
    · simp (disch := omega) only [E0]
  rw [b55, b242, if_pos h2, if_pos h18]
  by_cases q : st c 0 = 1
  · rw [if_pos q, if_pos (hb.mp q)]
    obtain ⟨a, b, e⟩ := fin 1 (by omega) (by omega)
    exact ⟨_, _, rfl, rfl, a, b, e⟩
  · rw [if_neg q, if_neg (fun z => q (hb.mpr z))]
    obtain ⟨a, b, e⟩ := fin f h1 h4
    exact ⟨_, _, rfl, rfl, a, b, e⟩
theorem BD.nc (h : BD c m) : ¬ sz c 2 = nI 0 := by
  obtain ⟨f, h1, h4, e1, e2, e3⟩ := h
  rw [e1]
  exact fun z => by have := (nI_eq (by omega) (by omega)).mp z; omega
theorem BD.nm (h : BD c m) : ¬ sz m 18 = nI 0 := by
  obtain ⟨f, h1, h4, e1, e2, e3⟩ := h
  rw [e2]
  exact fun z => by have := (nI_eq (by omega) (by omega)).mp z; omega
theorem BD.of {c' m' : ab_S} (h : BD c m) (h2 : sz c' 2 = sz c 2) (h3 : sz c' 3 = sz c 3) (h18 : sz m' 18 = sz m 18) (h19 : sz m' 19 = sz m 19) : BD c' m' := by
  obtain ⟨f, h1, h4, e1, e2, e3⟩ := h
  exact ⟨f, h1, h4, h2.trans e1, h18.trans e2, by rw [h3, h19, e3]⟩
theorem GD.of {c' m' : ab_S} (hG : GD L p c m) (hc : sz c' = sz c) (ht : st c' = st c) (ha : sa c' 0 = sa c 0) (hm : ∀ k, 12 < k → k < 19 → sz m' k = sz m k) (hb : sa m' 12 = sa m 12) : GD L p c' m' := by
  obtain ⟨hL, hp, h2, h18, h4, h13, hT, h5, h15, h6, h14, ht', hk, hv⟩ := hG
  unfold GD
  rw [hc, ht, ha, hb, hm 18 (by omega) (by omega), hm 13 (by omega) (by omega), hm 15 (by omega) (by omega), hm 14 (by omega) (by omega), hm 16 (by omega) (by omega), hm 17 (by omega) (by omega)]
  exact ⟨hL, hp, h2, h18, h4, h13, hT, h5, h15, h6, h14, ht', hk, hv⟩
/-- nothing happens behind a fault -/
theorem c55b {x : Int32} (h : ¬ sz c 2 = nI 0) : ab_ev X D 55 [.inr (1, 0), .inl (.int x)] c = some (.inl none, c) := by
  rw [b55, if_neg h]
theorem c43b (h : ¬ sz c 2 = nI 0) (hD : 1 ≤ D) : ab_ev X D 43 [.inr (1, 0)] c = some (.inl none, c) := by
  obtain ⟨d, rfl⟩ : ∃ d, D = d + 1 := ⟨D - 1, by omega⟩
  exact c_43no h
theorem c54b {i : Nat} (h : ¬ sz c 2 = nI 0) (hD : 2 ≤ D) : ab_ev X D 54 [.inr (1, 0), .inr (10, i)] c = some (.inl none, c) := by
  obtain ⟨d, rfl⟩ : ∃ d, D = d + 1 := ⟨D - 1, by omega⟩
  rw [b54, c43b h (by omega), c55b h]
  show (if st c 0 = i then some (.inl none, c) else some (.inl none, c)) = (some (.inl none, c) : ab_R)
  split <;> rfl
theorem c56b {x y : Int32} (h : ¬ sz c 2 = nI 0) (hD : 2 ≤ D) : ab_ev X D 56 [.inr (1, 0), .inl (.int x), .inl (.int y)] c = some (.inl (some (.inl (.int (sz c 7)))), c) := by
  obtain ⟨d, rfl⟩ : ∃ d, D = d + 1 := ⟨D - 1, by omega⟩
  rw [b56, c43b h (by omega), c55b h, c55b h, e_bU]
  split
  · split
    · rfl
    · split <;> rfl
  · rfl
theorem r242b {x : Int32} (h : ¬ sz m 18 = nI 0) : ab_ev X E 242 [.inr (9, 0), .inl (.int x)] m = some (.inl none, m) := by
  rw [b242, if_neg h]
theorem r245b {x : Int32} (h : ¬ sz m 18 = nI 0) (hE : 1 ≤ E) : ab_ev X E 245 [.inr (9, 0), .inl (.int x)] m = some (.inl none, m) := by
  obtain ⟨e, rfl⟩ : ∃ e, E = e + 1 := ⟨E - 1, by omega⟩
  rw [b245, r242b h, e_bU, if_neg h]
  split <;> rfl
theorem r243b {x y : Int32} (h : ¬ sz m 18 = nI 0) (hE : 1 ≤ E) : ab_ev X E 243 [.inr (9, 0), .inl (.int x), .inl (.int y)] m = some (.inl (some (.inl (.int x))), m) := by
  obtain ⟨e, rfl⟩ : ∃ e, E = e + 1 := ⟨E - 1, by omega⟩
  rw [b243, r242b h, r232, e_bI, r242b h, e_bU]
  simp only [if_neg h]
  split
  · split <;> rfl
  · rfl
theorem r241b {i : Nat} (h : ¬ sz m 18 = nI 0) (hE : 1 ≤ E) : ab_ev X E 241 [.inr (9, 0), .inr (11, i)] m = some (.inl (some (.inl (.int (nI 0)))), m) := by
  obtain ⟨e, rfl⟩ : ∃ e, E = e + 1 := ⟨E - 1, by omega⟩
  rw [b241, if_neg h, b241_39, if_pos rfl, if_pos rfl]
theorem r240n {i : Nat} (h : ab_ev X E 241 [.inr (9, 0), .inr (11, i)] m = some (.inl (some (.inl (.int (nI 0)))), m)) : ab_ev X (E + 1) 240 [.inr (9, 0), .inr (11, i)] m = some (.inl (some (.inl (.int (nI 0)))), m) := by
  rw [b240, h, e_bI, if_pos rfl, if_pos rfl]
theorem r240y {m' : ab_S} {i : Nat} (h : ab_ev X E 241 [.inr (9, 0), .inr (11, i)] m = some (.inl (some (.inl (.int (nI 1)))), m)) (h2 : ab_ev X E 234 [.inr (9, 0)] m = some (.inl none, m')) : ab_ev X (E + 1) 240 [.inr (9, 0), .inr (11, i)] m = some (.inl (some (.inl (.int (nI 1)))), m') := by
  rw [b240, h, e_bI, if_neg (show ¬ nI 1 = nI 0 by decide), h2, e_bU, if_neg (show ¬ nI 1 = nI 0 by decide), if_pos rfl]
theorem r240b {i : Nat} (h : ¬ sz m 18 = nI 0) (hE : 2 ≤ E) : ab_ev X E 240 [.inr (9, 0), .inr (11, i)] m = some (.inl (some (.inl (.int (nI 0)))), m) := by
  obtain ⟨e, rfl⟩ : ∃ e, E = e + 1 := ⟨E - 1, by omega⟩
  exact r240n (r241b h (by omega))
theorem r259b {x : Int32} (h : ¬ sz m 18 = nI 0) : ab_ev X E 259 [.inr (9, 0), .inl (.int x)] m = some (.inl (some (.inl (.int (nI 0)))), m) := by
  rw [b259, if_neg h]
theorem r258b {x : Int32} (h : ¬ sz m 18 = nI 0) : ab_ev X E 258 [.inr (9, 0), .inl (.int x)] m = some (.inl none, m) := by
  rw [b258, if_neg h]
theorem GD.sgn (hG : GD L p c m) {i : Nat} {x : Int32} (hi : i < 33) (h4 : 4 ≤ i) (h1 : ab_sl (ab_tx i) = 1) (hx : x = ab_sb (ab_tx i) 0) : ab_ev X E 259 [.inr (9, 0), .inl (.int x)] m = some (.inl (some (.inl (.int (if st c 0 = i then nI 1 else nI 0)))), m) := by
  have h := hG.ch hi h4 h1
  rw [b259, if_pos hG.2.2.2.1, hx]
  by_cases q : st c 0 = i
  · rw [if_pos q, if_pos (h.mp q)]
  · rw [if_neg q, if_neg (fun z => q (h.mpr z))]
/-- a char must stand here -/
theorem GD.take (hG : GD L p c m) {i : Nat} {x : Int32} (hi : i < 33) (h4 : 4 ≤ i) (h1 : ab_sl (ab_tx i) = 1) (hx : x = ab_sb (ab_tx i) 0) (hD : 6 ≤ D) (hE : 2 ≤ E) : ∃ c' m' : ab_S, ab_ev X D 54 [.inr (1, 0), .inr (10, i)] c = some (.inl none, c') ∧ ab_ev X E 245 [.inr (9, 0), .inl (.int x)] m = some (.inl none, m') ∧ fC c c' ∧ fM m m' ∧ ((st c 0 = i ∧ ∃ p', p < p' ∧ GD L p' c' m') ∨ BD c' m') := by
  have h := hG.ch hi h4 h1
  obtain ⟨d, rfl⟩ : ∃ d, D = d + 1 := ⟨D - 1, by omega⟩
  obtain ⟨e, rfl⟩ : ∃ e, E = e + 1 := ⟨E - 1, by omega⟩
  rw [b54, b245, hx, if_pos hG.2.2.2.1]
  by_cases q : st c 0 = i
  · obtain ⟨c', m', p', g1, g2, g3, g4, g5, g6⟩ := hG.adv (X := X) (D := d) (E := e) (by omega) (by omega) (by omega)
    rw [if_pos q, if_pos (h.mp q), g2, g3, e_bU, e_bU]
    exact ⟨c', m', rfl, rfl, g5, g6, Or.inl ⟨q, p', g1, g4⟩⟩
  · obtain ⟨c', m', g1, g2, g3, g4, g5⟩ := hG.ref (X := X) (D := d) (E := e) (f := 2) (by omega) (by omega)
    rw [if_neg q, if_neg (fun z => q (h.mpr z)), g1, g2, e_bU, e_bU, if_neg g3.nm]
    exact ⟨c', m', rfl, rfl, g4, g5, Or.inr g3⟩
/-- a number must stand here -/
theorem GD.num (hG : GD L p c m) {lo hi : Nat} (hl : lo < 1000) (hh : hi < 1000) (hD : 6 ≤ D) (hE : 2 ≤ E) : ∃ (c' m' : ab_S) (r : Int32), ab_ev X D 56 [.inr (1, 0), .inl (.int (nI lo)), .inl (.int (nI hi))] c = some (.inl (some (.inl (.int r))), c') ∧ fC c c' ∧ fM m m' ∧ ((∃ v p', st c 0 = 2 ∧ p < p' ∧ lo ≤ v ∧ v ≤ hi ∧ sz c 7 = nI v ∧ sz m 17 = nI v ∧ r = nI v ∧ ab_ev X E 243 [.inr (9, 0), .inl (.int (nI lo)), .inl (.int (nI hi))] m = some (.inl (some (.inl (.int (nI v)))), m') ∧ GD L p' c' m') ∨ (BD c' m' ∧ ab_ev X E 243 [.inr (9, 0), .inl (.int (nI lo)), .inl (.int (nI hi))] m = some (.inl (some (.inl (.int (nI lo)))), m'))) := by
  have hn := hG.nu
  obtain ⟨d, rfl⟩ : ∃ d, D = d + 1 := ⟨D - 1, by omega⟩
  obtain ⟨e, rfl⟩ : ∃ e, E = e + 1 := ⟨E - 1, by omega⟩
  rw [b56, b243]
  by_cases q : st c 0 = 2
  · have q' := hn.mp q
    obtain ⟨v, hv, e7, e17⟩ := hG.2.2.2.2.2.2.2.2.2.2.2.2.2.1 (by rw [← hG.2.2.2.2.2.2.2.2.2.2.2.1]; exact q)
    have i1 : (nI v).toInt64.toInt = v := by rw [Int32.toInt_toInt64, i_nI (by omega)]
    have i2 : (nI lo).toInt64.toInt = lo := by rw [Int32.toInt_toInt64, i_nI (by omega)]
    have i3 : (nI hi).toInt64.toInt = hi := by rw [Int32.toInt_toInt64, i_nI (by omega)]
    rw [if_pos q, if_pos q', e7, e17, r232, i1, i2, i3, e_bI]
    by_cases w : lo ≤ v ∧ v ≤ hi
    · obtain ⟨c', m', p', g1, g2, g3, g4, g5, g6⟩ := hG.adv (X := X) (D := d) (E := e) (by omega) (by omega) (by omega)
      rw [if_neg (nI_nlt w.1 (by omega)), if_pos (nI_le w.2 (by omega)), if_pos (inR_iff.mpr (by omega)), if_neg (show ¬ nI 1 = nI 0 by decide), if_pos hG.2.2.2.1, g2, g3, e_bU, e_bU, if_pos g4.2.2.2.1]
      exact ⟨c', m', nI v, rfl, g5, g6, Or.inl ⟨v, p', q, g1, w.1, w.2, rfl, rfl, rfl, by rw [e17], g4⟩⟩
    · obtain ⟨c', m', g1, g2, g3, g4, g5⟩ := hG.ref (X := X) (D := d) (E := e) (f := 3) (by omega) (by omega)
      have nr : ¬ inR (v : Int) lo hi = true := fun z => by
        have := inR_iff.mp z
        omega
      rw [if_neg nr, if_pos rfl, g2, e_bU, if_neg g3.nm, g1, e_bU]
      refine ⟨c', m', nI v, ?_, g4, g5, Or.inr ⟨g3, if_neg g3.nm⟩⟩
      by_cases w1 : v < lo
      · rw [if_pos (nI_lt w1 (by omega))]
      · rw [if_neg (nI_nlt (by omega) (by omega)), if_neg (nI_ge (by omega) (by omega))]
  · obtain ⟨c', m', g1, g2, g3, g4, g5⟩ := hG.ref (X := X) (D := d) (E := e) (f := 2) (by omega) (by omega)
    rw [if_neg q, if_neg (fun z => q (hn.mpr z)), g1, g2, e_bU, e_bU, if_neg g3.nm]
    exact ⟨c', m', _, rfl, g4, g5, Or.inr ⟨g3, if_neg g3.nm⟩⟩
end GDS
