/-! The class' number of a token and the model's sort of it. -/
theorem ch_ok : ∀ i, i < 33 → ab_sl (ab_tx i) = 1 → knw (ab_sb (ab_tx i) 0) = true ∧ ltr (ab_sb (ab_tx i) 0) = false ∧ dgt (ab_sb (ab_tx i) 0) = false ∧ ab_sb (ab_tx i) 0 ≠ nI 0 ∧ ab_sb (ab_tx i) 0 ≠ nI 1 ∧ ab_sb (ab_tx i) 0 ≠ nI 2 ∧ ab_sb (ab_tx i) 0 ≠ nI 3 := by decide +kernel
theorem ch_all {x : Int32} (h : knw x = true) : ∃ i, i < 33 ∧ 4 ≤ i ∧ ab_sl (ab_tx i) = 1 ∧ x = ab_sb (ab_tx i) 0 := by
  have e : (13 ≤ 33) := by decide
  unfold knw at h
  simp only [Bool.or_eq_true, decide_eq_true_iff] at h
  rcases h with ((((((((((h | h) | h) | h) | h) | h) | h) | h) | h) | h) | h) | h
  · exact ⟨17, by decide, by decide, by decide, by rw [h]; decide⟩
  · exact ⟨18, by decide, by decide, by decide, by rw [h]; decide⟩
  · exact ⟨22, by decide, by decide, by decide, by rw [h]; decide⟩
  · exact ⟨23, by decide, by decide, by decide, by rw [h]; decide⟩
  · exact ⟨24, by decide, by decide, by decide, by rw [h]; decide⟩
  · exact ⟨13, by decide, by decide, by decide, by rw [h]; decide⟩
  · exact ⟨14, by decide, by decide, by decide, by rw [h]; decide⟩
  · exact ⟨25, by decide, by decide, by decide, by rw [h]; decide⟩
  · exact ⟨26, by decide, by decide, by decide, by rw [h]; decide⟩
  · exact ⟨27, by decide, by decide, by decide, by rw [h]; decide⟩
  · exact ⟨15, by decide, by decide, by decide, by rw [h]; decide⟩
  · exact ⟨16, by decide, by decide, by decide, by rw [h]; decide⟩
theorem eqB1 {T : Nat → Int32} {p i : Nat} (h : ab_sl (ab_tx i) = 1) : eqB T p (p + 1) (ab_tx i) = true ↔ T p = ab_sb (ab_tx i) 0 := by
  rw [eqB_iff, h]
  constructor
  · rintro ⟨-, b⟩
    exact b 0 (by omega)
  · intro b
    refine ⟨rfl, fun k hk => ?_⟩
    obtain rfl : k = 0 := by omega
    exact b
/-- the three sorts of tokens that stand at p -/
theorem tk_cases (T : Nat → Int32) (L p : Nat) (h : p < L) : (p < tkA T L p ∧ ltr (T p) = true ∧ tkN T L p = tkA T L p ∧ tkC T L p = tokW T p (tkA T L p) 3 ∧ tkK T L p = nI 1) ∨ (p < tkB T L p ∧ ltr (T p) = false ∧ dgt (T p) = true ∧ ((tkC T L p = 2 ∧ tkK T L p = nI 2) ∨ (tkC T L p = 1 ∧ tkK T L p = nI 3))) ∨ (ltr (T p) = false ∧ dgt (T p) = false ∧ tkN T L p = p + 1 ∧ tkC T L p = tokW T p (p + 1) 1 ∧ tkK T L p = if knw (T p) = true then T p else nI 3) := by
  unfold tkN tkC tkK
  rw [if_pos h, if_pos h, if_pos h]
  cases q : (decide (T p < nI 97) || decide (nI 122 < T p)) with
  | false =>
    have hA : p < tkA T L p := rng_in h q
    refine Or.inl ⟨hA, by unfold ltr; rw [q]; rfl, ?_, ?_, ?_⟩
    · rw [if_neg (by omega)]
    · rw [if_neg (by omega)]
    · rw [if_neg (by omega)]
  | true =>
    have hA : tkA T L p = p := rng_out h q
    have hl : ltr (T p) = false := by unfold ltr; rw [q]; rfl
    rw [hA, if_pos (Nat.le_refl p), if_pos (Nat.le_refl p), if_pos (Nat.le_refl p)]
    cases q2 : (decide (T p < nI 48) || decide (nI 57 < T p)) with
    | false =>
      have hB : p < tkB T L p := rng_in h q2
      refine Or.inr (Or.inl ⟨hB, hl, by unfold dgt; rw [q2]; rfl, ?_⟩)
      rw [if_neg (show ¬ tkB T L p ≤ p by omega), if_neg (show ¬ tkB T L p ≤ p by omega)]
      by_cases z : tkB T L p - p ≤ 3
      · rw [if_pos z, if_pos z]
        exact Or.inl ⟨rfl, rfl⟩
      · rw [if_neg z, if_neg z]
        exact Or.inr ⟨rfl, rfl⟩
    | true =>
      have hB : tkB T L p = p := rng_out h q2
      rw [hB, if_pos (Nat.le_refl p), if_pos (Nat.le_refl p), if_pos (Nat.le_refl p)]
      exact Or.inr (Or.inr ⟨hl, by unfold dgt; rw [q2]; rfl, rfl, rfl, rfl⟩)
/-- a word of letters -/
theorem tk_word {T : Nat → Int32} {L p i : Nat} (h : p < L) (hi : i < 33) (h2 : 2 ≤ ab_sl (ab_tx i)) (h4 : 4 ≤ i) : tkC T L p = i ↔ tkK T L p = nI 1 ∧ eqB T p (tkN T L p) (ab_tx i) = true := by
  rcases tk_cases T L p h with ⟨a, -, b, c, e⟩ | ⟨a, -, -, ⟨c, e⟩ | ⟨c, e⟩⟩ | ⟨-, -, b, c, e⟩
  · rw [c, e, b, tokW_iff hi h4 (by omega)]
    exact ⟨fun z => ⟨rfl, z⟩, fun z => z.2⟩
  · rw [c, e]
    exact ⟨fun z => by omega, fun z => absurd z.1 (by decide)⟩
  · rw [c, e]
    exact ⟨fun z => by omega, fun z => absurd z.1 (by decide)⟩
  · rw [c, tokW_iff hi h4 (by omega), b]
    constructor
    · intro z
      have := (eqB_iff.mp z).1
      omega
    · rintro ⟨-, z⟩
      have := (eqB_iff.mp z).1
      omega
/-- a char -/
theorem tk_char {T : Nat → Int32} {L p i : Nat} (h : p < L) (hi : i < 33) (h1 : ab_sl (ab_tx i) = 1) (h4 : 4 ≤ i) : tkC T L p = i ↔ tkK T L p = ab_sb (ab_tx i) 0 := by
  obtain ⟨k1, k2, k3, k4, k5, k6, k7⟩ := ch_ok i hi h1
  rcases tk_cases T L p h with ⟨a, l, b, c, e⟩ | ⟨a, -, -, ⟨c, e⟩ | ⟨c, e⟩⟩ | ⟨-, -, b, c, e⟩
  · rw [c, e, tokW_iff hi h4 (by omega)]
    constructor
    · intro z
      have := (eqB_iff.mp z).2 0 (by omega)
      rw [Nat.add_zero] at this
      rw [this, k2] at l
      cases l
    · intro z
      exact absurd z.symm k5
  · rw [c, e]
    exact ⟨fun z => by omega, fun z => absurd z.symm k6⟩
  · rw [c, e]
    exact ⟨fun z => by omega, fun z => absurd z.symm k7⟩
  · rw [c, e, tokW_iff hi h4 (by omega), eqB1 h1]
    constructor
    · intro z
      rw [z, if_pos k1]
    · intro z
      by_cases w : knw (T p) = true
      · rw [if_pos w] at z
        exact z
      · rw [if_neg w] at z
        exact absurd z.symm k7
/-- no token, a number, a bad token -/
theorem tk_rest {T : Nat → Int32} {L p : Nat} : (tkC T L p = 0 ↔ tkK T L p = nI 0) ∧ (tkC T L p = 2 ↔ tkK T L p = nI 2) ∧ (tkC T L p = 1 ↔ tkK T L p = nI 3) := by
  by_cases h : p < L
  · rcases tk_cases T L p h with ⟨a, l, b, c, e⟩ | ⟨a, -, -, ⟨c, e⟩ | ⟨c, e⟩⟩ | ⟨l, g, b, c, e⟩
    · rw [c, e]
      exact ⟨⟨fun z => absurd (tokW_lo a (by omega) z) (by decide), fun z => absurd z (by decide)⟩, ⟨fun z => absurd (tokW_lo a (by omega) z) (by decide), fun z => absurd z (by decide)⟩, ⟨fun z => absurd (tokW_lo a (by omega) z) (by decide), fun z => absurd z (by decide)⟩⟩
    · rw [c, e]
      decide
    · rw [c, e]
      decide
    · rw [c, e]
      by_cases w : knw (T p) = true
      · obtain ⟨i, hi, h4, h1, hx⟩ := ch_all w
        obtain ⟨k1, k2, k3, k4, k5, k6, k7⟩ := ch_ok i hi h1
        have ei : tokW T p (p + 1) 1 = i := (tokW_iff hi h4 (by omega)).mpr ((eqB1 h1).mpr hx)
        rw [if_pos w, ei, hx]
        exact ⟨⟨fun z => by omega, fun z => absurd z k4⟩, ⟨fun z => by omega, fun z => absurd z k6⟩, ⟨fun z => by omega, fun z => absurd z k7⟩⟩
      · have e1 : tokW T p (p + 1) 1 = 1 := by
          unfold tokW
          by_cases q1 : fst (fun x => eqB T p (p + 1) (ab_tx x)) 33 < 33
          · have h2 : eqB T p (p + 1) (ab_tx (fst (fun x => eqB T p (p + 1) (ab_tx x)) 33)) = true := fst_yes (fun x => eqB T p (p + 1) (ab_tx x)) 33 q1
            have h3 := (eqB_iff.mp h2).1
            have h1 : ab_sl (ab_tx (fst (fun x => eqB T p (p + 1) (ab_tx x)) 33)) = 1 := by omega
            have h5 := (eqB1 h1).mp h2
            rw [h5] at w
            exact absurd (ch_ok _ q1 h1).1 w
          · rw [if_neg q1]
        rw [if_neg w, e1]
        decide
  · unfold tkC tkK
    rw [if_neg h, if_neg h]
    decide
