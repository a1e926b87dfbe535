/-! One token, as class and model name it. -/
theorem tx_dif : ∀ i, i < 33 → ∀ j, j < 33 → 4 ≤ i → i ≠ j → ab_sl (ab_tx i) ≠ ab_sl (ab_tx j) ∨ fb_ct (fun k => decide (ab_sb (ab_tx i) k ≠ ab_sb (ab_tx j) k)) (ab_sl (ab_tx i)) ≠ 0 := by decide +kernel
theorem eqB_one {T : Nat → Int32} {p q i j : Nat} (hi : i < 33) (hj : j < 33) (h4 : 4 ≤ i) (h1 : eqB T p q (ab_tx i) = true) (h2 : eqB T p q (ab_tx j) = true) : i = j := by
  by_cases e : i = j
  · exact e
  · obtain ⟨a1, a2⟩ := eqB_iff.mp h1
    obtain ⟨b1, b2⟩ := eqB_iff.mp h2
    rcases tx_dif i hi j hj h4 e with h | h
    · omega
    · refine absurd (fb_ct_zero.mpr (fun k hk => decide_eq_false (fun z => z ?_))) h
      rw [← a2 k hk, ← b2 k (by omega)]
/-- a word is told just when its text stands there -/
theorem tokW_iff {T : Nat → Int32} {p q e i : Nat} (hi : i < 33) (h4 : 4 ≤ i) (he : e < 4) : tokW T p q e = i ↔ eqB T p q (ab_tx i) = true := by
  unfold tokW
  constructor
  · intro h
    by_cases q1 : fst (fun x => eqB T p q (ab_tx x)) 33 < 33
    · rw [if_pos q1] at h
      have := fst_yes (fun x => eqB T p q (ab_tx x)) 33 q1
      rw [h] at this
      exact this
    · rw [if_neg q1] at h
      omega
  · intro h
    have q1 : fst (fun x => eqB T p q (ab_tx x)) 33 < 33 := by
      rcases Nat.lt_or_ge (fst (fun x => eqB T p q (ab_tx x)) 33) 33 with z | z
      · exact z
      · have h2 : eqB T p q (ab_tx i) = false := fst_no (fun x => eqB T p q (ab_tx x)) 33 i (by omega)
        rw [h] at h2
        cases h2
    rw [if_pos q1]
    exact (eqB_one hi q1 h4 h (fst_yes (fun x => eqB T p q (ab_tx x)) 33 q1)).symm
/-- an empty text is no word of a token -/
theorem tokW_lo {T : Nat → Int32} {p q e i : Nat} (hpq : p < q) (hi : i < 4) (h : tokW T p q e = i) : i = e := by
  unfold tokW at h
  by_cases q1 : fst (fun x => eqB T p q (ab_tx x)) 33 < 33
  · rw [if_pos q1] at h
    have h2 := fst_yes (fun x => eqB T p q (ab_tx x)) 33 q1
    rw [h] at h2
    have h3 := (eqB_iff.mp h2).1
    have h4 : ab_sl (ab_tx i) = 0 := by
      have : ∀ i, i < 4 → ab_sl (ab_tx i) = 0 := by decide +kernel
      exact this i hi
    omega
  · rw [if_neg q1] at h
    exact h.symm
