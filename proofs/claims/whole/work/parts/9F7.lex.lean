/-! The words of a town's text, as both compare them. -/
theorem sb_ok : ∀ i, i < 32 → ∀ k, k < 8 → ((((ab_sb i k) &&& (nI 255)).toUInt32 % 65536).toInt32 = ab_sb i k ∧ ((ab_sb i k).toUInt32 % 65536).toInt32 = ab_sb i k) := by decide +kernel
theorem sl_lt : ∀ i, i < 32 → ab_sl i < 8 := by decide +kernel
/-- the text from p to q is the i-th word -/
def eqB (T : Nat → Int32) (p q i : Nat) : Bool := decide (q = p + ab_sl i) && decide (fb_ct (fun k => decide (T (p + k) ≠ ab_sb i k)) (ab_sl i) = 0)
theorem eqB_iff {T : Nat → Int32} {p q i : Nat} : eqB T p q i = true ↔ q = p + ab_sl i ∧ ∀ k, k < ab_sl i → T (p + k) = ab_sb i k := by
  unfold eqB
  rw [Bool.and_eq_true, decide_eq_true_iff, decide_eq_true_iff, fb_ct_zero]
  constructor
  · rintro ⟨a, b⟩
    refine ⟨a, fun k hk => ?_⟩
    have := of_decide_eq_false (b k hk)
    exact Decidable.not_not.mp this
  · rintro ⟨a, b⟩
    exact ⟨a, fun k hk => decide_eq_false (fun z => z (b k hk))⟩
section LEX
variable {X : (Nat → Int32) × Nat} {d i p q : Nat} {s : ab_S}
theorem c_46 (hi : i < 32) : ab_ev X (d + 1) 46 [.inr (11, i)] s = some (.inl (some (.inl (.int (nI (ab_sl i))))), s) := by
  have h := sl_lt i hi
  rw [b46, b47, if_pos (by decide), e_bI, n_shr (by omega) (by omega), Nat.pow_zero, Nat.div_one]
theorem c_48 {k : Nat} (hi : i < 32) (hk : k < ab_sl i) : ab_ev X (d + 3) 48 [.inr (11, i), .inl (.int (nI k))] s = some (.inl (some (.inl (.int (ab_sb i k)))), s) := by
  have h := sl_lt i hi
  obtain ⟨h1, h2⟩ := sb_ok i hi k (by omega)
  rw [b48, b49, e_bI, if_neg (show ¬ nI 1 = nI 0 by decide), b50, b51, b52, if_neg (n_nlt0 (by omega)), if_pos (nI_lt hk (by omega)), e_bI, e_bU, if_neg (n_in hk (by omega)), nI_clamp (by omega), h1, if_pos h2, e_bI, if_pos h2]
/-- the class compares a word -/
theorem l45 {i1 x2 : Nat} (hi : i < 32) (h5 : sz s 5 = nI p) (h6 : sz s 6 = nI q) (hq : q ≤ 900) (hp : p ≤ q) (hx : x2 < 33) : ∀ (j c : Nat), c + j = ab_sl i → p + c ≤ q → (∀ k, k < c → sa s 0 (p + k) = ab_sb i k) → ∃ x4 : Nat, ab_at X (d + 4) 45 22 [some (.inr (1, 0)), some (.inr (10, i1)), some (.inl (.int (nI x2))), some (.inr (11, i)), some (.inl (.int (nI c)))] [] s = if eqB (sa s 0) p q i = true then some (.inl (some (.inr (10, x2))), s) else ab_at X (d + 4) 45 2 [some (.inr (1, 0)), some (.inr (10, i1)), some (.inl (.int (nI (x2 + 1)))), some (.inr (11, i)), some (.inl (.int (nI x4)))] [] s
  | 0, c, e, hc, hk => by
    have h := sl_lt i hi
    have hc' : c = ab_sl i := by omega
    refine ⟨c, ?_⟩
    rw [b45_22, c_46 hi, e_bI, if_pos (nI_le (by omega) (by omega)), b45_87, c_46 hi, e_bI, if_pos (by rw [hc']), h5, h6, nI_add]
    by_cases z : q = p + c
    · rw [if_pos (by rw [z]), if_pos (eqB_iff.mpr ⟨by omega, by rw [← hc']; exact hk⟩), r_in hx (by decide), nI_clamp (by omega)]
    · rw [if_neg (fun w => z ((nI_eq (by omega) (by omega)).mp w).symm), if_neg (fun w => z (by have := (eqB_iff.mp w).1; omega)), b45_116, nI_add]
  | j + 1, c, e, hc, hk => by
    have h := sl_lt i hi
    have h87 : ¬ eqB (sa s 0) p q i = true → ab_at X (d + 4) 45 87 [some (.inr (1, 0)), some (.inr (10, i1)), some (.inl (.int (nI x2))), some (.inr (11, i)), some (.inl (.int (nI c)))] [] s = ab_at X (d + 4) 45 2 [some (.inr (1, 0)), some (.inr (10, i1)), some (.inl (.int (nI (x2 + 1)))), some (.inr (11, i)), some (.inl (.int (nI c)))] [] s := fun _ => by
      rw [b45_87, c_46 hi, e_bI, if_neg (fun w => by have := (nI_eq (by omega) (by omega)).mp w; omega), b45_116, nI_add]
    by_cases z : q ≤ p + c
    · have hn : ¬ eqB (sa s 0) p q i = true := fun w => by
        have := (eqB_iff.mp w).1
        omega
      refine ⟨c, ?_⟩
      rw [b45_22, c_46 hi, e_bI, if_neg (nI_ge (by omega) (by omega)), h6, h5, nI_add, if_pos (nI_le z (by omega)), if_neg hn, h87 hn]
    · by_cases w : sa s 0 (p + c) = ab_sb i c
      · obtain ⟨x4, g⟩ := l45 hi h5 h6 hq hp hx j (c + 1) (by omega) (by omega) (fun k hk2 => by
          by_cases u : k = c
          · rw [u]
            exact w
          · exact hk k (by omega))
        refine ⟨x4, ?_⟩
        rw [← g, b45_22, c_46 hi, e_bI, if_neg (nI_ge (by omega) (by omega)), h6, h5, nI_add, if_neg (nI_ge (by omega) (by omega)), if_neg (nI_ge (by omega) (by omega)), c_48 hi (by omega), e_bI, h5, nI_add, r_in (j := p + c) (by omega) (by decide), nI_clamp (by omega), if_pos w.symm, nI_add]
      · have hn : ¬ eqB (sa s 0) p q i = true := fun u => w ((eqB_iff.mp u).2 c (by omega))
        refine ⟨c, ?_⟩
        rw [b45_22, c_46 hi, e_bI, if_neg (nI_ge (by omega) (by omega)), h6, h5, nI_add, if_neg (nI_ge (by omega) (by omega)), if_neg (nI_ge (by omega) (by omega)), c_48 hi (by omega), e_bI, h5, nI_add, r_in (j := p + c) (by omega) (by decide), nI_clamp (by omega), if_neg (fun u => w u.symm), if_neg hn, h87 hn]
end LEX
