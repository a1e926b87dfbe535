/-! The model reads a token: the whole. -/
theorem ltr_iff {x : Int32} : ltr x = !(decide (x < nI 97) || decide (nI 122 < x)) := rfl
section TKR
variable {X : (Nat → Int32) × Nat} {d p L : Nat} {s : ab_S}
theorem l234w {x1 : Int32} (h13 : sz s 13 = nI L) (hL : L ≤ 900) : ∀ (j c : Nat), p + c + j = L → (∀ i, i < c → (decide (sa s 12 (p + i) < nI 97) || decide (nI 122 < sa s 12 (p + i))) = false) → ab_at X (d + 1) 234 94 [some (.inr (9, 0)), some (.inl (.int x1))] [] (pz s 14 (nI (p + c))) = some (.inl none, pz (pz s 14 (nI (tkA (sa s 12) L p))) 16 (nI 1))
  | 0, c, e, h => by
    have h13' : sz (pz s 14 (nI (p + c))) 13 = nI L := by
      simp (disch := omega) only [E0]
      exact h13
    have e14 : sz (pz s 14 (nI (p + c))) 14 = nI (p + c) := by simp (disch := omega) only [E0]
    have e1 : fst (fun i => decide (sa s 12 (p + i) < nI 97) || decide (nI 122 < sa s 12 (p + i))) (L - p) = c := by
      rw [show L - p = c by omega]
      exact fst_eqn h
    have e2 : tkA (sa s 12) L p = p + c := by
      unfold tkA rng
      rw [e1]
    rw [b234_94, e14, r236 h13' hL (by omega), e_bI, if_neg (by omega), r235, e_bI, if_neg (show ¬ ltr (nI 0) = true by decide), if_pos rfl, e2]
  | j + 1, c, e, h => by
    have h13' : sz (pz s 14 (nI (p + c))) 13 = nI L := by
      simp (disch := omega) only [E0]
      exact h13
    have e14 : sz (pz s 14 (nI (p + c))) 14 = nI (p + c) := by simp (disch := omega) only [E0]
    have e12 : sa (pz s 14 (nI (p + c))) 12 = sa s 12 := rfl
    rw [b234_94, e14, r236 h13' hL (by omega), e_bI, if_pos (by omega), e12, r235, e_bI, e14, nI_add]
    by_cases z : (decide (sa s 12 (p + c) < nI 97) || decide (nI 122 < sa s 12 (p + c))) = true
    · have e1 : fst (fun i => decide (sa s 12 (p + i) < nI 97) || decide (nI 122 < sa s 12 (p + i))) (L - p) = c := fst_eq (by omega) z h
      have e2 : tkA (sa s 12) L p = p + c := by
        unfold tkA rng
        rw [e1]
      have hl : ¬ ltr (sa s 12 (p + c)) = true := by
        unfold ltr
        rw [z]
        decide
      rw [if_neg hl, if_pos rfl, e2]
    · have z' : (decide (sa s 12 (p + c) < nI 97) || decide (nI 122 < sa s 12 (p + c))) = false := by
        cases w : (decide (sa s 12 (p + c) < nI 97) || decide (nI 122 < sa s 12 (p + c))) with
        | false => rfl
        | true => exact absurd w z
      have hl : ltr (sa s 12 (p + c)) = true := by
        unfold ltr
        rw [z']
        rfl
      rw [if_pos hl, if_neg (show ¬ nI 1 = nI 0 by decide)]
      simp only [E1]
      exact l234w h13 hL j (c + 1) (by omega) (fun i hi => by
        by_cases v : i = c
        · rw [v]
          exact z'
        · exact h i (by omega))
theorem l234d {x1 : Int32} (h13 : sz s 13 = nI L) (hL : L ≤ 900) (h15 : sz s 15 = nI p) : ∀ (j c : Nat), p + c + j = L → (∀ i, i < c → (decide (sa s 12 (p + i) < nI 48) || decide (nI 57 < sa s 12 (p + i))) = false) → ab_at X (d + 1) 234 141 [some (.inr (9, 0)), some (.inl (.int x1))] [] (pz (pz s 17 (vlI (sa s 12) p (min 3 c))) 14 (nI (p + c))) = some (.inl none, pz (pz (pz s 17 (vlI (sa s 12) p (min 3 (tkB (sa s 12) L p - p)))) 14 (nI (tkB (sa s 12) L p))) 16 (if tkB (sa s 12) L p - p ≤ 3 then nI 2 else nI 3)) := by
  intro j
  induction j with
  | zero =>
    intro c e h
    obtain ⟨t, ht⟩ : ∃ t, t = pz (pz s 17 (vlI (sa s 12) p (min 3 c))) 14 (nI (p + c)) := ⟨_, rfl⟩
    have h13' : sz t 13 = nI L := by
      rw [ht]
      simp (disch := omega) only [E0]
      exact h13
    have e14 : sz t 14 = nI (p + c) := by rw [ht]; simp (disch := omega) only [E0]
    have e15 : sz t 15 = nI p := by
      rw [ht]
      simp (disch := omega) only [E0]
      exact h15
    have e1 : fst (fun i => decide (sa s 12 (p + i) < nI 48) || decide (nI 57 < sa s 12 (p + i))) (L - p) = c := by
      rw [show L - p = c by omega]
      exact fst_eqn h
    have e2 : tkB (sa s 12) L p = p + c := by
      unfold tkB rng
      rw [e1]
    rw [← ht, b234_141, e14, r236 h13' hL (by omega), e_bI, if_neg (by omega), r237, e_bI, if_neg (show ¬ dgt (nI 0) = true by decide), if_pos rfl, e14, e15, pk_sub (by omega), Nat.add_sub_cancel_left, e2, Nat.add_sub_cancel_left, ht]
    by_cases w : c ≤ 3
    · rw [if_pos (nI_le w (by omega)), if_pos w]
    · rw [if_neg (nI_ge (by omega) (by omega)), if_neg w]
  | succ j ih =>
    intro c e h
    obtain ⟨t, ht⟩ : ∃ t, t = pz (pz s 17 (vlI (sa s 12) p (min 3 c))) 14 (nI (p + c)) := ⟨_, rfl⟩
    have h13' : sz t 13 = nI L := by
      rw [ht]
      simp (disch := omega) only [E0]
      exact h13
    have e14 : sz t 14 = nI (p + c) := by rw [ht]; simp (disch := omega) only [E0]
    have e15 : sz t 15 = nI p := by
      rw [ht]
      simp (disch := omega) only [E0]
      exact h15
    have e17 : sz t 17 = vlI (sa s 12) p (min 3 c) := by rw [ht]; simp (disch := omega) only [E0]
    have e12 : sa t 12 = sa s 12 := by rw [ht]; rfl
    have up : ∀ a b, pz (pz t 17 a) 14 b = pz (pz s 17 a) 14 b := fun a b => by
      rw [ht]
      unfold pz
      simp only [va_up2]
      congr 1
      funext q
      unfold va_up
      by_cases h1 : q = 14
      · simp [h1]
      · by_cases h2 : q = 17
        · simp [h2]
        · simp [h1, h2]
    rw [← ht, b234_141, e14, r236 h13' hL (by omega), e_bI, if_pos (by omega), e12, r237, e_bI, e14, e15, pk_sub (by omega), Nat.add_sub_cancel_left, nI_add, e17]
    by_cases z : (decide (sa s 12 (p + c) < nI 48) || decide (nI 57 < sa s 12 (p + c))) = true
    · have e1 : fst (fun i => decide (sa s 12 (p + i) < nI 48) || decide (nI 57 < sa s 12 (p + i))) (L - p) = c := fst_eq (by omega) z h
      have e2 : tkB (sa s 12) L p = p + c := by
        unfold tkB rng
        rw [e1]
      have hl : ¬ dgt (sa s 12 (p + c)) = true := by
        unfold dgt
        rw [z]
        decide
      rw [if_neg hl, if_pos rfl, e2, Nat.add_sub_cancel_left, ht]
      by_cases w : c ≤ 3
      · rw [if_pos (nI_le w (by omega)), if_pos w]
      · rw [if_neg (nI_ge (by omega) (by omega)), if_neg w]
    · have z' : (decide (sa s 12 (p + c) < nI 48) || decide (nI 57 < sa s 12 (p + c))) = false := by
        cases w : (decide (sa s 12 (p + c) < nI 48) || decide (nI 57 < sa s 12 (p + c))) with
        | false => rfl
        | true => exact absurd w z
      have hl : dgt (sa s 12 (p + c)) = true := by
        unfold dgt
        rw [z']
        rfl
      have ih' := ih (c + 1) (by omega) (fun i hi => by
        by_cases v : i = c
        · rw [v]
          exact z'
        · exact h i (by omega))
      rw [if_pos hl, if_neg (show ¬ nI 1 = nI 0 by decide)]
      by_cases w : 3 ≤ c
      · rw [if_pos (nI_le w (by omega)), up]
        rw [show min 3 (c + 1) = min 3 c by omega] at ih'
        exact ih'
      · rw [if_neg (nI_ge (by omega) (by omega)), r_in (j := p + c) (by omega) (by decide), nI_clamp (by omega), up]
        have e5 : vlI (sa s 12) p (min 3 (c + 1)) = nI 10 * vlI (sa s 12) p (min 3 c) + sa s 12 (p + c) - nI 48 := by
          rw [show min 3 (c + 1) = c + 1 by omega, show min 3 c = c by omega]
          show vlI (sa s 12) p c * nI 10 + sa s 12 (p + c) - nI 48 = _
          rw [Int32.mul_comm]
        rw [e5] at ih'
        rw [e12]
        exact ih'
end TKR
