/-! The model reads a token. -/
def ltr (x : Int32) : Bool := !(decide (x < nI 97) || decide (nI 122 < x))
def dgt (x : Int32) : Bool := !(decide (x < nI 48) || decide (nI 57 < x))
/-- the chars that the model knows -/
def knw (x : Int32) : Bool := decide (x = nI 91) || decide (x = nI 93) || decide (x = nI 61) || decide (x = nI 60) || decide (x = nI 62) || decide (x = nI 59) || decide (x = nI 58) || decide (x = nI 43) || decide (x = nI 45) || decide (x = nI 42) || decide (x = nI 40) || decide (x = nI 41)
theorem rng_out {lo hi : Int32} {T : Nat → Int32} {L p : Nat} (h : p < L) (h1 : (decide (T p < lo) || decide (hi < T p)) = true) : rng lo hi T L p = p := by
  unfold rng
  have e : fst (fun i => decide (T (p + i) < lo) || decide (hi < T (p + i))) (L - p) = 0 := fst_eq (by omega) h1 (fun j hj => absurd hj (by omega))
  rw [e]
  rfl
theorem rng_in {lo hi : Int32} {T : Nat → Int32} {L p : Nat} (h : p < L) (h1 : (decide (T p < lo) || decide (hi < T p)) = false) : p < rng lo hi T L p := by
  unfold rng
  rcases Nat.eq_zero_or_pos (fst (fun i => decide (T (p + i) < lo) || decide (hi < T (p + i))) (L - p)) with z | z
  · have h2 := fst_yes (fun i => decide (T (p + i) < lo) || decide (hi < T (p + i))) (L - p) (by omega)
    rw [z] at h2
    have h2 : (decide (T p < lo) || decide (hi < T p)) = true := h2
    rw [h1] at h2
    cases h2
  · omega
section TKM
variable {X : (Nat → Int32) × Nat} {d p q L : Nat} {s : ab_S}
theorem r235 {x : Int32} : ab_ev X d 235 [.inl (.int x)] s = some (.inl (some (.inl (.int (if ltr x = true then nI 1 else nI 0)))), s) := by
  rw [b235]
  unfold ltr
  by_cases h : x < nI 97
  · rw [if_pos h, decide_eq_true h]
    rfl
  · rw [if_neg h, decide_eq_false h]
    by_cases h2 : nI 122 < x
    · rw [if_pos h2, decide_eq_true h2]
      rfl
    · rw [if_neg h2, decide_eq_false h2]
      rfl
theorem r237 {x : Int32} : ab_ev X d 237 [.inl (.int x)] s = some (.inl (some (.inl (.int (if dgt x = true then nI 1 else nI 0)))), s) := by
  rw [b237]
  unfold dgt
  by_cases h : x < nI 48
  · rw [if_pos h, decide_eq_true h]
    rfl
  · rw [if_neg h, decide_eq_false h]
    by_cases h2 : nI 57 < x
    · rw [if_pos h2, decide_eq_true h2]
      rfl
    · rw [if_neg h2, decide_eq_false h2]
      rfl
theorem r238 {x : Int32} : ab_ev X d 238 [.inl (.int x)] s = some (.inl (some (.inl (.int (if knw x = true then nI 1 else nI 0)))), s) := by
  have k30 : ab_at X d 238 30 [some (.inl (.int x)), none] [] s = some (.inl (some (.inl (.int (nI 1)))), s) := by
    rw [b238_30, b238_35, if_neg (show ¬ nI 1 = nI 0 by decide), b238_82, b238_87, if_neg (show ¬ nI 1 = nI 0 by decide), if_pos rfl]
  have k82 : ab_at X d 238 82 [some (.inl (.int x)), some (.inl (.int (nI 0)))] [] s = some (.inl (some (.inl (.int (nI 1)))), s) := by
    rw [b238_82, b238_87, if_neg (show ¬ nI 1 = nI 0 by decide), if_pos rfl]
  have yes : knw x = true → (if knw x = true then nI 1 else nI 0) = nI 1 := fun h => if_pos h
  rw [b238]
  by_cases h91 : x = nI 91
  · rw [if_pos h91, k30, yes (by rw [h91]; decide)]
  rw [if_neg h91]
  by_cases h93 : x = nI 93
  · rw [if_pos h93, k30, yes (by rw [h93]; decide)]
  rw [if_neg h93]
  by_cases h61 : x = nI 61
  · rw [if_pos h61, k30, yes (by rw [h61]; decide)]
  rw [if_neg h61]
  by_cases h60 : x = nI 60
  · rw [if_pos h60, k30, yes (by rw [h60]; decide)]
  rw [if_neg h60]
  by_cases h62 : x = nI 62
  · rw [if_pos h62, k30, yes (by rw [h62]; decide)]
  rw [if_neg h62]
  rw [b238_35, if_pos rfl]
  by_cases h59 : x = nI 59
  · rw [if_pos h59, k82, yes (by rw [h59]; decide)]
  rw [if_neg h59]
  by_cases h58 : x = nI 58
  · rw [if_pos h58, k82, yes (by rw [h58]; decide)]
  rw [if_neg h58]
  by_cases h43 : x = nI 43
  · rw [if_pos h43, k82, yes (by rw [h43]; decide)]
  rw [if_neg h43]
  by_cases h45 : x = nI 45
  · rw [if_pos h45, k82, yes (by rw [h45]; decide)]
  rw [if_neg h45]
  by_cases h42 : x = nI 42
  · rw [if_pos h42, k82, yes (by rw [h42]; decide)]
  rw [if_neg h42]
  by_cases h40 : x = nI 40
  · rw [if_pos h40, k82, yes (by rw [h40]; decide)]
  rw [if_neg h40]
  by_cases h41 : x = nI 41
  · rw [if_pos h41, k82, yes (by rw [h41]; decide)]
  rw [if_neg h41]
  have no : ¬ knw x = true := by
    unfold knw
    rw [decide_eq_false h91, decide_eq_false h93, decide_eq_false h61, decide_eq_false h60, decide_eq_false h62, decide_eq_false h59, decide_eq_false h58, decide_eq_false h43, decide_eq_false h45, decide_eq_false h42, decide_eq_false h40, decide_eq_false h41]
    decide
  rw [b238_87, if_pos rfl, if_neg no]
theorem r236 (h13 : sz s 13 = nI L) (hL : L ≤ 900) (hp : p ≤ L) : ab_ev X d 236 [.inr (9, 0), .inl (.int (nI p))] s = some (.inl (some (.inl (.int (if p < L then sa s 12 p else nI 0)))), s) := by
  rw [b236, h13]
  by_cases h : p < L
  · rw [if_neg (nI_ge h (by omega)), r_in (j := p) (by omega) (by decide), nI_clamp (by omega), if_pos h]
  · rw [if_pos (nI_le (by omega) (by omega)), if_neg h]
end TKM
