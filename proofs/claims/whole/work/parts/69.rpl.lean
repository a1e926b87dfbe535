/-! The model: places in rounds, people on streets. -/
theorem r_rI {X : (Nat → Int32) × Nat} {s : ab_S} {j : Nat} {f : Int32 → ab_R} (h : j < 2300) : ab_rI X 37 0 (nI j) s f = f (sa s 8 j) := by
  have e : ab_rI X 37 0 (nI j) s f = (if nI j < nI 0 ∨ 2300 ≤ (nI j).toNatClampNeg then none else f (sa s 8 (nI j).toNatClampNeg)) := rfl
  rw [e, r_in h (by decide), nI_clamp (by omega)]
section RPL
variable {X : (Nat → Int32) × Nat} {d n : Nat} {s : ab_S}
theorem l249 {r z : Nat} {x : Int32} (hr : r < 4) (hz : sa s 8 (32 + r) = nI z) (h20 : z ≤ 20) : ∀ (j k : Nat), k + j = z → (∀ q, q < k → (sa s 8 (36 + 20 * r + q) == x) = false) → ab_at X d 249 2 [some (.inr (37, 0)), some (.inl (.int (nI r))), some (.inl (.int x)), some (.inl (.int (nI k)))] [] s = some (.inl (some (.inl (.int (if fst (fun q => sa s 8 (36 + 20 * r + q) == x) z < z then nI (fst (fun q => sa s 8 (36 + 20 * r + q) == x) z) else -nI 1)))), s)
  | 0, k, e, h => by
    obtain rfl : k = z := by omega
    rw [b249_2, show ab_isi 37 = true from rfl, cond_true, nI_add, r_rI (by omega), hz, if_pos (nI_le (Nat.le_refl _) (by omega)), fst_eqn h, if_neg (Nat.lt_irrefl _)]
  | j + 1, k, e, h => by
    have hk : k < z := by omega
    have e5 : nI 36 + nI 20 * nI r + nI k = nI (36 + 20 * r + k) := by rw [pk_mul, nI_add, nI_add]
    rw [b249_2, show ab_isi 37 = true from rfl, cond_true, nI_add, r_rI (by omega), hz, if_neg (nI_ge hk (by omega)), cond_true, e5, r_rI (by omega)]
    by_cases q : sa s 8 (36 + 20 * r + k) = x
    · rw [if_pos q, fst_eq (P := fun q => sa s 8 (36 + 20 * r + q) == x) hk (beq_iff_eq.mpr q) h, if_pos hk]
    · rw [if_neg q, nI_add]
      exact l249 hr hz h20 j (k + 1) (by omega) (fun q2 hq => by
        by_cases e6 : q2 = k
        · rw [e6]
          exact beq_eq_false_iff_ne.mpr q
        · exact h q2 (by omega))
/-- the place in a round -/
theorem r249 {r z : Nat} {x : Int32} (hr : r < 4) (hz : sa s 8 (32 + r) = nI z) (h20 : z ≤ 20) : ab_ev X d 249 [.inr (37, 0), .inl (.int (nI r)), .inl (.int x)] s = some (.inl (some (.inl (.int (if fst (fun q => sa s 8 (36 + 20 * r + q) == x) z < z then nI (fst (fun q => sa s 8 (36 + 20 * r + q) == x) z) else -nI 1)))), s) := by
  rw [b249]
  exact l249 hr hz h20 z 0 (by omega) (fun q hq => by omega)
theorem l272 {np : Nat} {x : Int32} {lo : Nat → Nat} (hp : sa s 8 3 = nI np) (h8 : np ≤ 8) (hlo : ∀ k, k < np → sa s 8 (116 + k) = nI (lo k)) : ∀ (j k : Nat), k + j = np → ab_at X d 272 5 [some (.inr (9, 0)), some (.inl (.int x)), some (.inl (.int (-nI 1))), some (.inl (.int (nI (bs (fun q => decide (nI (lo q) = x)) k)))), some (.inl (.int (nI k)))] [] s = some (.inl (some (.inl (.int (nI (bs (fun q => decide (nI (lo q) = x)) np))))), s)
  | 0, k, e => by
    obtain rfl : k = np := by omega
    rw [b272_5, hp, if_pos (nI_le (Nat.le_refl _) (by omega))]
  | j + 1, k, e => by
    have hk : k < np := by omega
    have g := l272 (x := x) hp h8 hlo j (k + 1) (by omega)
    rw [bs] at g
    rw [b272_5, hp, if_neg (nI_ge hk (by omega)), nI_add, r_in (by omega) (by decide), nI_clamp (by omega), hlo k hk, n_sh _ (by omega), n_or, n_or, nI_add, Nat.or_zero, ← g]
    by_cases q : nI (lo k) = x
    · rw [if_pos q, if_pos rfl, decide_eq_true q, if_pos rfl]
    · rw [if_neg q, decide_eq_false q, if_neg (show ¬ false = true by decide)]
/-- the people on a street -/
theorem r272 {np : Nat} {x : Int32} {lo : Nat → Nat} (hp : sa s 8 3 = nI np) (h8 : np ≤ 8) (hlo : ∀ k, k < np → sa s 8 (116 + k) = nI (lo k)) : ab_ev X d 272 [.inr (9, 0), .inl (.int x), .inl (.int (-nI 1))] s = some (.inl (some (.inl (.int (nI (bs (fun q => decide (nI (lo q) = x)) np))))), s) := by
  rw [b272]
  exact l272 hp h8 hlo np 0 (by omega)
/-- the people in a house of a street -/
theorem l272h {np y : Nat} {x : Int32} {lo li : Nat → Nat} (hp : sa s 8 3 = nI np) (h8 : np ≤ 8) (hy : y < 2 ^ 31) (hlo : ∀ k, k < np → sa s 8 (116 + k) = nI (lo k)) (hli : ∀ k, k < np → sa s 8 (124 + k) = nI (li k)) (hli2 : ∀ k, k < np → li k < 2 ^ 31) : ∀ (j k : Nat), k + j = np → ab_at X d 272 5 [some (.inr (9, 0)), some (.inl (.int x)), some (.inl (.int (nI y))), some (.inl (.int (nI (bs (fun q => decide (nI (lo q) = x) && li q == y) k)))), some (.inl (.int (nI k)))] [] s = some (.inl (some (.inl (.int (nI (bs (fun q => decide (nI (lo q) = x) && li q == y) np))))), s)
  | 0, k, e => by
    obtain rfl : k = np := by omega
    rw [b272_5, hp, if_pos (nI_le (Nat.le_refl _) (by omega))]
  | j + 1, k, e => by
    have hk : k < np := by omega
    have hk2 := hli2 k hk
    have g := l272h (x := x) hp h8 hy hlo hli hli2 j (k + 1) (by omega)
    rw [bs] at g
    rw [b272_5, hp, if_neg (nI_ge hk (by omega)), nI_add 116 k, r_in (j := 116 + k) (by omega) (by decide), nI_clamp (by omega), hlo k hk, nI_add 124 k, r_in (j := 124 + k) (by omega) (by decide), nI_clamp (by omega), hli k hk, n_sh _ (by omega), n_or, n_or, nI_add k 1, Nat.or_zero, ← g]
    have hm : ¬ nI y = -nI 1 := n_m1 y hy
    by_cases q : nI (lo k) = x
    · rw [if_pos q, if_neg hm, decide_eq_true q, Bool.true_and]
      by_cases q2 : li k = y
      · rw [if_pos (show nI _ = nI _ by rw [q2]), if_pos (beq_iff_eq.mpr q2)]
      · rw [if_neg (fun q3 => q2 ((nI_eq hk2 hy).mp q3)), if_neg (fun q3 => q2 (beq_iff_eq.mp q3))]
    · rw [if_neg q, decide_eq_false q, Bool.false_and, if_neg (show ¬ false = true by decide)]
end RPL
