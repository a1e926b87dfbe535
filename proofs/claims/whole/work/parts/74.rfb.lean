/-! The model: whom a name finds. -/
theorem bs_or (P Q : Nat → Bool) (n : Nat) : bs P n ||| bs Q n = bs (fun k => P k || Q k) n := by
  apply Nat.eq_of_testBit_eq
  intro i
  rw [Nat.testBit_or, bs_bit, bs_bit, bs_bit]
  cases decide (i < n) <;> simp
section RFB
variable {X : (Nat → Int32) × Nat} {d n nr bm np hs : Nat} {s : ab_S} {nm z lo li f : Nat → Nat} {st : Nat → Nat → Nat} {by' : Nat → Int32}
theorem r272h {np y : Nat} {x : Int32} {lo li : Nat → Nat} (hp : sa s 8 3 = nI np) (h8 : np ≤ 8) (hy : y < 2 ^ 31) (hlo : ∀ k, k < np → sa s 8 (116 + k) = nI (lo k)) (hli : ∀ k, k < np → sa s 8 (124 + k) = nI (li k)) (hli2 : ∀ k, k < np → li k < 2 ^ 31) : ab_ev X d 272 [.inr (9, 0), .inl (.int x), .inl (.int (nI y))] s = some (.inl (some (.inl (.int (nI (bs (fun q => decide (nI (lo q) = x) && li q == y) np))))), s) := by
  rw [b272]
  exact l272h hp h8 hy hlo hli hli2 np 0 (by omega)
theorem l283 {v y : Nat} {x3 : Int32} (h : PW s n nm nr z st bm by' np hs lo li) (h2 : ∀ k, k < n → sa s 13 k = nI (f k)) (hf : ∀ k, k < n → f k < n) (hi : ∀ a b, a < n → b < n → f a = f b → a = b) (hv : v < 2 ^ 31) (hy : y < 2 ^ 31) : ∀ (j k : Nat), k + j = n → ab_at X (d + 3) 283 6 [some (.inr (9, 0)), some (.inl (.int (nI v))), some (.inl (.int (nI y))), some (.inl (.int x3)), some (.inl (.int (nI (bs (fun p => decide (lo p < k) && (nm (ah f n (lo p) (-x3).toInt) == v && li p == y)) np)))), some (.inl (.int (nI k)))] [] s = some (.inl (some (.inl (.int (nI (bs (fun p => decide (lo p < n) && (nm (ah f n (lo p) (-x3).toInt) == v && li p == y)) np))))), s)
  | 0, k, e => by
    have hn := h.1.2.2.1
    obtain rfl : k = n := by omega
    rw [b283_6, r267 h.1.2.1, e_bI, if_pos (nI_le (Nat.le_refl _) (by omega))]
  | j + 1, k, e => by
    have hn := h.1.2.2.1
    have hk : k < n := by omega
    obtain ⟨p1, p2, p3, p4, p5, p6, p7⟩ := id h.2
    have c0 := h.1.2.2.2.2.1 _ (ah_lt hf hk (-x3).toInt)
    rw [b283_6, r267 h.1.2.1, e_bI, if_neg (nI_ge hk (by omega)), r284 (d := d) h.1.2 h2 hf hi hk, e_bI, nI_add]
    by_cases q : nm (ah f n k (-x3).toInt) = v
    · have c1 : bs (fun p => decide (lo p < k) && (nm (ah f n (lo p) (-x3).toInt) == v && li p == y)) np ||| bs (fun q => decide (nI (lo q) = nI k) && li q == y) np = bs (fun p => decide (lo p < k + 1) && (nm (ah f n (lo p) (-x3).toInt) == v && li p == y)) np := by
        rw [bs_or]
        refine bs_cong (fun p hp => ?_)
        have hl := (p7 p hp).2.2.1
        by_cases e1 : lo p = k
        · rw [e1, q]
          simp
        · have e2 : ¬ nI (lo p) = nI k := fun e3 => e1 ((nI_eq (by omega) (by omega)).mp e3)
          by_cases e3 : lo p < k
          · have e4 : lo p < k + 1 := by omega
            simp [e2, e3, e4]
          · have e4 : ¬ lo p < k + 1 := by omega
            simp [e2, e3, e4]
      rw [if_pos (show nI _ = nI _ by rw [q]), r272h p2 p3 hy (fun p hp => (p7 p hp).2.1) (fun p hp => (p7 p hp).2.2.2.2.1) (fun p hp => by have := (p7 p hp).2.2.2.2.2; omega), e_bI, n_or, c1]
      exact l283 h h2 hf hi hv hy j (k + 1) (by omega)
    · have c1 : bs (fun p => decide (lo p < k) && (nm (ah f n (lo p) (-x3).toInt) == v && li p == y)) np = bs (fun p => decide (lo p < k + 1) && (nm (ah f n (lo p) (-x3).toInt) == v && li p == y)) np := by
        refine bs_cong (fun p hp => ?_)
        by_cases e1 : lo p = k
        · rw [e1, beq_eq_false_iff_ne.mpr q]
          simp
        · by_cases e3 : lo p < k
          · have e4 : lo p < k + 1 := by omega
            simp [e3, e4]
          · have e4 : ¬ lo p < k + 1 := by omega
            simp [e3, e4]
      rw [if_neg (fun q2 => q ((nI_eq (by omega) hv).mp q2)), n_or, Nat.or_zero, c1]
      exact l283 h h2 hf hi hv hy j (k + 1) (by omega)
end RFB
