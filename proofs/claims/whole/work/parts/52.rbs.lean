/-! The model's town: its first answers. -/
theorem r_fm {x : Int32} {c : Nat} (h0 : 0 < c) (hc : c < 2 ^ 30) : ((x - x / nI c * nI c) + nI c) - ((x - x / nI c * nI c) + nI c) / nI c * nI c = nI (x.toInt % (c : Int)).toNat := by
  have hm := Int.emod_nonneg x.toInt (show (c : Int) ≠ 0 by omega)
  have hm2 := Int.emod_lt_of_pos x.toInt (show (0 : Int) < c by omega)
  have hr : (x % nI c).toInt = x.toInt % c - (if 0 ≤ x.toInt ∨ (c : Int) ∣ x.toInt then 0 else (c : Int)) := by
    rw [Int32.toInt_mod, nI_toInt (by omega), Int.tmod_eq_emod]
    split <;> simp
  have he : (x % nI c + nI c).toInt = x.toInt % c + (if 0 ≤ x.toInt ∨ (c : Int) ∣ x.toInt then (c : Int) else 0) := by
    rw [Int32.toInt_add, hr, nI_toInt (by omega)]
    by_cases q : 0 ≤ x.toInt ∨ (c : Int) ∣ x.toInt
    · rw [if_pos q, if_pos q]
      exact (Int.bmod_eq_of_le (by omega) (by omega)).trans (by omega)
    · rw [if_neg q, if_neg q]
      exact (Int.bmod_eq_of_le (by omega) (by omega)).trans (by omega)
  rw [irem_eq_mod, irem_eq_mod]
  refine n_rep2 ?_
  rw [Int32.toInt_mod, nI_toInt (by omega), he]
  by_cases q : 0 ≤ x.toInt ∨ (c : Int) ∣ x.toInt
  · rw [if_pos q, Int.tmod_eq_emod_of_nonneg (by omega), Int.add_emod_right, Int.emod_emod_of_dvd _ (Int.dvd_refl _)]
    omega
  · rw [if_neg q, Int.tmod_eq_emod_of_nonneg (by omega), Int.add_zero, Int.emod_emod_of_dvd _ (Int.dvd_refl _)]
    omega
theorem nx_one {l : List Nat} (h : l.length < 2) (b s : Nat) : nx l b s = s := by
  unfold nx
  match l, h with
  | [], _ => rfl
  | [a], _ =>
    split
    · rename_i q
      rw [List.mem_singleton] at q
      rw [q, show [a].length = 1 from rfl, Nat.mod_one]
      rfl
    · rfl
/-- the model's town: its streets, names, rounds -/
def RW (s : ab_S) (n : Nat) (nm : Nat → Nat) (nr : Nat) (z : Nat → Nat) (st : Nat → Nat → Nat) (bm : Nat) (by' : Nat → Int32) : Prop :=
  sa s 8 1 = nI n ∧ n ≤ 20 ∧ (∀ k, k < n → sa s 8 (11 + k) = nI (nm k)) ∧ (∀ k, k < n → nm k < n) ∧ sa s 8 2 = nI nr ∧ nr ≤ 4 ∧ (∀ r, r < nr → sa s 8 (32 + r) = nI (z r)) ∧ (∀ r, r < nr → z r ≤ 20) ∧ (∀ r, r < nr → ∀ k, k < z r → sa s 8 (36 + 20 * r + k) = nI (st r k)) ∧ (∀ r, r < nr → ∀ k, k < z r → st r k < n) ∧ (∀ r, r < nr → ∀ a b, a < z r → b < z r → st r a = st r b → a = b) ∧ sa s 8 31 = nI bm ∧ bm < 2 ^ 20 ∧ (∀ r, r < nr → sa s 8 (7 + r) = by' r) ∧ (∀ r, r < nr → -100 ≤ (by' r).toInt ∧ (by' r).toInt ≤ 100)
theorem RW.same {s s' : ab_S} {n : Nat} {nm : Nat → Nat} {nr : Nat} {z : Nat → Nat} {st : Nat → Nat → Nat} {bm : Nat} {by' : Nat → Int32} (h : RW s n nm nr z st bm by') (h1 : sa s' 8 = sa s 8) : RW s' n nm nr z st bm by' := by
  unfold RW at h ⊢
  rw [h1]
  exact h
section RBS
variable {X : (Nat → Int32) × Nat} {d n : Nat} {s : ab_S}
theorem r267 (h : sa s 8 1 = nI n) : ab_ev X d 267 [.inr (9, 0)] s = some (.inl (some (.inl (.int (nI n)))), s) := by rw [b267, h]
theorem r232 {a b c : Int64} : ab_ev X d 232 [.inl (.long a), .inl (.long b), .inl (.long c)] s = some (.inl (some (.inl (.int (if inR a.toInt b.toInt c.toInt = true then nI 1 else nI 0)))), s) := by
  rw [b232]
  by_cases h : lg_cmp a b < nI 0
  · have h1 := (j_lt _ _).mp h
    rw [if_pos h, if_neg (fun q => by have := (inR_iff.mp q).1; omega)]
  · have h1 := mt (j_lt _ _).mpr h
    rw [if_neg h]
    by_cases h2 : nI 0 < lg_cmp a c
    · have h3 := (j_gt _ _).mp h2
      rw [if_pos h2, if_neg (fun q => by have := (inR_iff.mp q).2; omega)]
    · have h3 := mt (j_gt _ _).mpr h2
      rw [if_neg h2, if_pos (inR_iff.mpr ⟨by omega, by omega⟩)]
theorem j_of (x : Int32) : x.toInt64.toInt = x.toInt := Int32.toInt_toInt64 x
theorem n_pred {n : Nat} (h : n < 2 ^ 31) : (nI n - nI 1).toInt = (n : Int) - 1 := by
  rw [Int32.toInt_sub, nI_toInt h, nI_toInt (by decide)]
  exact Int.bmod_eq_of_le (by omega) (by omega)
theorem inR_S {x : Int32} {n : Nat} : inR x.toInt 0 ((n : Int) - 1) = inS x n := by
  rw [Bool.eq_iff_iff, inR_iff, inS_def]
  omega
theorem r_bit {b : Bool} {s' : ab_S} {y : ab_R} : (if (if b = true then nI 1 else nI 0) = nI 0 then some (.inl (some (.inl (.int (nI 0)))), s') else if (if b = true then nI 1 else nI 0) = nI 1 then some (.inl (some (.inl (.int (nI 1)))), s') else y) = some (.inl (some (.inl (.int (if b = true then nI 1 else nI 0)))), s') := by
  cases b
  · rfl
  · rfl
theorem r266L {y : Int64} (h : sa s 8 1 = nI n) (hn : n < 2 ^ 31) : ab_ev X (d + 1) 266 [.inr (9, 0), .inl (.long y)] s = some (.inl (some (.inl (.int (if inR y.toInt 0 ((n : Int) - 1) = true then nI 1 else nI 0)))), s) := by
  rw [b266, r267 h, e_bI, r232, e_bI, j_of, n_pred hn, show (lN 0).toInt = 0 by decide]
  exact r_bit
theorem r266 {x : Int32} (h : sa s 8 1 = nI n) (hn : n < 2 ^ 31) : ab_ev X (d + 1) 266 [.inr (9, 0), .inl (.long x.toInt64)] s = some (.inl (some (.inl (.int (if inS x n = true then nI 1 else nI 0)))), s) := by
  rw [r266L h hn, j_of, inR_S]
theorem r274 {x : Int32} (h : sa s 8 2 = nI n) (hn : n < 2 ^ 31) : ab_ev X (d + 1) 274 [.inr (9, 0), .inl (.int x)] s = some (.inl (some (.inl (.int (if inS x n = true then nI 1 else nI 0)))), s) := by
  rw [b274, r232, e_bI, h, j_of, j_of, n_pred hn, show (lN 0).toInt = 0 by decide, inR_S]
  exact r_bit
theorem r276 {x : Int32} (h : sa s 8 3 = nI n) (hn : n < 2 ^ 31) : ab_ev X (d + 1) 276 [.inr (9, 0), .inl (.int x)] s = some (.inl (some (.inl (.int (if inS x n = true then nI 1 else nI 0)))), s) := by
  rw [b276, r232, e_bI, h, j_of, j_of, n_pred hn, show (lN 0).toInt = 0 by decide, inR_S]
  exact r_bit
theorem r281 {x : Int32} (h : sa s 8 4 = nI n) (hn : n < 2 ^ 31) : ab_ev X (d + 1) 281 [.inr (9, 0), .inl (.int x)] s = some (.inl (some (.inl (.int (if inR x.toInt 1 n = true then nI 1 else nI 0)))), s) := by
  rw [b281, r232, e_bI, h, j_of, j_of, nI_toInt hn, show (lN 1).toInt = 1 by decide]
  exact r_bit
theorem r282 {x : Int32} : ab_ev X (d + 1) 282 [.inl (.int x)] s = some (.inl (some (.inl (.int (if inR x.toInt (-9999) 9999 = true then nI 1 else nI 0)))), s) := by
  rw [b282, r232, e_bI, j_of, show (-lN 9999).toInt = -9999 by decide, show (lN 9999).toInt = 9999 by decide]
  exact r_bit
theorem r270 {M l : Nat} (hM : M < 2 ^ 31) (hl : l < 32) : ab_ev X d 270 [.inl (.int (nI M)), .inl (.int (nI l))] s = some (.inl (some (.inl (.int (if M.testBit l = true then nI 1 else nI 0)))), s) := by
  rw [b270, n_shr1 hM hl]
  cases M.testBit l
  · rfl
  · rfl
theorem r_in {j N : Nat} {y w : ab_R} (h : j < N) (hN : N < 2 ^ 31) : (if nI j < nI 0 ∨ N ≤ (nI j).toNatClampNeg then y else w) = w := if_neg (n_in h hN)
theorem l271 {f : Nat → Nat} (h20 : n ≤ 20) (h2 : ∀ k, k < n → sa s 13 k = nI (f k)) (hf : ∀ k, k < n → f k < n) (hi : ∀ a b, a < n → b < n → f a = f b → a = b) {t : Nat} (ht : t < n) : ∀ (j m : Nat), m + j = cyc f n t → 0 < m → ab_at X d 271 9 [some (.inr (9, 0)), some (.inl (.int (nI t))), some (.inl (.int (nI m))), some (.inl (.int (nI (it f m t))))] [] s = some (.inl (some (.inl (.int (nI (cyc f n t))))), s)
  | 0, m, e, h0 => by
    obtain rfl : m = cyc f n t := by omega
    rw [b271_9, cyc_it hf hi ht, if_pos rfl]
  | j + 1, m, e, h0 => by
    have c0 := it_lt hf m ht
    have c1 := cyc_no (f := f) (n := n) (s := t) h0 (by omega)
    rw [b271_9, if_neg (fun q => c1 ((nI_eq (by omega) (by omega)).mp q)), r_in (by omega) (by decide), nI_clamp (by omega), h2 _ c0, nI_add]
    exact l271 h20 h2 hf hi ht j (m + 1) (by omega) (by omega)
theorem r271 {f : Nat → Nat} (h20 : n ≤ 20) (h2 : ∀ k, k < n → sa s 13 k = nI (f k)) (hf : ∀ k, k < n → f k < n) (hi : ∀ a b, a < n → b < n → f a = f b → a = b) {t : Nat} (ht : t < n) : ab_ev X d 271 [.inr (9, 0), .inl (.int (nI t))] s = some (.inl (some (.inl (.int (nI (cyc f n t))))), s) := by
  have c3 := cyc_pos f n t
  rw [b271, r_in (by omega) (by decide), nI_clamp (by omega), h2 _ ht]
  exact l271 h20 h2 hf hi ht (cyc f n t - 1) 1 (by omega) (by omega)
theorem l285 {f : Nat → Nat} {x1 x2 x3 : Int32} (h20 : n ≤ 20) (h2 : ∀ k, k < n → sa s 13 k = nI (f k)) (hf : ∀ k, k < n → f k < n) {t m : Nat} (ht : t < n) (hm : m < 2 ^ 30) : ∀ (j k : Nat), k + j = m → ab_at X (d + 1) 285 18 [some (.inr (9, 0)), some (.inl (.int x1)), some (.inl (.int x2)), some (.inl (.int x3)), some (.inl (.int (nI (it f k t)))), some (.inl (.int (nI j)))] [] s = some (.inl (some (.inl (.int (nI (it f m t))))), s)
  | 0, k, e => by
    obtain rfl : k = m := by omega
    rw [b285_18, if_pos (nI_le (Nat.le_refl _) (by omega))]
  | j + 1, k, e => by
    have c0 := it_lt hf k ht
    rw [b285_18, if_neg (nI_ge (by omega) (by omega)), r_in (by omega) (by decide), nI_clamp (by omega), h2 _ c0, ← Int32.sub_eq_add_neg, pk_sub (by omega)]
    exact l285 h20 h2 hf ht hm j (k + 1) (by omega)
theorem r285 {f : Nat → Nat} {x : Int32} (h20 : n ≤ 20) (h2 : ∀ k, k < n → sa s 13 k = nI (f k)) (hf : ∀ k, k < n → f k < n) (hi : ∀ a b, a < n → b < n → f a = f b → a = b) {t : Nat} (ht : t < n) : ab_ev X (d + 1) 285 [.inr (9, 0), .inl (.int (nI t)), .inl (.int x)] s = some (.inl (some (.inl (.int (nI (ah f n t x.toInt))))), s) := by
  have c3 := cyc_pos f n t
  have c4 := cyc_le hf hi ht
  have c5 := Int.emod_lt_of_pos x.toInt (show (0 : Int) < (cyc f n t : Int) by omega)
  rw [b285, r271 h20 h2 hf hi ht, e_bI, if_neg (show ¬ nI (cyc f n t) = nI 0 from nI_ne0 c3 (by omega)), if_neg (show ¬ nI (cyc f n t) = nI 0 from nI_ne0 c3 (by omega)), r_fm c3 (by omega)]
  exact l285 h20 h2 hf ht (by omega) _ 0 (by omega)
end RBS
