/-! Counting in the model. -/
theorem low_bit : ∀ (N M : Nat), M < N → M ≠ 0 → ∃ t, M.testBit t = true ∧ ∀ j, (M &&& (M - 1)).testBit j = (if j = t then false else M.testBit j)
  | 0, M, h, _ => by omega
  | N + 1, M, h, h0 => by
    by_cases hodd : M % 2 = 1
    · refine ⟨0, by rw [Nat.testBit_zero, hodd]; rfl, fun j => ?_⟩
      rw [Nat.testBit_and]
      cases j with
      | zero =>
        rw [if_pos rfl, Nat.testBit_zero (x := M - 1), show (M - 1) % 2 = 0 by omega]
        exact Bool.and_false _
      | succ j =>
        rw [if_neg (by omega), Nat.testBit_succ, Nat.testBit_succ, show (M - 1) / 2 = M / 2 by omega, Bool.and_self]
    · obtain ⟨t, a, b⟩ := low_bit N (M / 2) (by omega) (by omega)
      refine ⟨t + 1, by rw [Nat.testBit_succ]; exact a, fun j => ?_⟩
      cases j with
      | zero =>
        rw [if_neg (by omega), Nat.testBit_and, Nat.testBit_zero, show M % 2 = 0 by omega]
        rfl
      | succ j =>
        have b2 := b j
        rw [Nat.testBit_and] at b2
        rw [Nat.testBit_and, Nat.testBit_succ, Nat.testBit_succ, show (M - 1) / 2 = M / 2 - 1 by omega, b2]
        by_cases q : j = t
        · rw [if_pos q, if_pos (by omega)]
        · rw [if_neg q, if_neg (by omega)]
theorem low_ct {M N : Nat} (h : M < 2 ^ N) (h0 : M ≠ 0) : fb_ct (fun j => (M &&& (M - 1)).testBit j) N + 1 = fb_ct (fun j => M.testBit j) N := by
  obtain ⟨t, a, b⟩ := low_bit (M + 1) M (by omega) h0
  have ht : t < N := by
    rcases Nat.lt_or_ge t N with q | q
    · exact q
    · rw [Nat.testBit_lt_two_pow (Nat.lt_of_lt_of_le h (Nat.pow_le_pow_right (by decide) q))] at a
      cases a
  have g := fb_ct_upd (fun j => M.testBit j) false ht
  rw [fb_ct_cong (q := fun k => if k = t then false else M.testBit k) (fun k _ => b k)]
  rw [if_pos a, if_neg (show ¬ false = true by decide)] at g
  omega
theorem ct_bs (P : Nat → Bool) {n N : Nat} (h : n ≤ N) : fb_ct (fun j => (bs P n).testBit j) N = fb_ct P n := by
  obtain ⟨m, rfl⟩ : ∃ m, N = n + m := ⟨N - n, by omega⟩
  have a : fb_ct (fun j => (bs P n).testBit j) n = fb_ct P n := fb_ct_cong (fun k hk => by rw [bs_bit, decide_eq_true hk, Bool.true_and])
  have b : fb_ct (fun k => (bs P n).testBit (n + k)) m = 0 := fb_ct_zero.mpr (fun k hk => by rw [bs_bit, decide_eq_false (by omega), Bool.false_and])
  rw [fb_ct_split, a, b, Nat.add_zero]
section RWR
variable {X : (Nat → Int32) × Nat} {d n nr bm : Nat} {s : ab_S} {nm z : Nat → Nat} {st : Nat → Nat → Nat} {by' : Nat → Int32}
theorem l293 {x0 : Int32} : ∀ (j c M : Nat), M < 2 ^ 31 → fb_ct (fun j => M.testBit j) 31 = j → ab_at X d 293 4 [some (.inl (.int x0)), some (.inl (.int (nI c))), some (.inl (.int (nI M)))] [] s = some (.inl (some (.inl (.int (nI (c + j))))), s)
  | j, c, M, hM, hj => by
    by_cases h0 : M = 0
    · subst h0
      have e : j = 0 := by
        rw [← hj, fb_ct_zero]
        exact fun k _ => Nat.zero_testBit k
      rw [b293_4, if_pos rfl, e, Nat.add_zero]
    · have hl := low_ct hM h0
      have hle : M &&& (M - 1) ≤ M := Nat.and_le_left
      match j, hj with
      | 0, hj => omega
      | j + 1, hj =>
        rw [b293_4, if_neg (show ¬ nI M = nI 0 from nI_ne0 (by omega) (by omega)), pk_sub (by omega), n_and, nI_add, l293 j (c + 1) (M &&& (M - 1)) (by omega) (by omega), show c + 1 + j = c + (j + 1) by omega]
/-- how many bits -/
theorem r293 {M : Nat} (hM : M < 2 ^ 31) : ab_ev X d 293 [.inl (.int (nI M))] s = some (.inl (some (.inl (.int (nI (fb_ct (fun j => M.testBit j) 31))))), s) := by
  rw [b293, show nI 0 = nI (0 : Nat) from rfl, l293 _ 0 M hM rfl, Nat.zero_add]
theorem hang_ct (h : RW s n nm nr z st bm by') (v : Nat) (hv : v < 2 ^ 31) : fb_ct (fun j => (bs (fun q => decide (nI (nm q) = nI v)) n).testBit j) 31 = ct nm n v := by
  have hn := h.2.1
  rw [ct_bs _ (by omega)]
  refine fb_ct_cong (fun k hk => ?_)
  have h3 := h.2.2.2.1 k hk
  rw [Bool.eq_iff_iff, decide_eq_true_iff, beq_iff_eq]
  exact nI_eq (by omega) hv
/-- on how many streets a name hangs -/
theorem r_hc (h : RW s n nm nr z st bm by') {v : Nat} (hv : v < 2 ^ 31) {f : Int32 → ab_S → ab_R} {e : Nat → ab_S → ab_R} {f' : Nat → ab_S → ab_R} : ab_bI (ab_ev X (d + 1) 278 [.inr (9, 0), .inl (.int (nI v))] s) (fun r s1 => ab_bI (ab_ev X (d + 1) 293 [.inl (.int r)] s1) f f') e = f (nI (ct nm n v)) s := by
  have hn := h.2.1
  rw [r278 h, e_bI, r293 (bs_lt20 _ (by omega)), e_bI, hang_ct h v hv]
theorem l292 (h : RW s n nm nr z st bm by') : ∀ (j k : Nat), k + j = n → ab_at X (d + 2) 292 4 [some (.inr (9, 0)), some (.inl (.int (nI (fb_ct (fun q => decide (1 < ct nm n (nm q))) k)))), some (.inl (.int (nI k)))] [] s = some (.inl (some (.inl (.int (nI (wrg nm n))))), s)
  | 0, k, e => by
    have hn := h.2.1
    obtain rfl : k = n := by omega
    rw [b292_4, r267 h.1, e_bI, if_pos (nI_le (Nat.le_refl _) (by omega))]
    rfl
  | j + 1, k, e => by
    have hn := h.2.1
    have hk : k < n := by omega
    have h3 := h.2.2.2.1 k hk
    have hc : ct nm n (nm k) ≤ n := fb_ct_le _ _
    rw [b292_4, r267 h.1, e_bI, if_neg (nI_ge hk (by omega)), nI_add, r_in (by omega) (by decide), nI_clamp (by omega), h.2.2.1 _ hk, r_hc h (by omega), nI_add, nI_add, nI_add]
    have g := l292 h j (k + 1) (by omega)
    rw [fb_ct_succ] at g
    by_cases q : 1 < ct nm n (nm k)
    · rw [if_neg (nI_ge q (by omega)), ← g, decide_eq_true q, if_pos rfl]
    · rw [if_pos (nI_le (by omega) (by omega)), ← g, decide_eq_false q, if_neg (show ¬ false = true by decide)]
/-- wrong streets -/
theorem r292 (h : RW s n nm nr z st bm by') : ab_ev X (d + 2) 292 [.inr (9, 0)] s = some (.inl (some (.inl (.int (nI (wrg nm n))))), s) := by
  rw [b292]
  exact l292 h n 0 (by omega)
theorem l351a {x1 : Int32} (hx : x1 = nI 0) (h : RW s n nm nr z st bm by') : ∀ (j k : Nat), k + j = n → ab_at X (d + 2) 351 4 [some (.inr (9, 0)), some (.inl (.int x1)), some (.inl (.int (nI (bs (fun v => decide (1 < ct nm n v)) k)))), some (.inl (.int (nI k)))] [] s = some (.inl (some (.inl (.int (nI (shd nm n))))), s)
  | 0, k, e => by
    have hn := h.2.1
    obtain rfl : k = n := by omega
    rw [b351_4, r267 h.1, e_bI, if_pos (nI_le (Nat.le_refl _) (by omega))]
    rfl
  | j + 1, k, e => by
    have hn := h.2.1
    have hk : k < n := by omega
    have hc : ct nm n k ≤ n := fb_ct_le _ _
    have g := l351a hx h j (k + 1) (by omega)
    rw [b351_4, r267 h.1, e_bI, if_neg (nI_ge hk (by omega)), if_pos hx, r_hc h (by omega), n_sh _ (by omega), n_or, n_or, nI_add, Nat.or_zero]
    rw [bs] at g
    by_cases q : 1 < ct nm n k
    · rw [if_neg (nI_ge q (by omega)), ← g, decide_eq_true q, if_pos rfl]
    · rw [if_pos (nI_le (by omega) (by omega)), ← g, decide_eq_false q, if_neg (show ¬ false = true by decide)]
theorem l351b {x1 : Int32} (hx : x1 = nI 1) (h : RW s n nm nr z st bm by') : ∀ (j k : Nat), k + j = n → ab_at X (d + 2) 351 4 [some (.inr (9, 0)), some (.inl (.int x1)), some (.inl (.int (nI (bs (fun v => ct nm n v == 0) k)))), some (.inl (.int (nI k)))] [] s = some (.inl (some (.inl (.int (nI (lst nm n))))), s)
  | 0, k, e => by
    have hn := h.2.1
    obtain rfl : k = n := by omega
    rw [b351_4, r267 h.1, e_bI, if_pos (nI_le (Nat.le_refl _) (by omega))]
    rfl
  | j + 1, k, e => by
    have hn := h.2.1
    have hk : k < n := by omega
    have hc : ct nm n k ≤ n := fb_ct_le _ _
    have g := l351b hx h j (k + 1) (by omega)
    rw [b351_4, r267 h.1, e_bI, if_neg (nI_ge hk (by omega)), if_neg (show ¬ x1 = nI 0 by rw [hx]; decide), r_hc h (by omega), n_sh _ (by omega), n_or, n_or, nI_add, Nat.or_zero]
    rw [bs] at g
    by_cases q : ct nm n k = 0
    · rw [if_pos (show nI (ct nm n k) = nI 0 by rw [q]), ← g, if_pos (show (ct nm n k == 0) = true by rw [q]; rfl)]
    · rw [if_neg (show ¬ nI (ct nm n k) = nI 0 from nI_ne0 (by omega) (by omega)), ← g, if_neg (show ¬ (ct nm n k == 0) = true by rw [beq_iff_eq]; exact q)]
/-- names that hang twice and more -/
theorem r350 (h : RW s n nm nr z st bm by') : ab_ev X (d + 4) 350 [.inr (9, 0)] s = some (.inl (some (.inl (.int (nI (shd nm n))))), pz s 11 (nI 0)) := by
  have h' : RW (pz s 11 (nI 0)) n nm nr z st bm by' := h.same rfl
  have g := l351a (X := X) (d := d + 1) (x1 := nI 0) rfl h' n 0 (by omega)
  rw [b350, b351]
  have g' : ab_at X (d + 3) 351 4 [some (.inr (9, 0)), some (.inl (.int (nI 0))), some (.inl (.int (nI 0))), some (.inl (.int (nI 0)))] [] (pz s 11 (nI 0)) = _ := g
  rw [g', e_bI]
/-- names that hang nowhere -/
theorem r352 (h : RW s n nm nr z st bm by') : ab_ev X (d + 4) 352 [.inr (9, 0)] s = some (.inl (some (.inl (.int (nI (lst nm n))))), pz s 11 (nI 0)) := by
  have h' : RW (pz s 11 (nI 0)) n nm nr z st bm by' := h.same rfl
  have g := l351b (X := X) (d := d + 1) (x1 := nI 1) rfl h' n 0 (by omega)
  rw [b352, b351]
  have g' : ab_at X (d + 3) 351 4 [some (.inr (9, 0)), some (.inl (.int (nI 1))), some (.inl (.int (nI 0))), some (.inl (.int (nI 0)))] [] (pz s 11 (nI 0)) = _ := g
  rw [g', e_bI]
/-- how many streets are right x nights from now -/
theorem l323 {f : Nat → Nat} {x : Int32} (h : RW s n nm nr z st bm by') (h2 : ∀ k, k < n → sa s 13 k = nI (f k)) (hf : ∀ k, k < n → f k < n) (hi : ∀ a b, a < n → b < n → f a = f b → a = b) : ∀ (j k : Nat), k + j = n → ab_at X (d + 3) 323 4 [some (.inr (9, 0)), some (.inl (.int x)), some (.inl (.int (nI (fb_ct (fun q => nm (ah f n q (-x).toInt) == nm q) k)))), some (.inl (.int (nI k)))] [] s = some (.inl (some (.inl (.int (nI (fb_ct (fun q => nm (ah f n q (-x).toInt) == nm q) n))))), s)
  | 0, k, e => by
    have hn := h.2.1
    obtain rfl : k = n := by omega
    rw [b323_4, r267 h.1, e_bI, if_pos (nI_le (Nat.le_refl _) (by omega))]
  | j + 1, k, e => by
    have hn := h.2.1
    have hk : k < n := by omega
    have c0 := h.2.2.2.1 _ (ah_lt hf hk (-x).toInt)
    have c1 := h.2.2.2.1 k hk
    have g := l323 (x := x) h h2 hf hi j (k + 1) (by omega)
    rw [fb_ct_succ] at g
    rw [b323_4, r267 h.1, e_bI, if_neg (nI_ge hk (by omega)), r284 h h2 hf hi hk, e_bI, nI_add, r_in (by omega) (by decide), nI_clamp (by omega), h.2.2.1 _ hk, nI_add, nI_add, nI_add]
    by_cases q : nm (ah f n k (-x).toInt) = nm k
    · rw [if_pos (show nI (nm (ah f n k (-x).toInt)) = nI (nm k) by rw [q]), ← g, if_pos (beq_iff_eq.mpr q)]
    · rw [if_neg (fun q2 => q ((nI_eq (by omega) (by omega)).mp q2)), ← g, if_neg (fun q2 => q (beq_iff_eq.mp q2))]
theorem r323 {f : Nat → Nat} {x : Int32} (h : RW s n nm nr z st bm by') (h2 : ∀ k, k < n → sa s 13 k = nI (f k)) (hf : ∀ k, k < n → f k < n) (hi : ∀ a b, a < n → b < n → f a = f b → a = b) : ab_ev X (d + 3) 323 [.inr (9, 0), .inl (.int x)] s = some (.inl (some (.inl (.int (nI (fb_ct (fun q => nm (ah f n q (-x).toInt) == nm q) n))))), s) := by
  rw [b323]
  exact l323 h h2 hf hi n 0 (by omega)
end RWR
