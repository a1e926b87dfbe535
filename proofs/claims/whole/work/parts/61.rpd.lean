/-! The model's periods. -/
theorem n_div {a b : Nat} (ha : a < 2 ^ 31) (hb : b < 2 ^ 31) : nI a / nI b = nI (a / b) := by
  have h : a / b ≤ a := Nat.div_le_self _ _
  refine n_rep2 ?_
  rw [Int32.toInt_div, nI_toInt ha, nI_toInt hb, Int.tdiv_eq_ediv_of_nonneg (by omega)]
  have e : (a : Int) / (b : Int) = ((a / b : Nat) : Int) := (Int.natCast_ediv a b).symm
  rw [e]
  obtain ⟨q, hq⟩ : ∃ q, q = a / b := ⟨_, rfl⟩
  rw [← hq] at h ⊢
  exact Int.bmod_eq_of_le (by omega) (by omega)
section RPD
variable {X : (Nat → Int32) × Nat} {d n nr bm : Nat} {s : ab_S} {nm z : Nat → Nat} {st : Nat → Nat → Nat} {by' : Nat → Int32}
theorem r321 : ∀ (b : Nat) {a d : Nat}, a < 2 ^ 31 → b < 2 ^ 31 → ab_ev X (d + b + 1) 321 [.inl (.int (nI a)), .inl (.int (nI b))] s = some (.inl (some (.inl (.int (nI (Nat.gcd a b))))), s) := by
  intro b
  induction b using Nat.strongRecOn with
  | ind b ih =>
    intro a d ha hb
    rw [b321]
    by_cases h0 : b = 0
    · subst h0
      rw [if_pos rfl, Nat.gcd_zero_right]
    · have hm := Nat.mod_lt a (show 0 < b by omega)
      have e : nI a - nI a / nI b * nI b = nI (a % b) := n_rem ha (by omega) hb
      rw [if_neg (show ¬ nI b = nI 0 from nI_ne0 (by omega) hb), if_neg (show ¬ nI b = nI 0 from nI_ne0 (by omega) hb), e]
      have g := ih (a % b) hm (a := b) (d := d + b - (a % b) - 1) hb (by omega)
      rw [show d + b - (a % b) - 1 + a % b + 1 = d + b by omega] at g
      rw [g, e_bI, Nat.gcd_comm a b, Nat.gcd_rec b a, Nat.gcd_comm b (a % b)]
theorem l320 {f : Nat → Nat} (h : RW s n nm nr z st bm by') (h2 : ∀ k, k < n → sa s 13 k = nI (f k)) (hf : ∀ k, k < n → f k < n) (hi : ∀ a b, a < n → b < n → f a = f b → a = b) : ∀ (j k : Nat), k + j = n → ab_at X (d + 23) 320 8 [some (.inr (9, 0)), some (.inl (.int (nI (pr f n k)))), some (.inl (.int (nI k)))] [] s = some (.inl (some (.inl (.int (nI (pr f n n))))), s)
  | 0, k, e => by
    have hn := h.2.1
    obtain rfl : k = n := by omega
    rw [b320_8, r267 h.1, e_bI, if_pos (nI_le (Nat.le_refl _) (by omega))]
  | j + 1, k, e => by
    have hn := h.2.1
    have hk : k < n := by omega
    obtain ⟨a1, a2⟩ := pr_L hn hf hi k (by omega)
    have a3 := Nat.le_of_dvd (by omega) a1
    have c1 := cyc_le hf hi hk
    have c2 := cyc_pos f n k
    have hg := Nat.gcd_pos_of_pos_left (cyc f n k) a2
    have hg2 := Nat.le_of_dvd a2 (Nat.gcd_dvd_left (pr f n k) (cyc f n k))
    have g := r321 (X := X) (s := s) (cyc f n k) (a := pr f n k) (d := d + 21 - cyc f n k) (by omega) (by omega)
    rw [show d + 21 - cyc f n k + cyc f n k + 1 = d + 22 by omega] at g
    have hl : pr f n k / Nat.gcd (pr f n k) (cyc f n k) * cyc f n k = pr f n (k + 1) := by
      rw [pr, Nat.lcm, Nat.div_mul_right_comm (Nat.gcd_dvd_left _ _)]
    rw [b320_8, r267 h.1, e_bI, if_neg (nI_ge hk (by omega)), r271 hn h2 hf hi hk, e_bI, g, e_bI, if_neg (show ¬ nI _ = nI 0 from nI_ne0 hg (by omega)), r271 hn h2 hf hi hk, e_bI, n_div (by omega) (by omega), pk_mul, hl, nI_add]
    exact l320 h h2 hf hi j (k + 1) (by omega)
/-- the model's period, the signs' next laid -/
theorem r320 (h : RW s n nm nr z st bm by') : ∃ s2 : ab_S, ab_ev X (d + 23) 320 [.inr (9, 0)] s = some (.inl (some (.inl (.int (nI (pr (to_ nr z st bm by') n n))))), s2) ∧ sR s s2 ∧ sz s2 11 = sz s 11 ∧ sz s2 23 = sz s 23 ∧ ∀ q, q < n → sa s2 13 q = nI (to_ nr z st bm by' q) := by
  obtain ⟨s2, a1, a2, a3, a4, a5⟩ := r268 (X := X) (d := d + 20) h
  refine ⟨s2, ?_, a2, a3, a4, a5⟩
  rw [b320, a1, e_bU]
  exact l320 (h.same a2.known) a5 h.to_lt h.to_inj n 0 (by omega)
end RPD
