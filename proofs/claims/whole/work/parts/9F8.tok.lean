/-! The class' tokens. -/
/-- which word the text from p to q is, or else -/
def tokW (T : Nat → Int32) (p q e : Nat) : Nat := if fst (fun x => eqB T p q (ab_tx x)) 33 < 33 then fst (fun x => eqB T p q (ab_tx x)) 33 else e
/-- past what is of no account -/
def skp (T : Nat → Int32) (L p : Nat) : Nat := p + fst (fun i => !(decide (T (p + i) = nI 32) || decide (T (p + i) = nI 10))) (L - p)
/-- past what lies between -/
def rng (lo hi : Int32) (T : Nat → Int32) (L p : Nat) : Nat := p + fst (fun i => decide (T (p + i) < lo) || decide (hi < T (p + i))) (L - p)
/-- a number's value -/
def vlI (T : Nat → Int32) (p : Nat) : Nat → Int32
  | 0 => nI 0
  | k + 1 => vlI T p k * nI 10 + T (p + k) - nI 48
theorem fst_at {P : Nat → Bool} {n c : Nat} (h : ∀ i, i < c → P i = false) (hc : c < n) : fst P n = if P c = true then c else fst P n := by
  by_cases q : P c = true
  · rw [if_pos q]
    exact fst_eq hc q h
  · rw [if_neg q]
theorem tx_lt : ∀ x, x < 33 → ab_tx x < 32 := by decide +kernel
section TOK
variable {X : (Nat → Int32) × Nat} {d p q L : Nat} {s : ab_S}
theorem l45a {e : Nat} (h5 : sz s 5 = nI p) (h6 : sz s 6 = nI q) (hq : q ≤ 900) (hp : p ≤ q) : ∀ (j x : Nat) (u3 u4 : Option ab_V), x + j = 33 → (∀ i, i < x → eqB (sa s 0) p q (ab_tx i) = false) → ab_at X (d + 4) 45 2 [some (.inr (1, 0)), some (.inr (10, e)), some (.inl (.int (nI x))), u3, u4] [] s = some (.inl (some (.inr (10, tokW (sa s 0) p q e))), s)
  | 0, x, u3, u4, ex, h => by
    obtain rfl : x = 33 := by omega
    have e1 : fst (fun x => eqB (sa s 0) p q (ab_tx x)) 33 = 33 := fst_eqn h
    rw [b45_2, if_pos (nI_le (Nat.le_refl _) (by omega))]
    unfold tokW
    rw [e1, if_neg (by omega)]
  | j + 1, x, u3, u4, ex, h => by
    obtain ⟨x4, g⟩ := l45 (X := X) (d := d) (i := ab_tx x) (i1 := e) (x2 := x) (tx_lt x (by omega)) h5 h6 hq hp (by omega) (ab_sl (ab_tx x)) 0 (by omega) (by omega) (fun k hk => absurd hk (by omega))
    rw [b45_2, if_neg (nI_ge (by omega) (by omega)), r_in (j := x) (by omega) (by decide), nI_clamp (by omega), g]
    by_cases z : eqB (sa s 0) p q (ab_tx x) = true
    · have e1 : fst (fun x => eqB (sa s 0) p q (ab_tx x)) 33 = x := fst_eq (by omega) z h
      rw [if_pos z]
      unfold tokW
      rw [e1, if_pos (by omega)]
    · rw [if_neg z]
      exact l45a h5 h6 hq hp j (x + 1) _ _ (by omega) (fun i hi => by
        by_cases w : i = x
        · rw [w]
          cases v : eqB (sa s 0) p q (ab_tx x) with
          | false => rfl
          | true => exact absurd v z
        · exact h i (by omega))
theorem c_45 {e : Nat} (h5 : sz s 5 = nI p) (h6 : sz s 6 = nI q) (hq : q ≤ 900) (hp : p ≤ q) : ab_ev X (d + 4) 45 [.inr (1, 0), .inr (10, e)] s = some (.inl (some (.inr (10, tokW (sa s 0) p q e))), s) := by
  rw [b45]
  exact l45a h5 h6 hq hp 33 0 none none (by omega) (fun i hi => absurd hi (by omega))
theorem l44 {lo hi : Int32} (h4 : sz s 4 = nI L) (hL : L ≤ 900) : ∀ (j c : Nat), p + c + j = L → (∀ i, i < c → (decide (sa s 0 (p + i) < lo) || decide (hi < sa s 0 (p + i))) = false) → ab_at X d 44 5 [some (.inr (1, 0)), some (.inl (.int lo)), some (.inl (.int hi)), some (.inl (.int (nI (p + c))))] [] s = some (.inl (some (.inl (.int (nI (rng lo hi (sa s 0) L p))))), s)
  | 0, c, e, h => by
    have e1 : fst (fun i => decide (sa s 0 (p + i) < lo) || decide (hi < sa s 0 (p + i))) (L - p) = c := by
      rw [show L - p = c by omega]
      exact fst_eqn h
    rw [b44_5, h4, if_pos (nI_le (by omega) (by omega))]
    unfold rng
    rw [e1]
  | j + 1, c, e, h => by
    rw [b44_5, h4, if_neg (nI_ge (by omega) (by omega)), if_neg (nI_ge (by omega) (by omega)), r_in (j := p + c) (by omega) (by decide), r_in (j := p + c) (by omega) (by decide), nI_clamp (by omega), nI_add]
    by_cases z : (decide (sa s 0 (p + c) < lo) || decide (hi < sa s 0 (p + c))) = true
    · have e1 : fst (fun i => decide (sa s 0 (p + i) < lo) || decide (hi < sa s 0 (p + i))) (L - p) = c := fst_eq (by omega) z h
      have e2 : rng lo hi (sa s 0) L p = p + c := by
        unfold rng
        rw [e1]
      rw [e2]
      rcases Bool.or_eq_true_iff.mp z with w | w
      · rw [if_pos (of_decide_eq_true w)]
      · by_cases v : sa s 0 (p + c) < lo
        · rw [if_pos v]
        · rw [if_neg v, if_pos (of_decide_eq_true w)]
    · have z' : (decide (sa s 0 (p + c) < lo) || decide (hi < sa s 0 (p + c))) = false := by
        cases w : (decide (sa s 0 (p + c) < lo) || decide (hi < sa s 0 (p + c))) with
        | false => rfl
        | true => exact absurd w z
      have w := Bool.or_eq_false_iff.mp z'
      rw [if_neg (of_decide_eq_false w.1), if_neg (of_decide_eq_false w.2)]
      exact l44 h4 hL j (c + 1) (by omega) (fun i hi2 => by
        by_cases v : i = c
        · rw [v]
          exact z'
        · exact h i (by omega))
theorem c_44 {lo hi : Int32} (h4 : sz s 4 = nI L) (hL : L ≤ 900) (h5 : sz s 5 = nI p) (hp : p ≤ L) : ab_ev X d 44 [.inr (1, 0), .inl (.int lo), .inl (.int hi)] s = some (.inl (some (.inl (.int (nI (rng lo hi (sa s 0) L p))))), s) := by
  rw [b44, h5]
  exact l44 h4 hL (L - p) 0 (by omega) (fun i hi => absurd hi (by omega))
theorem rng_le {lo hi : Int32} {T : Nat → Int32} (h : p ≤ L) : p ≤ rng lo hi T L p ∧ rng lo hi T L p ≤ L := by
  unfold rng
  have := fst_le (fun i => decide (T (p + i) < lo) || decide (hi < T (p + i))) (L - p)
  omega
theorem l53 (h5 : sz s 5 = nI p) (h6 : sz s 6 = nI q) (hq : q ≤ 900) (hp : p ≤ q) : ∀ (j c : Nat), c + j = min 3 (q - p) → ab_at X d 53 7 [some (.inr (1, 0)), some (.inl (.int (vlI (sa s 0) p c))), some (.inl (.int (nI (p + c))))] [] s = some (.inl (some (.inl (.int (vlI (sa s 0) p (min 3 (q - p)))))), s)
  | 0, c, e => by
    have e1 : c = min 3 (q - p) := by omega
    rw [b53_7, h6, h5, nI_add]
    by_cases z : q ≤ p + c
    · rw [if_pos (nI_le z (by omega)), e1]
    · rw [if_neg (nI_ge (by omega) (by omega)), if_pos (nI_le (by omega) (by omega)), e1]
  | j + 1, c, e => by
    rw [b53_7, h6, h5, nI_add, if_neg (nI_ge (by omega) (by omega)), if_neg (nI_ge (by omega) (by omega)), if_neg (nI_ge (by omega) (by omega)), r_in (j := p + c) (by omega) (by decide), nI_clamp (by omega), nI_add]
    exact l53 h5 h6 hq hp j (c + 1) (by omega)
theorem c_53 (h5 : sz s 5 = nI p) (h6 : sz s 6 = nI q) (hq : q ≤ 900) (hp : p ≤ q) : ab_ev X d 53 [.inr (1, 0)] s = some (.inl (some (.inl (.int (vlI (sa s 0) p (min 3 (q - p)))))), s) := by
  rw [b53, h5]
  exact l53 h5 h6 hq hp _ 0 (Nat.zero_add _)
theorem l43 (h4 : sz s 4 = nI L) (hL : L ≤ 900) {p0 : Nat} (hp0 : p0 ≤ L) : ∀ (j c : Nat), p0 + c + j = L → (∀ i, i < c → (!(decide (sa s 0 (p0 + i) = nI 32) || decide (sa s 0 (p0 + i) = nI 10))) = false) → ab_at X (d + 1) 43 8 [some (.inr (1, 0)), none, none] [] (pz s 6 (nI (p0 + c))) = ab_at X (d + 1) 43 72 [some (.inr (1, 0)), none, none] [] (pz s 6 (nI (skp (sa s 0) L p0)))
  | 0, c, e, h => by
    have e1 : fst (fun i => !(decide (sa s 0 (p0 + i) = nI 32) || decide (sa s 0 (p0 + i) = nI 10))) (L - p0) = c := by
      rw [show L - p0 = c by omega]
      exact fst_eqn h
    have e2 : skp (sa s 0) L p0 = p0 + c := by
      unfold skp
      rw [e1]
    rw [e2, b43_8]
    simp (disch := omega) only [E0]
    rw [h4, if_pos (nI_le (by omega) (by omega))]
  | j + 1, c, e, h => by
    rw [b43_8]
    simp (disch := omega) only [E0]
    rw [h4, if_neg (nI_ge (by omega) (by omega)), if_neg (nI_ge (by omega) (by omega)), r_in (j := p0 + c) (by omega) (by decide), r_in (j := p0 + c) (by omega) (by decide), nI_clamp (by omega), b43_59]
    simp (disch := omega) only [E0, E1]
    rw [nI_add]
    by_cases z : (!(decide (sa s 0 (p0 + c) = nI 32) || decide (sa s 0 (p0 + c) = nI 10))) = true
    · have e1 : fst (fun i => !(decide (sa s 0 (p0 + i) = nI 32) || decide (sa s 0 (p0 + i) = nI 10))) (L - p0) = c := fst_eq (by omega) z h
      have e2 : skp (sa s 0) L p0 = p0 + c := by
        unfold skp
        rw [e1]
      have w : (decide (sa s 0 (p0 + c) = nI 32) || decide (sa s 0 (p0 + c) = nI 10)) = false := by
        cases v : (decide (sa s 0 (p0 + c) = nI 32) || decide (sa s 0 (p0 + c) = nI 10)) with
        | false => rfl
        | true =>
          rw [v] at z
          cases z
      have w2 := Bool.or_eq_false_iff.mp w
      rw [e2, if_neg (of_decide_eq_false w2.1), if_neg (of_decide_eq_false w2.2)]
    · have z' : (!(decide (sa s 0 (p0 + c) = nI 32) || decide (sa s 0 (p0 + c) = nI 10))) = false := by
        cases w : (!(decide (sa s 0 (p0 + c) = nI 32) || decide (sa s 0 (p0 + c) = nI 10))) with
        | false => rfl
        | true => exact absurd w z
      have ih := l43 h4 hL hp0 j (c + 1) (by omega) (fun i hi => by
        by_cases v : i = c
        · rw [v]
          exact z'
        · exact h i (by omega))
      by_cases v : sa s 0 (p0 + c) = nI 32
      · rw [if_pos v]
        exact ih
      · by_cases v2 : sa s 0 (p0 + c) = nI 10
        · rw [if_neg v, if_pos v2]
          exact ih
        · rw [decide_eq_false v, decide_eq_false v2] at z'
          cases z'
theorem skp_le {T : Nat → Int32} (h : p ≤ L) : p ≤ skp T L p ∧ skp T L p ≤ L := by
  unfold skp
  have := fst_le (fun i => !(decide (T (p + i) = nI 32) || decide (T (p + i) = nI 10))) (L - p)
  omega
end TOK
