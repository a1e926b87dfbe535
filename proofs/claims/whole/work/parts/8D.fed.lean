/-! Whole calls: feed, fault. -/
/-- a byte of a fed number -/
def bt (x : Int32) (r : Nat) : Int32 := ((x.toUInt32 >>> ((nI (24 - 8 * r)).toUInt32 &&& Int32.toUInt32 31)).toInt32) &&& (nI 255)
/-- but for the tape two stores are one -/
def sF (s s' : ab_S) : Prop := (∀ k, k ≠ 1 → k ≠ 11 → k ≠ 12 → sz s' k = sz s k) ∧ sy s' = sy s ∧ st s' = st s ∧ si s' = si s ∧ (∀ k, k ≠ 0 → k ≠ 12 → sa s' k = sa s k) ∧ sA s' = sA s ∧ sb s' = sb s ∧ sB s' = sB s ∧ sq s' = sq s ∧ sn s' = sn s
/-- both hold the same tape -/
def TP (s : ab_S) (τ : Nat) : Prop := sz s 1 = nI τ ∧ sz s 12 = nI τ ∧ τ ≤ 900 ∧ ∀ q, q < τ → sa s 0 q = sa s 12 q
section FED
variable {X : (Nat → Int32) × Nat} {d k : Nat} {u5 u6 : Option ab_V} {s : ab_S}
theorem mz {s : ab_S} {j k : Nat} {A B : Nat → Int32} {a b : Int32} : pz (pa (pz (pa s j A) k a) j B) k b = pz (pa s j B) k b := by
  show pz (pz (pa (pa s j A) j B) k a) k b = _
  simp only [E1]
theorem c_2 {τ : Nat} {x : Int32} (h : sz s 1 = nI τ) (h9 : τ + 4 ≤ 900) : ab_ev X (d + 1) 2 [.inr (1, 0), .inl (.int x)] s = some (.inl none, pz (pa s 0 (va_up (va_up (va_up (va_up (sa s 0) τ (bt x 0)) (τ + 1) (bt x 1)) (τ + 2) (bt x 2)) (τ + 3) (bt x 3))) 1 (nI (τ + 4))) := by
  have e1 : nI 24 + -nI 8 = nI 16 := by decide
  have e2 : nI 16 + -nI 8 = nI 8 := by decide
  have e3 : nI 8 + -nI 8 = nI 0 := by decide
  rw [b2, b2_3, if_neg (show ¬ nI 24 < nI 0 by decide), h, put18 (by omega), e_bU, e1, b2_3, if_neg (show ¬ nI 16 < nI 0 by decide)]
  simp (disch := omega) only [E0]
  rw [h, nI_add, put18 (by omega), e_bU, e2, b2_3, if_neg (show ¬ nI 8 < nI 0 by decide)]
  simp (disch := omega) only [E0]
  rw [nI_add, put18 (by omega), e_bU, e3, b2_3, if_neg (show ¬ nI 0 < nI 0 by decide)]
  simp (disch := omega) only [E0]
  rw [nI_add, put18 (by omega), e_bU, b2_3, if_pos (show nI 0 + -nI 8 < nI 0 by decide)]
  simp (disch := omega) only [E0]
  rw [nI_add, mz, mz, mz]
  rfl
/-- the fed bytes, five numbers of them -/
def fb5 (x : Nat → Int32) (q : Nat) : Int32 := bt (x (q / 4)) (q % 4)
theorem c_2F {τ p : Nat} {x : Nat → Int32} {F0 : Nat → Int32} (hp : p < 5) (h : sz s 1 = nI (τ + 4 * p)) (h9 : τ + 20 ≤ 900) (hF : sa s 0 = fun q => if τ ≤ q ∧ q < τ + 4 * p then fb5 x (q - τ) else F0 q) : ab_ev X (d + 1) 2 [.inr (1, 0), .inl (.int (x p))] s = some (.inl none, pz (pa s 0 (fun q => if τ ≤ q ∧ q < τ + 4 * (p + 1) then fb5 x (q - τ) else F0 q)) 1 (nI (τ + 4 * (p + 1)))) := by
  have e : va_up (va_up (va_up (va_up (sa s 0) (τ + 4 * p) (bt (x p) 0)) (τ + 4 * p + 1) (bt (x p) 1)) (τ + 4 * p + 2) (bt (x p) 2)) (τ + 4 * p + 3) (bt (x p) 3) = fun q => if τ ≤ q ∧ q < τ + 4 * (p + 1) then fb5 x (q - τ) else F0 q := by
    funext q
    have f : ∀ r, r < 4 → q = τ + 4 * p + r → fb5 x (q - τ) = bt (x p) r := fun r hr e => by
      unfold fb5
      rw [show (q - τ) / 4 = p by omega, show (q - τ) % 4 = r by omega]
    by_cases h3 : q = τ + 4 * p + 3
    · rw [if_pos (by omega), f 3 (by omega) h3, h3, va_up_self]
    · rw [va_up_ne _ _ h3]
      by_cases h2 : q = τ + 4 * p + 2
      · rw [if_pos (by omega), f 2 (by omega) h2, h2, va_up_self]
      · rw [va_up_ne _ _ h2]
        by_cases h1 : q = τ + 4 * p + 1
        · rw [if_pos (by omega), f 1 (by omega) h1, h1, va_up_self]
        · rw [va_up_ne _ _ h1]
          by_cases h0 : q = τ + 4 * p
          · rw [if_pos (by omega), f 0 (by omega) h0, h0, va_up_self]
          · rw [va_up_ne _ _ h0, hF]
            show (if τ ≤ q ∧ q < τ + 4 * p then _ else _) = _
            by_cases h5 : τ ≤ q ∧ q < τ + 4 * p
            · rw [if_pos h5, if_pos (by omega)]
            · rw [if_neg h5, if_neg (by omega)]
  rw [c_2 h (by omega), e]
  rfl
/-- the tape behind a feeding -/
def fdF (x : Nat → Int32) (τ : Nat) (F0 : Nat → Int32) (p : Nat) : Nat → Int32 := fun q => if τ ≤ q ∧ q < τ + p then fb5 x (q - τ) else F0 q
theorem sh_r {q : Nat} (h : q < 20) : nI 24 - nI 8 * (nI q &&& nI 3) = nI (24 - 8 * (q % 4)) := by
  have : ∀ q : Fin 20, nI 24 - nI 8 * (nI q.val &&& nI 3) = nI (24 - 8 * (q.val % 4)) := by decide
  exact this ⟨q, h⟩
theorem l230 {τ : Nat} {x : Nat → Int32} (h9 : τ + 20 ≤ 900) {F0 : Nat → Int32} : ∀ (j c : Nat) (u : Option ab_V), c + j = 20 → ab_at X d 230 23 [some (.inr (9, 0)), some (.inl (.int (x 0))), some (.inl (.int (x 1))), some (.inl (.int (x 2))), some (.inl (.int (x 3))), some (.inl (.int (x 4))), some (.inl (.int (nI c))), u] [] (pz (pa s 12 (fdF x τ F0 c)) 12 (nI (τ + c))) = some (.inl (some (.inl (.int (nI (τ + 20))))), pz (pa s 12 (fdF x τ F0 20)) 12 (nI (τ + 20)))
  | 0, c, u, e => by
    obtain rfl : c = 20 := by omega
    rw [b230_23, if_pos (nI_le (Nat.le_refl _) (by omega))]
    simp (disch := omega) only [E0]
  | j + 1, c, u, e => by
    have ih := fun u => l230 (x := x) h9 (F0 := F0) j (c + 1) u (by omega)
    have eF : va_up (fdF x τ F0 c) (τ + c) (bt (x (c / 4)) (c % 4)) = fdF x τ F0 (c + 1) := by
      funext q
      unfold fdF
      by_cases h1 : q = τ + c
      · rw [h1, va_up_self, if_pos (by omega), Nat.add_sub_cancel_left]
        rfl
      · rw [va_up_ne _ _ h1]
        by_cases h5 : τ ≤ q ∧ q < τ + c
        · rw [if_pos h5, if_pos (by omega)]
        · rw [if_neg h5, if_neg (by omega)]
    have step : ∀ (y : Int32) (u : Option ab_V), y = x (c / 4) → (if (sz (pz (pa s 12 (fdF x τ F0 c)) 12 (nI (τ + c))) 12) < (nI 0) ∨ 900 ≤ (sz (pz (pa s 12 (fdF x τ F0 c)) 12 (nI (τ + c))) 12).toNatClampNeg then none else ab_at X d 230 23 [some (.inr (9, 0)), some (.inl (.int (x 0))), some (.inl (.int (x 1))), some (.inl (.int (x 2))), some (.inl (.int (x 3))), some (.inl (.int (x 4))), some (.inl (.int (nI c + nI 1))), u] [] (pz (pa (pz (pa s 12 (fdF x τ F0 c)) 12 (nI (τ + c))) 12 (va_up (sa (pz (pa s 12 (fdF x τ F0 c)) 12 (nI (τ + c))) 12) (sz (pz (pa s 12 (fdF x τ F0 c)) 12 (nI (τ + c))) 12).toNatClampNeg (((y.toUInt32 >>> (((nI 24) - ((nI 8) * (nI c &&& (nI 3)))).toUInt32 &&& Int32.toUInt32 31)).toInt32) &&& (nI 255)))) 12 (sz (pz (pa s 12 (fdF x τ F0 c)) 12 (nI (τ + c))) 12 + nI 1))) = some (.inl (some (.inl (.int (nI (τ + 20))))), pz (pa s 12 (fdF x τ F0 20)) 12 (nI (τ + 20))) := by
      intro y u hy
      have e2 := ih u
      simp (disch := omega) only [E0]
      rw [r_in (j := τ + c) (by omega) (by decide), nI_clamp (by omega), nI_add, nI_add, sh_r (by omega), hy, mz]
      rw [← eF] at e2
      exact e2
    rw [b230_23, if_neg (nI_ge (by omega) (by omega))]
    by_cases h4 : c < 4
    · rw [if_neg (nI_ge h4 (by omega))]
      exact step _ _ (by rw [show c / 4 = 0 by omega])
    · rw [if_pos (nI_le (by omega) (by omega))]
      by_cases h8 : c < 8
      · rw [if_neg (nI_ge h8 (by omega))]
        exact step _ _ (by rw [show c / 4 = 1 by omega])
      · rw [if_pos (nI_le (by omega) (by omega))]
        by_cases h12 : c < 12
        · rw [if_neg (nI_ge h12 (by omega))]
          exact step _ _ (by rw [show c / 4 = 2 by omega])
        · rw [if_pos (nI_le (by omega) (by omega))]
          by_cases h16 : c < 16
          · rw [if_neg (nI_ge h16 (by omega))]
            exact step _ _ (by rw [show c / 4 = 3 by omega])
          · rw [if_pos (nI_le (by omega) (by omega))]
            exact step _ _ (by rw [show c / 4 = 4 by omega])
theorem o0 {τ : Nat} (h : TP s τ) (hk : k + 5 < X.2) (hX : X.2 < 2 ^ 31) : ∃ (s2 : ab_S) (v5 v6 : Option ab_V), (sF s s2 ∧ ∃ τ', TP s2 τ') ∧ ab_at X (d + 31) 360 260 [some (.inr (14, 0)), some (.inr (0, 0)), some (.inr (9, 0)), some (.inr (15, 0)), some (.inl (.int (nI k))), u5, u6, none] [] s = ab_at X (d + 31) 360 23 [some (.inr (14, 0)), some (.inr (0, 0)), some (.inr (9, 0)), some (.inr (15, 0)), some (.inl (.int (nI (k + 6)))), v5, v6, none] [] s2 := by
  obtain ⟨h1, h2, h3, h4⟩ := id h
  by_cases q : τ ≤ 880
  rotate_left
  · have cc : ab_ev X (d + 30) 0 [.inr (0, 0), .inl (.int (X.1 (k + 1))), .inl (.int (X.1 (k + 2))), .inl (.int (X.1 (k + 3))), .inl (.int (X.1 (k + 4))), .inl (.int (X.1 (k + 5)))] s = some (.inl (some (.inl (.int (-nI 1)))), s) := by
      rw [b0, b1, h1, if_neg (nI_ge (by omega) (by omega)), e_bI]
    have r : ab_ev X (d + 30) 230 [.inr (9, 0), .inl (.int (X.1 (k + 1))), .inl (.int (X.1 (k + 2))), .inl (.int (X.1 (k + 3))), .inl (.int (X.1 (k + 4))), .inl (.int (X.1 (k + 5)))] s = some (.inl (some (.inl (.int (-nI 1)))), pz s 11 (nI 0)) := by
      rw [b230, h2, nI_add, if_neg (nI_ge (by omega) (by omega))]
    refine ⟨pz s 11 (nI 0), _, _, ⟨⟨fun k h1 h2 h3 => ?_, rfl, rfl, rfl, fun _ _ _ => rfl, rfl, rfl, rfl, rfl, rfl⟩, τ, ?_, ?_, h3, h4⟩, w260 hk hX cc r rfl⟩
    · simp (disch := omega) only [E0]
    · simp (disch := omega) only [E0]
      exact h1
    · simp (disch := omega) only [E0]
      exact h2
  obtain ⟨x, hx⟩ : ∃ x : Nat → Int32, x = fun p => X.1 (k + 1 + p) := ⟨_, rfl⟩
  have x0 : X.1 (k + 1) = x 0 := by rw [hx]
  have x1 : X.1 (k + 2) = x 1 := by rw [hx]
  have x2 : X.1 (k + 3) = x 2 := by rw [hx]
  have x3 : X.1 (k + 4) = x 3 := by rw [hx]
  have x4 : X.1 (k + 5) = x 4 := by rw [hx]
  have F0 : fdF x τ (sa s 0) 0 = sa s 0 := funext fun q => if_neg (by omega)
  have G0 : fdF x τ (sa s 12) 0 = sa s 12 := funext fun q => if_neg (by omega)
  have st : ∀ p (s1 : ab_S), p < 5 → s1 = pz (pa s 0 (fdF x τ (sa s 0) (4 * p))) 1 (nI (τ + 4 * p)) → ab_ev X (d + 28) 2 [.inr (1, 0), .inl (.int (x p))] s1 = some (.inl none, pz (pa s 0 (fdF x τ (sa s 0) (4 * (p + 1)))) 1 (nI (τ + 4 * (p + 1)))) := fun p s1 hp e => by
    rw [c_2F (d := d + 27) (s := s1) (τ := τ) (x := x) (F0 := sa s 0) hp (by rw [e]; simp (disch := omega) only [E0]) (by omega) (by rw [e]; simp (disch := omega) only [E0]; rfl), e, mz]
    rfl
  obtain ⟨sM, hsM⟩ : ∃ sM, sM = pz (pa s 0 (fdF x τ (sa s 0) 20)) 1 (nI (τ + 20)) := ⟨_, rfl⟩
  have cc : ab_ev X (d + 30) 0 [.inr (0, 0), .inl (.int (X.1 (k + 1))), .inl (.int (X.1 (k + 2))), .inl (.int (X.1 (k + 3))), .inl (.int (X.1 (k + 4))), .inl (.int (X.1 (k + 5)))] s = some (.inl (some (.inl (.int (nI (τ + 20))))), sM) := by
    have s0 : s = pz (pa s 0 (fdF x τ (sa s 0) (4 * 0))) 1 (nI (τ + 4 * 0)) := by
      rw [Nat.mul_zero, F0, pa_id, Nat.add_zero, ← h1]
      exact (pz_id s 1).symm
    rw [b0, x0, x1, x2, x3, x4, b1, h1, if_pos (nI_le (by omega) (by omega)), st 0 s (by omega) s0, e_bU, st 1 _ (by omega) rfl, e_bU, st 2 _ (by omega) rfl, e_bU, st 3 _ (by omega) rfl, e_bU, st 4 _ (by omega) rfl, e_bU, e_bI, hsM]
    simp (disch := omega) only [E0]
  obtain ⟨s2, hs2⟩ : ∃ s2, s2 = pz (pa (pz sM 11 (nI 0)) 12 (fdF x τ (sa s 12) 20)) 12 (nI (τ + 20)) := ⟨_, rfl⟩
  have r : ab_ev X (d + 30) 230 [.inr (9, 0), .inl (.int (X.1 (k + 1))), .inl (.int (X.1 (k + 2))), .inl (.int (X.1 (k + 3))), .inl (.int (X.1 (k + 4))), .inl (.int (X.1 (k + 5)))] sM = some (.inl (some (.inl (.int (nI (τ + 20))))), s2) := by
    have e12 : sz sM 12 = nI τ := by
      rw [hsM]
      simp (disch := omega) only [E0]
      exact h2
    have l := l230 (X := X) (d := d + 30) (s := pz sM 11 (nI 0)) (τ := τ) (x := x) (F0 := sa s 12) (by omega) 20 0 none (by omega)
    rw [← hs2] at l
    have s0 : pz (pa (pz sM 11 (nI 0)) 12 (fdF x τ (sa s 12) 0)) 12 (nI (τ + 0)) = pz sM 11 (nI 0) := by
      have e1 : sa (pz sM 11 (nI 0)) 12 = sa s 12 := by rw [hsM]; simp (disch := omega) only [E0]
      have e2 : sz (pz sM 11 (nI 0)) 12 = nI τ := by simp (disch := omega) only [E0]; exact e12
      rw [G0, Nat.add_zero, ← e1, pa_id, ← e2, pz_id]
    rw [s0] at l
    rw [b230, e12, nI_add, if_pos (nI_le (by omega) (by omega)), x0, x1, x2, x3, x4]
    exact l
  refine ⟨s2, _, _, ⟨⟨fun k h1 h2 h3 => ?_, ?_, ?_, ?_, fun k h1 h2 => ?_, ?_, ?_, ?_, ?_, ?_⟩, τ + 20, ?_, ?_, by omega, fun q hq => ?_⟩, w260 hk hX cc r rfl⟩
  · rw [hs2, hsM]
    simp (disch := omega) only [E0]
  · rw [hs2, hsM]
    rfl
  · rw [hs2, hsM]
    rfl
  · rw [hs2, hsM]
    rfl
  · rw [hs2, hsM]
    simp (disch := omega) only [E0]
  · rw [hs2, hsM]
    rfl
  · rw [hs2, hsM]
    rfl
  · rw [hs2, hsM]
    rfl
  · rw [hs2, hsM]
    rfl
  · rw [hs2, hsM]
    rfl
  · rw [hs2, hsM]
    simp (disch := omega) only [E0]
  · rw [hs2]
    simp (disch := omega) only [E0]
  · have e1 : sa s2 0 = fdF x τ (sa s 0) 20 := by
      rw [hs2, hsM]
      simp (disch := omega) only [E0]
    have e2 : sa s2 12 = fdF x τ (sa s 12) 20 := by
      rw [hs2, hsM]
      simp (disch := omega) only [E0]
    rw [e1, e2]
    unfold fdF
    by_cases h5 : τ ≤ q ∧ q < τ + 20
    · rw [if_pos h5, if_pos h5]
    · rw [if_neg h5, if_neg h5]
      exact h4 q (by omega)
theorem o4 (h2 : sz s 2 = sz s 20) (h3 : sz s 3 = sz s 21) (hk : k + 5 < X.2) (hX : X.2 < 2 ^ 31) : ∃ (s2 : ab_S) (v5 v6 : Option ab_V), sX s s2 ∧ ab_at X (d + 31) 360 389 [some (.inr (14, 0)), some (.inr (0, 0)), some (.inr (9, 0)), some (.inr (15, 0)), some (.inl (.int (nI k))), u5, u6, none] [] s = ab_at X (d + 31) 360 23 [some (.inr (14, 0)), some (.inr (0, 0)), some (.inr (9, 0)), some (.inr (15, 0)), some (.inl (.int (nI (k + 6)))), v5, v6, none] [] s2 := by
  obtain ⟨v, c, r⟩ : ∃ v, ab_ev X (d + 30) 4 [.inr (0, 0), .inl (.int (X.1 (k + 1)))] s = some (.inl (some (.inl (.int v))), s) ∧ ab_ev X (d + 30) 264 [.inr (9, 0), .inl (.int (X.1 (k + 1)))] s = some (.inl (some (.inl (.int v))), pz s 11 (nI 0)) := by
    by_cases q : X.1 (k + 1) = nI 0
    · exact ⟨sz s 2, by rw [b4, b4_1, if_pos q, b4_28], by rw [b264, if_pos q, h2]⟩
    · by_cases q2 : X.1 (k + 1) = nI 1
      · exact ⟨sz s 3, by rw [b4, b4_1, if_neg q, if_pos q2, b4_36], by rw [b264, if_neg q, if_pos q2, h3]⟩
      · exact ⟨-nI 1, by rw [b4, b4_1, if_neg q, if_neg q2, b4_44], by rw [b264, if_neg q, if_neg q2]⟩
  exact ⟨_, _, _, (sV_pz (by omega)).X, w389 hk hX c r rfl⟩
end FED
