/-! The model reads a token. -/
/-- the sort of token that the model sees -/
def tkK (T : Nat → Int32) (L p : Nat) : Int32 := if p < L then (if tkA T L p ≤ p then (if tkB T L p ≤ p then (if knw (T p) = true then T p else nI 3) else if tkB T L p - p ≤ 3 then nI 2 else nI 3) else nI 1) else nI 0
/-- the store behind a token -/
def kMd (s : ab_S) (p n : Nat) (k v : Int32) : ab_S := pz (pz (pz (pz s 15 (nI p)) 14 (nI n)) 16 k) 17 v
theorem pz_comm {s : ab_S} {a b : Nat} {x y : Int32} (h : a ≠ b) : pz (pz s a x) b y = pz (pz s b y) a x := by
  unfold pz
  congr 1
  funext q
  show va_up (va_up s.1 a x) b y q = va_up (va_up s.1 b y) a x q
  unfold va_up
  by_cases h1 : q = a
  · by_cases h2 : q = b
    · exact absurd (h1.symm.trans h2) h
    · simp [h1, h]
  · by_cases h2 : q = b
    · simp [h2, Ne.symm h]
    · simp [h1, h2]
theorem pz_sz {s : ab_S} {a b : Nat} {x : Int32} (h : b ≠ a) : sz (pz s a x) b = sz s b := va_up_ne _ _ h
theorem kMd_17 {s : ab_S} {p n : Nat} {k : Int32} : kMd s p n k (sz s 17) = pz (pz (pz s 15 (nI p)) 14 (nI n)) 16 k := by
  unfold kMd
  have h := pz_id (pz (pz (pz s 15 (nI p)) 14 (nI n)) 16 k) 17
  rw [pz_sz (by decide), pz_sz (by decide), pz_sz (by decide)] at h
  exact h
section TKF
variable {X : (Nat → Int32) × Nat} {d n L p : Nat} {s : ab_S}
theorem b234r (h13 : sz s 13 = nI L) (hL : L ≤ 900) (hp : p ≤ L) (hs : p = L ∨ (p < L ∧ ¬ sa s 12 p = nI 32 ∧ ¬ sa s 12 p = nI 10)) : ab_at X (d + 1) 234 0 [some (.inr (9, 0)), none] [] (pz s 14 (nI p)) = some (.inl none, kMd s p (tkN (sa s 12) L p) (tkK (sa s 12) L p) (tkV (sa s 12) L p (sz s 17))) := by
  have e13 : sz (pz s 14 (nI p)) 13 = nI L := by
    simp (disch := omega) only [E0]
    exact h13
  have e14 : sz (pz s 14 (nI p)) 14 = nI p := by simp (disch := omega) only [E0]
  have e12 : sa (pz s 14 (nI p)) 12 = sa s 12 := rfl
  rcases hs with rfl | ⟨hpl, h32, h10⟩
  · unfold tkN tkK tkV
    rw [if_neg (Nat.lt_irrefl p), if_neg (Nat.lt_irrefl p), if_neg (Nat.lt_irrefl p), kMd_17, b234_0, e13, e14, if_pos (nI_le (Nat.le_refl _) (by omega)), if_neg (nI_nlt (Nat.le_refl _) (by omega)), pz_comm (s := s) (by decide)]
  · obtain ⟨s', hs'⟩ : ∃ s', s' = pz s 15 (nI p) := ⟨_, rfl⟩
    have e15 : pz (pz s 14 (nI p)) 15 (nI p) = pz s' 14 (nI p) := by rw [hs', pz_comm (by decide)]
    have f13 : sz s' 13 = nI L := by
      rw [hs', pz_sz (by decide)]
      exact h13
    have f15 : sz s' 15 = nI p := by
      rw [hs']
      simp (disch := omega) only [E0]
    have f12 : sa s' 12 = sa s 12 := by rw [hs']; rfl
    have f17 : sz s' 17 = sz s 17 := by rw [hs', pz_sz (by decide)]
    rw [b234_0, e13, e14, if_neg (nI_ge hpl (by omega)), r_in (j := p) (by omega) (by decide), r_in (j := p) (by omega) (by decide), r_in (j := p) (by omega) (by decide), nI_clamp (by omega), e12, if_neg h32, if_neg h10, if_pos (nI_lt hpl (by omega)), r235, e_bI, e15]
    unfold tkN tkK tkV
    rw [if_pos hpl, if_pos hpl, if_pos hpl]
    by_cases q : ltr (sa s 12 p) = true
    · have q' : (decide (sa s 12 p < nI 97) || decide (nI 122 < sa s 12 p)) = false := by
        unfold ltr at q
        cases w : (decide (sa s 12 p < nI 97) || decide (nI 122 < sa s 12 p)) with
        | false => rfl
        | true =>
          rw [w] at q
          cases q
      have hA : p < tkA (sa s 12) L p := rng_in hpl q'
      have l := l234w (X := X) (d := d) (p := p) (s := s') (x1 := sa s 12 p) f13 hL (L - p) 0 (by omega) (fun i hi => absurd hi (by omega))
      rw [f12] at l
      rw [if_pos q, if_neg (show ¬ nI 1 = nI 0 by decide), if_neg (show ¬ tkA (sa s 12) L p ≤ p by omega), if_neg (show ¬ tkA (sa s 12) L p ≤ p by omega), if_neg (show ¬ tkA (sa s 12) L p ≤ p by omega), kMd_17, ← hs']
      exact l
    · have q' : (decide (sa s 12 p < nI 97) || decide (nI 122 < sa s 12 p)) = true := by
        unfold ltr at q
        cases w : (decide (sa s 12 p < nI 97) || decide (nI 122 < sa s 12 p)) with
        | true => rfl
        | false =>
          rw [w] at q
          exact absurd rfl q
      have hA : tkA (sa s 12) L p = p := rng_out hpl q'
      rw [if_neg q, if_pos rfl, r237, e_bI, hA, if_pos (Nat.le_refl p), if_pos (Nat.le_refl p), if_pos (Nat.le_refl p)]
      by_cases w : dgt (sa s 12 p) = true
      · have w' : (decide (sa s 12 p < nI 48) || decide (nI 57 < sa s 12 p)) = false := by
          unfold dgt at w
          cases v : (decide (sa s 12 p < nI 48) || decide (nI 57 < sa s 12 p)) with
          | false => rfl
          | true =>
            rw [v] at w
            cases w
        have hB : p < tkB (sa s 12) L p := rng_in hpl w'
        have l := l234d (X := X) (d := d) (p := p) (s := s') (x1 := sa s 12 p) f13 hL f15 (L - p) 0 (by omega) (fun i hi => absurd hi (by omega))
        rw [f12] at l
        have e0 : pz (pz s' 14 (nI p)) 17 (nI 0) = pz (pz s' 17 (nI 0)) 14 (nI p) := pz_comm (by decide)
        rw [if_pos w, if_neg (show ¬ nI 1 = nI 0 by decide), if_neg (show ¬ tkB (sa s 12) L p ≤ p by omega), if_neg (show ¬ tkB (sa s 12) L p ≤ p by omega), if_neg (show ¬ tkB (sa s 12) L p ≤ p by omega), e0]
        refine Eq.trans l ?_
        unfold kMd
        rw [← hs', pz_comm (s := s') (a := 17) (b := 14) (by decide), pz_comm (a := 17) (b := 16) (by decide)]
      · have w' : (decide (sa s 12 p < nI 48) || decide (nI 57 < sa s 12 p)) = true := by
          unfold dgt at w
          cases v : (decide (sa s 12 p < nI 48) || decide (nI 57 < sa s 12 p)) with
          | true => rfl
          | false =>
            rw [v] at w
            exact absurd rfl w
        have hB : tkB (sa s 12) L p = p := rng_out hpl w'
        have f14 : sz (pz s' 14 (nI p)) 14 + nI 1 = nI (p + 1) := by
          simp (disch := omega) only [E0]
          exact nI_add p 1
        have up : ∀ k : Int32, pz (pz (pz s' 14 (nI p)) 16 k) 14 (nI (p + 1)) = kMd s p (p + 1) k (sz s 17) := fun k => by
          rw [kMd_17, ← hs', pz_comm (s := s') (a := 14) (b := 16) (by decide), pz2, pz_comm (s := s') (a := 16) (b := 14) (by decide)]
        rw [if_neg w, if_pos rfl, r238, e_bI, hB, if_pos (Nat.le_refl p), if_pos (Nat.le_refl p), if_pos (Nat.le_refl p), f14]
        by_cases v : knw (sa s 12 p) = true
        · rw [if_pos v, if_neg (show ¬ nI 1 = nI 0 by decide), if_pos v, up]
        · rw [if_neg v, if_pos rfl, if_neg v, up]
theorem l234s (h13 : sz s 13 = nI L) (hL : L ≤ 900) (hn : n ≤ L) : ∀ (j c : Nat), n + c + j = L → (∀ i, i < c → (!(decide (sa s 12 (n + i) = nI 32) || decide (sa s 12 (n + i) = nI 10))) = false) → ab_at X (d + 1) 234 0 [some (.inr (9, 0)), none] [] (pz s 14 (nI (n + c))) = some (.inl none, kMd s (skp (sa s 12) L n) (tkN (sa s 12) L (skp (sa s 12) L n)) (tkK (sa s 12) L (skp (sa s 12) L n)) (tkV (sa s 12) L (skp (sa s 12) L n) (sz s 17)))
  | 0, c, e, h => by
    have e1 : fst (fun i => !(decide (sa s 12 (n + i) = nI 32) || decide (sa s 12 (n + i) = nI 10))) (L - n) = c := by
      rw [show L - n = c by omega]
      exact fst_eqn h
    have e2 : skp (sa s 12) L n = n + c := by
      unfold skp
      rw [e1]
    rw [e2]
    exact b234r h13 hL (by omega) (Or.inl (by omega))
  | j + 1, c, e, h => by
    by_cases z : (!(decide (sa s 12 (n + c) = nI 32) || decide (sa s 12 (n + c) = nI 10))) = true
    · have e1 : fst (fun i => !(decide (sa s 12 (n + i) = nI 32) || decide (sa s 12 (n + i) = nI 10))) (L - n) = c := fst_eq (by omega) z h
      have e2 : skp (sa s 12) L n = n + c := by
        unfold skp
        rw [e1]
      have w : (decide (sa s 12 (n + c) = nI 32) || decide (sa s 12 (n + c) = nI 10)) = false := by
        cases v : (decide (sa s 12 (n + c) = nI 32) || decide (sa s 12 (n + c) = nI 10)) with
        | false => rfl
        | true =>
          rw [v] at z
          cases z
      have w2 := Bool.or_eq_false_iff.mp w
      rw [e2]
      exact b234r h13 hL (by omega) (Or.inr ⟨by omega, of_decide_eq_false w2.1, of_decide_eq_false w2.2⟩)
    · have z' : (!(decide (sa s 12 (n + c) = nI 32) || decide (sa s 12 (n + c) = nI 10))) = false := by
        cases w : (!(decide (sa s 12 (n + c) = nI 32) || decide (sa s 12 (n + c) = nI 10))) with
        | false => rfl
        | true => exact absurd w z
      have ih := l234s h13 hL hn j (c + 1) (by omega) (fun i hi => by
        by_cases v : i = c
        · rw [v]
          exact z'
        · exact h i (by omega))
      have e13 : sz (pz s 14 (nI (n + c))) 13 = nI L := by
        simp (disch := omega) only [E0]
        exact h13
      have e14 : sz (pz s 14 (nI (n + c))) 14 = nI (n + c) := by simp (disch := omega) only [E0]
      have e12 : sa (pz s 14 (nI (n + c))) 12 = sa s 12 := rfl
      rw [b234_0, e13, e14, if_neg (nI_ge (by omega) (by omega)), r_in (j := n + c) (by omega) (by decide), r_in (j := n + c) (by omega) (by decide), nI_clamp (by omega), e12, pz2, nI_add]
      by_cases v : sa s 12 (n + c) = nI 32
      · rw [if_pos v]
        exact ih
      · by_cases v2 : sa s 12 (n + c) = nI 10
        · rw [if_neg v, if_pos v2]
          exact ih
        · rw [decide_eq_false v, decide_eq_false v2] at z'
          cases z'
theorem r234 (h13 : sz s 13 = nI L) (hL : L ≤ 900) (h14 : sz s 14 = nI n) (hn : n ≤ L) : ab_ev X (d + 1) 234 [.inr (9, 0)] s = some (.inl none, kMd s (skp (sa s 12) L n) (tkN (sa s 12) L (skp (sa s 12) L n)) (tkK (sa s 12) L (skp (sa s 12) L n)) (tkV (sa s 12) L (skp (sa s 12) L n) (sz s 17))) := by
  have l := l234s (X := X) (d := d) h13 hL hn (L - n) 0 (by omega) (fun i hi => absurd hi (by omega))
  have ez : pz s 14 (nI (n + 0)) = s := by
    show pz s 14 (nI n) = s
    rw [← h14]
    exact pz_id s 14
  rw [ez] at l
  exact (b234.trans b234_0.symm).trans l
end TKF
