/-! The class reads a token. -/
def tkA (T : Nat → Int32) (L p : Nat) : Nat := rng (nI 97) (nI 122) T L p
def tkB (T : Nat → Int32) (L p : Nat) : Nat := rng (nI 48) (nI 57) T L p
/-- where the next begins, which token it is, its value -/
def tkN (T : Nat → Int32) (L p : Nat) : Nat := if p < L then (if tkA T L p ≤ p then (if tkB T L p ≤ p then p + 1 else tkB T L p) else tkA T L p) else p
def tkC (T : Nat → Int32) (L p : Nat) : Nat := if p < L then (if tkA T L p ≤ p then (if tkB T L p ≤ p then tokW T p (p + 1) 1 else if tkB T L p - p ≤ 3 then 2 else 1) else tokW T p (tkA T L p) 3) else 0
def tkV (T : Nat → Int32) (L p : Nat) (v : Int32) : Int32 := if p < L then (if tkA T L p ≤ p then (if tkB T L p ≤ p then v else vlI T p (min 3 (tkB T L p - p))) else v) else v
/-- the store behind a token -/
def kTk (s : ab_S) (p n c : Nat) (v : Int32) : ab_S := pt (pz (pz (pz s 5 (nI p)) 6 (nI n)) 7 v) 0 c
section TKC
variable {X : (Nat → Int32) × Nat} {d n L : Nat} {s : ab_S}
theorem c_43no (h2 : ¬ sz s 2 = nI 0) : ab_ev X (d + 1) 43 [.inr (1, 0)] s = some (.inl none, s) := by
  rw [b43, if_neg h2]
theorem z56 {p q : Nat} {c : Nat} : pt (pz (pz (pz s 6 (nI p)) 5 (nI p)) 6 (nI q)) 0 c = kTk s p q c (sz s 7) := by
  have e : pz (pz (pz s 6 (nI p)) 5 (nI p)) 6 (nI q) = pz (pz s 5 (nI p)) 6 (nI q) := by
    unfold pz
    simp only [va_up2]
    congr 1
    funext j
    unfold va_up
    by_cases h : j = 6
    · simp [h]
    · by_cases h5 : j = 5
      · simp [h5]
      · simp [h, h5]
  have e2 : pz (pz (pz s 5 (nI p)) 6 (nI q)) 7 (sz s 7) = pz (pz s 5 (nI p)) 6 (nI q) := by
    have h := pz_id (pz (pz s 5 (nI p)) 6 (nI q)) 7
    have h7 : sz (pz (pz s 5 (nI p)) 6 (nI q)) 7 = sz s 7 := by simp (disch := omega) only [E0]
    rw [h7] at h
    exact h
  unfold kTk
  rw [e, e2]
theorem c_43 (h2 : sz s 2 = nI 0) (h4 : sz s 4 = nI L) (hL : L ≤ 900) (h6 : sz s 6 = nI n) (hn : n ≤ L) : ab_ev X (d + 5) 43 [.inr (1, 0)] s = some (.inl none, kTk s (skp (sa s 0) L n) (tkN (sa s 0) L (skp (sa s 0) L n)) (tkC (sa s 0) L (skp (sa s 0) L n)) (tkV (sa s 0) L (skp (sa s 0) L n) (sz s 7))) := by
  have l := l43 (X := X) (d := d + 4) (s := s) h4 hL hn (L - n) 0 (by omega) (fun i hi => absurd hi (by omega))
  have ez : pz s 6 (nI (n + 0)) = s := by
    show pz s 6 (nI n) = s
    rw [← h6]
    exact pz_id s 6
  rw [ez] at l
  obtain ⟨hp1, hp2⟩ := skp_le (T := sa s 0) hn
  obtain ⟨p, hp⟩ : ∃ p, p = skp (sa s 0) L n := ⟨_, rfl⟩
  rw [← hp] at l hp1 hp2 ⊢
  obtain ⟨s3, hs3⟩ : ∃ s3, s3 = pz (pz s 6 (nI p)) 5 (nI p) := ⟨_, rfl⟩
  have e4 : sz s3 4 = nI L := by
    rw [hs3]
    simp (disch := omega) only [E0]
    exact h4
  have e5 : sz s3 5 = nI p := by
    rw [hs3]
    simp (disch := omega) only [E0]
  have e0 : sa s3 0 = sa s 0 := by rw [hs3]; rfl
  have e66 : sz (pz s 6 (nI p)) 6 = nI p := by simp (disch := omega) only [E0]
  have cA : ab_ev X (d + 4) 44 [.inr (1, 0), .inl (.int (nI 97)), .inl (.int (nI 122))] s3 = some (.inl (some (.inl (.int (nI (tkA (sa s 0) L p))))), s3) := by
    rw [c_44 e4 hL e5 hp2, e0]
    rfl
  have cB : ab_ev X (d + 4) 44 [.inr (1, 0), .inl (.int (nI 48)), .inl (.int (nI 57))] s3 = some (.inl (some (.inl (.int (nI (tkB (sa s 0) L p))))), s3) := by
    rw [c_44 e4 hL e5 hp2, e0]
    rfl
  have hA := rng_le (lo := nI 97) (hi := nI 122) (T := sa s 0) hp2
  have hB := rng_le (lo := nI 48) (hi := nI 57) (T := sa s 0) hp2
  have hA' : p ≤ tkA (sa s 0) L p ∧ tkA (sa s 0) L p ≤ L := hA
  have hB' : p ≤ tkB (sa s 0) L p ∧ tkB (sa s 0) L p ≤ L := hB
  rw [b43, if_pos h2, l, b43_72, e66, ← hs3, cA, e_bI, cB, e_bI, e5, e4]
  unfold tkN tkC tkV
  by_cases q : p < L
  · rw [if_pos (nI_lt q (by omega)), if_pos q, if_pos q, if_pos q]
    by_cases q2 : tkA (sa s 0) L p ≤ p
    · rw [if_pos (nI_le q2 (by omega)), if_pos q2, if_pos q2, if_pos q2]
      by_cases q3 : tkB (sa s 0) L p ≤ p
      · have e55 : sz (pz s3 6 (nI (p + 1))) 5 = nI p := by
          simp (disch := omega) only [E0]
          exact e5
        have e65 : sz (pz s3 6 (nI (p + 1))) 6 = nI (p + 1) := by simp (disch := omega) only [E0]
        have e05 : sa (pz s3 6 (nI (p + 1))) 0 = sa s 0 := e0
        rw [if_pos (nI_le q3 (by omega)), if_pos q3, if_pos q3, if_pos q3, nI_add, c_45 e55 e65 (by omega) (by omega), e05, e_bA, b43_211, b43_214, hs3, z56]
      · rw [if_neg (nI_ge (by omega) (by omega)), if_neg q3, if_neg q3, if_neg q3, pk_sub (by omega)]
        have fin : ∀ c : Nat, some (.inl none, pz (pt (pz s3 6 (nI (tkB (sa s 0) L p))) 0 c) 7 (vlI (sa s 0) p (min 3 (tkB (sa s 0) L p - p)))) = (some (.inl none, kTk s p (tkB (sa s 0) L p) c (vlI (sa s 0) p (min 3 (tkB (sa s 0) L p - p)))) : ab_R) := fun c => by
          rw [hs3, z56]
          unfold kTk
          congr 1
          congr 1
          show pz (pz (pt (pz (pz s 5 (nI p)) 6 (nI (tkB (sa s 0) L p))) 0 c) 7 (sz s 7)) 7 (vlI (sa s 0) p (min 3 (tkB (sa s 0) L p - p))) = _
          simp only [E1]
          rfl
        have c53 : ∀ c : Nat, ab_ev X (d + 4) 53 [.inr (1, 0)] (pt (pz s3 6 (nI (tkB (sa s 0) L p))) 0 c) = some (.inl (some (.inl (.int (vlI (sa s 0) p (min 3 (tkB (sa s 0) L p - p)))))), pt (pz s3 6 (nI (tkB (sa s 0) L p))) 0 c) := fun c => by
          have a5 : sz (pt (pz s3 6 (nI (tkB (sa s 0) L p))) 0 c) 5 = nI p := by
            simp (disch := omega) only [E0]
            exact e5
          have a6 : sz (pt (pz s3 6 (nI (tkB (sa s 0) L p))) 0 c) 6 = nI (tkB (sa s 0) L p) := by simp (disch := omega) only [E0]
          have a0 : sa (pt (pz s3 6 (nI (tkB (sa s 0) L p))) 0 c) 0 = sa s 0 := e0
          rw [c_53 a5 a6 (by omega) (by omega), a0]
        by_cases q4 : tkB (sa s 0) L p - p ≤ 3
        · rw [if_pos (nI_le q4 (by omega)), if_pos q4, b43_179_1, c53, e_bI, b43_214, fin]
        · rw [if_neg (nI_ge (by omega) (by omega)), if_neg q4, b43_179, c53, e_bI, b43_214, fin]
    · have e55 : sz (pz s3 6 (nI (tkA (sa s 0) L p))) 5 = nI p := by
        simp (disch := omega) only [E0]
        exact e5
      have e65 : sz (pz s3 6 (nI (tkA (sa s 0) L p))) 6 = nI (tkA (sa s 0) L p) := by simp (disch := omega) only [E0]
      have e05 : sa (pz s3 6 (nI (tkA (sa s 0) L p))) 0 = sa s 0 := e0
      rw [if_neg (nI_ge (by omega) (by omega)), if_neg q2, if_neg q2, if_neg q2, c_45 e55 e65 (by omega) (by omega), e05, e_bA, b43_140, b43_214, hs3, z56]
  · rw [if_neg (nI_nlt (by omega) (by omega)), if_neg q, if_neg q, if_neg q, b43_214]
    have e : pt s3 0 0 = pt (pz s3 6 (nI p)) 0 0 := by
      have h := pz_id s3 6
      have h6' : sz s3 6 = nI p := by
        rw [hs3]
        simp (disch := omega) only [E0]
      rw [h6'] at h
      rw [h]
    rw [e, hs3, z56]
end TKC
