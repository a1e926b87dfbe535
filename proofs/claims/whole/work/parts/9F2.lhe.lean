/-! Letters and nights: the class' homes. -/
section LHE
variable {X : (Nat → Int32) × Nat} {d k m N : Nat} {s : ab_S} {M f : Nat → Nat}
theorem l188b {y2 : Int64} {P : Nat → Bool} {v : Nat} (hz : sz s 10 = nI m) (hm : m ≤ 8) (hv : v < 60) (h1 : P v = true) (h2 : ∀ q, q < v → P q = false) {F0 : Nat → Int64} : ∀ (j c : Nat) (F : Nat → Int64), c + j = m → k + 1 ≤ c → (∀ i, F i = if k + 1 ≤ i ∧ i < c then F0 i &&& (mk (fun q => decide (q = v)) ^^^ (-lN 1)) else F0 i) → ab_at X (d + 3) 188 106 [some (.inr (7, 0)), some (.inl (.int (nI k))), some (.inl (.long y2)), none, some (.inl (.long (mk P))), none, some (.inl (.int (nI c)))] [] (pb s 0 F) = some (.inl none, pb s 0 (fun i => if k + 1 ≤ i ∧ i < m then F0 i &&& (mk (fun q => decide (q = v)) ^^^ (-lN 1)) else F0 i))
  | 0, c, F, e, hc, hF => by
    obtain rfl : c = m := by omega
    have hz' : sz (pb s 0 F) 10 = nI c := hz
    rw [b188_106, hz', if_pos (nI_le (Nat.le_refl _) (by omega)), funext hF]
  | j + 1, c, F, e, hc, hF => by
    have hz' : sz (pb s 0 F) 10 = nI m := hz
    rw [b188_106, hz', if_neg (nI_ge (by omega) (by omega)), mk_low hv h1 h2, c_187 (by omega), e_bU, nI_add]
    simp (disch := omega) only [E0, E1]
    refine l188b hz hm hv h1 h2 j (c + 1) _ (by omega) (by omega) (fun i => ?_)
    by_cases e1 : i = c
    · rw [e1, va_up_self, if_pos (by omega), hF c, if_neg (by omega)]
    · rw [va_up_ne _ _ e1, hF i]
      by_cases e2 : k + 1 ≤ i ∧ i < c
      · rw [if_pos e2, if_pos (by omega)]
      · rw [if_neg e2, if_neg (by omega)]
theorem c_188 (hz : sz s 10 = nI m) (hm : m ≤ 8) (hk : k < m) (hN : N ≤ 60) (hB : ∀ i, i < m → sb s 0 i = mk (Bk M f k N i)) (hf : ∀ i, i < k → f i < 60) (hR : RH M f k m N) (hL : LsV M f m N k (f k)) : ∃ F : Nat → Int64, ab_ev X (d + 3) 188 [.inr (7, 0), .inl (.int (nI k))] s = some (.inl none, pb (pa s 7 (va_up (sa s 7) k (nI (f k)))) 0 F) ∧ ∀ i, i < m → F i = mk (Bk M f (k + 1) N i) := by
  have hp : 2 ^ (m - (k + 1)) ≤ 2 ^ 7 := Nat.pow_le_pow_right (by omega) (by omega)
  have hp7 : (2 : Nat) ^ 7 = 128 := by decide
  have hp0 := Nat.two_pow_pos (m - (k + 1))
  obtain ⟨Y, u, g1, g2⟩ := l188 (X := X) (d := d) hz hm hk hN hB (2 ^ (m - (k + 1)) - 1) 1 (fun _ => false) none (by omega) (by omega) (fun q _ => ⟨fun z => absurd z (by decide), fun ⟨T', a, b, _⟩ => by omega⟩)
  have e0 : mk (fun _ => false) = lN 0 := mk_zero.mpr (fun _ _ => rfl)
  rw [e0] at g1
  obtain ⟨P, hP⟩ : ∃ P : Nat → Bool, P = fun q => Bk M f k N k q && !Y q := ⟨_, rfl⟩
  have P_iff : ∀ q, q < 60 → (P q = true ↔ (M k).testBit q = true ∧ HL (bb M (cf (va_up f k q) (k + 1))) m N) := fun q hq => by
    rw [LS_iff hk hN hf hR hq, hP]
    show (Bk M f k N k q && !Y q) = true ↔ _
    unfold Bk
    rw [Nat.min_self, Bool.and_eq_true, lf_iff, ← g2 q hq]
    constructor
    · rintro ⟨⟨a, b, c⟩, e⟩
      exact ⟨a, b, c, fun z => by rw [z] at e; cases e⟩
    · rintro ⟨a, b, c, e⟩
      refine ⟨⟨a, b, c⟩, ?_⟩
      cases z : Y q with
      | false => rfl
      | true => exact absurd z e
  obtain ⟨q1, q2, q3, q4⟩ := id hL
  have hPf : P (f k) = true := (P_iff _ q1).mpr ⟨q2, q3⟩
  have hPl : ∀ q, q < f k → P q = false := fun q hq => by
    cases z : P q with
    | false => rfl
    | true => exact absurd ((P_iff q (by omega)).mp z) (q4 q hq)
  have c3 := (c_185 (X := X) (d := d + 1) (s := s) (P := P) (p := 1) (by omega) (by omega)).1 (fb_ct_pos.mpr ⟨f k, q1, hPf⟩)
  obtain ⟨v, v1, v2, v3, v4⟩ := c3
  have ev : v = f k := by
    rcases Nat.lt_trichotomy v (f k) with z | z | z
    · have := hPl v z
      rw [v2] at this
      cases this
    · exact z
    · have := fb_ct_zero.mp v3 (f k) z
      rw [hPf] at this
      cases this
  rw [ev] at v4
  have c4 : ab_ev X (d + 2) 185 [.inl (.long (sb s 0 k &&& (mk Y ^^^ (-lN 1)))), .inl (.int (nI 1))] s = some (.inl (some (.inl (.int (nI (f k))))), s) := by
    rw [hB k hk, mk_andn, ← hP]
    exact v4
  have hY4 : sb s 0 k &&& (mk Y ^^^ (-lN 1)) = mk P := by rw [hB k hk, mk_andn, ← hP]
  obtain ⟨s1, hs1⟩ : ∃ s1, s1 = pa s 7 (va_up (sa s 7) k (nI (f k))) := ⟨_, rfl⟩
  have l := l188b (X := X) (d := d) (k := k) (s := s1) (m := m) (y2 := mk Y) (P := P) (v := f k) (F0 := sb s1 0) (by rw [hs1]; exact hz) hm q1 hPf hPl (m - (k + 1)) (k + 1) (sb s1 0) (by omega) (by omega) (fun i => by rw [if_neg (by omega)])
  rw [pb_id] at l
  refine ⟨fun i => if k + 1 ≤ i ∧ i < m then sb s1 0 i &&& (mk (fun q => decide (q = f k)) ^^^ (-lN 1)) else sb s1 0 i, ?_, fun i hi => ?_⟩
  · have hsub : nI m - nI k - nI 1 = nI (m - (k + 1)) := by
      rw [pk_sub (by omega), pk_sub (by omega)]
      exact congrArg nI (by omega)
    rw [b188, g1, b188_5, hz, hsub, n_sh _ (by omega), if_pos (nI_le (Nat.le_refl _) (by omega)), if_neg (n_nlt0 (by omega)), if_neg (nI_ge (by omega) (by omega)), r_in (j := k) (by omega) (by decide), nI_clamp (by omega), c4, e_bI, put35 (by omega), e_bU, ← hs1, hY4, nI_add]
    exact l
  · have eb : sb s1 0 = sb s 0 := by rw [hs1]; rfl
    rw [eb]
    show (if k + 1 ≤ i ∧ i < m then sb s 0 i &&& (mk (fun q => decide (q = f k)) ^^^ (-lN 1)) else sb s 0 i) = _
    rw [hB i hi]
    by_cases z : k + 1 ≤ i
    · rw [if_pos ⟨z, hi⟩, mk_andn]
      refine mk_cong (fun q _ => ?_)
      unfold Bk
      rw [Nat.min_eq_right (show k ≤ i by omega), Nat.min_eq_right z, Bool.eq_iff_iff, Bool.and_eq_true, lf_iff, lf_iff]
      constructor
      · rintro ⟨⟨a, b, c⟩, e⟩
        refine ⟨a, b, fun j hj => ?_⟩
        by_cases w : j = k
        · rw [w]
          intro w2
          rw [decide_eq_true w2.symm] at e
          cases e
        · exact c j (by omega)
      · rintro ⟨a, b, c⟩
        refine ⟨⟨a, b, fun j hj => c j (by omega)⟩, ?_⟩
        rw [decide_eq_false (fun w => c k (by omega) w.symm)]
        rfl
    · rw [if_neg (fun w => z w.1)]
      unfold Bk
      rw [Nat.min_eq_left (show i ≤ k by omega), Nat.min_eq_left (show i ≤ k + 1 by omega)]
theorem l182a {D : Nat} (hz : sz s 10 = nI m) (hm : m ≤ 8) (hD : D < 60) {F0 : Nat → Int64} : ∀ (j c : Nat) (F : Nat → Int64), c + j = m → (∀ i, F i = if i < c then F0 i &&& mk (fun q => decide (q ≤ D)) else F0 i) → ab_at X (d + 4) 182 12 [some (.inr (7, 0)), some (.inl (.int (nI D))), some (.inl (.int (nI c)))] [] (pb s 0 F) = ab_at X (d + 4) 182 40 [some (.inr (7, 0)), some (.inl (.int (nI D))), some (.inl (.int (nI 0)))] [] (pb s 0 (fun i => if i < m then F0 i &&& mk (fun q => decide (q ≤ D)) else F0 i))
  | 0, c, F, e, hF => by
    obtain rfl : c = m := by omega
    have hz' : sz (pb s 0 F) 10 = nI c := hz
    rw [b182_12, hz', if_pos (nI_le (Nat.le_refl _) (by omega)), funext hF]
  | j + 1, c, F, e, hF => by
    have hz' : sz (pb s 0 F) 10 = nI m := hz
    rw [b182_12, hz', if_neg (nI_ge (by omega) (by omega)), l_ones D hD, ← mk_le hD, c_187 (by omega), e_bU, nI_add]
    simp (disch := omega) only [E0, E1]
    refine l182a hz hm hD j (c + 1) _ (by omega) (fun i => ?_)
    by_cases e1 : i = c
    · rw [e1, va_up_self, if_pos (by omega), hF c, if_neg (by omega)]
    · rw [va_up_ne _ _ e1, hF i]
      by_cases e2 : i < c
      · rw [if_pos e2, if_pos (by omega)]
      · rw [if_neg e2, if_neg (by omega)]
theorem l182b {D : Nat} (hz : sz s 10 = nI m) (hm : m ≤ 8) (hN : N ≤ 60) (hL : ∀ i, i < m → LsV M f m N i (f i)) : ∀ (j c : Nat) (C : Nat → Int32) (F : Nat → Int64), c + j = m → (∀ i, i < m → F i = mk (Bk M f c N i)) → RH M f c m N → (∀ i, i < c → C i = nI (f i)) → ∃ (C' : Nat → Int32) (F' : Nat → Int64), ab_at X (d + 4) 182 40 [some (.inr (7, 0)), some (.inl (.int (nI D))), some (.inl (.int (nI c)))] [] (pb (pa s 7 C) 0 F) = some (.inl (some (.inl (.int (nI D)))), pb (pa s 7 C') 0 F') ∧ ∀ i, i < m → C' i = nI (f i)
  | 0, c, C, F, e, hF, hR, hC => by
    obtain rfl : c = m := by omega
    have hz' : sz (pb (pa s 7 C) 0 F) 10 = nI c := hz
    exact ⟨C, F, by rw [b182_40, hz', if_pos (nI_le (Nat.le_refl _) (by omega))], hC⟩
  | j + 1, c, C, F, e, hF, hR, hC => by
    have hc : c < m := by omega
    have hz' : sz (pb (pa s 7 C) 0 F) 10 = nI m := hz
    have hf : ∀ i, i < c + 1 → f i < 60 := fun i hi => (hL i (by omega)).1
    obtain ⟨F1, g1, g2⟩ := c_188 (X := X) (d := d) (s := pb (pa s 7 C) 0 F) hz' hm hc hN (fun i hi => by simp (disch := omega) only [E0]; exact hF i hi) (fun i hi => hf i (by omega)) hR (hL c hc)
    have hR' : RH M f (c + 1) m N := by
      have h3 := (hL c hc).2.2.1
      have e2 : ∀ i, i < c + 1 → cf (va_up f c (f c)) (c + 1) i = f i := fun i hi => by
        rw [cf_at]
        by_cases z : i < c
        · rw [if_pos z]
        · rw [if_neg z, if_pos (by omega)]
          exact congrArg f (by omega)
      exact (RH_cong e2).mp ((HR (by omega) hN (fun i hi => by rw [e2 i hi]; exact hf i hi) (fun i hi => by rw [cf_at, if_neg (by omega), if_neg (by omega)]; omega)).mp h3)
    obtain ⟨C', F', i1, i2⟩ := l182b (D := D) hz hm hN hL j (c + 1) (va_up C c (nI (f c))) F1 (by omega) g2 hR' (fun i hi => by
      by_cases z : i = c
      · rw [z, va_up_self]
      · rw [va_up_ne _ _ z]
        exact hC i (by omega))
    refine ⟨C', F', ?_, i2⟩
    have e3 : pb (pa (pb (pa s 7 C) 0 F) 7 (va_up (sa (pb (pa s 7 C) 0 F) 7) c (nI (f c)))) 0 F1 = pb (pa s 7 (va_up C c (nI (f c)))) 0 F1 := by
      have e4 : sa (pb (pa s 7 C) 0 F) 7 = C := by simp (disch := omega) only [E0]
      rw [e4]
      show pb (pb (pa (pa s 7 C) 7 (va_up C c (nI (f c)))) 0 F) 0 F1 = _
      simp only [E1]
    rw [← i1, b182_40, hz', if_neg (nI_ge (by omega) (by omega)), g1, e_bU, e3, nI_add]
/-- the class' homes, when the model's are known -/
theorem c_182 (hz : sz s 10 = nI m) (h1 : 1 ≤ m) (hm : m ≤ 8) (hM : ∀ i, i < m → M i < 2 ^ 60) (hB : ∀ i, i < m → sb s 0 i = lN (M i)) : ((∀ N, N ≤ 60 → 0 < N → ¬ HL (bb M (fun _ => 60)) m N) → ab_ev X (d + 4) 182 [.inr (7, 0)] s = some (.inl (some (.inl (.int (-nI 1)))), s)) ∧ ∀ (N0 : Nat) (f : Nat → Nat), N0 < 60 → HL (bb M (fun _ => 60)) m (N0 + 1) → (∀ N, N ≤ N0 → 0 < N → ¬ HL (bb M (fun _ => 60)) m N) → (∀ i, i < m → LsV M f m (N0 + 1) i (f i)) → ∃ (C : Nat → Int32) (F : Nat → Int64), ab_ev X (d + 4) 182 [.inr (7, 0)] s = some (.inl (some (.inl (.int (nI N0)))), pb (pa s 7 C) 0 F) ∧ ∀ i, i < m → C i = nI (f i) := by
  obtain ⟨B, hBd⟩ : ∃ B : Nat → Nat → Bool, B = fun i q => (M i).testBit q := ⟨_, rfl⟩
  have eB : ∀ i, i < m → lN (M i) = mk (B i) := fun i hi => by
    refine congrArg lN (Nat.eq_of_testBit_eq (fun q => ?_))
    rw [bs_bit, hBd]
    by_cases z : q < 60
    · rw [decide_eq_true z]
      rfl
    · rw [decide_eq_false z, Bool.false_and]
      exact Nat.testBit_lt_two_pow (Nat.lt_of_lt_of_le (hM i hi) (Nat.pow_le_pow_right (by omega) (by omega)))
  have eH : ∀ N, HL B m N ↔ HL (bb M (fun _ => 60)) m N := fun N => HL_cong (fun i q _ => by
    rw [bb_free (by omega), hBd])
  have hBm : ∀ i, i < m → sb s 0 i = mk (B i) := fun i hi => by rw [hB i hi, eB i hi]
  have c := c_183 (X := X) (d := d) hz h1 hm hBm
  constructor
  · intro hno
    rcases c with ⟨c1, -⟩ | ⟨D, c1, c2, c3⟩
    · rw [b182, c1, e_bI, if_pos rfl]
    · exact absurd ((eH 60).mp ((c3 60 (by omega)).mpr c1)) (hno 60 (by omega) (by omega))
  · intro N0 f h0 hy hno hL
    rcases c with ⟨-, c2⟩ | ⟨D, c1, c2, c3⟩
    · refine absurd ((eH 60).mpr (fun S => ?_)) c2
      have := hy S
      have h4 := fb_ct_mono (un (bb M (fun _ => 60)) S m) (show N0 + 1 ≤ 60 by omega)
      omega
    · have eD : D = N0 := by
        have a := (c3 (N0 + 1) (by omega)).mp ((eH _).mpr hy)
        rcases Nat.lt_or_ge D N0 with z | z
        · exact absurd ((eH (D + 1)).mp ((c3 (D + 1) (by omega)).mpr (by omega))) (hno (D + 1) (by omega) (by omega))
        · omega
      subst eD
      have l := l182a (X := X) (d := d) (s := s) hz hm c1 (F0 := sb s 0) m 0 (sb s 0) (by omega) (fun i => by rw [if_neg (by omega)])
      rw [pb_id] at l
      have hR : RH M f 0 m (D + 1) := (RH_cong (f' := fun _ => 60) (f := f) (k := 0) (fun i hi => absurd hi (by omega))).mp ((HR (c := fun _ => 60) (k := 0) (by omega) (by omega) (fun i hi => absurd hi (by omega)) (fun i _ => by omega)).mp hy)
      obtain ⟨C', F', i1, i2⟩ := l182b (X := X) (d := d) (s := s) (D := D) hz hm (show D + 1 ≤ 60 by omega) hL m 0 (sa s 7) (fun i => if i < m then sb s 0 i &&& mk (fun q => decide (q ≤ D)) else sb s 0 i) (by omega) (fun i hi => by
        rw [if_pos hi, hBm i hi, mk_and]
        refine mk_cong (fun q _ => ?_)
        unfold Bk
        rw [Nat.min_eq_right (Nat.zero_le i), Bool.eq_iff_iff, Bool.and_eq_true, lf_iff, hBd, decide_eq_true_iff]
        constructor
        · rintro ⟨a, b⟩
          exact ⟨a, by omega, fun j hj => absurd hj (by omega)⟩
        · rintro ⟨a, b, -⟩
          exact ⟨a, by omega⟩) hR (fun i hi => absurd hi (by omega))
      rw [pa_id] at i1
      exact ⟨C', F', by rw [b182, c2, e_bI, if_neg (n_m1 _ (by omega)), l]; exact i1, i2⟩
end LHE
