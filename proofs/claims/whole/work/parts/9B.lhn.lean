/-! Letters and nights: the model's homes, found. -/
theorem cf_at {f : Nat → Nat} {k i v : Nat} : cf (va_up f k v) (k + 1) i = if i < k then f i else if i = k then v else 60 := by
  unfold cf
  by_cases h : i < k
  · rw [if_pos (by omega), if_pos h, va_up_ne _ _ (by omega)]
  · rw [if_neg h]
    by_cases e : i = k
    · rw [if_pos (by omega), if_pos e, e, va_up_self]
    · rw [if_neg (by omega), if_neg e]
theorem LsV_cong {M f f' : Nat → Nat} {m N i v : Nat} (e : ∀ j, j < i → f' j = f j) : LsV M f' m N i v ↔ LsV M f m N i v := by
  have h : ∀ v', cf (va_up f' i v') (i + 1) = cf (va_up f i v') (i + 1) := fun v' => funext fun j => by
    rw [cf_at, cf_at]
    by_cases q : j < i
    · rw [if_pos q, if_pos q, e j q]
    · rw [if_neg q, if_neg q]
  unfold LsV
  simp only [h]
theorem kb_up {s : ab_S} {A A' : Nat → Int32} {y y' : Int64} : py (pa (py (pa s 20 A) 0 y) 20 A') 0 y' = py (pa s 20 A') 0 y' := by
  show py (py (pa (pa s 20 A) 20 A') 0 y) 0 y' = _
  simp only [E1]
theorem MT_next {M f : Nat → Nat} {k m N : Nat} (hk : k < m) (hN : N ≤ 60) (hf : ∀ i, i < k → f i < 60) (h : MT (bb M (cf f k)) m N) : ∃ v, v < 60 ∧ (M k).testBit v = true ∧ MT (bb M (cf (va_up f k v) (k + 1))) m N := by
  obtain ⟨h, h1, h2⟩ := h
  have hh : h k < N ∧ bb M (cf f k) k (h k) = true := h1 k hk
  have hc : cf f k k = 60 := by
    unfold cf
    rw [if_neg (by omega)]
  have hb := hh.2
  rw [bb_free (by rw [hc]; omega)] at hb
  refine ⟨h k, by omega, hb, h, fun i hi => ⟨(h1 i hi).1, ?_⟩, h2⟩
  have h3 := (h1 i hi).2
  by_cases q : i < k
  · have e : cf (va_up f k (h k)) (k + 1) i = cf f k i := by
      rw [cf_at, if_pos q]
      unfold cf
      rw [if_pos q]
    unfold bb at h3 ⊢
    rw [e]
    exact h3
  · by_cases q2 : i = k
    · have e : cf (va_up f k (h k)) (k + 1) i = h k := by rw [cf_at, if_neg q, if_pos q2]
      rw [bb_bound (by rw [e]; omega), e, q2]
      exact decide_eq_true rfl
    · have e : cf (va_up f k (h k)) (k + 1) i = 60 := by rw [cf_at, if_neg q, if_neg q2]
      have e2 : cf f k i = 60 := by
        unfold cf
        rw [if_neg q]
      rw [bb_free (by rw [e2]; omega)] at h3
      rw [bb_free (by rw [e]; omega)]
      exact h3
section LHN
variable {X : (Nat → Int32) × Nat} {d k n nr bm m N0 : Nat} {s : ab_S} {M f : Nat → Nat}
theorem r334' {N : Nat} {c : Nat → Nat} (hm : m ≤ 8) (h0 : 0 < N) (hN : N ≤ 60) (h21 : ∀ i, i < m → sa s 21 i = fx c i) (h1 : ∀ i, i < m → sb s 1 i = lN (M i)) (hM : ∀ i, i < m → M i < 2 ^ 60) : ∃ (A' : Nat → Int32) (y' : Int64) (r : Nat), ab_ev X (d + 12) 334 [.inr (9, 0), .inl (.int (nI (N - 1))), .inl (.int (nI m))] s = some (.inl (some (.inl (.int (nI r)))), py (pa s 20 A') 0 y') ∧ ((r = 1 ∧ MT (bb M c) m N) ∨ (r = 0 ∧ ¬ HL (bb M c) m N)) := by
  have e : d + 12 = (d + 10 - m) + m + 2 := by omega
  rw [e]
  exact r334 hm h0 hN h21 h1 hM
theorem l333b {j : Nat} (hm : m ≤ 8) (h21 : ∀ i, i < m → sa s 21 i = -nI 1) (h1 : ∀ i, i < m → sb s 1 i = lN (M i)) (hM : ∀ i, i < m → M i < 2 ^ 60) : ∀ (j' x : Nat) (A : Nat → Int32) (y : Int64) (u : Option ab_V), x + j' = 60 → (∀ N, N ≤ x → 0 < N → ¬ HL (bb M (cf f 0)) m N) → (∃ (A' : Nat → Int32) (y' : Int64), ab_at X (d + 13) 333 84 [some (.inr (9, 0)), some (.inl (.int (nI j))), some (.inl (.int (nI m))), some (.inl (.int (nI x))), u, none] [] (py (pa s 20 A) 0 y) = some (.inl (some (.inl (.int (-nI 1)))), py (pa s 20 A') 0 y') ∧ ∀ N, N ≤ 60 → 0 < N → ¬ HL (bb M (cf f 0)) m N) ∨ ∃ (A' : Nat → Int32) (y' : Int64) (N0 : Nat), N0 < 60 ∧ MT (bb M (cf f 0)) m (N0 + 1) ∧ (∀ N, N ≤ N0 → 0 < N → ¬ HL (bb M (cf f 0)) m N) ∧ ab_at X (d + 13) 333 84 [some (.inr (9, 0)), some (.inl (.int (nI j))), some (.inl (.int (nI m))), some (.inl (.int (nI x))), u, none] [] (py (pa s 20 A) 0 y) = ab_at X (d + 13) 333 116 [some (.inr (9, 0)), some (.inl (.int (nI j))), some (.inl (.int (nI m))), some (.inl (.int (nI N0))), some (.inl (.int (nI 0))), none] [] (py (pa s 20 A') 0 y')
  | 0, x, A, y, u, e, hno => by
    obtain rfl : x = 60 := by omega
    exact Or.inl ⟨A, y, by rw [b333_84, if_pos (nI_le (Nat.le_refl _) (by omega)), if_pos rfl], hno⟩
  | j' + 1, x, A, y, u, e, hno => by
    obtain ⟨t, ht⟩ : ∃ t, t = py (pa s 20 A) 0 y := ⟨_, rfl⟩
    have e21 : ∀ i, i < m → sa t 21 i = fx (cf f 0) i := fun i hi => by
      have : fx (cf f 0) i = -nI 1 := fx_free.mpr (by
        unfold cf
        rw [if_neg (by omega)]
        omega)
      rw [this, ht]
      simp (disch := omega) only [E0]
      exact h21 i hi
    have e1 : ∀ i, i < m → sb t 1 i = lN (M i) := fun i hi => by
      rw [ht]
      exact h1 i hi
    obtain ⟨A', y', r, g1, g2⟩ := r334' (X := X) (d := d) (s := t) (N := x + 1) (c := cf f 0) hm (by omega) (by omega) e21 e1 hM
    rw [Nat.add_sub_cancel] at g1
    have g3 : py (pa t 20 A') 0 y' = py (pa s 20 A') 0 y' := by rw [ht]; exact kb_up
    rw [g3] at g1
    rw [← ht, b333_84, if_neg (nI_ge (by omega) (by omega)), g1, e_bI]
    rcases g2 with ⟨rfl, g2⟩ | ⟨rfl, g2⟩
    · exact Or.inr ⟨A', y', x, by omega, g2, hno, by rw [if_neg (show ¬ nI 1 = nI 0 by decide), if_neg (fun z => by have := (nI_eq (by omega) (by omega)).mp z; omega)]⟩
    · rw [if_pos rfl, nI_add]
      exact l333b hm h21 h1 hM j' (x + 1) A' y' u (by omega) (fun N h3 h4 => by
        by_cases z : N = x + 1
        · rw [z]
          exact g2
        · exact hno N (by omega) h4)
theorem l333c {j : Nat} (hm : m ≤ 8) (h1 : ∀ i, i < m → sb s 1 i = lN (M i)) (hM : ∀ i, i < m → M i < 2 ^ 60) (hk : k < m) (hN : N0 < 60) (hf : ∀ i, i < k → f i < 60) : ∀ (j' x : Nat) (C A : Nat → Int32) (y : Int64), x + j' = 60 → (x < 60 → ∀ i, i < m → C i = fx (cf (va_up f k x) (k + 1)) i) → (∃ v, x ≤ v ∧ v < 60 ∧ (M k).testBit v = true ∧ MT (bb M (cf (va_up f k v) (k + 1))) m (N0 + 1)) → (∀ v, v < x → ¬ ((M k).testBit v = true ∧ HL (bb M (cf (va_up f k v) (k + 1))) m (N0 + 1))) → ∃ (v : Nat) (C' A' : Nat → Int32) (y' : Int64), ab_at X (d + 13) 333 134 [some (.inr (9, 0)), some (.inl (.int (nI j))), some (.inl (.int (nI m))), some (.inl (.int (nI N0))), some (.inl (.int (nI k))), some (.inl (.int (nI x)))] [] (K3 s C A y) = ab_at X (d + 13) 333 116 [some (.inr (9, 0)), some (.inl (.int (nI j))), some (.inl (.int (nI m))), some (.inl (.int (nI N0))), some (.inl (.int (nI (k + 1)))), some (.inl (.int (nI v)))] [] (K3 s C' A' y') ∧ LsV M f m (N0 + 1) k v ∧ MT (bb M (cf (va_up f k v) (k + 1))) m (N0 + 1) ∧ ∀ i, i < m → C' i = fx (cf (va_up f k v) (k + 1)) i
  | 0, x, C, A, y, e, hC, hex, hno => by
    obtain ⟨v, h3, h4, -⟩ := hex
    omega
  | j' + 1, x, C, A, y, e, hC, hex, hno => by
    have hx : x < 60 := by omega
    have hC := hC hx
    obtain ⟨k1, k2, k3, k4⟩ := K3_at s C A y
    have hb := bit0 (M := M k) (k := x) (Nat.lt_of_lt_of_le (hM k hk) (by decide)) (by omega)
    have step : ∀ (A' : Nat → Int32) (y' : Int64), ¬ ((M k).testBit x = true ∧ HL (bb M (cf (va_up f k x) (k + 1))) m (N0 + 1)) → ∃ (v : Nat) (C' A'' : Nat → Int32) (y'' : Int64), ab_at X (d + 13) 333 134 [some (.inr (9, 0)), some (.inl (.int (nI j))), some (.inl (.int (nI m))), some (.inl (.int (nI N0))), some (.inl (.int (nI k))), some (.inl (.int (nI (x + 1))))] [] (K3 s (va_up C k (nI (x + 1))) A' y') = ab_at X (d + 13) 333 116 [some (.inr (9, 0)), some (.inl (.int (nI j))), some (.inl (.int (nI m))), some (.inl (.int (nI N0))), some (.inl (.int (nI (k + 1)))), some (.inl (.int (nI v)))] [] (K3 s C' A'' y'') ∧ LsV M f m (N0 + 1) k v ∧ MT (bb M (cf (va_up f k v) (k + 1))) m (N0 + 1) ∧ ∀ i, i < m → C' i = fx (cf (va_up f k v) (k + 1)) i := by
      intro A' y' hn
      refine l333c hm h1 hM hk hN hf j' (x + 1) _ A' y' (by omega) (fun hx1 i hi => ?_) ?_ (fun v hv => ?_)
      · by_cases z : i = k
        · rw [z, va_up_self]
          have ec : cf (va_up f k (x + 1)) (k + 1) k = x + 1 := by rw [cf_at, if_neg (Nat.lt_irrefl k), if_pos rfl]
          unfold fx
          rw [ec, if_pos hx1]
        · rw [va_up_ne _ _ z, hC i hi]
          unfold fx
          rw [cf_at, cf_at, if_neg z, if_neg z]
      · obtain ⟨v, h3, h4, h5, h6⟩ := hex
        refine ⟨v, ?_, h4, h5, h6⟩
        by_cases z : v = x
        · rw [z] at h5 h6
          exact absurd ⟨h5, MT_HL h6⟩ hn
        · omega
      · by_cases z : v = x
        · rw [z]
          exact hn
        · exact hno v (by omega)
    rw [b333_134, r_in (j := k) (by omega) (by decide), nI_clamp (by omega), k2, h1 k hk]
    by_cases q : (M k).testBit x = true
    rotate_left
    · have q' : (M k).testBit x = false := by
        cases z : (M k).testBit x with
        | false => rfl
        | true => exact absurd z q
      rw [if_pos (hb.mpr q'), r_inc (by omega) (by decide), nI_add, k1, k3]
      exact step A y (fun z => q z.1)
    rw [if_neg (fun z => by rw [hb.mp z] at q; cases q)]
    obtain ⟨A', y', r, g1, g2⟩ := r334' (X := X) (d := d) (s := K3 s C A y) (N := N0 + 1) (c := cf (va_up f k x) (k + 1)) hm (by omega) (by omega) (by rw [k1]; exact hC) (by rw [k2]; exact h1) hM
    rw [Nat.add_sub_cancel, k4] at g1
    rw [g1, e_bI]
    rcases g2 with ⟨rfl, g2⟩ | ⟨rfl, g2⟩
    · rw [if_neg (show ¬ nI 1 = nI 0 by decide), nI_add]
      exact ⟨x, C, A', y', rfl, ⟨hx, q, MT_HL g2, hno⟩, g2, hC⟩
    · obtain ⟨k1', k2', k3', k4'⟩ := K3_at s C A' y'
      rw [if_pos rfl, r_inc (by omega) (by decide), nI_add, k1', k3']
      exact step A' y' (fun z => g2 z.2)
theorem l333d {j : Nat} (hm : m ≤ 8) (h1 : ∀ i, i < m → sb s 1 i = lN (M i)) (hM : ∀ i, i < m → M i < 2 ^ 60) (hN : N0 < 60) : ∀ (j' k : Nat) (f : Nat → Nat) (C A : Nat → Int32) (y : Int64) (u : Option ab_V), k + j' = m → (∀ i, i < k → f i < 60) → MT (bb M (cf f k)) m (N0 + 1) → (∀ i, i < m → C i = fx (cf f k) i) → (∀ i, i < k → LsV M f m (N0 + 1) i (f i)) → ∃ (f' : Nat → Nat) (C' A' : Nat → Int32) (y' : Int64), ab_at X (d + 13) 333 116 [some (.inr (9, 0)), some (.inl (.int (nI j))), some (.inl (.int (nI m))), some (.inl (.int (nI N0))), some (.inl (.int (nI k))), u] [] (K3 s C A y) = some (.inl (some (.inl (.int (nI N0)))), K3 s C' A' y') ∧ (∀ i, i < m → C' i = nI (f' i)) ∧ ∀ i, i < m → LsV M f' m (N0 + 1) i (f' i)
  | 0, k, f, C, A, y, u, e, hf, hT, hC, hL => by
    obtain rfl : k = m := by omega
    refine ⟨f, C, A, y, by rw [b333_116, if_pos (nI_le (Nat.le_refl _) (by omega))], fun i hi => ?_, hL⟩
    rw [hC i hi]
    unfold fx cf
    rw [if_pos hi, if_pos (hf i hi)]
  | j' + 1, k, f, C, A, y, u, e, hf, hT, hC, hL => by
    have hk : k < m := by omega
    obtain ⟨k1, k2, k3, k4⟩ := K3_at s C A y
    obtain ⟨v0, v1, v2, v3⟩ := MT_next hk (by omega) hf hT
    obtain ⟨v, C', A', y', g1, g2, g3, g4⟩ := l333c (X := X) (d := d) (j := j) hm h1 hM hk hN hf 60 0 (va_up C k (nI 0)) A y (by omega) (fun _ i hi => by
      by_cases z : i = k
      · rw [z, va_up_self]
        have ec : cf (va_up f k 0) (k + 1) k = 0 := by rw [cf_at, if_neg (Nat.lt_irrefl k), if_pos rfl]
        unfold fx
        rw [ec, if_pos (by omega)]
      · rw [va_up_ne _ _ z, hC i hi]
        unfold fx
        rw [cf_at, if_neg z]
        unfold cf
        rfl) ⟨v0, by omega, v1, v2, v3⟩ (fun v hv => absurd hv (by omega))
    obtain ⟨f', C'', A'', y'', i1, i2⟩ := l333d hm h1 hM hN j' (k + 1) (va_up f k v) C' A' y' (some (.inl (.int (nI v)))) (by omega) (fun i hi => by
      by_cases z : i = k
      · rw [z, va_up_self]
        exact g2.1
      · rw [va_up_ne _ _ z]
        exact hf i (by omega)) g3 g4 (fun i hi => by
      by_cases z : i = k
      · rw [z, va_up_self]
        exact (LsV_cong (fun j hj => va_up_ne _ _ (by omega))).mpr g2
      · rw [va_up_ne _ _ z]
        exact (LsV_cong (fun j hj => va_up_ne _ _ (by omega))).mpr (hL i (by omega)))
    refine ⟨f', C'', A'', y'', ?_, i2⟩
    rw [← i1, ← g1, b333_116, if_neg (nI_ge hk (by omega)), r_in (j := k) (by omega) (by decide), nI_clamp (by omega), k1, k3]
end LHN
