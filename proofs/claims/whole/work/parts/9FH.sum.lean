/-! Sums, as both read them. -/
/-- both read so: the class' method, the model's, what they leave -/
def PRS (X : (Nat → Int32) × Nat) (L k K H a b : Nat) (t : Bool) : Prop := ∀ (D E : Nat) (c m : ab_S) (p ml e : Nat) (σ : List Bool), K ≤ D → K ≤ E → QL L p k c m ml σ → ml + e ≤ p → σ.length + H ≤ 39 → ∃ c' m' : ab_S, ab_ev X D a [.inr (1, 0), .inr (4, 1), .inl (.int (nI k))] c = some (.inl none, c') ∧ ab_ev X E b [.inr (9, 0)] m = some (.inl none, m') ∧ fCL c c' ∧ fML m m' ∧ RL L (p + 1) k e c' m' (t :: σ)
section SUM
variable {X : (Nat → Int32) × Nat} {D E L p k ml e : Nat} {c m c' m' : ab_S} {σ σ' : List Bool}
theorem c78n {i : Nat} (h : i < 28) : ab_ev X D 78 [.inr (10, i)] c = some (.inl (some (.inl (.int (nI 0)))), c) := by
  have t : ∀ i, i < 28 → (-nI 1 < ab_tl i) ∨ (¬ -nI 1 < ab_tl i ∧ ab_tl i < -nI 5) := by decide +kernel
  rcases t i h with q | ⟨q, w⟩
  · rw [b78, if_pos q]
  · rw [b78, if_neg q, if_pos w]
theorem c78y {i : Nat} (h : 28 ≤ i) (hi : i < 33) : ab_ev X D 78 [.inr (10, i)] c = some (.inl (some (.inl (.int (nI 1)))), c) := by
  have t : ∀ i, i < 33 → 28 ≤ i → ¬ -nI 1 < ab_tl i ∧ ¬ ab_tl i < -nI 5 := by decide +kernel
  obtain ⟨q, w⟩ := t i hi h
  rw [b78, if_neg q, if_neg w]
theorem c79t (i : Nat) : ∃ r : Int32, ab_ev X D 79 [.inr (10, i)] c = some (.inl (some (.inl (.int r))), c) ∧ (r = nI 0 ∨ r = nI 1) := by
  by_cases q : -nI 9 < ab_tl i
  · exact ⟨nI 0, by rw [b79, if_pos q], Or.inl rfl⟩
  · by_cases w : ab_tl i < -nI 11
    · exact ⟨nI 0, by rw [b79, if_neg q, if_pos w], Or.inl rfl⟩
    · exact ⟨nI 1, by rw [b79, if_neg q, if_neg w], Or.inr rfl⟩
theorem c79n {i : Nat} (hi : i < 33) (h : ¬ (22 ≤ i ∧ i ≤ 24)) : ab_ev X D 79 [.inr (10, i)] c = some (.inl (some (.inl (.int (nI 0)))), c) := by
  have t : ∀ i, i < 33 → ¬ (22 ≤ i ∧ i ≤ 24) → (-nI 9 < ab_tl i) ∨ (¬ -nI 9 < ab_tl i ∧ ab_tl i < -nI 11) := by decide +kernel
  rcases t i hi h with q | ⟨q, w⟩
  · rw [b79, if_pos q]
  · rw [b79, if_neg q, if_pos w]
theorem c79y {i : Nat} (hi : i < 33) (h : 22 ≤ i ∧ i ≤ 24) : ab_ev X D 79 [.inr (10, i)] c = some (.inl (some (.inl (.int (nI 1)))), c) := by
  have t : ∀ i, i < 33 → (22 ≤ i ∧ i ≤ 24) → ¬ -nI 9 < ab_tl i ∧ ¬ ab_tl i < -nI 11 := by decide +kernel
  obtain ⟨q, w⟩ := t i hi h
  rw [b79, if_neg q, if_neg w]
theorem sl28 : ∀ i, i < 33 → 28 ≤ i → 2 ≤ ab_sl (ab_tx i) := by decide +kernel
theorem GD.r263n (hG : GD L p c m) (h : st c 0 < 28) (hE : 6 ≤ E) : ab_ev X E 263 [.inr (9, 0)] m = some (.inl (some (.inl (.int (-nI 1)))), m) := by
  obtain ⟨e, rfl⟩ : ∃ e, E = e + 1 := ⟨E - 1, by omega⟩
  have t : ∀ i, i < 33 → 28 ≤ i → ab_ev X e 240 [.inr (9, 0), .inr (11, ab_tx i)] m = some (.inl (some (.inl (.int (nI 0)))), m) := fun i hi h28 => hG.tkn hi (by omega) (sl28 i hi h28) (by omega) (by omega)
  have t0 : ab_ev X e 240 [.inr (9, 0), .inr (11, 25)] m = some (.inl (some (.inl (.int (nI 0)))), m) := t 28 (by omega) (by omega)
  have t1 : ab_ev X e 240 [.inr (9, 0), .inr (11, 26)] m = some (.inl (some (.inl (.int (nI 0)))), m) := t 29 (by omega) (by omega)
  have t2 : ab_ev X e 240 [.inr (9, 0), .inr (11, 27)] m = some (.inl (some (.inl (.int (nI 0)))), m) := t 30 (by omega) (by omega)
  have t3 : ab_ev X e 240 [.inr (9, 0), .inr (11, 28)] m = some (.inl (some (.inl (.int (nI 0)))), m) := t 31 (by omega) (by omega)
  have t4 : ab_ev X e 240 [.inr (9, 0), .inr (11, 29)] m = some (.inl (some (.inl (.int (nI 0)))), m) := t 32 (by omega) (by omega)
  rw [b263, t0, e_bI, if_pos rfl, t1, e_bI, if_pos rfl, t2, e_bI, if_pos rfl, t3, e_bI, if_pos rfl, t4, e_bI, if_pos rfl]
theorem GD.r263y (hG : GD L p c m) {j : Nat} (hj : j < 5) (h : st c 0 = 28 + j) (hE : 4 ≤ E) (hm : ab_ev X E 234 [.inr (9, 0)] m = some (.inl none, m')) : ab_ev X (E + 2) 263 [.inr (9, 0)] m = some (.inl (some (.inl (.int (nI j)))), m') := by
  have t : ∀ i, i < 33 → 28 ≤ i → ¬ i = 28 + j → ab_ev X (E + 1) 240 [.inr (9, 0), .inr (11, ab_tx i)] m = some (.inl (some (.inl (.int (nI 0)))), m) := fun i hi h28 hne => hG.tkn hi (by omega) (sl28 i hi h28) (by omega) (by omega)
  have y : ∀ i, i < 33 → 28 ≤ i → i = 28 + j → ab_ev X (E + 1) 240 [.inr (9, 0), .inr (11, ab_tx i)] m = some (.inl (some (.inl (.int (nI 1)))), m') := fun i hi h28 he => hG.tky hi (by omega) (sl28 i hi h28) (by omega) (by omega) hm
  have n10 : ¬ nI 1 = nI 0 := by decide
  rcases (show j = 0 ∨ j = 1 ∨ j = 2 ∨ j = 3 ∨ j = 4 by omega) with rfl | rfl | rfl | rfl | rfl
  · have t0 : ab_ev X (E + 1) 240 [.inr (9, 0), .inr (11, 25)] m = some (.inl (some (.inl (.int (nI 1)))), m') := y 28 (by omega) (by omega) (by omega)
    rw [b263, t0, e_bI, if_neg n10]
  · have t0 : ab_ev X (E + 1) 240 [.inr (9, 0), .inr (11, 25)] m = some (.inl (some (.inl (.int (nI 0)))), m) := t 28 (by omega) (by omega) (by omega)
    have t1 : ab_ev X (E + 1) 240 [.inr (9, 0), .inr (11, 26)] m = some (.inl (some (.inl (.int (nI 1)))), m') := y 29 (by omega) (by omega) (by omega)
    rw [b263, t0, e_bI, if_pos rfl, t1, e_bI, if_neg n10]
  · have t0 : ab_ev X (E + 1) 240 [.inr (9, 0), .inr (11, 25)] m = some (.inl (some (.inl (.int (nI 0)))), m) := t 28 (by omega) (by omega) (by omega)
    have t1 : ab_ev X (E + 1) 240 [.inr (9, 0), .inr (11, 26)] m = some (.inl (some (.inl (.int (nI 0)))), m) := t 29 (by omega) (by omega) (by omega)
    have t2 : ab_ev X (E + 1) 240 [.inr (9, 0), .inr (11, 27)] m = some (.inl (some (.inl (.int (nI 1)))), m') := y 30 (by omega) (by omega) (by omega)
    rw [b263, t0, e_bI, if_pos rfl, t1, e_bI, if_pos rfl, t2, e_bI, if_neg n10]
  · have t0 : ab_ev X (E + 1) 240 [.inr (9, 0), .inr (11, 25)] m = some (.inl (some (.inl (.int (nI 0)))), m) := t 28 (by omega) (by omega) (by omega)
    have t1 : ab_ev X (E + 1) 240 [.inr (9, 0), .inr (11, 26)] m = some (.inl (some (.inl (.int (nI 0)))), m) := t 29 (by omega) (by omega) (by omega)
    have t2 : ab_ev X (E + 1) 240 [.inr (9, 0), .inr (11, 27)] m = some (.inl (some (.inl (.int (nI 0)))), m) := t 30 (by omega) (by omega) (by omega)
    have t3 : ab_ev X (E + 1) 240 [.inr (9, 0), .inr (11, 28)] m = some (.inl (some (.inl (.int (nI 1)))), m') := y 31 (by omega) (by omega) (by omega)
    rw [b263, t0, e_bI, if_pos rfl, t1, e_bI, if_pos rfl, t2, e_bI, if_pos rfl, t3, e_bI, if_neg n10]
  · have t0 : ab_ev X (E + 1) 240 [.inr (9, 0), .inr (11, 25)] m = some (.inl (some (.inl (.int (nI 0)))), m) := t 28 (by omega) (by omega) (by omega)
    have t1 : ab_ev X (E + 1) 240 [.inr (9, 0), .inr (11, 26)] m = some (.inl (some (.inl (.int (nI 0)))), m) := t 29 (by omega) (by omega) (by omega)
    have t2 : ab_ev X (E + 1) 240 [.inr (9, 0), .inr (11, 27)] m = some (.inl (some (.inl (.int (nI 0)))), m) := t 30 (by omega) (by omega) (by omega)
    have t3 : ab_ev X (E + 1) 240 [.inr (9, 0), .inr (11, 28)] m = some (.inl (some (.inl (.int (nI 0)))), m) := t 31 (by omega) (by omega) (by omega)
    have t4 : ab_ev X (E + 1) 240 [.inr (9, 0), .inr (11, 29)] m = some (.inl (some (.inl (.int (nI 1)))), m') := y 32 (by omega) (by omega) (by omega)
    rw [b263, t0, e_bI, if_pos rfl, t1, e_bI, if_pos rfl, t2, e_bI, if_pos rfl, t3, e_bI, if_pos rfl, t4, e_bI, if_neg n10]
/-- goes into a bracket, unless so many are open -/
theorem QL.ent (h : QL L p k c m ml σ) (h0 : ¬ st c 0 = 0) (hk : k ≤ 6) (hD : 6 ≤ D) (hE : 2 ≤ E) : ∃ c' m' : ab_S, fC c c' ∧ fML m m' ∧ ab_ev X E 257 [.inr (9, 0)] m = some (.inl none, m') ∧ ((k < 6 ∧ ∃ p', p < p' ∧ ab_ev X D 72 [.inr (1, 0), .inl (.int (nI k))] c = some (.inl (some (.inl (.int (nI 1)))), c') ∧ QL L p' (k + 1) c' m' ml σ) ∨ (ab_ev X D 72 [.inr (1, 0), .inl (.int (nI k))] c = some (.inl (some (.inl (.int (nI 0)))), c') ∧ BD c' m')) := by
  obtain ⟨d, rfl⟩ : ∃ d, D = d + 1 := ⟨D - 1, by omega⟩
  obtain ⟨f, rfl⟩ : ∃ f, E = f + 1 := ⟨E - 1, by omega⟩
  obtain ⟨hG, hS, h22⟩ := h
  by_cases q : k < 6
  · have hG1 : GD L p c (pz m 22 (nI (k + 1))) := hG.of rfl rfl rfl (fun j a b => pz_sz (by omega)) rfl
    obtain ⟨c1, m1, p', g1, g2, g3, g4, g5, g6⟩ := hG1.adv (X := X) (D := d) (E := f) h0 (by omega) (by omega)
    refine ⟨c1, m1, g5, fML_22.t g6.L, ?_, Or.inl ⟨q, p', g1, ?_, g4, ?_, ?_⟩⟩
    · rw [b257, h22, if_neg (fun z => by have := (nI_eq (by omega) (by omega)).mp z; omega), if_pos hG.2.2.2.1, nI_add, g3, e_bU]
    · rw [b72, if_pos (nI_lt q (by omega)), g2, e_bU]
    · rw [fC_si g5, fC_sA g5, fM_sa g6]
      exact hS
    · rw [g6.1 22 (by omega)]
      simp (disch := omega) only [E0]
  · obtain rfl : k = 6 := by omega
    obtain ⟨c1, m1, g1, g2, g3, g4, g5⟩ := hG.ref (X := X) (D := d) (E := f) (f := 4) (by omega) (by omega)
    refine ⟨c1, pz m1 22 (sz m1 22 + nI 1), g4, g5.L.t fML_22, ?_, Or.inr ⟨?_, ?_⟩⟩
    · rw [b257, h22, if_pos rfl, g2, e_bU, if_neg g3.nm]
    · rw [b72, if_neg (nI_nlt (by omega) (by omega)), g1, e_bU]
    · exact g3.of rfl rfl (pz_sz (by omega)) (pz_sz (by omega))
theorem r262b (h : ¬ sz m 18 = nI 0) (hE : 1 ≤ E) : ab_ev X E 262 [.inr (9, 0)] m = some (.inl none, m) := by
  obtain ⟨f, rfl⟩ : ∃ f, E = f + 1 := ⟨E - 1, by omega⟩
  rw [b262, if_neg h]
theorem r261b (h : ¬ sz m 18 = nI 0) (hE : 2 ≤ E) : ab_ev X E 261 [.inr (9, 0)] m = some (.inl none, m) := by
  obtain ⟨f, rfl⟩ : ∃ f, E = f + 1 := ⟨E - 1, by omega⟩
  rw [b261, r262b h (by omega), e_bU, b261_4, r259b h, e_bI, if_pos rfl]
theorem r260b (h : ¬ sz m 18 = nI 0) (hE : 3 ≤ E) : ab_ev X E 260 [.inr (9, 0)] m = some (.inl none, m) := by
  obtain ⟨f, rfl⟩ : ∃ f, E = f + 1 := ⟨E - 1, by omega⟩
  rw [b260, r261b h (by omega), e_bU, b260_4, r259b h, e_bI, if_pos rfl, r259b h, e_bI, if_pos rfl]
theorem RL.up (h : RL L p (k + 1) e c m σ) : RL L p k e c (pz m 22 (sz m 22 - nI 1)) σ := by
  rcases h with ⟨p', ml, hp, hl, hG, hS, hk⟩ | hb
  · refine Or.inl ⟨p', ml, hp, hl, hG.of rfl rfl rfl (fun j a b => pz_sz (by omega)) rfl, hS, ?_⟩
    rw [hk, pk_sub (by omega)]
    simp (disch := omega) only [E0]
    rfl
  · exact Or.inr (hb.of rfl rfl (pz_sz (by omega)) (pz_sz (by omega)))
/-- behind a bracket: it must be closed -/
theorem RL.cls (h : RL L p (k + 1) e c m σ) {i : Nat} {x : Int32} (hi : i < 33) (h4 : 4 ≤ i) (h1 : ab_sl (ab_tx i) = 1) (hx : x = ab_sb (ab_tx i) 0) (hD : 6 ≤ D) (hE : 2 ≤ E) : ∃ c' m' : ab_S, ab_ev X D 54 [.inr (1, 0), .inr (10, i)] c = some (.inl none, c') ∧ ab_ev X E 245 [.inr (9, 0), .inl (.int x)] m = some (.inl none, m') ∧ fCL c c' ∧ fML m (pz m' 22 (sz m' 22 - nI 1)) ∧ RL L p k e c' (pz m' 22 (sz m' 22 - nI 1)) σ := by
  rcases h with ⟨p', ml, hp, hl, hG, hS, hk⟩ | hb
  · obtain ⟨c1, m1, g1, g2, g3, g4, g5⟩ := hG.take (X := X) (D := D) (E := E) hi h4 h1 hx hD hE
    refine ⟨c1, m1, g1, g2, g3.L, g4.L.t fML_22, ?_⟩
    refine RL.up ?_
    rcases g5 with ⟨-, p2, q1, q2⟩ | q
    · exact Or.inl ⟨p2, ml, by omega, by omega, QL.tok ⟨hG, hS, hk⟩ q2 g3 g4⟩
    · exact Or.inr q
  · exact ⟨c, m, c54b hb.nc (by omega), r245b hb.nm (by omega), fCL_refl c, fML_22, Or.inr (hb.of rfl rfl (pz_sz (by omega)) (pz_sz (by omega)))⟩
theorem tl28 : ∀ i, i < 33 → 28 ≤ i → (ab_tl i).toInt = 27 - (i : Int) := by decide +kernel
theorem atom (hk : k ≤ 6) (ih : k < 6 → PRS X L (k + 1) (9 + 3 * (6 - (k + 1))) (2 * (6 - (k + 1)) + 3) 75 260 false) : PRS X L k (7 + 3 * (6 - k)) (2 * (6 - k) + 1) 77 262 false := by
  intro D E c m p ml e σ hD hE h hl h39
  obtain ⟨d, rfl⟩ : ∃ d, D = d + 1 := ⟨D - 1, by omega⟩
  obtain ⟨f, rfl⟩ : ∃ f, E = f + 3 := ⟨E - 3, by omega⟩
  have hG := h.1
  have hS := h.2.1
  have h18 := hG.2.2.2.1
  have hL := hG.1
  have hlt := hG.lt
  have two : ∀ (F : Nat) (x y : Int32), 1 ≤ F → y = nI (encI x.toInt).toNat → -5 ≤ x.toInt → x.toInt ≤ 999 → ¬ st c 0 = 0 → ab_ev X d 73 [.inr (4, 1), .inl (.int x)] c = some (.inl none, wi (wA c 6 1 (va_up (sA c 6 1) ml x)) 8 1 (nI (ml + 1))) ∧ ∃ (c2 m2 : ab_S), ab_ev X d 43 [.inr (1, 0)] (wi (wA c 6 1 (va_up (sA c 6 1) ml x)) 8 1 (nI (ml + 1))) = some (.inl none, c2) ∧ ab_ev X F 234 [.inr (9, 0)] m = some (.inl none, m2) ∧ sz m2 18 = nI 0 ∧ ab_ev X (f + 2) 258 [.inr (9, 0), .inl (.int y)] m2 = some (.inl none, pa m2 9 (va_up (va_up (sa m2 9) (1364 + ml) y) 5 (nI (ml + 1)))) ∧ fCL c c2 ∧ fML m (pa m2 9 (va_up (va_up (sa m2 9) (1364 + ml) y) 5 (nI (ml + 1)))) ∧ RL L (p + 1) k e c2 (pa m2 9 (va_up (va_up (sa m2 9) (1364 + ml) y) 5 (nI (ml + 1)))) (false :: σ) := fun F x y hF hy h5 h9 h0 => by
    have hpL := hG.pL h0
    have hG1 : GD L p (wi (wA c 6 1 (va_up (sA c 6 1) ml x)) 8 1 (nI (ml + 1))) m := hG.of rfl rfl rfl (fun _ _ _ => rfl) rfl
    obtain ⟨c2, m2, p', g1, g2, g3, g4, g5, g6⟩ := hG1.adv (X := X) (D := d) (E := F) h0 (by omega) (by omega)
    have e5 : sa m2 9 5 = nI ml := by
      rw [fM_sa g6]
      exact hS.2.1
    refine ⟨c73 (by omega) hS.1 (by omega), c2, m2, g2, g3, g4.2.2.2.1, r258 g4.2.2.2.1 e5 (by omega), (fCL_wA.t fCL_wi).t g5.L, g6.L.t (fML_pa (fun t a b => by rw [va_up_ne _ _ a, va_up_ne _ _ (by omega)])), Or.inl ⟨p', ml + 1, by omega, by omega, g4.of rfl rfl rfl (fun _ _ _ => rfl) rfl, ?_, ?_⟩⟩
    · refine QL.put hS hy (by omega) h9 ?_ ?_ (fun z hz => ?_) ?_
      · unfold tstep
        rw [if_pos h5]
      · rw [List.length_cons]
        omega
      · rw [hz, fC_si g5, fC_sA g5]
        exact ⟨rfl, rfl⟩
      · simp (disch := omega) only [E0]
        rw [fM_sa g6]
    · show sz m2 22 = nI k
      rw [g6.1 22 (by omega)]
      exact h.2.2
  by_cases q2 : st c 0 = 2
  · obtain ⟨v, hv, e7, e17⟩ := hG.v q2
    have iv : (nI v).toInt = v := i_nI (by omega)
    obtain ⟨k1, c2, m2, k2, k3, k4, k5, k6, k7, k8⟩ := two (f + 1) (nI v) (nI 1000 + nI v) (by omega) (by
      rw [iv, nI_add]
      unfold encI
      rw [if_pos (by omega)]
      exact congrArg nI (by omega)) (by omega) (by omega) (by omega)
    have s15 := hG.sgn (X := X) (E := f + 2) (i := 15) (x := nI 40) (by decide) (by decide) (by decide) (by decide)
    rw [if_neg (by omega)] at s15
    have r3 : ab_ev X (f + 2) 243 [.inr (9, 0), .inl (.int (nI 0)), .inl (.int (nI 999))] m = some (.inl (some (.inl (.int (nI v)))), m2) := r243y (X := X) (E := f + 1) (lo := 0) (hi := 999) (hG.nu.mp q2) e17 (Nat.zero_le _) hv (by decide) h18 k3 k4
    refine ⟨c2, _, ?_, ?_, k6, k7, k8⟩
    · rw [b77, if_pos q2, e7, k1, e_bU, k2, e_bU]
    · rw [b262, if_pos h18, hG.r263n (by omega) (by omega), e_bI, if_pos rfl, s15, e_bI, if_pos rfl, r3, e_bI, k5, e_bU]
  · by_cases q28 : 28 ≤ st c 0
    · obtain ⟨j, hj⟩ : ∃ j, st c 0 = 28 + j := ⟨st c 0 - 28, by omega⟩
      have it := tl28 (st c 0) hlt q28
      obtain ⟨k1, c2, m2, k2, k3, k4, k5, k6, k7, k8⟩ := two f (ab_tl (st c 0)) (nI 100 + nI j) (by omega) (by
        rw [it, nI_add]
        unfold encI
        rw [if_neg (by omega), if_pos (by omega)]
        exact congrArg nI (by omega)) (by omega) (by omega) (by omega)
      refine ⟨c2, _, ?_, ?_, k6, k7, k8⟩
      · rw [b77, if_neg q2, c78y q28 hlt, e_bI, if_neg (show ¬ nI 1 = nI 0 by decide), k1, e_bU, k2, e_bU]
      · rw [b262, if_pos h18, hG.r263y (by omega) hj (by omega) k3, e_bI, if_neg (n_m1 j (by omega)), k5, e_bU]
    · by_cases q15 : st c 0 = 15
      · have s15 := hG.sgn (X := X) (E := f + 2) (i := 15) (x := nI 40) (by decide) (by decide) (by decide) (by decide)
        rw [if_pos q15] at s15
        obtain ⟨c1, m1, g1, g2, g3, g4⟩ := h.ent (X := X) (D := d) (E := f + 2) (by omega) hk (by omega) (by omega)
        rcases g4 with ⟨hk6, p', a1, a2, a3⟩ | ⟨a2, a3⟩
        · obtain ⟨c2, m2, b1, b2, b3, b4, b5⟩ := ih hk6 d (f + 2) c1 m1 p' ml e σ (by omega) (by omega) a3 (by omega) (by omega)
          obtain ⟨c3, m3, w1, w2, w3, w4, w5⟩ := b5.cls (X := X) (D := d) (E := f + 2) (i := 16) (x := nI 41) (by decide) (by decide) (by decide) (by decide) (by omega) (by omega)
          refine ⟨c3, _, ?_, ?_, (g1.L.t b3).t w3, (g2.t b4).t w4, ?_⟩
          · rw [b77, if_neg q2, c78n (by omega), e_bI, if_pos rfl, if_pos q15, a2, e_bI, if_neg (show ¬ nI 1 = nI 0 by decide), nI_add, b1, e_bU, w1, e_bU]
          · rw [b262, if_pos h18, hG.r263n (by omega) (by omega), e_bI, if_pos rfl, s15, e_bI, if_neg (show ¬ nI 1 = nI 0 by decide), g3, e_bU, b2, e_bU, w2, e_bU]
          · rcases w5 with ⟨p2, ml2, c1', c2', c3'⟩ | w
            · exact Or.inl ⟨p2, ml2, by omega, c2', c3'⟩
            · exact Or.inr w
        · refine ⟨c1, pz m1 22 (sz m1 22 - nI 1), ?_, ?_, g1.L, g2.t fML_22, Or.inr (a3.of rfl rfl (pz_sz (by omega)) (pz_sz (by omega)))⟩
          · rw [b77, if_neg q2, c78n (by omega), e_bI, if_pos rfl, if_pos q15, a2, e_bI, if_pos rfl]
          · rw [b262, if_pos h18, hG.r263n (by omega) (by omega), e_bI, if_pos rfl, s15, e_bI, if_neg (show ¬ nI 1 = nI 0 by decide), g3, e_bU, r260b a3.nm (by omega), e_bU, r245b a3.nm (by omega), e_bU]
      · have s15 := hG.sgn (X := X) (E := f + 2) (i := 15) (x := nI 40) (by decide) (by decide) (by decide) (by decide)
        rw [if_neg q15] at s15
        obtain ⟨c1, m1, g1, g2, g3, g4, g5⟩ := hG.ref (X := X) (D := d) (E := f + 1) (f := 2) (by omega) (by omega)
        refine ⟨c1, m1, ?_, ?_, g4.L, g5.L, Or.inr g3⟩
        · rw [b77, if_neg q2, c78n (by omega), e_bI, if_pos rfl, if_neg q15, g1, e_bU]
        · rw [b262, if_pos h18, hG.r263n (by omega) (by omega), e_bI, if_pos rfl, s15, e_bI, if_pos rfl, b243, if_neg (fun z => q2 (hG.nu.mpr z)), g2, e_bU, if_neg g3.nm, if_neg g3.nm, e_bI, r258b g3.nm, e_bU]
/-- terms -/
theorem term_lp (hk : k ≤ 6) (hA : PRS X L k (7 + 3 * (6 - k)) (2 * (6 - k) + 1) 77 262 false) : ∀ (j D E i : Nat) (c m : ab_S) (p ml e : Nat) (σ : List Bool), 8 + 3 * (6 - k) ≤ D + 1 → 8 + 3 * (6 - k) ≤ E + 1 → L - p ≤ j → i ≤ p → QL L p k c m ml (false :: σ) → ml + e ≤ p → σ.length + (2 * (6 - k) + 2) ≤ 39 → ∃ c' m' : ab_S, ab_at X (D + 1) 76 8 [some (.inr (1, 0)), some (.inr (4, 1)), some (.inl (.int (nI k))), some (.inl (.int (nI i)))] [] c = some (.inl none, c') ∧ ab_at X (E + 1) 261 4 [some (.inr (9, 0))] [] m = some (.inl none, m') ∧ fCL c c' ∧ fML m m' ∧ RL L p k e c' m' (false :: σ) := by
  intro j
  induction j with
  | zero =>
    intro D E i c m p ml e σ hD hE hj hi h hl h39
    have hG := h.1
    have hL := hG.1
    have hpL := hG.2.1
    have q0 : st c 0 = 0 := by
      by_cases q : st c 0 = 0
      · exact q
      · have := hG.pL q
        omega
    have s27 := hG.sgn (X := X) (E := E) (i := 27) (x := nI 42) (by decide) (by decide) (by decide) (by decide)
    rw [if_neg (by omega)] at s27
    refine ⟨c, m, ?_, ?_, fCL_refl c, fML_refl m, Or.inl ⟨p, ml, Nat.le_refl _, hl, h⟩⟩
    · rw [b76_8, if_pos hG.2.2.1, if_neg (show ¬ st c 0 = 27 by omega)]
      split <;> rfl
    · rw [b261_4, s27, e_bI, if_pos rfl]
  | succ j ih =>
    intro D E i c m p ml e σ hD hE hj hi h hl h39
    have hG := h.1
    have hL := hG.1
    have hpL := hG.2.1
    have s27 := hG.sgn (X := X) (E := E) (i := 27) (x := nI 42) (by decide) (by decide) (by decide) (by decide)
    by_cases q : st c 0 = 27
    · have hp := hG.pL (by omega)
      rw [if_pos q] at s27
      obtain ⟨c1, m1, p1, g1, g2, g3, g4, g5, g6⟩ := hG.adv (X := X) (D := D) (E := E) (by omega) (by omega) (by omega)
      obtain ⟨c2, m2, b1, b2, b3, b4, b5⟩ := hA D E c1 m1 p1 ml (e + 1) (false :: σ) (by omega) (by omega) (h.tok g4 g5 g6) (by omega) (by rw [List.length_cons]; omega)
      obtain ⟨c3, m3, w1, w2, w3, w4, w5⟩ := b5.add (X := X) (D := D) (E := E) (x := -nI 8) (y := nI 12) (σ' := false :: σ) (by decide) (by decide) (by decide) rfl (by rw [List.length_cons]; omega) (by omega)
      have e1 : ab_at X (D + 1) 76 8 [some (.inr (1, 0)), some (.inr (4, 1)), some (.inl (.int (nI k))), some (.inl (.int (nI i)))] [] c = ab_at X (D + 1) 76 8 [some (.inr (1, 0)), some (.inr (4, 1)), some (.inl (.int (nI k))), some (.inl (.int (nI (i + 1))))] [] c3 := by
        rw [b76_8, if_neg (nI_ge (by omega) (by omega)), if_pos hG.2.2.1, if_pos q, g2, e_bU, b1, e_bU, w1, e_bU, nI_add]
      have e2 : ab_at X (E + 1) 261 4 [some (.inr (9, 0))] [] m = ab_at X (E + 1) 261 4 [some (.inr (9, 0))] [] m3 := by
        rw [b261_4, s27, e_bI, if_neg (show ¬ nI 1 = nI 0 by decide), g3, e_bU, b2, e_bU, w2, e_bU]
      rw [e1, e2]
      rcases w5 with ⟨p3, ml3, a1, a2, a3⟩ | w
      · obtain ⟨c4, m4, y1, y2, y3, y4, y5⟩ := ih D E (i + 1) c3 m3 p3 ml3 e σ hD hE (by omega) (by omega) a3 a2 h39
        refine ⟨c4, m4, y1, y2, ((g5.L.t b3).t w3).t y3, ((g6.L.t b4).t w4).t y4, ?_⟩
        rcases y5 with ⟨p5, ml5, z1, z2, z3⟩ | y
        · exact Or.inl ⟨p5, ml5, by omega, z2, z3⟩
        · exact Or.inr y
      · refine ⟨c3, m3, ?_, ?_, (g5.L.t b3).t w3, (g6.L.t b4).t w4, Or.inr w⟩
        · rw [b76_8, if_neg w.nc]
          split <;> rfl
        · rw [b261_4, r259b w.nm, e_bI, if_pos rfl]
    · rw [if_neg q] at s27
      refine ⟨c, m, ?_, ?_, fCL_refl c, fML_refl m, Or.inl ⟨p, ml, Nat.le_refl _, hl, h⟩⟩
      · rw [b76_8, if_pos hG.2.2.1, if_neg q]
        split <;> rfl
      · rw [b261_4, s27, e_bI, if_pos rfl]
theorem term (hk : k ≤ 6) (hA : PRS X L k (7 + 3 * (6 - k)) (2 * (6 - k) + 1) 77 262 false) : PRS X L k (8 + 3 * (6 - k)) (2 * (6 - k) + 2) 76 261 false := by
  intro D E c m p ml e σ hD hE h hl h39
  obtain ⟨d, rfl⟩ : ∃ d, D = d + 1 := ⟨D - 1, by omega⟩
  obtain ⟨f, rfl⟩ : ∃ f, E = f + 1 := ⟨E - 1, by omega⟩
  obtain ⟨c1, m1, b1, b2, b3, b4, b5⟩ := hA d f c m p ml e σ (by omega) (by omega) h hl (by omega)
  rw [b76, b1, e_bU, b261, b2, e_bU]
  rcases b5 with ⟨p3, ml3, a1, a2, a3⟩ | w
  · obtain ⟨c4, m4, y1, y2, y3, y4, y5⟩ := term_lp hk hA (L - p3) d f 0 c1 m1 p3 ml3 e σ (by omega) (by omega) (Nat.le_refl _) (Nat.zero_le _) a3 a2 h39
    refine ⟨c4, m4, y1, y2, b3.t y3, b4.t y4, ?_⟩
    rcases y5 with ⟨p5, ml5, z1, z2, z3⟩ | y
    · exact Or.inl ⟨p5, ml5, by omega, z2, z3⟩
    · exact Or.inr y
  · refine ⟨c1, m1, ?_, ?_, b3, b4, Or.inr w⟩
    · rw [b76_8, if_neg w.nc]
      split <;> rfl
    · rw [b261_4, r259b w.nm, e_bI, if_pos rfl]
end SUM
