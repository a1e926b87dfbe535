/-! Letters and nights: the first letters bound, the rest free. -/
/-- the nights left to a letter -/
def lf (M f : Nat → Nat) (k N : Nat) (i q : Nat) : Bool := (M i).testBit q && (decide (q < N) && decide (fb_ct (fun j => decide (f j = q)) k = 0))
theorem lf_iff {M f : Nat → Nat} {k N i q : Nat} : lf M f k N i q = true ↔ (M i).testBit q = true ∧ q < N ∧ ∀ j, j < k → f j ≠ q := by
  unfold lf
  rw [Bool.and_eq_true, Bool.and_eq_true, decide_eq_true_iff, decide_eq_true_iff, fb_ct_zero]
  constructor
  · rintro ⟨h1, h2, h3⟩
    exact ⟨h1, h2, fun j hj => of_decide_eq_false (h3 j hj)⟩
  · rintro ⟨h1, h2, h3⟩
    exact ⟨h1, h2, fun j hj => decide_eq_false (h3 j hj)⟩
/-- letters from k on -/
def fr (k : Nat) (S : Nat → Bool) (i : Nat) : Bool := decide (k ≤ i) && S i
/-- the first k letters are bound, each to a night of its own; the rest can have as many nights as they are -/
def RH (M f : Nat → Nat) (k m N : Nat) : Prop := (∀ i, i < k → f i < N) ∧ (∀ i j, i < k → j < k → f i = f j → i = j) ∧ ∀ T : Nat → Bool, fb_ct (fr k T) m ≤ fb_ct (un (lf M f k N) (fr k T) m) N
theorem fr_iff {k i : Nat} {S : Nat → Bool} : fr k S i = true ↔ k ≤ i ∧ S i = true := by
  unfold fr
  rw [Bool.and_eq_true, decide_eq_true_iff]
theorem ct_fresh {k m : Nat} {S : Nat → Bool} (hk : k ≤ m) : fb_ct S m = fb_ct S k + fb_ct (fr k S) m := by
  have e : m = k + (m - k) := by omega
  rw [e, fb_ct_split S k, fb_ct_split (fr k S) k]
  have z : fb_ct (fr k S) k = 0 := fb_ct_zero.mpr (fun i hi => by
    unfold fr
    rw [decide_eq_false (by omega)]
    rfl)
  have g : fb_ct (fun i => fr k S (k + i)) (m - k) = fb_ct (fun i => S (k + i)) (m - k) := fb_ct_cong (fun i hi => by
    unfold fr
    rw [decide_eq_true (by omega), Bool.true_and])
  rw [z, g]
  omega
/-- how many nights some bound letters have -/
theorem ct_bound {f : Nat → Nat} {N : Nat} : ∀ {k : Nat} {S : Nat → Bool}, (∀ i, i < k → f i < N) → (∀ i j, i < k → j < k → f i = f j → i = j) → fb_ct (fun q => decide (0 < fb_ct (fun i => S i && decide (f i = q)) k)) N = fb_ct S k
  | 0, S, _, _ => by
    exact fb_ct_zero.mpr (fun q hq => rfl)
  | k + 1, S, h1, h2 => by
    have ih := ct_bound (k := k) (S := S) (fun i hi => h1 i (by omega)) (fun i j hi hj => h2 i j (by omega) (by omega))
    rw [fb_ct_succ S]
    by_cases q : S k = true
    · rw [if_pos q, ← ih]
      have a := fb_ct_upd (fun q => decide (0 < fb_ct (fun i => S i && decide (f i = q)) k)) true (h1 k (by omega))
      have z : decide (0 < fb_ct (fun i => S i && decide (f i = f k)) k) = false := decide_eq_false (fun hc => by
        obtain ⟨i, hi, h⟩ := fb_ct_pos.mp hc
        have := of_decide_eq_true (Bool.and_eq_true_iff.mp h).2
        have := h2 i k (by omega) (by omega) this
        omega)
      have z2 : (if (fun q => decide (0 < fb_ct (fun i => S i && decide (f i = q)) k)) (f k) = true then 1 else 0) = 0 := by
        show (if decide (0 < fb_ct (fun i => S i && decide (f i = f k)) k) = true then 1 else 0) = 0
        rw [z]
        rfl
      rw [z2, if_pos rfl] at a
      rw [← a, Nat.add_zero]
      refine fb_ct_cong (fun p hp => ?_)
      rw [fb_ct_succ]
      by_cases e : p = f k
      · rw [if_pos e, e, q, decide_eq_true rfl]
        exact (decide_eq_true (show 0 < fb_ct (fun i => S i && decide (f i = f k)) k + (if (true && true) = true then 1 else 0) from Nat.succ_pos _)).symm
      · rw [if_neg e, decide_eq_false (show ¬ f k = p from fun z => e z.symm), Bool.and_false]
        rfl
    · have e : S k = false := by
        cases z : S k with
        | false => rfl
        | true => exact absurd z q
      rw [if_neg q, Nat.add_zero, ← ih]
      refine fb_ct_cong (fun p hp => ?_)
      rw [fb_ct_succ, e, Bool.false_and]
      rfl
theorem bb_bound {M c : Nat → Nat} {i q : Nat} (h : c i < 60) : bb M c i q = decide (c i = q) := if_pos h
theorem bb_free {M c : Nat → Nat} {i q : Nat} (h : ¬ c i < 60) : bb M c i q = (M i).testBit q := if_neg h
/-- all fit when the bound ones are bound well and the rest fits -/
theorem HR {M c : Nat → Nat} {k m N : Nat} (hk : k ≤ m) (hN : N ≤ 60) (h1 : ∀ i, i < k → c i < 60) (h2 : ∀ i, k ≤ i → ¬ c i < 60) : HL (bb M c) m N ↔ RH M c k m N := by
  constructor
  · intro h
    have hlt : ∀ i, i < k → c i < N := fun i hi => by
      have a := h (fun j => decide (j = i))
      have b : 0 < fb_ct (fun j => decide (j = i)) m := fb_ct_pos.mpr ⟨i, by omega, decide_eq_true rfl⟩
      obtain ⟨q, hq, hu⟩ := fb_ct_pos.mp (show 0 < fb_ct (un (bb M c) (fun j => decide (j = i)) m) N by omega)
      obtain ⟨j, hj, e, hb⟩ := un_iff.mp hu
      have e := of_decide_eq_true e
      rw [e, bb_bound (h1 i hi)] at hb
      have := of_decide_eq_true hb
      omega
    have hinj : ∀ i j, i < k → j < k → c i = c j → i = j := fun i j hi hj e => by
      by_cases z : i = j
      · exact z
      · have a := h (fun l => decide (l = i) || decide (l = j))
        have b : 2 ≤ fb_ct (fun l => decide (l = i) || decide (l = j)) m := ct_two (a := i) (b := j) (by omega) (by omega) z (by rw [decide_eq_true rfl]; rfl) (by rw [decide_eq_true (show j = j from rfl), Bool.or_true])
        have d : fb_ct (un (bb M c) (fun l => decide (l = i) || decide (l = j)) m) N ≤ fb_ct (fun q => decide (q = c i)) N := fb_ct_sub (fun q hq hu => by
          obtain ⟨l, hl, e2, hb⟩ := un_iff.mp hu
          refine decide_eq_true ?_
          rcases Bool.or_eq_true_iff.mp e2 with e3 | e3
          · have e3 := of_decide_eq_true e3
            rw [e3, bb_bound (h1 i hi)] at hb
            exact (of_decide_eq_true hb).symm
          · have e3 := of_decide_eq_true e3
            rw [e3, bb_bound (h1 j hj)] at hb
            rw [e]
            exact (of_decide_eq_true hb).symm)
        have g : fb_ct (fun q => decide (q = c i)) N ≤ fb_ct (fun _ => true) 1 := inj_ct (h := fun _ => 0) (fun _ _ _ => ⟨by omega, rfl⟩) (fun p q _ _ h3 h4 _ => by rw [of_decide_eq_true h3, of_decide_eq_true h4])
        have g2 := fb_ct_le (fun _ => true) 1
        omega
    refine ⟨hlt, hinj, fun T => ?_⟩
    have a := h (fun i => decide (i < k) || fr k T i)
    rw [ct_fresh hk] at a
    have e1 : fb_ct (fun i => decide (i < k) || fr k T i) k = k := fb_ct_all.mpr (fun i hi => by rw [decide_eq_true hi]; rfl)
    have e2 : fb_ct (fr k (fun i => decide (i < k) || fr k T i)) m = fb_ct (fr k T) m := fb_ct_cong (fun i hi => by
      unfold fr
      by_cases z : k ≤ i
      · show (decide (k ≤ i) && (decide (i < k) || (decide (k ≤ i) && T i))) = _
        rw [decide_eq_true z, decide_eq_false (show ¬ i < k by omega)]
        rfl
      · rw [decide_eq_false z]
        rfl)
    rw [e1, e2] at a
    have b : fb_ct (un (bb M c) (fun i => decide (i < k) || fr k T i) m) N ≤ fb_ct (fun q => decide (0 < fb_ct (fun i => true && decide (c i = q)) k) || un (lf M c k N) (fr k T) m q) N := fb_ct_sub (fun q hq hu => by
      obtain ⟨i, hi, e, hb⟩ := un_iff.mp hu
      by_cases z : 0 < fb_ct (fun i => true && decide (c i = q)) k
      · rw [decide_eq_true z]
        rfl
      · rw [Bool.or_eq_true_iff]
        refine Or.inr (un_iff.mpr ⟨i, hi, ?_, ?_⟩)
        · rcases Bool.or_eq_true_iff.mp e with e3 | e3
          · have e3 := of_decide_eq_true e3
            rw [bb_bound (h1 i e3)] at hb
            exact absurd (fb_ct_pos.mpr ⟨i, e3, by rw [hb]; rfl⟩) z
          · exact e3
        · have hki : k ≤ i := by
            rcases Nat.lt_or_ge i k with e3 | e3
            · rw [bb_bound (h1 i e3)] at hb
              exact absurd (fb_ct_pos.mpr ⟨i, e3, by rw [hb]; rfl⟩) z
            · exact e3
          rw [bb_free (h2 i hki)] at hb
          exact lf_iff.mpr ⟨hb, hq, fun j hj e3 => z (fb_ct_pos.mpr ⟨j, hj, by rw [decide_eq_true e3]; rfl⟩)⟩)
    rw [fb_ct_or (fun q hq hh => by
      obtain ⟨i, hi, e⟩ := fb_ct_pos.mp (of_decide_eq_true hh.1)
      obtain ⟨l, hl, -, hb⟩ := un_iff.mp hh.2
      exact (lf_iff.mp hb).2.2 i hi (of_decide_eq_true (by simpa using e))), ct_bound (S := fun _ => true) hlt hinj] at b
    have e3 : fb_ct (fun _ : Nat => true) k = k := fb_ct_all.mpr (fun _ _ => rfl)
    omega
  · rintro ⟨hlt, hinj, hT⟩ S
    rw [ct_fresh hk]
    have b : fb_ct (fun q => decide (0 < fb_ct (fun i => S i && decide (c i = q)) k) || un (lf M c k N) (fr k S) m q) N ≤ fb_ct (un (bb M c) S m) N := fb_ct_sub (fun q hq hu => by
      rcases Bool.or_eq_true_iff.mp hu with e | e
      · obtain ⟨i, hi, e2⟩ := fb_ct_pos.mp (of_decide_eq_true e)
        have e3 := Bool.and_eq_true_iff.mp e2
        exact un_iff.mpr ⟨i, by omega, e3.1, by rw [bb_bound (h1 i hi)]; exact e3.2⟩
      · obtain ⟨i, hi, e2, hb⟩ := un_iff.mp e
        obtain ⟨a1, a2⟩ := fr_iff.mp e2
        exact un_iff.mpr ⟨i, hi, a2, by rw [bb_free (h2 i a1)]; exact (lf_iff.mp hb).1⟩)
    rw [fb_ct_or (fun q hq hh => by
      obtain ⟨i, hi, e⟩ := fb_ct_pos.mp (of_decide_eq_true hh.1)
      obtain ⟨l, hl, -, hb⟩ := un_iff.mp hh.2
      exact (lf_iff.mp hb).2.2 i hi (of_decide_eq_true (Bool.and_eq_true_iff.mp e).2)), ct_bound hlt hinj] at b
    have := hT S
    omega
/-- some letters after the k-th have no night to spare, and the night is theirs -/
def tgt (M f : Nat → Nat) (k m N v : Nat) : Prop := ∃ T : Nat → Bool, fb_ct (fr (k + 1) T) m = fb_ct (un (lf M f k N) (fr (k + 1) T) m) N ∧ un (lf M f k N) (fr (k + 1) T) m v = true
/-- the next letter bound -/
theorem RH_step {M f : Nat → Nat} {k m N v : Nat} (hk : k < m) (h : RH M f k m N) : RH M (va_up f k v) (k + 1) m N ↔ v < N ∧ (∀ j, j < k → f j ≠ v) ∧ ¬ tgt M f k m N v := by
  obtain ⟨h1, h2, h3⟩ := h
  have el : ∀ i q, lf M (va_up f k v) (k + 1) N i q = (lf M f k N i q && decide (q ≠ v)) := fun i q => by
    rw [Bool.eq_iff_iff, Bool.and_eq_true, lf_iff, lf_iff, decide_eq_true_iff]
    constructor
    · rintro ⟨a, b, c⟩
      refine ⟨⟨a, b, fun j hj => ?_⟩, fun e => ?_⟩
      · have := c j (by omega)
        rw [va_up_ne _ _ (by omega)] at this
        exact this
      · have := c k (by omega)
        rw [va_up_self] at this
        exact this e.symm
    · rintro ⟨⟨a, b, c⟩, e⟩
      refine ⟨a, b, fun j hj => ?_⟩
      by_cases z : j = k
      · rw [z, va_up_self]
        exact fun w => e w.symm
      · rw [va_up_ne _ _ z]
        exact c j (by omega)
  have eu : ∀ (T : Nat → Bool) q, un (lf M (va_up f k v) (k + 1) N) (fr (k + 1) T) m q = (if q = v then false else un (lf M f k N) (fr (k + 1) T) m q) := fun T q => by
    by_cases z : q = v
    · rw [if_pos z]
      cases e : un (lf M (va_up f k v) (k + 1) N) (fr (k + 1) T) m q with
      | false => rfl
      | true =>
        obtain ⟨i, hi, -, hb⟩ := un_iff.mp e
        rw [el] at hb
        exact absurd z (of_decide_eq_true (Bool.and_eq_true_iff.mp hb).2)
    · rw [if_neg z, Bool.eq_iff_iff, un_iff, un_iff]
      constructor
      · rintro ⟨i, hi, a, hb⟩
        rw [el] at hb
        exact ⟨i, hi, a, (Bool.and_eq_true_iff.mp hb).1⟩
      · rintro ⟨i, hi, a, hb⟩
        exact ⟨i, hi, a, by rw [el, hb, decide_eq_true z]; rfl⟩
  have e1 : ∀ T : Nat → Bool, fr k (fr (k + 1) T) = fr (k + 1) T := fun T => funext fun i => by
    unfold fr
    by_cases z : k + 1 ≤ i
    · rw [decide_eq_true z, decide_eq_true (show k ≤ i by omega)]
      simp
    · rw [decide_eq_false z]
      simp
  have hge : ∀ T : Nat → Bool, fb_ct (fr (k + 1) T) m ≤ fb_ct (un (lf M f k N) (fr (k + 1) T) m) N := fun T => by
    have := h3 (fr (k + 1) T)
    rw [e1] at this
    exact this
  constructor
  · rintro ⟨a, b, c⟩
    have hv : v < N := by
      have := a k (by omega)
      rw [va_up_self] at this
      exact this
    refine ⟨hv, fun j hj e => ?_, fun ht => ?_⟩
    · have := b j k (by omega) (by omega) (by rw [va_up_ne _ _ (by omega), va_up_self]; exact e)
      omega
    · obtain ⟨T, t1, t2⟩ := ht
      have c1 := c T
      rw [fb_ct_cong (fun q _ => eu T q)] at c1
      have u1 := fb_ct_upd (un (lf M f k N) (fr (k + 1) T) m) false hv
      rw [t2, if_pos rfl, if_neg (show ¬ false = true by decide)] at u1
      omega
  · rintro ⟨hv, hf, ht⟩
    refine ⟨fun i hi => ?_, fun i j hi hj e => ?_, fun T => ?_⟩
    · by_cases z : i = k
      · rw [z, va_up_self]
        exact hv
      · rw [va_up_ne _ _ z]
        exact h1 i (by omega)
    · by_cases z : i = k
      · by_cases z' : j = k
        · omega
        · rw [z, va_up_self, va_up_ne _ _ z'] at e
          exact absurd e.symm (hf j (by omega))
      · by_cases z' : j = k
        · rw [z', va_up_self, va_up_ne _ _ z] at e
          exact absurd e (hf i (by omega))
        · rw [va_up_ne _ _ z, va_up_ne _ _ z'] at e
          exact h2 i j (by omega) (by omega) e
    · rw [fb_ct_cong (fun q _ => eu T q)]
      have u1 := fb_ct_upd (un (lf M f k N) (fr (k + 1) T) m) false hv
      rw [if_neg (show ¬ false = true by decide)] at u1
      have g := hge T
      by_cases z : un (lf M f k N) (fr (k + 1) T) m v = true
      · rw [if_pos z] at u1
        have : fb_ct (fr (k + 1) T) m ≠ fb_ct (un (lf M f k N) (fr (k + 1) T) m) N := fun e => ht ⟨T, e, z⟩
        omega
      · rw [if_neg z] at u1
        omega
