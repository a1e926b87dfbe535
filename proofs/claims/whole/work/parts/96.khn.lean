/-! Letters and nights: the model's fitting of letters to nights, and when it fails. -/
theorem shf_k : ∀ k, k < 64 → ((nI k).toInt64 &&& 63) = Int64.ofNat k := by decide +kernel
theorem smod_k : ∀ k, k < 64 → (Int64.ofNat k).toBitVec.smod 64 = BitVec.ofNat 64 k := by decide +kernel
theorem l_sshr {M k : Nat} (h : M < 2 ^ 63) (hk : k < 64) : lN M >>> ((nI k).toInt64 &&& 63) = lN (M / 2 ^ k) := by
  have h2 : M / 2 ^ k < 2 ^ 63 := Nat.lt_of_le_of_lt (Nat.div_le_self _ _) h
  apply Int64.toInt_inj.mp
  rw [lN_int h2, shf_k k hk]
  show (lN M >>> Int64.ofNat k).toBitVec.toInt = _
  rw [Int64.toBitVec_shiftRight, smod_k k hk]
  unfold BitVec.sshiftRight'
  rw [BitVec.toInt_sshiftRight, BitVec.toNat_ofNat, Nat.mod_eq_of_lt (show k < 2 ^ 64 by omega)]
  show (lN M).toInt >>> k = _
  rw [lN_int h, Int.shiftRight_eq_div_pow]
  norm_cast
theorem bit_div (M k : Nat) : M / 2 ^ k &&& 1 = (M.testBit k).toNat := by
  rw [Nat.and_one_is_mod, Nat.testBit_eq_decide_div_mod_eq]
  rcases Nat.mod_two_eq_zero_or_one (M / 2 ^ k) with h | h
  · rw [h]
    rfl
  · rw [h]
    rfl
theorem bit1 {M k : Nat} (h : M < 2 ^ 63) (hk : k < 64) : lg_cmp ((lN M >>> ((nI k).toInt64 &&& 63)) &&& lN 1) (lN 1) = nI 0 ↔ M.testBit k = true := by
  rw [l_sshr h hk, l_and, bit_div, j_eq]
  cases M.testBit k <;> decide
theorem bit0 {M k : Nat} (h : M < 2 ^ 63) (hk : k < 64) : lg_cmp ((lN M >>> ((nI k).toInt64 &&& 63)) &&& lN 1) (lN 0) = nI 0 ↔ M.testBit k = false := by
  rw [l_sshr h hk, l_and, bit_div, j_eq]
  cases M.testBit k <;> decide
/-- as many can be named as can be led, one to one -/
theorem inj_ct : ∀ {m N : Nat} {S P : Nat → Bool} {h : Nat → Nat}, (∀ i, i < m → S i = true → h i < N ∧ P (h i) = true) → (∀ i j, i < m → j < m → S i = true → S j = true → h i = h j → i = j) → fb_ct S m ≤ fb_ct P N
  | 0, _, _, _, _, _, _ => Nat.zero_le _
  | m + 1, N, S, P, h, h1, h2 => by
    rw [fb_ct_succ]
    by_cases q : S m = true
    · obtain ⟨a, b⟩ := h1 m (by omega) q
      have h3 := fb_ct_upd P false a
      rw [b, if_pos rfl, if_neg (show ¬ false = true by decide)] at h3
      have ih := inj_ct (m := m) (N := N) (S := S) (P := fun k => if k = h m then false else P k) (h := h) (fun i hi hS => ⟨(h1 i (by omega) hS).1, by
        show (if h i = h m then false else P (h i)) = true
        rw [if_neg (fun e => by have := h2 i m (by omega) (by omega) hS q e; omega)]
        exact (h1 i (by omega) hS).2⟩) (fun i j hi hj => h2 i j (by omega) (by omega))
      rw [if_pos q]
      omega
    · rw [if_neg q]
      exact inj_ct (fun i hi => h1 i (by omega)) (fun i j hi hj => h2 i j (by omega) (by omega))
/-- the nights of some letters -/
def un (b : Nat → Nat → Bool) (S : Nat → Bool) (m q : Nat) : Bool := decide (0 < fb_ct (fun i => S i && b i q) m)
theorem un_iff {b : Nat → Nat → Bool} {S : Nat → Bool} {m q : Nat} : un b S m q = true ↔ ∃ i, i < m ∧ S i = true ∧ b i q = true := by
  unfold un
  rw [decide_eq_true_iff, fb_ct_pos]
  constructor
  · rintro ⟨i, hi, h⟩
    exact ⟨i, hi, (Bool.and_eq_true _ _ ▸ h).1, (Bool.and_eq_true _ _ ▸ h).2⟩
  · rintro ⟨i, hi, h1, h2⟩
    exact ⟨i, hi, by rw [h1, h2]; rfl⟩
/-- any letters have as many nights, of the first N -/
def HL (b : Nat → Nat → Bool) (m N : Nat) : Prop := ∀ S : Nat → Bool, fb_ct S m ≤ fb_ct (un b S m) N
/-- what a letter may take: the night it is bound to, or one of its nights -/
def bb (M c : Nat → Nat) (i q : Nat) : Bool := if c i < 60 then decide (c i = q) else (M i).testBit q
def fx (c : Nat → Nat) (i : Nat) : Int32 := if c i < 60 then nI (c i) else -nI 1
theorem fx_free {c : Nat → Nat} {i : Nat} : fx c i = -nI 1 ↔ ¬ c i < 60 := by
  unfold fx
  by_cases q : c i < 60
  · rw [if_pos q]
    exact ⟨fun e => absurd e (n_m1 _ (by omega)), fun h => absurd q h⟩
  · rw [if_neg q]
    exact ⟨fun _ => q, fun _ => rfl⟩
/-- nights not yet looked at fit: their letters may take them, one night each -/
def PM (b : Nat → Nat → Bool) (m N W : Nat) (A : Nat → Int32) : Prop := (∀ q, q < N → W.testBit q = false → A q = -nI 1 ∨ ∃ i, i < m ∧ A q = nI i ∧ b i q = true) ∧ ∀ q q' i, q < N → q' < N → W.testBit q = false → W.testBit q' = false → A q = nI i → A q' = nI i → i < m → q = q'
/-- a letter has a night, of those not looked at -/
def ow (N W : Nat) (A : Nat → Int32) (i : Nat) : Prop := ∃ q, q < N ∧ W.testBit q = false ∧ A q = nI i
def ms (m N W : Nat) (A : Nat → Int32) : Nat := fb_ct (fun q => !W.testBit q && decide (A q ≠ -nI 1)) N
theorem bor_bit {W k q : Nat} : (W ||| 2 ^ k).testBit q = (W.testBit q || decide (k = q)) := by rw [Nat.testBit_or, Nat.testBit_two_pow]
theorem bor_lt {W k : Nat} (h : W < 2 ^ 60) (hk : k < 60) : W ||| 2 ^ k < 2 ^ 60 := Nat.or_lt_two_pow h (Nat.pow_lt_pow_right (by omega) hk)
/-- what a look for a night of a letter gives -/
def KR (b : Nat → Nat → Bool) (m N x W : Nat) (A : Nat → Int32) (r : Nat) (W' : Nat) (A' : Nat → Int32) : Prop := W' < 2 ^ 60 ∧ (∀ q, W.testBit q = true → W'.testBit q = true) ∧ ((r = 0 ∧ A' = A ∧ (∀ q, q < N → b x q = true → W'.testBit q = true) ∧ ∀ q, q < N → W'.testBit q = true → W.testBit q = false → ∃ i, i < m ∧ A q = nI i ∧ ∀ q', q' < N → b i q' = true → W'.testBit q' = true) ∨ (r = 1 ∧ (∀ q, q < N → W.testBit q = true → A' q = A q) ∧ PM b m N W A' ∧ ∀ i, i < m → (ow N W A' i ↔ i = x ∨ ow N W A i)))
/-- the place of a loop: what failed so far -/
def KL (b : Nat → Nat → Bool) (m N x W : Nat) (A : Nat → Int32) (c V : Nat) : Prop := V < 2 ^ 60 ∧ (∀ q, W.testBit q = true → V.testBit q = true) ∧ (∀ q, q < c → b x q = true → V.testBit q = true) ∧ ∀ q, q < N → V.testBit q = true → W.testBit q = false → ∃ i, i < m ∧ A q = nI i ∧ ∀ q', q' < N → b i q' = true → V.testBit q' = true
theorem KL_fail {b : Nat → Nat → Bool} {m N x W V : Nat} {A : Nat → Int32} (h : KL b m N x W A N V) : KR b m N x W A 0 V A := ⟨h.1, h.2.1, Or.inl ⟨rfl, rfl, fun q hq hb => h.2.2.1 q hq hb, h.2.2.2⟩⟩
theorem KL_next {b : Nat → Nat → Bool} {m N x W c V : Nat} {A : Nat → Int32} (h : KL b m N x W A c V) (hc : b x c = true → V.testBit c = true) : KL b m N x W A (c + 1) V := ⟨h.1, h.2.1, fun q hq hb => by
  by_cases e : q = c
  · rw [e] at hb ⊢
    exact hc hb
  · exact h.2.2.1 q (by omega) hb, h.2.2.2⟩
/-- a night that no one has is taken -/
theorem KR_take {b : Nat → Nat → Bool} {m N x W c V : Nat} {A : Nat → Int32} (hx : x < m) (hm : m ≤ 8) (h : KL b m N x W A c V) (hc : c < N) (hN : N ≤ 60) (hb : b x c = true) (hV : V.testBit c = false) (hP : PM b m N W A) (hA : A c = -nI 1) (hno : ¬ ow N W A x) : KR b m N x W A 1 (V ||| 2 ^ c) (va_up A c (nI x)) := by
  have hW : W.testBit c = false := by
    cases e : W.testBit c with
    | false => rfl
    | true =>
      have := h.2.1 c e
      rw [hV] at this
      cases this
  refine ⟨bor_lt h.1 (by omega), fun q hq => by rw [bor_bit, h.2.1 q hq]; rfl, Or.inr ⟨rfl, fun q hq hq2 => va_up_ne _ _ (fun e => by rw [e, hW] at hq2; cases hq2), ⟨fun q hq hq2 => ?_, fun q q' i hq hq' hw hw' e e' hi => ?_⟩, fun i hi => ?_⟩⟩
  · by_cases e : q = c
    · rw [e, va_up_self]
      exact Or.inr ⟨x, hx, rfl, hb⟩
    · rw [va_up_ne _ _ e]
      exact hP.1 q hq hq2
  · by_cases z : q = c
    · by_cases z' : q' = c
      · rw [z, z']
      · rw [z, va_up_self] at e
        rw [va_up_ne _ _ z'] at e'
        have := (nI_eq (by omega) (by omega)).mp e
        exact absurd ⟨q', hq', hw', by rw [e', this]⟩ hno
    · rw [va_up_ne _ _ z] at e
      by_cases z' : q' = c
      · rw [z', va_up_self] at e'
        have := (nI_eq (by omega) (by omega)).mp e'
        exact absurd ⟨q, hq, hw, by rw [e, this]⟩ hno
      · rw [va_up_ne _ _ z'] at e'
        exact hP.2 q q' i hq hq' hw hw' e e' hi
  · constructor
    · rintro ⟨q, hq, hw, e⟩
      by_cases z : q = c
      · rw [z, va_up_self] at e
        exact Or.inl ((nI_eq (by omega) (by omega)).mp e).symm
      · rw [va_up_ne _ _ z] at e
        exact Or.inr ⟨q, hq, hw, e⟩
    · rintro (rfl | ⟨q, hq, hw, e⟩)
      · exact ⟨c, hc, hW, va_up_self _ _ _⟩
      · refine ⟨q, hq, hw, ?_⟩
        rw [va_up_ne _ _ (fun z => by rw [z, hA] at e; exact n_m1 _ (by omega) e.symm)]
        exact e
/-- a night whose letter found another is taken -/
theorem KR_aug {b : Nat → Nat → Bool} {m N x y W c V V' : Nat} {A A' : Nat → Int32} (hx : x < m) (hm : m ≤ 8) (h : KL b m N x W A c V) (hc : c < N) (hN : N ≤ 60) (hb : b x c = true) (hV : V.testBit c = false) (hP : PM b m N W A) (hy : y < m) (hA : A c = nI y) (hno : ¬ ow N W A x) (hr : KR b m N y (V ||| 2 ^ c) A 1 V' A') : KR b m N x W A 1 V' (va_up A' c (nI x)) := by
  have hW : W.testBit c = false := by
    cases e : W.testBit c with
    | false => rfl
    | true =>
      have := h.2.1 c e
      rw [hV] at this
      cases this
  obtain ⟨k1, k2, ⟨z, -⟩ | ⟨-, k3, k4, k5⟩⟩ := hr
  · cases z
  have hWV : ∀ q, W.testBit q = true → (V ||| 2 ^ c).testBit q = true := fun q hq => by rw [bor_bit, h.2.1 q hq]; rfl
  have hxy : x ≠ y := fun e => hno ⟨c, hc, hW, by rw [hA, e]⟩
  -- nights looked at keep their letters
  have old : ∀ q, q < N → (V ||| 2 ^ c).testBit q = true → A' q = A q := k3
  have far : ∀ q i, q < N → i < m → W.testBit q = false → (V ||| 2 ^ c).testBit q = false → A' q = nI i → i = y ∨ ow N W A i := fun q i hq hi h1 h2 e => by
    rcases (k5 i hi).mp ⟨q, hq, h2, e⟩ with h3 | ⟨q', h4, h5, h6⟩
    · exact Or.inl h3
    · refine Or.inr ⟨q', h4, ?_, h6⟩
      cases e : W.testBit q' with
      | false => rfl
      | true =>
        rw [hWV q' e] at h5
        cases h5
  refine ⟨k1, fun q hq => k2 q (hWV q hq), Or.inr ⟨rfl, fun q hq hq2 => ?_, ⟨fun q hq hq2 => ?_, fun q q' i hq hq' hw hw' e e' hi => ?_⟩, fun i hi => ?_⟩⟩
  · rw [va_up_ne _ _ (fun e => by rw [e, hW] at hq2; cases hq2)]
    exact old q hq (hWV q hq2)
  · by_cases e : q = c
    · rw [e, va_up_self]
      exact Or.inr ⟨x, hx, rfl, hb⟩
    · rw [va_up_ne _ _ e]
      cases e2 : (V ||| 2 ^ c).testBit q with
      | false => exact k4.1 q hq e2
      | true =>
        rw [old q hq e2]
        exact hP.1 q hq hq2
  · -- one night each
    have key : ∀ q i, q < N → W.testBit q = false → q ≠ c → A' q = nI i → i < m → i ≠ x := fun q i hq hw hqc e hi z => by
      cases e2 : (V ||| 2 ^ c).testBit q with
      | false =>
        rcases far q i hq hi hw e2 e with h3 | h3
        · exact hxy (z.symm.trans h3)
        · exact hno (z ▸ h3)
      | true =>
        rw [old q hq e2] at e
        exact hno ⟨q, hq, hw, by rw [e, z]⟩
    by_cases z : q = c
    · by_cases z' : q' = c
      · rw [z, z']
      · rw [z, va_up_self] at e
        rw [va_up_ne _ _ z'] at e'
        have := (nI_eq (by omega) (by omega)).mp e
        exact absurd this.symm (key q' i hq' hw' z' e' hi)
    · rw [va_up_ne _ _ z] at e
      by_cases z' : q' = c
      · rw [z', va_up_self] at e'
        have := (nI_eq (by omega) (by omega)).mp e'
        exact absurd this.symm (key q i hq hw z e hi)
      · rw [va_up_ne _ _ z'] at e'
        cases e2 : (V ||| 2 ^ c).testBit q with
        | false =>
          cases e3 : (V ||| 2 ^ c).testBit q' with
          | false => exact k4.2 q q' i hq hq' e2 e3 e e' hi
          | true =>
            rw [old q' hq' e3] at e'
            rcases (k5 i hi).mp ⟨q, hq, e2, e⟩ with h3 | ⟨p, h4, h5, h6⟩
            · rw [h3] at e'
              exact absurd (hP.2 q' c y hq' hc hw' hW e' hA hy) z'
            · have hp : W.testBit p = false := by
                cases e : W.testBit p with
                | false => rfl
                | true =>
                  rw [hWV p e] at h5
                  cases h5
              have := hP.2 q' p i hq' h4 hw' hp e' h6 hi
              rw [← this, e3] at h5
              cases h5
        | true =>
          rw [old q hq e2] at e
          cases e3 : (V ||| 2 ^ c).testBit q' with
          | false =>
            rcases (k5 i hi).mp ⟨q', hq', e3, e'⟩ with h3 | ⟨p, h4, h5, h6⟩
            · rw [h3] at e
              exact absurd (hP.2 q c y hq hc hw hW e hA hy) z
            · have hp : W.testBit p = false := by
                cases e : W.testBit p with
                | false => rfl
                | true =>
                  rw [hWV p e] at h5
                  cases h5
              have := hP.2 q p i hq h4 hw hp e h6 hi
              rw [← this, e2] at h5
              cases h5
          | true =>
            rw [old q' hq' e3] at e'
            exact hP.2 q q' i hq hq' hw hw' e e' hi
  · constructor
    · rintro ⟨q, hq, hw, e⟩
      by_cases z : q = c
      · rw [z, va_up_self] at e
        exact Or.inl ((nI_eq (by omega) (by omega)).mp e).symm
      · rw [va_up_ne _ _ z] at e
        cases e2 : (V ||| 2 ^ c).testBit q with
        | false =>
          rcases far q i hq hi hw e2 e with h3 | h3
          · exact Or.inr (by rw [h3]; exact ⟨c, hc, hW, hA⟩)
          · exact Or.inr h3
        | true =>
          rw [old q hq e2] at e
          exact Or.inr ⟨q, hq, hw, e⟩
    · rintro (rfl | ⟨q, hq, hw, e⟩)
      · exact ⟨c, hc, hW, va_up_self _ _ _⟩
      · cases e2 : (V ||| 2 ^ c).testBit q with
        | false =>
          obtain ⟨p, h4, h5, h6⟩ := (k5 i hi).mpr (Or.inr ⟨q, hq, e2, e⟩)
          refine ⟨p, h4, ?_, ?_⟩
          · cases e : W.testBit p with
            | false => rfl
            | true =>
              rw [hWV p e] at h5
              cases h5
          · rw [va_up_ne _ _ (fun z => by rw [z, bor_bit, decide_eq_true rfl, Bool.or_true] at h5; cases h5)]
            exact h6
        | true =>
          by_cases z : q = c
          · -- the letter y has another night now
            rw [z, hA] at e
            have ey : y = i := (nI_eq (by omega) (by omega)).mp e
            obtain ⟨p, h4, h5, h6⟩ := (k5 y hy).mpr (Or.inl rfl)
            refine ⟨p, h4, ?_, ?_⟩
            · cases e : W.testBit p with
              | false => rfl
              | true =>
                rw [hWV p e] at h5
                cases h5
            · rw [va_up_ne _ _ (fun z => by rw [z, bor_bit, decide_eq_true rfl, Bool.or_true] at h5; cases h5), ← ey]
              exact h6
          · exact ⟨q, hq, hw, by rw [va_up_ne _ _ z, old q hq e2]; exact e⟩
/-- a letter that found no other leaves the loop where it was -/
theorem KL_sub {b : Nat → Nat → Bool} {m N x y W c V V' : Nat} {A A' : Nat → Int32} (h : KL b m N x W A c V) (hc : c < N) (hb : b x c = true) (hy : y < m) (hA : A c = nI y) (hr : KR b m N y (V ||| 2 ^ c) A 0 V' A') : KL b m N x W A (c + 1) V' ∧ A' = A := by
  obtain ⟨k1, k2, ⟨-, k3, k4, k5⟩ | ⟨z, -⟩⟩ := hr
  · have hVV : ∀ q, V.testBit q = true → V'.testBit q = true := fun q hq => k2 q (by rw [bor_bit, hq]; rfl)
    have hcV : V'.testBit c = true := k2 c (by rw [bor_bit, decide_eq_true rfl, Bool.or_true])
    refine ⟨⟨k1, fun q hq => hVV q (h.2.1 q hq), fun q hq hb2 => ?_, fun q hq hq1 hq2 => ?_⟩, k3⟩
    · by_cases e : q = c
      · rw [e]
        exact hcV
      · exact hVV q (h.2.2.1 q (by omega) hb2)
    · cases e : V.testBit q with
      | true =>
        obtain ⟨i, a1, a2, a3⟩ := h.2.2.2 q hq e hq2
        exact ⟨i, a1, a2, fun q' h1 h2 => hVV q' (a3 q' h1 h2)⟩
      | false =>
        by_cases e2 : q = c
        · rw [e2]
          exact ⟨y, hy, hA, fun q' h1 h2 => k4 q' h1 h2⟩
        · exact k5 q hq hq1 (by rw [bor_bit, e, decide_eq_false (fun z => e2 z.symm)]; rfl)
  · cases z
