/-! Letters and nights: the model's homes. -/
theorem bs_orp (P : Nat → Bool) (c : Nat) : bs P c ||| (if P c = true then 2 ^ c else 0) = bs P (c + 1) := by
  apply Nat.eq_of_testBit_eq
  intro i
  rw [Nat.testBit_or, bs_bit, bs_bit]
  by_cases e : i = c
  · rw [e, decide_eq_false (show ¬ c < c by omega), decide_eq_true (show c < c + 1 by omega)]
    by_cases q : P c = true
    · rw [if_pos q, Nat.testBit_two_pow, decide_eq_true rfl, q]
      rfl
    · rw [if_neg q, Nat.zero_testBit]
      cases z : P c with
      | false => rfl
      | true => exact absurd z q
  · have h : (if P c = true then 2 ^ c else 0).testBit i = false := by
      split
      · rw [Nat.testBit_two_pow, decide_eq_false (fun z => e z.symm)]
      · exact Nat.zero_testBit _
    rw [h, Bool.or_false]
    congr 1
    exact decide_eq_decide.mpr (by omega)
/-- the store of the model's homes -/
def K3 (s : ab_S) (C A : Nat → Int32) (y : Int64) : ab_S := py (pa (pa s 21 C) 20 A) 0 y
theorem K3_at (s : ab_S) (C A : Nat → Int32) (y : Int64) : sa (K3 s C A y) 21 = C ∧ sb (K3 s C A y) = sb s ∧ (∀ C', pa (K3 s C A y) 21 C' = K3 s C' A y) ∧ ∀ A' y', py (pa (K3 s C A y) 20 A') 0 y' = K3 s C A' y' := by
  unfold K3
  refine ⟨?_, rfl, fun C' => ?_, fun A' y' => ?_⟩
  · simp (disch := omega) only [E0]
  · have e : pa (pa (pa s 21 C) 20 A) 21 C' = pa (pa s 21 C') 20 A := by
      unfold pa
      simp only [va_up2]
      congr 5
      funext q
      unfold va_up
      by_cases h1 : q = 20
      · subst h1
        simp
      · by_cases h2 : q = 21
        · simp [h1, h2]
        · simp [h1, h2]
    show py (pa (pa (pa s 21 C) 20 A) 21 C') 0 y = _
    rw [e]
  · show py (py (pa (pa (pa s 21 C) 20 A) 20 A') 0 y) 0 y' = _
    simp only [E1]
/-- the letters' nights in the model -/
def lP (nm g w : Nat → Nat) (i q : Nat) : Bool := decide (nm (it g q (w i % 20)) = w i / 20)
def lM (nm g w : Nat → Nat) (i : Nat) : Nat := bs (lP nm g w i) 60
/-- the first k letters bound -/
def cf (f : Nat → Nat) (k i : Nat) : Nat := if i < k then f i else 60
theorem HL_cong {b b' : Nat → Nat → Bool} {m N : Nat} (e : ∀ i q, i < m → b' i q = b i q) : HL b' m N ↔ HL b m N := by
  have h : ∀ (S : Nat → Bool) q, un b' S m q = un b S m q := fun S q => by
    rw [Bool.eq_iff_iff, un_iff, un_iff]
    constructor
    · rintro ⟨i, hi, h1, h2⟩
      exact ⟨i, hi, h1, by rw [← e i q hi]; exact h2⟩
    · rintro ⟨i, hi, h1, h2⟩
      exact ⟨i, hi, h1, by rw [e i q hi]; exact h2⟩
  unfold HL
  constructor
  · intro a S
    have := a S
    rw [fb_ct_cong (fun q _ => h S q)] at this
    exact this
  · intro a S
    rw [fb_ct_cong (fun q _ => h S q)]
    exact a S
/-- the least night to which the next letter can be bound -/
def LsV (M f : Nat → Nat) (m N k v : Nat) : Prop := v < 60 ∧ (M k).testBit v = true ∧ HL (bb M (cf (va_up f k v) (k + 1))) m N ∧ ∀ v', v' < v → ¬ ((M k).testBit v' = true ∧ HL (bb M (cf (va_up f k v') (k + 1))) m N)
section LHM
variable {X : (Nat → Int32) × Nat} {d k n nr bm m : Nat} {s : ab_S} {nm z f g w : Nat → Nat} {st : Nat → Nat → Nat} {by' : Nat → Int32}
theorem l333n {j x3 : Nat} {B : Nat → Int64} {C : Nat → Int32} (h : RW s n nm nr z st bm by') (h2 : ∀ k, k < n → sa s 13 k = nI (f k)) (hf : ∀ k, k < n → f k < n) (hi : ∀ a b, a < n → b < n → f a = f b → a = b) (hgf : ∀ q, q < n → g (f q) = q) (hg : ∀ q, q < n → g q < n) (hj : j < 4) (hm : m ≤ 8) (hx : x3 < m) (hw : sb s 2 (30 * j + x3) = lN (w x3)) (hw2 : w x3 < 400 ∧ w x3 % 20 < n) : ∀ (j' c : Nat), c + j' = 60 → ab_at X (d + 4) 333 35 [some (.inr (9, 0)), some (.inl (.int (nI j))), some (.inl (.int (nI m))), some (.inl (.int (nI x3))), some (.inl (.int (nI c))), none] [] (pb (pa s 21 C) 1 (va_up B x3 (lN (bs (lP nm g w x3) c)))) = ab_at X (d + 4) 333 13 [some (.inr (9, 0)), some (.inl (.int (nI j))), some (.inl (.int (nI m))), some (.inl (.int (nI (x3 + 1)))), some (.inl (.int (nI 60))), none] [] (pb (pa s 21 C) 1 (va_up B x3 (lN (lM nm g w x3))))
  | 0, c, e => by
    obtain rfl : c = 60 := by omega
    rw [b333_35, if_pos (nI_le (Nat.le_refl _) (by omega)), nI_add]
    rfl
  | j' + 1, c, e => by
    have ih := l333n (B := B) (C := C) h h2 hf hi hgf hg hj hm hx hw hw2 j' (c + 1) (by omega)
    obtain ⟨t, ht⟩ : ∃ t, t = pb (pa s 21 C) 1 (va_up B x3 (lN (bs (lP nm g w x3) c))) := ⟨_, rfl⟩
    have e8 : sa t 8 = sa s 8 := by rw [ht]; simp (disch := omega) only [E0]
    have e13 : sa t 13 = sa s 13 := by rw [ht]; simp (disch := omega) only [E0]
    have e2 : sb t 2 = sb s 2 := by rw [ht]; simp (disch := omega) only [E0]
    have e1 : sb t 1 = va_up B x3 (lN (bs (lP nm g w x3) c)) := by rw [ht]; simp (disch := omega) only [E0]
    have up : ∀ F, pb t 1 F = pb (pa s 21 C) 1 F := fun F => by rw [ht]; simp only [E1]
    rw [← ht, b333_35, if_neg (nI_ge (by omega) (by omega)), r_in (j := x3) (by omega) (by decide), nI_clamp (by omega), r326 (X := X) (d := d) (s := t) (h.same e8) (fun k hk => by rw [e13]; exact h2 k hk) hf hi hgf hg hj (by omega) (by omega) (by rw [e2]; exact hw) hw2, e_bI, r_inc (by omega) (by decide), r_inc (by omega) (by decide), nI_add, n_l2i c (by omega), e1, va_up_self, l_or, l_or, up, up, va_up2, va_up2]
    have eb := bs_orp (lP nm g w x3) c
    by_cases q : nm (it g c (w x3 % 20)) = w x3 / 20
    · have q' : lP nm g w x3 c = true := decide_eq_true q
      rw [if_pos q'] at eb
      rw [if_pos q, if_neg (show ¬ nI 1 = nI 0 by decide), eb]
      exact ih
    · have q' : ¬ lP nm g w x3 c = true := fun z => q (of_decide_eq_true z)
      rw [if_neg q'] at eb
      rw [if_neg q, if_pos rfl, eb]
      exact ih
theorem l333a {j : Nat} (h : RW s n nm nr z st bm by') (h2 : ∀ k, k < n → sa s 13 k = nI (f k)) (hf : ∀ k, k < n → f k < n) (hi : ∀ a b, a < n → b < n → f a = f b → a = b) (hgf : ∀ q, q < n → g (f q) = q) (hg : ∀ q, q < n → g q < n) (hj : j < 4) (hm : m ≤ 8) (hw : ∀ i, i < m → sb s 2 (30 * j + i) = lN (w i)) (hw2 : ∀ i, i < m → w i < 400 ∧ w i % 20 < n) : ∀ (j' x3 : Nat) (B : Nat → Int64) (C : Nat → Int32) (u : Option ab_V), x3 + j' = m → (∀ i, i < x3 → B i = lN (lM nm g w i) ∧ C i = -nI 1) → ∃ (B' : Nat → Int64) (C' : Nat → Int32) (u' : Option ab_V), ab_at X (d + 4) 333 13 [some (.inr (9, 0)), some (.inl (.int (nI j))), some (.inl (.int (nI m))), some (.inl (.int (nI x3))), u, none] [] (pb (pa s 21 C) 1 B) = ab_at X (d + 4) 333 84 [some (.inr (9, 0)), some (.inl (.int (nI j))), some (.inl (.int (nI m))), some (.inl (.int (nI 0))), u', none] [] (pb (pa s 21 C') 1 B') ∧ ∀ i, i < m → B' i = lN (lM nm g w i) ∧ C' i = -nI 1
  | 0, x3, B, C, u, e, hh => by
    obtain rfl : x3 = m := by omega
    exact ⟨B, C, u, by rw [b333_13, if_pos (nI_le (Nat.le_refl _) (by omega))], hh⟩
  | j' + 1, x3, B, C, u, e, hh => by
    have hx : x3 < m := by omega
    have l := l333n (X := X) (d := d) (B := B) (C := va_up C x3 (-nI 1)) h h2 hf hi hgf hg hj hm hx (hw x3 hx) (hw2 x3 hx) 60 0 (by omega)
    obtain ⟨B', C', u', g1, g2⟩ := l333a h h2 hf hi hgf hg hj hm hw hw2 j' (x3 + 1) (va_up B x3 (lN (lM nm g w x3))) (va_up C x3 (-nI 1)) (some (.inl (.int (nI 60)))) (by omega) (fun i hi => by
      by_cases z : i = x3
      · rw [z, va_up_self, va_up_self]
        exact ⟨rfl, rfl⟩
      · rw [va_up_ne _ _ z, va_up_ne _ _ z]
        exact hh i (by omega))
    refine ⟨B', C', u', ?_, g2⟩
    rw [← g1, ← l, b333_13, if_neg (nI_ge hx (by omega)), r_in (j := x3) (by omega) (by decide), r_in (j := x3) (by omega) (by decide), nI_clamp (by omega)]
    congr 1
    show pa (pb (pb (pa s 21 C) 1 B) 1 _) 21 _ = _
    simp (disch := omega) only [E0, E1]
    show pb (pa (pa s 21 C) 21 _) 1 _ = _
    simp (disch := omega) only [E1]
    rfl
end LHM
