/-! Letters and nights: the class' last night. -/
theorem ct_top {T m n : Nat} (h : T < 2 ^ m) (hmn : m ≤ n) : fb_ct (fun j => T.testBit j) n = fb_ct (fun j => T.testBit j) m := by
  obtain ⟨e, rfl⟩ : ∃ e, n = m + e := ⟨n - m, by omega⟩
  rw [fb_ct_split]
  have z : fb_ct (fun k => (fun j => T.testBit j) (m + k)) e = 0 := fb_ct_zero.mpr (fun k _ => Nat.testBit_lt_two_pow (Nat.lt_of_lt_of_le h (Nat.pow_le_pow_right (by omega) (by omega))))
  rw [z]
  rfl
/-- as many nights as letters, for the letters of every mask below -/
def HT (B : Nat → Nat → Bool) (m T N : Nat) : Prop := ∀ T', 1 ≤ T' → T' < T → fb_ct (fun j => T'.testBit j) m ≤ fb_ct (un B (fun j => T'.testBit j) m) N
theorem HT_HL {B : Nat → Nat → Bool} {m N : Nat} : HT B m (2 ^ m) N ↔ HL B m N := by
  constructor
  · intro h S
    have e : ∀ i, i < m → (bs S m).testBit i = S i := fun i hi => by
      rw [bs_bit, decide_eq_true hi]
      rfl
    rw [← fb_ct_cong (p := fun j => (bs S m).testBit j) (q := S) e]
    have eu : ∀ q, un B S m q = un B (fun j => (bs S m).testBit j) m q := fun q => by
      rw [Bool.eq_iff_iff, un_iff, un_iff]
      constructor
      · rintro ⟨i, hi, h1, h2⟩
        exact ⟨i, hi, by rw [e i hi]; exact h1, h2⟩
      · rintro ⟨i, hi, h1, h2⟩
        exact ⟨i, hi, by rw [← e i hi]; exact h1, h2⟩
    rw [fb_ct_cong (fun q _ => eu q)]
    by_cases z : bs S m = 0
    · have : fb_ct (fun j => (bs S m).testBit j) m = 0 := fb_ct_zero.mpr (fun k _ => by rw [z]; exact zb k)
      omega
    · exact h _ (by omega) (bs_lt S m)
  · intro h T' _ _
    exact h _
theorem kth_lt {P : Nat → Bool} {p v N : Nat} (h1 : P v = true) (h2 : fb_ct P v = p - 1) (hp : 1 ≤ p) : p ≤ fb_ct P N ↔ v < N := by
  constructor
  · intro h
    rcases Nat.lt_or_ge v N with h3 | h3
    · exact h3
    · have := fb_ct_mono P h3
      omega
  · intro h
    have := fb_ct_mono P (show v + 1 ≤ N from h)
    rw [fb_ct_succ, h1, if_pos rfl] at this
    omega
theorem ct_pos {T m : Nat} (h0 : 1 ≤ T) (h : T < 2 ^ m) : 1 ≤ fb_ct (fun j => T.testBit j) m := by
  rcases Nat.eq_zero_or_pos (fb_ct (fun j => T.testBit j) m) with z | z
  · have e : T = 0 := Nat.eq_of_testBit_eq (fun i => by
      rw [zb]
      by_cases hi : i < m
      · exact fb_ct_zero.mp z i hi
      · exact Nat.testBit_lt_two_pow (Nat.lt_of_lt_of_le h (Nat.pow_le_pow_right (by omega) (by omega))))
    omega
  · exact z
section LHC
variable {X : (Nat → Int32) × Nat} {d m : Nat} {s : ab_S} {B : Nat → Nat → Bool}
theorem l183 (hz : sz s 10 = nI m) (h1 : 1 ≤ m) (hm : m ≤ 8) (hB : ∀ i, i < m → sb s 0 i = mk (B i)) : ∀ (j T : Nat) (x : Int32) (u : Option ab_V), T + j = 2 ^ m → 1 ≤ T → ((T = 1 ∧ x = -nI 1) ∨ ∃ D, D < 60 ∧ x = nI D ∧ 1 < T ∧ ∀ N, N ≤ 60 → (HT B m T N ↔ D < N)) → (ab_at X (d + 3) 183 4 [some (.inr (7, 0)), some (.inl (.int x)), some (.inl (.int (nI T))), u] [] s = some (.inl (some (.inl (.int (-nI 1)))), s) ∧ ¬ HT B m (2 ^ m) 60) ∨ ∃ D, D < 60 ∧ ab_at X (d + 3) 183 4 [some (.inr (7, 0)), some (.inl (.int x)), some (.inl (.int (nI T))), u] [] s = some (.inl (some (.inl (.int (nI D)))), s) ∧ ∀ N, N ≤ 60 → (HT B m (2 ^ m) N ↔ D < N)
  | 0, T, x, u, e, hT, hx => by
    have hp : 2 ^ m ≤ 2 ^ 8 := Nat.pow_le_pow_right (by omega) hm
    have hp1 : 2 ^ 1 ≤ 2 ^ m := Nat.pow_le_pow_right (by omega) h1
    have hp8 : (2 : Nat) ^ 8 = 256 := by decide
    have eT : T = 2 ^ m := by omega
    rcases hx with ⟨h, -⟩ | ⟨D, h3, h4, -, h6⟩
    · omega
    · refine Or.inr ⟨D, h3, ?_, by rw [eT] at h6; exact h6⟩
      rw [b183_4, hz, n_sh m (by omega), if_pos (nI_le (by omega) (by omega)), h4]
  | j + 1, T, x, u, e, hT, hx => by
    have hp : 2 ^ m ≤ 2 ^ 8 := Nat.pow_le_pow_right (by omega) hm
    have hp8 : (2 : Nat) ^ 8 = 256 := by decide
    have hTm : T < 2 ^ m := by omega
    obtain ⟨p, hp0⟩ : ∃ p, p = fb_ct (fun j => T.testBit j) m := ⟨_, rfl⟩
    have hp1 : 1 ≤ p := by rw [hp0]; exact ct_pos hT hTm
    have hpm : p ≤ m := by rw [hp0]; exact fb_ct_le _ _
    obtain ⟨P, hP⟩ : ∃ P, P = un B (fun i => T.testBit i) m := ⟨_, rfl⟩
    have c1 := c_184 (X := X) (d := d + 2) (T := T) hz hm (by omega) hB
    rw [← hP] at c1
    have c2 : ab_ev X (d + 2) 37 [.inl (.int (nI T))] s = some (.inl (some (.inl (.int (nI p)))), s) := by
      rw [c_ct32 (by omega), ct_top hTm (by omega), hp0]
    have c3 := c_185 (X := X) (d := d + 1) (s := s) (P := P) (p := p) hp1 (by omega)
    have pre : ∀ r : Int32, ab_ev X (d + 2) 185 [.inl (.long (mk P)), .inl (.int (nI p))] s = some (.inl (some (.inl (.int r))), s) → ab_at X (d + 3) 183 4 [some (.inr (7, 0)), some (.inl (.int x)), some (.inl (.int (nI T))), u] [] s = (if r = (-nI 1) then some (.inl (some (.inl (.int (-nI 1)))), s) else ab_bI (ab_ev X (d + 2) 58 [.inl (.int x), .inl (.int r)] s) (fun r8 s7 => ab_at X (d + 2 + 1) 183 4 [some (.inr (7, 0)), some (.inl (.int r8)), some (.inl (.int (nI T + nI 1))), some (.inl (.int r))] [] s7) ab_px) := fun r hr => by
      rw [b183_4, hz, n_sh m (by omega), if_neg (nI_ge hTm (by omega)), c1, e_bJ, c2, e_bI, hr, e_bI]
    rcases Nat.lt_or_ge (fb_ct P 60) p with h | h
    · refine Or.inl ⟨?_, fun z => ?_⟩
      · rw [pre _ (c3.2 h), if_pos rfl]
      · have := z T hT hTm
        rw [← hp0, ← hP] at this
        omega
    · obtain ⟨v, h3, h4, h5, h6⟩ := c3.1 h
      have key : ∀ N, p ≤ fb_ct P N ↔ v < N := fun N => kth_lt h4 h5 hp1
      have hs : ∀ N, HT B m (T + 1) N ↔ HT B m T N ∧ p ≤ fb_ct P N := fun N => by
        constructor
        · intro hh
          refine ⟨fun T' a b => hh T' a (by omega), ?_⟩
          have := hh T hT (by omega)
          rw [hp0, hP]
          exact this
        · rintro ⟨hh, h7⟩ T' a b
          by_cases z : T' = T
          · rw [z, ← hp0, ← hP]
            exact h7
          · exact hh T' a (by omega)
      rw [pre _ h6, if_neg (n_m1 _ (by omega))]
      rcases hx with ⟨hT1, rfl⟩ | ⟨D, h7, rfl, h8, h9⟩
      · have c4 : ab_ev X (d + 2) 58 [.inl (.int (-nI 1)), .inl (.int (nI v))] s = some (.inl (some (.inl (.int (nI v)))), s) := by
          rw [b58]
          have hlt : -nI 1 < nI v := by
            rw [Int32.lt_iff_toInt_lt, nI_toInt (by omega), show (-nI 1).toInt = -1 by decide]
            omega
          first
            | rw [if_pos hlt]
            | (rw [if_neg (fun z => by
                have a := Int32.lt_iff_toInt_lt.mp hlt
                have b := Int32.lt_iff_toInt_lt.mp z
                omega)])
        rw [c4, e_bI, nI_add]
        refine l183 hz h1 hm hB j (T + 1) _ _ (by omega) (by omega) (Or.inr ⟨v, h3, rfl, by omega, fun N hN => ?_⟩)
        rw [hs, key]
        constructor
        · exact fun z => z.2
        · exact fun z => ⟨fun T' a b => absurd b (by omega), z⟩
      · rw [c_max D v (by omega) (by omega), e_bI, nI_add]
        refine l183 hz h1 hm hB j (T + 1) _ _ (by omega) (by omega) (Or.inr ⟨max D v, by omega, rfl, by omega, fun N hN => ?_⟩)
        rw [hs, key, h9 N hN]
        omega
/-- the night by which all letters can be home -/
theorem c_183 (hz : sz s 10 = nI m) (h1 : 1 ≤ m) (hm : m ≤ 8) (hB : ∀ i, i < m → sb s 0 i = mk (B i)) : (ab_ev X (d + 3) 183 [.inr (7, 0)] s = some (.inl (some (.inl (.int (-nI 1)))), s) ∧ ¬ HL B m 60) ∨ ∃ D, D < 60 ∧ ab_ev X (d + 3) 183 [.inr (7, 0)] s = some (.inl (some (.inl (.int (nI D)))), s) ∧ ∀ N, N ≤ 60 → (HL B m N ↔ D < N) := by
  have hp1 : 2 ^ 1 ≤ 2 ^ m := Nat.pow_le_pow_right (by omega) h1
  rcases l183 (X := X) (d := d) hz h1 hm hB (2 ^ m - 1) 1 (-nI 1) none (by omega) (by omega) (Or.inl ⟨rfl, rfl⟩) with ⟨a, b⟩ | ⟨D, a, b, c⟩
  · exact Or.inl ⟨by rw [b183]; exact a, fun z => b (HT_HL.mpr z)⟩
  · exact Or.inr ⟨D, a, by rw [b183]; exact b, fun N hN => HT_HL.symm.trans (c N hN)⟩
end LHC
