/-! What calls leave as it was; the model's law. -/
/-- but for what both only work with, the draft and the laws' stacks two stores are one -/
def sX (s s' : ab_S) : Prop := (∀ k, k ≠ 0 → k ≠ 8 → k ≠ 9 → k ≠ 10 → k ≠ 11 → k ≠ 23 → sz s' k = sz s k) ∧ st s' = st s ∧ (∀ k i, i ≠ 1 ∨ 9 < k → si s' k i = si s k i) ∧ (∀ k, k = 0 ∨ (7 < k ∧ k < 13) ∨ 21 < k → sa s' k = sa s k) ∧ (∀ k i, i ≠ 1 → k ≠ 7 → sA s' k i = sA s k i) ∧ sb s' 2 = sb s 2 ∧ sB s' = sB s ∧ sq s' = sq s ∧ sn s' = sn s
theorem sX_refl (s : ab_S) : sX s s := ⟨fun _ _ _ _ _ _ _ => rfl, rfl, fun _ _ _ => rfl, fun _ _ => rfl, fun _ _ _ _ => rfl, rfl, rfl, rfl, rfl⟩
theorem sX_trans {s t u : ab_S} (h : sX s t) (h' : sX t u) : sX s u := by
  obtain ⟨a1, a2, a3, a4, a5, a6, a7, a8, a9⟩ := h
  obtain ⟨b1, b2, b3, b4, b5, b6, b7, b8, b9⟩ := h'
  exact ⟨fun k h1 h2 h3 h4 h5 h6 => (b1 k h1 h2 h3 h4 h5 h6).trans (a1 k h1 h2 h3 h4 h5 h6), b2.trans a2, fun k i h => (b3 k i h).trans (a3 k i h), fun k h => (b4 k h).trans (a4 k h), fun k i h1 h2 => (b5 k i h1 h2).trans (a5 k i h1 h2), b6.trans a6, b7.trans a7, b8.trans a8, b9.trans a9⟩
theorem sV.X {s s' : ab_S} (h : sV s s') : sX s s' := by
  obtain ⟨a1, a2, a3, a4, a5, a6, a7, a8, a9, a10⟩ := h
  exact ⟨fun k _ h1 h2 _ h3 h4 => a1 k h1 h2 h3 h4, a3, fun k i _ => by rw [a4], fun k hk => a5 k (by omega), fun k i _ _ => by rw [a6], a7 2 (by decide), a8, a9, a10⟩
/-- one call's doing where nothing is changed -/
def sY (s s' : ab_S) : Prop := sX s s' ∨ sX (ths s) s'
theorem sW.Y {s s' : ab_S} (h : sW s s') : sY s s' := by
  rcases h with h | h
  · exact Or.inl h.X
  · exact Or.inr h.X
theorem sX_wA7 {s : ab_S} {i : Nat} {F : Nat → Int32} : sX s (wA s 7 i F) := ⟨fun _ _ _ _ _ _ _ => rfl, rfl, fun _ _ _ => rfl, fun _ _ => rfl, fun k q h1 h2 => by simp (disch := omega) only [E0], rfl, rfl, rfl, rfl⟩
/-- a law's sign as the model holds it -/
def encI (c : Int) : Int := if 0 ≤ c then 1000 + c else if -5 ≤ c then 99 - c else if c = -12 then 18 else if -11 ≤ c then 4 - c else 3 - c
def LR (sg g : Nat → Int32) (m : Nat) : Prop := ∀ k, k < m → -14 ≤ (sg k).toInt ∧ (sg k).toInt ≤ 999 ∧ g (1364 + k) = nI (encI (sg k).toInt).toNat
section XLW
variable {X : (Nat → Int32) × Nat} {d : Nat} {s : ab_S}
theorem r297 (n : Int64) : ab_ev X (d + 1) 297 [.inl (.long n)] s = some (.inl (some (.inl (.int (kp n)))), s) := by
  rw [b297, c_min64, e_bJ, c_max64, e_bJ]
  rfl
theorem r295 {c : Int} {day moved wrong : Int32} (h1 : -5 ≤ c) (h2 : c < 0) : ab_ev X d 295 [.inr (9, 0), .inl (.int (nI (-1 - c).toNat)), .inl (.int day), .inl (.int moved), .inl (.int wrong)] s = some (.inl (some (.inl (.int (rd day moved (sa s 8 3) wrong c)))), s) := by
  rcases (show c = -1 ∨ c = -2 ∨ c = -3 ∨ c = -4 ∨ c = -5 by omega) with rfl | rfl | rfl | rfl | rfl
  · rw [b295, if_pos (by decide)]
    rfl
  · rw [b295, if_neg (by decide), if_pos (by decide), irem_eq_mod]
    rfl
  · rw [b295, if_neg (by decide), if_neg (by decide), if_pos (by decide), irem_eq_mod]
    rfl
  · rw [b295, if_neg (by decide), if_neg (by decide), if_neg (by decide), if_pos (by decide)]
    rfl
  · rw [b295, if_neg (by decide), if_neg (by decide), if_neg (by decide), if_neg (by decide)]
    rfl
theorem r296 {c : Int} {a b : Int32} (hc : c = -6 ∨ c = -7 ∨ c = -8 ∨ c = -9 ∨ c = -10 ∨ c = -11 ∨ ((c = -13 ∨ c = -14) ∧ (a = nI 0 ∨ a = nI 1) ∧ (b = nI 0 ∨ b = nI 1))) : ab_ev X (d + 2) 296 [.inl (.int (nI (encI c).toNat)), .inl (.long a.toInt64), .inl (.long b.toInt64)] s = some (.inl (some (.inl (.int (rk c a b)))), s) := by
  have jj : a.toInt64.toInt = b.toInt64.toInt ↔ a = b := by rw [j_of, j_of, Int32.toInt_inj]
  rcases hc with rfl | rfl | rfl | rfl | rfl | rfl | ⟨rfl | rfl, ha, hb⟩
  · rw [b296, b296_1, if_pos (by decide), b296_44, r297, e_bI]
    rfl
  · rw [b296, b296_1, if_neg (by decide), if_pos (by decide), b296_51, r297, e_bI]
    rfl
  · rw [b296, b296_1, if_neg (by decide), if_neg (by decide), if_pos (by decide), b296_58, r297, e_bI]
    rfl
  · rw [b296, b296_1, if_neg (by decide), if_neg (by decide), if_neg (by decide), if_pos (by decide), b296_65]
    have e : rk (-9) a b = if a = b then nI 1 else nI 0 := rfl
    rw [e]
    by_cases q : a = b
    · rw [if_pos q, if_pos ((j_eq _ _).mpr (jj.mpr q))]
    · rw [if_neg q, if_neg (fun z => q (jj.mp ((j_eq _ _).mp z)))]
  · rw [b296, b296_1, if_neg (by decide), if_neg (by decide), if_neg (by decide), if_neg (by decide), if_pos (by decide), b296_77]
    have e : rk (-10) a b = if b ≤ a then nI 0 else nI 1 := rfl
    rw [e]
    have q1 : nI 0 ≤ lg_cmp a.toInt64 b.toInt64 ↔ b ≤ a := by rw [j_ge, j_of, j_of, Int32.le_iff_toInt_le]
    by_cases q : b ≤ a
    · rw [if_pos q, if_pos (q1.mpr q)]
    · rw [if_neg q, if_neg (fun z => q (q1.mp z))]
  · rw [b296, b296_1, if_neg (by decide), if_neg (by decide), if_neg (by decide), if_neg (by decide), if_neg (by decide), if_pos (by decide), b296_89]
    have e : rk (-11) a b = if a ≤ b then nI 0 else nI 1 := rfl
    rw [e]
    have q1 : lg_cmp a.toInt64 b.toInt64 ≤ nI 0 ↔ a ≤ b := by rw [j_le, j_of, j_of, Int32.le_iff_toInt_le]
    by_cases q : a ≤ b
    · rw [if_pos q, if_pos (q1.mpr q)]
    · rw [if_neg q, if_neg (fun z => q (q1.mp z))]
  · rw [b296, b296_1, if_neg (by decide), if_neg (by decide), if_neg (by decide), if_neg (by decide), if_neg (by decide), if_neg (by decide), if_pos (by decide), b296_101]
    rcases ha with rfl | rfl <;> rcases hb with rfl | rfl
    · rw [if_pos (by decide)]
      rfl
    · rw [if_pos (by decide)]
      rfl
    · rw [if_pos (by decide)]
      rfl
    · rw [if_neg (by decide)]
      rfl
  · rw [b296, b296_1, if_neg (by decide), if_neg (by decide), if_neg (by decide), if_neg (by decide), if_neg (by decide), if_neg (by decide), if_neg (by decide), b296_115]
    rcases ha with rfl | rfl <;> rcases hb with rfl | rfl
    · rw [if_pos (by decide)]
      rfl
    · rw [if_neg (by decide)]
      rfl
    · rw [if_neg (by decide)]
      rfl
    · rw [if_neg (by decide)]
      rfl
/-- what a sign asks of the stack: two numbers, or two truths -/
theorem tst_two {c : Int} {σ σ' : List Bool} {v w : Int32} {τ : List Int32} (h5 : c < -5) (h12 : ¬ c = -12) (hs : tstep c σ = some σ') (ht : tv σ (v :: w :: τ)) : c = -6 ∨ c = -7 ∨ c = -8 ∨ c = -9 ∨ c = -10 ∨ c = -11 ∨ ((c = -13 ∨ c = -14) ∧ (w = nI 0 ∨ w = nI 1) ∧ (v = nI 0 ∨ v = nI 1)) := by
  rcases σ with _ | ⟨b, _ | ⟨a, σ⟩⟩
  · exact ht.elim
  · exact ht.2.elim
  · obtain ⟨t1, t2, -⟩ := ht
    unfold tstep at hs
    rw [if_neg (by omega), if_neg h12] at hs
    have hs2 : (if -8 ≤ c then (if a = false ∧ b = false then some (false :: σ) else none) else if -11 ≤ c then (if a = false ∧ b = false then some (true :: σ) else none) else if -14 ≤ c then (if a = true ∧ b = true then some (true :: σ) else none) else none) = some σ' := hs
    by_cases z1 : -8 ≤ c
    · omega
    · rw [if_neg z1] at hs2
      by_cases z2 : -11 ≤ c
      · omega
      · rw [if_neg z2] at hs2
        by_cases z3 : -14 ≤ c
        · rw [if_pos z3] at hs2
          split at hs2
          · rename_i hab
            have y1 := t1 hab.2
            have y2 := t2 hab.1
            rcases (show c = -13 ∨ c = -14 by omega) with q | q
            · exact Or.inr (Or.inr (Or.inr (Or.inr (Or.inr (Or.inr ⟨Or.inl q, y2, y1⟩)))))
            · exact Or.inr (Or.inr (Or.inr (Or.inr (Or.inr (Or.inr ⟨Or.inr q, y2, y1⟩)))))
          · cases hs2
        · rw [if_neg z3] at hs2
          cases hs2
theorem l294 {sg : Nat → Int32} {day moved wrong : Int32} {m : Nat} (hm : sa s 8 5 = nI m) (h900 : m ≤ 900) (hw : WL sg m) (hl : LR sg (sa s 8) m) : ∀ (j k : Nat) (F : Nat → Int32) (u : Option ab_V), k + j = m → stk F (vrun (rd day moved (sa s 8 3) wrong) sg k) → ∃ F' : Nat → Int32, ab_at X (d + 3) 294 6 [some (.inr (9, 0)), some (.inl (.int day)), some (.inl (.int moved)), some (.inl (.int wrong)), some (.inl (.int (nI (vrun (rd day moved (sa s 8 3) wrong) sg k).length))), some (.inl (.int (nI k))), u] [] (pa s 17 F) = some (.inl (some (.inl (.int (if hld (rd day moved (sa s 8 3) wrong) sg m then nI 1 else nI 0)))), pa s 17 F')
  | 0, k, F, u, e, hF => by
    obtain rfl : k = m := by omega
    refine ⟨F, ?_⟩
    rw [b294_6]
    simp (disch := omega) only [E0]
    rw [hm, if_pos (nI_le (Nat.le_refl _) (by omega))]
    obtain ⟨σ, h1, h2⟩ := hw.1 k (Nat.le_refl _)
    have h3 := tv_run (env := rd day moved (sa s 8 3) wrong) h1
    have h4 := tv_len h3
    cases hk : vrun (rd day moved (sa s 8 3) wrong) sg k with
    | nil =>
      have e1 : hld (rd day moved (sa s 8 3) wrong) sg k = false := by
        unfold hld
        rw [hk]
      rw [e1, List.length_nil, if_pos (nI_le (Nat.le_refl _) (by omega))]
      rfl
    | cons v τ =>
      rw [hk] at hF h4 h3
      have h0 : 0 < k := by
        cases k with
        | zero => cases hk
        | succ k => omega
      have h5 := hw.2 h0
      rw [h1] at h5
      obtain rfl := Option.some.inj h5
      rw [List.length_cons] at h4
      have h6 : τ = [] := List.length_eq_zero_iff.mp (by simpa using h4.symm)
      subst h6
      have e1 : hld (rd day moved (sa s 8 3) wrong) sg k = decide (v ≠ nI 0) := by
        unfold hld
        rw [hk]
      have h7 : F 0 = v := hF.1
      rw [e1, List.length_cons, List.length_nil, if_neg (nI_ge (by omega) (by omega)), h7]
      rcases h3.1 rfl with h8 | h8
      · rw [if_neg (by rw [h8]; decide)]
        simp [h8]
      · rw [if_pos h8]
        have h9 : ¬ v = nI 0 := by rw [h8]; decide
        simp [h9]
  | j + 1, k, F, u, e, hF => by
    have hk : k < m := by omega
    obtain ⟨σ, h1, h2⟩ := hw.1 k (by omega)
    obtain ⟨σ', h1', h2'⟩ := hw.1 (k + 1) (by omega)
    have hst : tstep (sg k).toInt σ = some σ' := by
      rw [trun, h1] at h1'
      exact h1'
    have h3 := tv_run (env := rd day moved (sa s 8 3) wrong) h1
    have h4 := tv_len h3
    obtain ⟨l1, l2, l3⟩ := hl k hk
    have hb : ab_at X (d + 3) 294 6 [some (.inr (9, 0)), some (.inl (.int day)), some (.inl (.int moved)), some (.inl (.int wrong)), some (.inl (.int (nI (vrun (rd day moved (sa s 8 3) wrong) sg k).length))), some (.inl (.int (nI k))), u] [] (pa s 17 F) = _ := b294_6
    simp (disch := omega) only [E0] at hb
    rw [hm, if_neg (nI_ge hk (by omega)), nI_add, r_in (j := 1364 + k) (by omega) (by decide), nI_clamp (by omega), l3, b294_30] at hb
    have ev : vrun (rd day moved (sa s 8 3) wrong) sg (k + 1) = vstep (rd day moved (sa s 8 3) wrong) (sg k).toInt (sg k) (vrun (rd day moved (sa s 8 3) wrong) sg k) := rfl
    generalize hL : vrun (rd day moved (sa s 8 3) wrong) sg k = L at *
    by_cases q5 : (sg k).toInt < -5
    · have e0 : (encI (sg k).toInt).toNat < 100 := by
        unfold encI
        split
        · omega
        · split
          · omega
          · split
            · omega
            · split <;> omega
      rw [if_pos (nI_lt e0 (by omega))] at hb
      unfold vstep at ev
      rw [if_neg (by omega), if_neg (by omega)] at ev
      by_cases q12 : (sg k).toInt = -12
      · have e2 : (encI (sg k).toInt).toNat = 18 := by rw [q12]; rfl
        rw [if_pos (by rw [e2])] at hb
        rw [if_pos q12] at ev
        rcases L with _ | ⟨v, τ⟩
        · unfold tstep at hst
          rw [if_neg (by omega), if_pos q12] at hst
          rcases σ with _ | ⟨b, σ⟩
          · cases hst
          · cases h4
        · have ev2 : vrun (rd day moved (sa s 8 3) wrong) sg (k + 1) = (nI 1 - v) :: τ := ev
          rw [List.length_cons] at hb h4
          rw [pk_sub (by omega), Nat.add_sub_cancel, r_in (j := τ.length) (by omega) (by decide), r_in (j := τ.length) (by omega) (by decide), nI_clamp (by omega), nI_add] at hb
          simp (disch := omega) only [E0, E1] at hb
          obtain ⟨F', g⟩ := l294 hm h900 hw hl j (k + 1) (va_up F τ.length (nI 1 - v)) (some (.inl (.int (nI (encI (sg k).toInt).toNat)))) (by omega) (by
            rw [ev2]
            exact ⟨va_up_self _ _ _, stk_up (Nat.le_refl _) hF.2⟩)
          refine ⟨F', ?_⟩
          have h7 : F τ.length = v := hF.1
          rw [h7] at hb
          rw [← g, ev2]
          simp only [List.length_cons]
          rw [hb]
      · have e2 : (encI (sg k).toInt).toNat ≠ 18 := by
          unfold encI
          rw [if_neg (by omega), if_neg (by omega), if_neg q12]
          split <;> omega
        rw [if_neg (fun z => e2 ((nI_eq (by omega) (by omega)).mp z)), b294_112] at hb
        rw [if_neg q12] at ev
        rcases L with _ | ⟨v, _ | ⟨w, τ⟩⟩
        · unfold tstep at hst
          rw [if_neg (by omega), if_neg q12] at hst
          rcases σ with _ | ⟨b, σ⟩
          · cases hst
          · cases h4
        · unfold tstep at hst
          rw [if_neg (by omega), if_neg q12] at hst
          rcases σ with _ | ⟨b, _ | ⟨a, σ⟩⟩
          · cases hst
          · cases hst
          · cases h4
        · have ev2 : vrun (rd day moved (sa s 8 3) wrong) sg (k + 1) = rk (sg k).toInt w v :: τ := ev
          have h7 : F (τ.length + 1) = v := hF.1
          have h8 : F τ.length = w := hF.2.1
          have ht2 := tst_two q5 q12 hst h3
          rw [List.length_cons, List.length_cons] at hb h4
          have e1 : nI (τ.length + 1 + 1) + -nI 1 = nI (τ.length + 1) := pk_m1 _
          rw [e1, pk_sub (by omega), Nat.add_sub_cancel, r_in (j := τ.length) (by omega) (by decide), r_in (j := τ.length + 1) (by omega) (by decide), nI_clamp (by omega), nI_clamp (by omega)] at hb
          simp (disch := omega) only [E0] at hb
          rw [h7, h8, r296 ht2, e_bI, if_neg (show ¬ (nI τ.length < nI 0 ∨ 64 ≤ τ.length) from fun z => z.elim (n_nlt0 (by omega)) (fun z => by omega)), nI_add] at hb
          simp (disch := omega) only [E0, E1] at hb
          obtain ⟨F', g⟩ := l294 hm h900 hw hl j (k + 1) (va_up F τ.length (rk (sg k).toInt w v)) (some (.inl (.int (nI (encI (sg k).toInt).toNat)))) (by omega) (by
            rw [ev2]
            exact ⟨va_up_self _ _ _, stk_up (Nat.le_refl _) hF.2.2⟩)
          refine ⟨F', ?_⟩
          rw [← g, ev2]
          simp only [List.length_cons]
          rw [hb]
    · unfold vstep at ev
      have h9 : L.length ≤ 39 := by omega
      by_cases q0 : (sg k).toInt < 0
      · have e0 : (encI (sg k).toInt).toNat = 100 + (-1 - (sg k).toInt).toNat := by
          unfold encI
          rw [if_neg (by omega), if_pos (by omega)]
          omega
        rw [if_neg (by omega), if_pos (by omega)] at ev
        rw [e0, if_neg (nI_nlt (by omega) (by omega)), if_pos (nI_lt (by omega) (by omega)), pk_sub (by omega), Nat.add_sub_cancel_left] at hb
        have h295 : ab_ev X (d + 2) 295 [.inr (9, 0), .inl (.int (nI (-1 - (sg k).toInt).toNat)), .inl (.int day), .inl (.int moved), .inl (.int wrong)] (pa s 17 F) = some (.inl (some (.inl (.int (rd day moved (sa s 8 3) wrong (sg k).toInt)))), pa s 17 F) := r295 (s := pa s 17 F) (by omega) q0
        rw [h295, e_bI, r_in (j := L.length) (by omega) (by decide), nI_clamp (by omega), nI_add, nI_add] at hb
        simp (disch := omega) only [E0, E1] at hb
        obtain ⟨F', g⟩ := l294 hm h900 hw hl j (k + 1) (va_up F L.length (rd day moved (sa s 8 3) wrong (sg k).toInt)) (some (.inl (.int (nI (100 + (-1 - (sg k).toInt).toNat))))) (by omega) (by
          rw [ev]
          exact ⟨va_up_self _ _ _, stk_up (Nat.le_refl _) hF⟩)
        refine ⟨F', ?_⟩
        rw [← g, ev, List.length_cons, hb]
      · have e0 : (encI (sg k).toInt).toNat = 1000 + (sg k).toInt.toNat := by
          unfold encI
          rw [if_pos (by omega)]
          omega
        have e3 : nI (sg k).toInt.toNat = sg k := (n_rep (sg k) (by omega)).symm
        rw [if_pos (by omega)] at ev
        rw [e0, if_neg (nI_nlt (by omega) (by omega)), if_neg (nI_nlt (by omega) (by omega)), pk_sub (by omega), Nat.add_sub_cancel_left, e3, r_in (j := L.length) (by omega) (by decide), nI_clamp (by omega), nI_add, nI_add] at hb
        simp (disch := omega) only [E0, E1] at hb
        obtain ⟨F', g⟩ := l294 hm h900 hw hl j (k + 1) (va_up F L.length (sg k)) (some (.inl (.int (nI (1000 + (sg k).toInt.toNat))))) (by omega) (by
          rw [ev]
          exact ⟨va_up_self _ _ _, stk_up (Nat.le_refl _) hF⟩)
        refine ⟨F', ?_⟩
        rw [← g, ev, List.length_cons, hb]
theorem r294 {sg : Nat → Int32} {day moved wrong : Int32} {m : Nat} (hm : sa s 8 5 = nI m) (h900 : m ≤ 900) (hw : WL sg m) (hl : LR sg (sa s 8) m) : ∃ F' : Nat → Int32, ab_ev X (d + 3) 294 [.inr (9, 0), .inl (.int day), .inl (.int moved), .inl (.int wrong)] s = some (.inl (some (.inl (.int (if hld (rd day moved (sa s 8 3) wrong) sg m then nI 1 else nI 0)))), pa s 17 F') := by
  obtain ⟨F', g⟩ := l294 (X := X) (d := d) (day := day) (moved := moved) (wrong := wrong) hm h900 hw hl m 0 (sa s 17) none (by omega) trivial
  rw [pa_id] at g
  refine ⟨F', ?_⟩
  rw [b294]
  exact g
end XLW
