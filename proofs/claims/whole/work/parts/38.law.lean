/-! The law: a row of signs, numbers from 0 on, readings -1 to -5, what reckons from -6 on. -/
/-- the kinds (true: a truth) on the stack behind a sign -/
def tstep (c : Int) (σ : List Bool) : Option (List Bool) :=
  if -5 ≤ c then some (false :: σ)
  else if c = -12 then match σ with
    | true :: τ => some (true :: τ)
    | _ => none
  else match σ with
    | b :: a :: τ => if -8 ≤ c then (if a = false ∧ b = false then some (false :: τ) else none)
      else if -11 ≤ c then (if a = false ∧ b = false then some (true :: τ) else none)
      else if -14 ≤ c then (if a = true ∧ b = true then some (true :: τ) else none) else none
    | _ => none
def trun (ops : Nat → Int) : Nat → Option (List Bool)
  | 0 => some []
  | k + 1 => (trun ops k).bind (tstep (ops k))
def mnJ (a b : Int64) : Int64 := if nI 0 < lg_cmp a b then b else a
def mxJ (a b : Int64) : Int64 := if lg_cmp a b < nI 0 then b else a
/-- a number kept in bounds -/
def kp (n : Int64) : Int32 := (mxJ (-lN 1000000) (mnJ (lN 1000000) n)).toInt32
/-- two numbers reckoned with -/
def rk (c : Int) (a b : Int32) : Int32 :=
  if c = -6 then kp (a.toInt64 + b.toInt64) else if c = -7 then kp (a.toInt64 - b.toInt64) else if c = -8 then kp (a.toInt64 * b.toInt64)
  else if c = -9 then (if a = b then nI 1 else nI 0) else if c = -10 then (if b ≤ a then nI 0 else nI 1) else if c = -11 then (if a ≤ b then nI 0 else nI 1)
  else if c = -13 then a &&& b else a ||| b
/-- what is read -/
def rd (day moved people wrong : Int32) (c : Int) : Int32 := if c = -1 then day else if c = -2 then day % nI 7 else if c = -3 then moved % nI 1000 else if c = -4 then people else wrong
def vstep (env : Int → Int32) (c : Int) (x : Int32) (σ : List Int32) : List Int32 :=
  if 0 ≤ c then x :: σ
  else if -5 ≤ c then env c :: σ
  else if c = -12 then match σ with
    | v :: τ => (nI 1 - v) :: τ
    | _ => []
  else match σ with
    | b :: a :: τ => rk c a b :: τ
    | _ => []
def vrun (env : Int → Int32) (sg : Nat → Int32) : Nat → List Int32
  | 0 => []
  | k + 1 => vstep env (sg k).toInt (sg k) (vrun env sg k)
/-- a law that is one: so many signs -/
def WL (sg : Nat → Int32) (m : Nat) : Prop := (∀ k, k ≤ m → ∃ σ, trun (fun q => (sg q).toInt) k = some σ ∧ σ.length ≤ 39) ∧ (0 < m → trun (fun q => (sg q).toInt) m = some [true])
/-- truths are 0 or 1 -/
def tv : List Bool → List Int32 → Prop
  | [], [] => True
  | b :: σ, v :: τ => (b = true → v = nI 0 ∨ v = nI 1) ∧ tv σ τ
  | _, _ => False
theorem tv_len : ∀ {σ : List Bool} {τ : List Int32}, tv σ τ → σ.length = τ.length
  | [], [], _ => rfl
  | b :: σ, v :: τ, h => by rw [List.length_cons, List.length_cons, tv_len h.2]
  | [], _ :: _, h => h.elim
  | _ :: _, [], h => h.elim
theorem bit_or {a b : Int32} (ha : a = nI 0 ∨ a = nI 1) (hb : b = nI 0 ∨ b = nI 1) : (a &&& b = nI 0 ∨ a &&& b = nI 1) ∧ (a ||| b = nI 0 ∨ a ||| b = nI 1) ∧ (nI 1 - a = nI 0 ∨ nI 1 - a = nI 1) := by
  rcases ha with rfl | rfl <;> rcases hb with rfl | rfl <;> decide
theorem tv_step {env : Int → Int32} {c : Int} {x : Int32} {σ σ' : List Bool} {τ : List Int32} (h : tv σ τ) (hs : tstep c σ = some σ') : tv σ' (vstep env c x τ) := by
  unfold tstep at hs
  unfold vstep
  by_cases h1 : -5 ≤ c
  · rw [if_pos h1] at hs
    obtain rfl := Option.some.inj hs
    by_cases h0 : 0 ≤ c
    · rw [if_pos h0]
      exact ⟨fun q => (nomatch q), h⟩
    · rw [if_neg h0, if_pos h1]
      exact ⟨fun q => (nomatch q), h⟩
  · rw [if_neg h1] at hs
    rw [if_neg (by omega), if_neg h1]
    by_cases h2 : c = -12
    · rw [if_pos h2] at hs
      rw [if_pos h2]
      rcases σ with _ | ⟨b, σ⟩
      · cases hs
      · cases b with
        | false => cases hs
        | true =>
          obtain rfl := Option.some.inj hs
          rcases τ with _ | ⟨v, τ⟩
          · exact h.elim
          · exact ⟨fun _ => (bit_or (h.1 rfl) (h.1 rfl)).2.2, h.2⟩
    · rw [if_neg h2] at hs
      rw [if_neg h2]
      rcases σ with _ | ⟨b, _ | ⟨a, σ⟩⟩
      · cases hs
      · cases hs
      · rcases τ with _ | ⟨v, _ | ⟨w, τ⟩⟩
        · exact h.elim
        · exact h.2.elim
        · have hs2 : (if -8 ≤ c then (if a = false ∧ b = false then some (false :: σ) else none) else if -11 ≤ c then (if a = false ∧ b = false then some (true :: σ) else none) else if -14 ≤ c then (if a = true ∧ b = true then some (true :: σ) else none) else none) = some σ' := hs
          obtain ⟨t1, t2, t3⟩ := h
          show tv σ' (rk c w v :: τ)
          by_cases h3 : -8 ≤ c
          · rw [if_pos h3] at hs2
            split at hs2
            · obtain rfl := Option.some.inj hs2
              exact ⟨fun q => (nomatch q), t3⟩
            · cases hs2
          · rw [if_neg h3] at hs2
            by_cases h4 : -11 ≤ c
            · rw [if_pos h4] at hs2
              split at hs2
              · obtain rfl := Option.some.inj hs2
                refine ⟨fun _ => ?_, t3⟩
                unfold rk
                rw [if_neg (by omega), if_neg (by omega), if_neg (by omega)]
                split
                · split
                  · exact Or.inr rfl
                  · exact Or.inl rfl
                · split
                  · split
                    · exact Or.inl rfl
                    · exact Or.inr rfl
                  · rw [if_pos (by omega)]
                    split
                    · exact Or.inl rfl
                    · exact Or.inr rfl
              · cases hs2
            · rw [if_neg h4] at hs2
              by_cases h5 : -14 ≤ c
              · rw [if_pos h5] at hs2
                split at hs2
                · rename_i hab
                  obtain rfl := Option.some.inj hs2
                  refine ⟨fun _ => ?_, t3⟩
                  have q := bit_or (t2 hab.1) (t1 hab.2)
                  unfold rk
                  rw [if_neg (by omega), if_neg (by omega), if_neg (by omega), if_neg (by omega), if_neg (by omega), if_neg (by omega)]
                  split
                  · exact q.1
                  · exact q.2.1
                · cases hs2
              · rw [if_neg h5] at hs2
                cases hs2
theorem tv_run {env : Int → Int32} {sg : Nat → Int32} : ∀ {k : Nat} {σ : List Bool}, trun (fun q => (sg q).toInt) k = some σ → tv σ (vrun env sg k)
  | 0, σ, h => by
    obtain rfl := Option.some.inj h
    trivial
  | k + 1, σ, h => by
    rw [trun] at h
    cases h1 : trun (fun q => (sg q).toInt) k with
    | none =>
      rw [h1] at h
      cases h
    | some σ1 =>
      rw [h1] at h
      exact tv_step (tv_run h1) h
/-- whether the law holds -/
def hld (env : Int → Int32) (sg : Nat → Int32) (m : Nat) : Bool := match vrun env sg m with
  | v :: _ => decide (v ≠ nI 0)
  | [] => false
/-- a stack in a row -/
def stk (F : Nat → Int32) : List Int32 → Prop
  | [] => True
  | v :: τ => F τ.length = v ∧ stk F τ
theorem stk_up {F : Nat → Int32} {j : Nat} {x : Int32} : ∀ {τ : List Int32}, τ.length ≤ j → stk F τ → stk (va_up F j x) τ
  | [], _, _ => trivial
  | v :: τ, h, q => by
    rw [List.length_cons] at h
    exact ⟨by rw [va_up_ne _ _ (by omega)]; exact q.1, stk_up (by omega) q.2⟩
section LAW
variable {X : (Nat → Int32) × Nat} {d i : Nat} {s : ab_S}
theorem c_min64 (a b : Int64) : ab_ev X d 14 [.inl (.long a), .inl (.long b)] s = some (.inl (some (.inl (.long (mnJ a b)))), s) := by
  rw [b14]
  unfold mnJ
  split <;> rfl
theorem c_max64 (a b : Int64) : ab_ev X d 15 [.inl (.long a), .inl (.long b)] s = some (.inl (some (.inl (.long (mxJ a b)))), s) := by
  rw [b15]
  unfold mxJ
  split <;> rfl
theorem c_keep (n : Int64) : ab_ev X (d + 1) 13 [.inl (.long n)] s = some (.inl (some (.inl (.int (kp n)))), s) := by
  rw [b13, c_min64, e_bJ, c_max64, e_bJ]
  rfl
theorem c_reckon {x a b : Int32} (hx : x.toInt = -6 ∨ x.toInt = -7 ∨ x.toInt = -8 ∨ x.toInt = -9 ∨ x.toInt = -10 ∨ x.toInt = -11 ∨ x.toInt = -13 ∨ x.toInt = -14) : ab_ev X (d + 2) 12 [.inl (.int x), .inl (.int a), .inl (.int b)] s = some (.inl (some (.inl (.int (rk x.toInt a b)))), s) := by
  rcases hx with h | h | h | h | h | h | h | h
  · obtain rfl : x = -nI 6 := Int32.toInt_inj.mp (h.trans (by decide))
    rw [b12, b12_1, if_neg (by decide), if_neg (by decide), if_neg (by decide), if_neg (by decide), if_neg (by decide), if_neg (by decide), if_pos rfl, b12_48, c_keep, e_bI, h]
    rfl
  · obtain rfl : x = -nI 7 := Int32.toInt_inj.mp (h.trans (by decide))
    rw [b12, b12_1, if_neg (by decide), if_neg (by decide), if_neg (by decide), if_neg (by decide), if_neg (by decide), if_pos rfl, b12_57, c_keep, e_bI, h]
    rfl
  · obtain rfl : x = -nI 8 := Int32.toInt_inj.mp (h.trans (by decide))
    rw [b12, b12_1, if_neg (by decide), if_neg (by decide), if_neg (by decide), if_neg (by decide), if_pos rfl, b12_66, c_keep, e_bI, h]
    rfl
  · obtain rfl : x = -nI 9 := Int32.toInt_inj.mp (h.trans (by decide))
    rw [b12, b12_1, if_neg (by decide), if_neg (by decide), if_neg (by decide), if_pos rfl, b12_75, h]
    have e : rk (-9) a b = if a = b then nI 1 else nI 0 := rfl
    rw [e]
    by_cases q : a = b
    · rw [if_pos q, if_pos q]
    · rw [if_neg q, if_neg q]
  · obtain rfl : x = -nI 10 := Int32.toInt_inj.mp (h.trans (by decide))
    rw [b12, b12_1, if_neg (by decide), if_neg (by decide), if_pos rfl, b12_86, h]
    have e : rk (-10) a b = if b ≤ a then nI 0 else nI 1 := rfl
    rw [e]
    by_cases q : b ≤ a
    · rw [if_pos q, if_pos q]
    · rw [if_neg q, if_neg q]
  · obtain rfl : x = -nI 11 := Int32.toInt_inj.mp (h.trans (by decide))
    rw [b12, b12_1, if_neg (by decide), if_pos rfl, b12_97, h]
    have e : rk (-11) a b = if a ≤ b then nI 0 else nI 1 := rfl
    rw [e]
    by_cases q : a ≤ b
    · rw [if_pos q, if_pos q]
    · rw [if_neg q, if_neg q]
  · obtain rfl : x = -nI 13 := Int32.toInt_inj.mp (h.trans (by decide))
    rw [b12, b12_1, if_pos rfl, b12_108, h]
    rfl
  · obtain rfl : x = -nI 14 := Int32.toInt_inj.mp (h.trans (by decide))
    rw [b12, b12_1, if_neg (by decide), if_neg (by decide), if_neg (by decide), if_neg (by decide), if_neg (by decide), if_neg (by decide), if_neg (by decide), b12_112, h]
    rfl
theorem c_reading {x day moved people wrong : Int32} (h1 : -5 ≤ x.toInt) (h2 : x.toInt < 0) : ab_ev X d 11 [.inl (.int x), .inl (.int day), .inl (.int moved), .inl (.int people), .inl (.int wrong)] s = some (.inl (some (.inl (.int (rd day moved people wrong x.toInt)))), s) := by
  rcases (show x.toInt = -1 ∨ x.toInt = -2 ∨ x.toInt = -3 ∨ x.toInt = -4 ∨ x.toInt = -5 by omega) with h | h | h | h | h
  · obtain rfl : x = -nI 1 := Int32.toInt_inj.mp (h.trans (by decide))
    rw [b11, b11_1, if_neg (by decide), if_neg (by decide), if_neg (by decide), if_pos rfl, b11_32, h]
    rfl
  · obtain rfl : x = -nI 2 := Int32.toInt_inj.mp (h.trans (by decide))
    rw [b11, b11_1, if_neg (by decide), if_neg (by decide), if_pos rfl, b11_34, irem_eq_mod, h]
    rfl
  · obtain rfl : x = -nI 3 := Int32.toInt_inj.mp (h.trans (by decide))
    rw [b11, b11_1, if_neg (by decide), if_pos rfl, b11_39, irem_eq_mod, h]
    rfl
  · obtain rfl : x = -nI 4 := Int32.toInt_inj.mp (h.trans (by decide))
    rw [b11, b11_1, if_pos rfl, b11_45, h]
    rfl
  · obtain rfl : x = -nI 5 := Int32.toInt_inj.mp (h.trans (by decide))
    rw [b11, b11_1, if_neg (by decide), if_neg (by decide), if_neg (by decide), if_neg (by decide), b11_47, h]
    rfl
theorem n_ltc {x : Int32} {c : Nat} (hc : c < 2 ^ 31) : x < -nI c ↔ x.toInt < -(c : Int) := by
  rw [Int32.lt_iff_toInt_lt, sb_negT hc]
theorem l10 {F0 : Nat → Int32} {day moved people wrong : Int32} {m : Nat} (hm : si s 8 i = nI m) (h900 : m ≤ 900) (hw : WL (sA s 6 i) m) : ∀ (j k : Nat) (F : Nat → Int32) (u : Option ab_V), k + j = m → stk F (vrun (rd day moved people wrong) (sA s 6 i) k) → ∃ F' : Nat → Int32, ab_at X (d + 3) 10 6 [some (.inr (4, i)), some (.inl (.int day)), some (.inl (.int moved)), some (.inl (.int people)), some (.inl (.int wrong)), some (.inl (.int (nI (vrun (rd day moved people wrong) (sA s 6 i) k).length))), some (.inl (.int (nI k))), u] [] (wA s 7 i F) = some (.inl (some (.inl (.int (if hld (rd day moved people wrong) (sA s 6 i) m then nI 1 else nI 0)))), wA s 7 i F')
  | 0, k, F, u, e, hF => by
    obtain rfl : k = m := by omega
    refine ⟨F, ?_⟩
    rw [b10_6]
    simp (disch := omega) only [E0]
    rw [hm, if_pos (nI_le (Nat.le_refl _) (by omega))]
    obtain ⟨σ, h1, h2⟩ := hw.1 k (Nat.le_refl _)
    have h3 := tv_run (env := rd day moved people wrong) h1
    have h4 := tv_len h3
    cases hk : vrun (rd day moved people wrong) (sA s 6 i) k with
    | nil =>
      have e1 : hld (rd day moved people wrong) (sA s 6 i) k = false := by
        unfold hld
        rw [hk]
      rw [e1, List.length_nil, if_pos (nI_le (Nat.le_refl _) (by omega))]
      rfl
    | cons v τ =>
      rw [hk] at hF h4
      have h0 : 0 < k := by
        cases k with
        | zero => cases hk
        | succ k => omega
      have h5 := hw.2 h0
      rw [h1] at h5
      obtain rfl := Option.some.inj h5
      rw [List.length_cons] at h4
      have h6 : τ = [] := List.length_eq_zero_iff.mp (by simpa using h4.symm)
      subst h6
      have e1 : hld (rd day moved people wrong) (sA s 6 i) k = decide (v ≠ nI 0) := by
        unfold hld
        rw [hk]
      rw [e1, List.length_cons, List.length_nil, if_neg (nI_ge (by omega) (by omega)), at26 (by omega), e_bI]
      simp (disch := omega) only [E0]
      have h7 : F 0 = v := hF.1
      rw [h7]
      by_cases h8 : v = nI 0
      · rw [if_pos h8]
        simp [h8]
      · rw [if_neg h8]
        simp [h8]
  | j + 1, k, F, u, e, hF => by
    have hk : k < m := by omega
    obtain ⟨σ, h1, h2⟩ := hw.1 k (by omega)
    obtain ⟨σ', h1', h2'⟩ := hw.1 (k + 1) (by omega)
    have hst : tstep (sA s 6 i k).toInt σ = some σ' := by
      rw [trun, h1] at h1'
      exact h1'
    have h3 := tv_run (env := rd day moved people wrong) h1
    have h4 := tv_len h3
    have hb : ab_at X (d + 3) 10 6 [some (.inr (4, i)), some (.inl (.int day)), some (.inl (.int moved)), some (.inl (.int people)), some (.inl (.int wrong)), some (.inl (.int (nI (vrun (rd day moved people wrong) (sA s 6 i) k).length))), some (.inl (.int (nI k))), u] [] (wA s 7 i F) = _ := b10_6
    simp (disch := omega) only [E0] at hb
    rw [hm, if_neg (nI_ge hk (by omega)), if_neg (nI_ge (by omega) (by omega)), if_neg (n_in (by omega) (by omega)), nI_clamp (by omega)] at hb
    have ev : vrun (rd day moved people wrong) (sA s 6 i) (k + 1) = vstep (rd day moved people wrong) (sA s 6 i k).toInt (sA s 6 i k) (vrun (rd day moved people wrong) (sA s 6 i) k) := rfl
    generalize hL : vrun (rd day moved people wrong) (sA s 6 i) k = L at *
    have c0 : (sA s 6 i k < nI 0) ↔ (sA s 6 i k).toInt < 0 := by rw [Int32.lt_iff_toInt_lt, nI_toInt (by decide)]; rfl
    have c5 : (sA s 6 i k < -nI 5) ↔ (sA s 6 i k).toInt < -5 := n_ltc (by decide)
    have c12 : (sA s 6 i k = -nI 12) ↔ (sA s 6 i k).toInt = -12 := by
      rw [← Int32.toInt_inj]
      exact Iff.rfl
    by_cases q5 : (sA s 6 i k).toInt < -5
    · rw [if_pos (c5.mpr q5)] at hb
      unfold tstep at hst
      rw [if_neg (by omega)] at hst
      unfold vstep at ev
      rw [if_neg (by omega), if_neg (by omega)] at ev
      by_cases q12 : (sA s 6 i k).toInt = -12
      · rw [if_pos (c12.mpr q12)] at hb
        rw [if_pos q12] at ev
        rcases L with _ | ⟨v, τ⟩
        · rw [if_pos q12] at hst
          rcases σ with _ | ⟨b, σ⟩
          · cases hst
          · cases h4
        · have ev2 : vrun (rd day moved people wrong) (sA s 6 i) (k + 1) = (nI 1 - v) :: τ := ev
          rw [List.length_cons] at hb h4
          rw [pk_sub (by omega), Nat.add_sub_cancel, at26 (by omega), e_bI, put26 (by omega), e_bU, nI_add] at hb
          simp (disch := omega) only [E0, E1] at hb
          obtain ⟨F', g⟩ := l10 (F0 := F0) hm h900 hw j (k + 1) (va_up F τ.length (nI 1 - v)) (some (.inl (.int (sA s 6 i k)))) (by omega) (by
            rw [ev2]
            exact ⟨va_up_self _ _ _, stk_up (Nat.le_refl _) hF.2⟩)
          refine ⟨F', ?_⟩
          have h7 : F τ.length = v := hF.1
          rw [h7] at hb
          rw [← g, ev2]
          simp only [List.length_cons]
          rw [hb]
      · rw [if_neg (fun q => q12 (c12.mp q))] at hb
        rw [if_neg q12] at ev hst
        rcases L with _ | ⟨v, _ | ⟨w, τ⟩⟩
        · rcases σ with _ | ⟨b, σ⟩
          · cases hst
          · cases h4
        · rcases σ with _ | ⟨b, _ | ⟨a, σ⟩⟩
          · cases hst
          · cases hst
          · cases h4
        · have ev2 : vrun (rd day moved people wrong) (sA s 6 i) (k + 1) = rk (sA s 6 i k).toInt w v :: τ := ev
          have hcc : -14 ≤ (sA s 6 i k).toInt := by
            rcases σ with _ | ⟨b, _ | ⟨a, σ⟩⟩
            · cases hst
            · cases hst
            · have hs2 : (if -8 ≤ (sA s 6 i k).toInt then (if a = false ∧ b = false then some (false :: σ) else none) else if -11 ≤ (sA s 6 i k).toInt then (if a = false ∧ b = false then some (true :: σ) else none) else if -14 ≤ (sA s 6 i k).toInt then (if a = true ∧ b = true then some (true :: σ) else none) else none) = some σ' := hst
              by_cases z1 : -8 ≤ (sA s 6 i k).toInt
              · omega
              · rw [if_neg z1] at hs2
                by_cases z2 : -11 ≤ (sA s 6 i k).toInt
                · omega
                · rw [if_neg z2] at hs2
                  by_cases z3 : -14 ≤ (sA s 6 i k).toInt
                  · exact z3
                  · rw [if_neg z3] at hs2
                    cases hs2
          rw [List.length_cons, List.length_cons] at hb h4
          have e1 : nI (τ.length + 1 + 1) + -nI 1 = nI (τ.length + 1) := pk_m1 _
          rw [e1, pk_sub (by omega), Nat.add_sub_cancel, at26 (by omega), e_bI, at26 (by omega), e_bI, c_reckon (by omega), e_bI, put26 (by omega), e_bU, nI_add] at hb
          simp (disch := omega) only [E0, E1] at hb
          have h7 : F (τ.length + 1) = v := hF.1
          have h8 : F τ.length = w := hF.2.1
          rw [h7, h8] at hb
          obtain ⟨F', g⟩ := l10 (F0 := F0) hm h900 hw j (k + 1) (va_up F τ.length (rk (sA s 6 i k).toInt w v)) (some (.inl (.int (sA s 6 i k)))) (by omega) (by
            rw [ev2]
            exact ⟨va_up_self _ _ _, stk_up (Nat.le_refl _) hF.2.2⟩)
          refine ⟨F', ?_⟩
          rw [← g, ev2]
          simp only [List.length_cons]
          rw [hb]
    · rw [if_neg (fun q => q5 (c5.mp q))] at hb
      unfold vstep at ev
      by_cases q0 : (sA s 6 i k).toInt < 0
      · rw [if_pos (c0.mpr q0), c_reading (by omega) q0, e_bI, put26 (by omega), e_bU, nI_add, nI_add] at hb
        simp (disch := omega) only [E0, E1] at hb
        rw [if_neg (by omega), if_pos (by omega)] at ev
        obtain ⟨F', g⟩ := l10 (F0 := F0) hm h900 hw j (k + 1) (va_up F L.length (rd day moved people wrong (sA s 6 i k).toInt)) (some (.inl (.int (sA s 6 i k)))) (by omega) (by
          rw [ev]
          exact ⟨va_up_self _ _ _, stk_up (Nat.le_refl _) hF⟩)
        refine ⟨F', ?_⟩
        rw [← g, ev, List.length_cons, hb]
      · rw [if_neg (fun q => q0 (c0.mp q)), put26 (by omega), e_bU, nI_add, nI_add] at hb
        simp (disch := omega) only [E0, E1] at hb
        rw [if_pos (by omega)] at ev
        obtain ⟨F', g⟩ := l10 (F0 := F0) hm h900 hw j (k + 1) (va_up F L.length (sA s 6 i k)) (some (.inl (.int (sA s 6 i k)))) (by omega) (by
          rw [ev]
          exact ⟨va_up_self _ _ _, stk_up (Nat.le_refl _) hF⟩)
        refine ⟨F', ?_⟩
        rw [← g, ev, List.length_cons, hb]
theorem c_holds {day moved people wrong : Int32} {m : Nat} (hm : si s 8 i = nI m) (h900 : m ≤ 900) (hw : WL (sA s 6 i) m) : ∃ F' : Nat → Int32, ab_ev X (d + 3) 10 [.inr (4, i), .inl (.int day), .inl (.int moved), .inl (.int people), .inl (.int wrong)] s = some (.inl (some (.inl (.int (if hld (rd day moved people wrong) (sA s 6 i) m then nI 1 else nI 0)))), wA s 7 i F') := by
  obtain ⟨F', g⟩ := l10 (X := X) (d := d) (F0 := fun _ => 0) (day := day) (moved := moved) (people := people) (wrong := wrong) hm h900 hw m 0 (sA s 7 i) none (by omega) trivial
  rw [wA_id] at g
  refine ⟨F', ?_⟩
  rw [b10]
  exact g
end LAW
