/-! Letters and nights: the model's search, run. -/
/-- the store of the search -/
def kst (s : ab_S) (A : Nat → Int32) (W : Nat) : ab_S := py (pa s 20 A) 0 (lN W)
theorem kst_at (s : ab_S) (A : Nat → Int32) (W : Nat) : sa (kst s A W) 20 = A ∧ sa (kst s A W) 21 = sa s 21 ∧ sb (kst s A W) = sb s ∧ sy (kst s A W) 0 = lN W ∧ (∀ V, py (kst s A W) 0 (lN V) = kst s A V) ∧ ∀ B, pa (kst s A W) 20 B = kst s B W := by
  unfold kst
  refine ⟨?_, ?_, rfl, ?_, fun V => ?_, fun B => ?_⟩
  · simp (disch := omega) only [E0]
  · simp (disch := omega) only [E0]
  · simp (disch := omega) only [E0]
  · simp only [E1]
  · show py (pa (pa s 20 A) 20 B) 0 (lN W) = _
    simp only [E1]
noncomputable def kB (X : (Nat → Int32) × Nat) (d : Nat) (x1 x2 x3 : Int32) (s : ab_S) : ab_R := (if (lg_cmp (((sy s 0) >>> (x3.toInt64 &&& 63)) &&& (lN 1)) (lN 1)) = (nI 0) then ab_at X (d + 1) 335 2 [some (.inr (9, 0)), some (.inl (.int x1)), some (.inl (.int x2)), some (.inl (.int (x3 + (nI 1)))), some (.inl (.int (nI 1)))] [] s else (if x3 < (nI 0) ∨ 60 ≤ x3.toNatClampNeg then none else (if ((sa s 20) x3.toNatClampNeg) = (-nI 1) then (if x3 < (nI 0) ∨ 60 ≤ x3.toNatClampNeg then none else some (.inl (some (.inl (.int (nI 1)))), (pa (py s 0 ((sy s 0) ||| ((lN 1) <<< (x3.toInt64 &&& 63)))) 20 (va_up (sa s 20) x3.toNatClampNeg x1)))) else (if x3 < (nI 0) ∨ 60 ≤ x3.toNatClampNeg then none else ab_bI (ab_ev X d 335 [.inr (9, 0), .inl (.int ((sa s 20) x3.toNatClampNeg)), .inl (.int x2)] (py s 0 ((sy s 0) ||| ((lN 1) <<< (x3.toInt64 &&& 63))))) (fun r2 s1 => (if r2 = (nI 0) then ab_at X (d + 1) 335 2 [some (.inr (9, 0)), some (.inl (.int x1)), some (.inl (.int x2)), some (.inl (.int (x3 + (nI 1)))), some (.inl (.int (nI 1)))] [] s1 else (if x3 < (nI 0) ∨ 60 ≤ x3.toNatClampNeg then none else some (.inl (some (.inl (.int (nI 1)))), (pa s1 20 (va_up (sa s1 20) x3.toNatClampNeg x1)))))) ab_px))))
section KHN
variable {X : (Nat → Int32) × Nat} {d m N : Nat} {s : ab_S} {M c : Nat → Nat}
theorem PM_mono {b : Nat → Nat → Bool} {W V : Nat} {A : Nat → Int32} (h : PM b m N W A) (hV : ∀ q, W.testBit q = true → V.testBit q = true) : PM b m N V A := by
  have e : ∀ q, V.testBit q = false → W.testBit q = false := fun q hq => by
    cases e : W.testBit q with
    | false => rfl
    | true =>
      rw [hV q e] at hq
      cases hq
  exact ⟨fun q hq hw => h.1 q hq (e q hw), fun q q' i hq hq' hw hw' => h.2 q q' i hq hq' (e q hw) (e q' hw')⟩
/-- the spec of the search, with u owned nights not yet looked at -/
def KS (X : (Nat → Int32) × Nat) (d : Nat) (s : ab_S) (M c : Nat → Nat) (m N u : Nat) : Prop := ∀ (x W : Nat) (A : Nat → Int32), x < m → W < 2 ^ 60 → PM (bb M c) m N W A → ¬ ow N W A x → ms m N W A ≤ u → ∃ (r W' : Nat) (A' : Nat → Int32), ab_ev X (d + u + 1) 335 [.inr (9, 0), .inl (.int (nI x)), .inl (.int (nI (N - 1)))] (kst s A W) = some (.inl (some (.inl (.int (nI r)))), kst s A' W') ∧ KR (bb M c) m N x W A r W' A'
theorem s335 (hm : m ≤ 8) (h0 : 0 < N) (hN : N ≤ 60) (h21 : ∀ i, i < m → sa s 21 i = fx c i) (h1 : ∀ i, i < m → sb s 1 i = lN (M i)) (hM : ∀ i, i < m → M i < 2 ^ 60) {x e V : Nat} {A : Nat → Int32} {u4 : Option ab_V} (hx : x < m) (he : e < N) : ab_at X (d + 1) 335 2 [some (.inr (9, 0)), some (.inl (.int (nI x))), some (.inl (.int (nI (N - 1)))), some (.inl (.int (nI e))), u4] [] (kst s A V) = if bb M c x e = true then kB X d (nI x) (nI (N - 1)) (nI e) (kst s A V) else ab_at X (d + 1) 335 2 [some (.inr (9, 0)), some (.inl (.int (nI x))), some (.inl (.int (nI (N - 1)))), some (.inl (.int (nI e + nI 1))), some (.inl (.int (nI 0)))] [] (kst s A V) := by
  obtain ⟨k1, k2, k3, k4, k5, k6⟩ := kst_at s A V
  have e21 : sa (kst s A V) 21 x = fx c x := by rw [k2, h21 x hx]
  have e1 : sb (kst s A V) 1 x = lN (M x) := by rw [k3, h1 x hx]
  rw [b335_2, if_neg (nI_nlt (by omega) (by omega)), r_in (j := x) (by omega) (by decide), r_in (j := x) (by omega) (by decide), r_in (j := x) (by omega) (by decide), nI_clamp (n := x) (by omega), e21, e1]
  unfold bb fx
  by_cases q : c x < 60
  · rw [if_pos q, if_pos q, if_neg (n_m1 _ (by omega))]
    by_cases q2 : c x = e
    · rw [if_pos (by rw [q2]), if_pos (decide_eq_true q2)]
      rfl
    · rw [if_neg (fun z => q2 ((nI_eq (by omega) (by omega)).mp z)), if_neg (by rw [decide_eq_false q2]; decide)]
  · rw [if_neg q, if_neg q, if_pos rfl]
    have hb := bit1 (M := M x) (k := e) (Nat.lt_of_lt_of_le (hM x hx) (by decide)) (by omega)
    by_cases q2 : (M x).testBit e = true
    · rw [if_pos (hb.mpr q2), if_pos q2]
      rfl
    · rw [if_neg (fun z => q2 (hb.mp z)), if_neg q2]
theorem l335 (hm : m ≤ 8) (h0 : 0 < N) (hN : N ≤ 60) (h21 : ∀ i, i < m → sa s 21 i = fx c i) (h1 : ∀ i, i < m → sb s 1 i = lN (M i)) (hM : ∀ i, i < m → M i < 2 ^ 60) {u : Nat} (ih : ∀ u', u' < u → KS X d s M c m N u') {x W : Nat} {A : Nat → Int32} (hx : x < m) (hW : W < 2 ^ 60) (hP : PM (bb M c) m N W A) (hno : ¬ ow N W A x) (hu : ms m N W A ≤ u) : ∀ (j e V : Nat) (u4 : Option ab_V), e + j = N → KL (bb M c) m N x W A e V → ∃ (r W' : Nat) (A' : Nat → Int32), ab_at X (d + u + 1) 335 2 [some (.inr (9, 0)), some (.inl (.int (nI x))), some (.inl (.int (nI (N - 1)))), some (.inl (.int (nI e))), u4] [] (kst s A V) = some (.inl (some (.inl (.int (nI r)))), kst s A' W') ∧ KR (bb M c) m N x W A r W' A'
  | 0, e, V, u4, ee, hL => by
    obtain rfl : e = N := by omega
    exact ⟨0, V, A, by rw [b335_2, if_pos (nI_lt (by omega) (by omega))], KL_fail hL⟩
  | j + 1, e, V, u4, ee, hL => by
    have he : e < N := by omega
    obtain ⟨k1, k2, k3, k4, k5, k6⟩ := kst_at s A V
    rw [s335 hm h0 hN h21 h1 hM hx he]
    by_cases q : bb M c x e = true
    rotate_left
    · rw [if_neg q, nI_add]
      exact l335 hm h0 hN h21 h1 hM ih hx hW hP hno hu j (e + 1) V _ (by omega) (KL_next hL (fun z => absurd z q))
    rw [if_pos q]
    unfold kB
    have hb := bit1 (M := V) (k := e) (Nat.lt_of_lt_of_le hL.1 (by decide)) (by omega)
    rw [k4]
    by_cases q2 : V.testBit e = true
    · rw [if_pos (hb.mpr q2), nI_add]
      exact l335 hm h0 hN h21 h1 hM ih hx hW hP hno hu j (e + 1) V _ (by omega) (KL_next hL (fun _ => q2))
    have hV : V.testBit e = false := by
      cases z : V.testBit e with
      | false => rfl
      | true => exact absurd z q2
    have hWe : W.testBit e = false := by
      cases z : W.testBit e with
      | false => rfl
      | true => exact absurd (hL.2.1 e z) q2
    rw [if_neg (fun z => q2 (hb.mp z)), r_in (j := e) (by omega) (by decide), r_in (j := e) (by omega) (by decide), r_in (j := e) (by omega) (by decide), nI_clamp (n := e) (by omega), k1, n_l2i e (by omega), l_or, k5]
    rcases hP.1 e he hWe with hA | ⟨y, hy, hA, hby⟩
    · rw [if_pos hA]
      refine ⟨1, V ||| 2 ^ e, va_up A e (nI x), ?_, KR_take hx hm hL he hN q hV hP hA hno⟩
      rw [(kst_at s A (V ||| 2 ^ e)).2.2.2.2.2]
    · rw [hA, if_neg (n_m1 _ (by omega))]
      have hWV : ∀ q, W.testBit q = true → (V ||| 2 ^ e).testBit q = true := fun q hq => by rw [bor_bit, hL.2.1 q hq]; rfl
      have hP' := PM_mono hP hWV
      have heb : (V ||| 2 ^ e).testBit e = true := by rw [bor_bit, decide_eq_true rfl, Bool.or_true]
      have hno' : ¬ ow N (V ||| 2 ^ e) A y := by
        rintro ⟨p, h4, h5, h6⟩
        have hp : W.testBit p = false := by
          cases z : W.testBit p with
          | false => rfl
          | true =>
            rw [hWV p z] at h5
            cases h5
        have := hP.2 p e y h4 he hp hWe h6 hA hy
        rw [this, heb] at h5
        cases h5
      have hlt : ms m N (V ||| 2 ^ e) A < ms m N W A := by
        unfold ms
        have h3 := fb_ct_upd (fun q => !W.testBit q && decide (A q ≠ -nI 1)) false he
        have e5 : (!W.testBit e && decide (A e ≠ -nI 1)) = true := by
          rw [hWe, hA, decide_eq_true (n_m1 _ (by omega))]
          rfl
        rw [e5, if_pos rfl, if_neg (show ¬ false = true by decide)] at h3
        have h4 : fb_ct (fun q => !(V ||| 2 ^ e).testBit q && decide (A q ≠ -nI 1)) N ≤ fb_ct (fun k => if k = e then false else !W.testBit k && decide (A k ≠ -nI 1)) N := fb_ct_sub (fun k hk hh => by
          have h6 := Bool.and_eq_true_iff.mp hh
          have h7 : (V ||| 2 ^ e).testBit k = false := by
            cases z : (V ||| 2 ^ e).testBit k with
            | false => rfl
            | true =>
              rw [z] at h6
              cases h6.1
          show (if k = e then false else !W.testBit k && decide (A k ≠ -nI 1)) = true
          rw [if_neg (fun z => by rw [z, heb] at h7; cases h7)]
          have h8 : W.testBit k = false := by
            cases z : W.testBit k with
            | false => rfl
            | true =>
              rw [hWV k z] at h7
              cases h7
          rw [h8, h6.2]
          rfl)
        omega
      obtain ⟨u', rfl⟩ : ∃ u', u = u' + 1 := ⟨u - 1, by omega⟩
      obtain ⟨r, W', A', g1, g2⟩ := ih u' (by omega) y (V ||| 2 ^ e) A hy (bor_lt hL.1 (by omega)) hP' hno' (by omega)
      have g1' : ab_ev X (d + (u' + 1)) 335 [.inr (9, 0), .inl (.int (nI y)), .inl (.int (nI (N - 1)))] (kst s A (V ||| 2 ^ e)) = _ := g1
      rw [g1', e_bI]
      have hr : r = 0 ∨ r = 1 := by
        rcases g2.2.2 with h | h
        · exact Or.inl h.1
        · exact Or.inr h.1
      rcases hr with rfl | rfl
      · obtain ⟨hL', rfl⟩ := KL_sub hL he q hy hA g2
        rw [if_pos rfl, nI_add]
        exact l335 hm h0 hN h21 h1 hM ih hx hW hP hno hu j (e + 1) W' _ (by omega) hL'
      · rw [if_neg (show ¬ nI 1 = nI 0 by decide), (kst_at s A' W').2.2.2.2.2, (kst_at s A' W').1, r_inc (by omega) (by decide)]
        exact ⟨1, W', va_up A' e (nI x), rfl, KR_aug hx hm hL he hN q hV hP hy hA hno g2⟩
theorem r335 (hm : m ≤ 8) (h0 : 0 < N) (hN : N ≤ 60) (h21 : ∀ i, i < m → sa s 21 i = fx c i) (h1 : ∀ i, i < m → sb s 1 i = lN (M i)) (hM : ∀ i, i < m → M i < 2 ^ 60) : ∀ u, KS X d s M c m N u := by
  intro u
  induction u using Nat.strongRecOn with
  | ind u ih =>
    intro x W A hx hW hP hno hu
    obtain ⟨r, W', A', g1, g2⟩ := l335 (X := X) (d := d) hm h0 hN h21 h1 hM (u := u) ih hx hW hP hno hu N 0 W none (by omega) ⟨hW, fun _ h => h, fun q hq => absurd hq (by omega), fun q _ h1 h2 => by rw [h1] at h2; cases h2⟩
    exact ⟨r, W', A', by rw [b335]; exact g1, g2⟩
/-- no more owned nights than letters -/
theorem ms_le {b : Nat → Nat → Bool} {W : Nat} {A : Nat → Int32} (hm : m ≤ 8) (hP : PM b m N W A) : ms m N W A ≤ m := by
  have h : ms m N W A ≤ fb_ct (fun _ => true) m := by
    unfold ms
    have own : ∀ q, q < N → (!W.testBit q && decide (A q ≠ -nI 1)) = true → W.testBit q = false ∧ ∃ i, i < m ∧ A q = nI i := fun q hq hh => by
      have h6 := Bool.and_eq_true_iff.mp hh
      have h7 : W.testBit q = false := by
        cases z : W.testBit q with
        | false => rfl
        | true =>
          rw [z] at h6
          cases h6.1
      rcases hP.1 q hq h7 with h8 | ⟨i, hi, h8, -⟩
      · exact absurd h8 (of_decide_eq_true h6.2)
      · exact ⟨h7, i, hi, h8⟩
    refine inj_ct (h := fun q => (A q).toNatClampNeg) (fun q hq hh => ?_) (fun q q' hq hq' hh hh' e => ?_)
    · obtain ⟨h7, i, hi, h8⟩ := own q hq hh
      refine ⟨?_, rfl⟩
      show (A q).toNatClampNeg < m
      rw [h8, nI_clamp (by omega)]
      exact hi
    · obtain ⟨h7, i, hi, h8⟩ := own q hq hh
      obtain ⟨h7', i', hi', h8'⟩ := own q' hq' hh'
      have e2 : (A q).toNatClampNeg = (A q').toNatClampNeg := e
      rw [h8, h8', nI_clamp (by omega), nI_clamp (by omega)] at e2
      exact hP.2 q q' i hq hq' h7 h7' h8 (by rw [h8', e2]) hi
  have h2 := fb_ct_le (fun _ => true) m
  omega
end KHN
