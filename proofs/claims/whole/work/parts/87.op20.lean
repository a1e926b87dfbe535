/-! Whole calls: a street let in to a round, one taken out. -/
theorem st_ins {g : Nat → Int32} {a z p : Nat} {x : Int32} (h : a + z < 123) (hp : p ≤ z) : st_ (ins g (11 + a) z p x) 11 = ins (st_ g 11) a z p x := funext fun t => by
  unfold ins st_
  show (if t < 123 then (if 11 + a + p < 11 + t ∧ 11 + t ≤ 11 + a + z then g (11 + t - 1) else if 11 + t = 11 + a + p then x else g (11 + t)) else 0) = (if a + p < t ∧ t ≤ a + z then (if t - 1 < 123 then g (11 + (t - 1)) else 0) else if t = a + p then x else if t < 123 then g (11 + t) else 0)
  by_cases q : t < 123
  · rw [if_pos q]
    by_cases q1 : a + p < t ∧ t ≤ a + z
    · rw [if_pos (by omega), if_pos q1, if_pos (by omega)]
      congr 1
      omega
    · rw [if_neg (by omega), if_neg q1]
      by_cases q2 : t = a + p
      · rw [if_pos (by omega), if_pos q2]
      · rw [if_neg (by omega), if_neg q2, if_pos q]
  · rw [if_neg q, if_neg (by omega), if_neg (by omega), if_neg q]
theorem st_del {g : Nat → Int32} {a z p : Nat} (h : a + z ≤ 123) : st_ (del g (11 + a) z p) 11 = del (st_ g 11) a z p := funext fun t => by
  unfold del st_
  show (if t < 123 then (if 11 + a + p ≤ 11 + t ∧ 11 + t + 1 < 11 + a + z then g (11 + t + 1) else g (11 + t)) else 0) = (if a + p ≤ t ∧ t + 1 < a + z then (if t + 1 < 123 then g (11 + (t + 1)) else 0) else if t < 123 then g (11 + t) else 0)
  by_cases q : t < 123
  · rw [if_pos q]
    by_cases q1 : a + p ≤ t ∧ t + 1 < a + z
    · rw [if_pos (by omega), if_pos q1, if_pos (by omega)]
      congr 1
    · rw [if_neg (by omega), if_neg q1, if_pos q]
  · rw [if_neg q, if_neg (by omega), if_neg q]
theorem ins_out {F : Nat → Int32} {a z p j : Nat} {x : Int32} (h : j < a + p ∨ a + z < j) (hp : p ≤ z) : ins F a z p x j = F j := by
  unfold ins
  rw [if_neg (by omega), if_neg (by omega)]
theorem del_out {F : Nat → Int32} {a z p j : Nat} (h : j < a + p ∨ a + z ≤ j + 1) : del F a z p j = F j := by
  unfold del
  rw [if_neg (by omega)]
theorem ins_at {F : Nat → Int32} {a z p k : Nat} {x : Int32} (hk : k ≤ z) : ins F a z p x (a + k) = if p < k then F (a + k - 1) else if k = p then x else F (a + k) := by
  unfold ins
  by_cases q : p < k
  · rw [if_pos (by omega), if_pos q]
  · rw [if_neg (by omega), if_neg q]
    by_cases q2 : k = p
    · rw [if_pos (by omega), if_pos q2]
    · rw [if_neg (by omega), if_neg q2]
theorem del_at {F : Nat → Int32} {a z p k : Nat} (hk : k + 1 < z) : del F a z p (a + k) = if p ≤ k then F (a + k + 1) else F (a + k) := by
  unfold del
  by_cases q : p ≤ k
  · rw [if_pos (by omega), if_pos q]
  · rw [if_neg (by omega), if_neg q]
theorem r_inc {j N : Nat} {y w : ab_R} (h : j < N) (hN : N < 2 ^ 31) : (if nI j < nI 0 ∨ N ≤ j then y else w) = w := if_neg (fun z => z.elim (n_nlt0 (by omega)) (fun z => by omega))
section OP20
variable {X : (Nat → Int32) × Nat} {d k n nr bm np hs ml m : Nat} {u5 u6 : Option ab_V} {s : ab_S} {nm z f g lo li : Nat → Nat} {st : Nat → Nat → Nat} {by' : Nat → Int32}
theorem PE.rounds {I I' : Nat → Int32} {A A' : Nat → Nat → Int32} {σ σ' : Nat → Int32} {r zn : Nat} (h : PE n nr np I A σ) (hn : n ≤ 20) (h48 : nr ≤ 4 ∧ np ≤ 8) (hr : r < nr) (hI : ∀ q, q ≠ 9 → I' q = I q) (h0 : A' 0 = A 0) (h1 : A' 1 = A 1) (h2 : A' 2 = A 2) (h4 : A' 4 = va_up (A 4) r (nI zn)) (hz : zn ≤ 20) (es : σ' (21 + r) = nI zn) (e : ∀ t, t ≠ 21 + r → (t < 25 + 20 * r ∨ 45 + 20 * r ≤ t) → σ' t = σ t) (h3 : ∀ k, k < zn → A' 3 (20 * r + k) = σ' (25 + 20 * r + k)) (h3' : ∀ r1 k, r1 ≠ r → k < 20 → A' 3 (20 * r1 + k) = A 3 (20 * r1 + k)) : PE n nr np I' A' σ' := by
  obtain ⟨p1, p2, p3, p4, p5, p6, p7⟩ := h
  refine ⟨fun k hk => ?_, ?_, fun q hq => ?_, fun q hq y hy ey k hk => ?_, fun q hq => ?_, ?_, ?_⟩
  · rw [h0, e k (by omega) (by omega)]
    exact p1 k hk
  · rw [hI 6 (by omega), e 20 (by omega) (by omega)]
    exact p2
  · rw [h4]
    by_cases q1 : q = r
    · rw [q1, va_up_self, es]
    · rw [va_up_ne _ _ q1, e _ (by omega) (by omega)]
      exact p3 q hq
  · by_cases q1 : q = r
    · subst q1
      rw [es] at ey
      have : zn = y := (nI_eq (by omega) (by omega)).mp ey
      exact h3 k (by omega)
    · rw [e (21 + q) (by omega) (by omega)] at ey
      rw [h3' q k q1 (by omega), e _ (by omega) (by omega)]
      exact p4 q hq y hy ey k hk
  · rw [h1, h2, e _ (by omega) (by omega), e _ (by omega) (by omega)]
    exact p5 q hq
  · rw [hI 4 (by omega), e _ (by omega) (by omega)]
    exact p6
  · rw [hI 5 (by omega), e _ (by omega) (by omega)]
    exact p7
theorem WSp.rounds {σ σ' : Nat → Int32} {r zn : Nat} {sr : Nat → Nat} (h : WSp n nr np hs σ nm z st bm lo li) (hn : n ≤ 20) (h48 : nr ≤ 4 ∧ np ≤ 8) (hr : r < nr) (hz : zn ≤ 20) (es : σ' (21 + r) = nI zn) (e : ∀ t, t ≠ 21 + r → (t < 25 + 20 * r ∨ 45 + 20 * r ≤ t) → σ' t = σ t) (h3 : ∀ k, k < zn → σ' (25 + 20 * r + k) = nI (sr k)) (h4 : ∀ k, k < zn → sr k < n) (h5 : ∀ a b, a < zn → b < zn → sr a = sr b → a = b) : WSp n nr np hs σ' nm (fun q => if q = r then zn else z q) (fun q k => if q = r then sr k else st q k) bm lo li := by
  obtain ⟨w1, w2, w3, w4, w5, w6, w7, w8, w9, w10⟩ := h
  refine ⟨fun k hk => by rw [e k (by omega) (by omega)]; exact w1 k hk, w2, fun q hq => ?_, fun q hq => ?_, fun q hq k hk => ?_, fun q hq k hk => ?_, fun q hq a b ha hb he => ?_, by rw [e _ (by omega) (by omega)]; exact w8, w9, fun q hq => by rw [e _ (by omega) (by omega), e _ (by omega) (by omega)]; exact w10 q hq⟩
  · show σ' (21 + q) = nI (if q = r then zn else z q)
    by_cases q1 : q = r
    · rw [if_pos q1, q1]
      exact es
    · rw [if_neg q1, e _ (by omega) (by omega)]
      exact w3 q hq
  · show (if q = r then zn else z q) ≤ 20
    split
    · exact hz
    · exact w4 q hq
  · have hk : k < (if q = r then zn else z q) := hk
    show σ' (25 + 20 * q + k) = nI (if q = r then sr k else st q k)
    by_cases q1 : q = r
    · rw [if_pos q1] at hk
      rw [if_pos q1, q1]
      exact h3 k hk
    · rw [if_neg q1] at hk
      have := w4 q hq
      rw [if_neg q1, e _ (by omega) (by omega)]
      exact w5 q hq k hk
  · have hk : k < (if q = r then zn else z q) := hk
    show (if q = r then sr k else st q k) < n
    by_cases q1 : q = r
    · rw [if_pos q1] at hk
      rw [if_pos q1]
      exact h4 k hk
    · rw [if_neg q1] at hk
      rw [if_neg q1]
      exact w6 q hq k hk
  · have ha : a < (if q = r then zn else z q) := ha
    have hb : b < (if q = r then zn else z q) := hb
    have he : (if q = r then sr a else st q a) = (if q = r then sr b else st q b) := he
    by_cases q1 : q = r
    · rw [if_pos q1] at ha hb
      rw [if_pos q1, if_pos q1] at he
      exact h5 a b ha hb he
    · rw [if_neg q1] at ha hb
      rw [if_neg q1, if_neg q1] at he
      exact w7 q hq a b ha hb he
/-- where a street is in a round: as class and model find it -/
theorem pl_eq {s' : ab_S} {v r : Nat} (hT : TW s' 0 n nm nr z st bm by') (hr : r < nr) : pl (sA s' 3 0) (20 * r) (z r) (nI v) = fst (fun q => nI (st r q) == nI v) (z r) := fst_cong (fun q hq => by
  show (sA s' 3 0 (20 * r + q) == nI v) = _
  rw [hT.2.2.2.2.2.2.2.2.1 r hr q hq])
theorem pr_eq {s' : ab_S} {v r : Nat} (hR : RW s' n nm nr z st bm by') (hr : r < nr) : fst (fun q => sa s' 8 (36 + 20 * r + q) == nI v) (z r) = fst (fun q => nI (st r q) == nI v) (z r) := fst_cong (fun q hq => by
  rw [hR.2.2.2.2.2.2.2.2.1 r hr q hq])
theorem l304 {g : Nat → Int32} {r Z p : Nat} {x : Int32} (hr : r < 4) (hZ : Z < 20) (hz : g (32 + r) = nI Z) : ∀ (j k : Nat) (G : Nat → Int32), k = p + j → k ≤ Z → (∀ q, G q = if 36 + 20 * r + k < q ∧ q ≤ 36 + 20 * r + Z then g (q - 1) else g q) → ab_at X (d + 1) 304 99 [some (.inr (9, 0)), some (.inl (.int x)), some (.inl (.int (nI r))), some (.inl (.int (nI p))), some (.inl (.int (nI (36 + 20 * r)))), some (.inl (.int (nI k)))] [] (pa s 8 G) = some (.inl (some (.inl (.int (nI (Z + 1))))), pa s 8 (va_up (ins g (36 + 20 * r) Z p x) (32 + r) (nI (Z + 1))))
  | 0, k, G, e, hk, hG => by
    obtain rfl : k = p := by omega
    have eG : va_up G (36 + 20 * r + k) x = ins g (36 + 20 * r) Z k x := funext fun q => by
      unfold va_up ins
      by_cases q1 : q = 36 + 20 * r + k
      · rw [if_pos q1, if_neg (by omega), if_pos q1]
      · rw [if_neg q1, hG q, if_neg q1]
    have eZ : ins g (36 + 20 * r) Z k x (32 + r) = nI Z := by rw [ins_out (by omega) hk, hz]
    rw [b304_99, if_pos (nI_le (Nat.le_refl _) (by omega)), nI_add, nI_add, r_in (j := 36 + 20 * r + k) (by omega) (by decide), r_in (j := 32 + r) (by omega) (by decide), r_in (j := 32 + r) (by omega) (by decide), r_in (j := 32 + r) (by omega) (by decide), nI_clamp (by omega), nI_clamp (by omega)]
    simp (disch := omega) only [E0, E1]
    rw [eG, eZ, nI_add, va_up_self]
  | j + 1, k, G, e, hk, hG => by
    have ih := l304 (x := x) (p := p) hr hZ hz j (k - 1) (va_up G (36 + 20 * r + k) (G (36 + 20 * r + k - 1))) (by omega) (by omega) (fun q => by
      have eq : G (36 + 20 * r + k - 1) = g (36 + 20 * r + k - 1) := by rw [hG, if_neg (by omega)]
      by_cases q1 : q = 36 + 20 * r + k
      · rw [q1, va_up_self, if_pos (by omega), eq]
      · rw [va_up_ne _ _ q1, hG q]
        by_cases q2 : 36 + 20 * r + k < q ∧ q ≤ 36 + 20 * r + Z
        · rw [if_pos q2, if_pos (by omega)]
        · rw [if_neg q2, if_neg (by omega)])
    have ek : nI k + -nI 1 = nI (k - 1) := by
      have := pk_m1 (k - 1)
      rw [show k - 1 + 1 = k by omega] at this
      exact this
    rw [b304_99, if_neg (nI_ge (by omega) (by omega)), nI_add, pk_sub (by omega), r_in (j := 36 + 20 * r + k - 1) (by omega) (by decide), r_in (j := 36 + 20 * r + k) (by omega) (by decide), nI_clamp (by omega), nI_clamp (by omega), ek]
    simp (disch := omega) only [E0, E1]
    exact ih
theorem l305 {g : Nat → Int32} {r Z p : Nat} {x x4 : Int32} (hr : r < 4) (hZ : Z ≤ 20) (hz : g (32 + r) = nI Z) (hp : p < Z) : ∀ (j k : Nat) (G : Nat → Int32), k + j + 1 = Z → p ≤ k → (∀ q, G q = if q = 32 + r then nI (Z - 1) else if 36 + 20 * r + p ≤ q ∧ q < 36 + 20 * r + k then g (q + 1) else g q) → ab_at X (d + 1) 305 92 [some (.inr (9, 0)), some (.inl (.int x)), some (.inl (.int (nI r))), some (.inl (.int (nI (36 + 20 * r)))), some (.inl (.int x4)), some (.inl (.int (nI k)))] [] (pa s 8 G) = some (.inl (some (.inl (.int (nI (Z - 1))))), pa s 8 (va_up (del g (36 + 20 * r) Z p) (32 + r) (nI (Z - 1))))
  | 0, k, G, e, hk, hG => by
    obtain rfl : k = Z - 1 := by omega
    have eG : G = va_up (del g (36 + 20 * r) Z p) (32 + r) (nI (Z - 1)) := funext fun q => by
      rw [hG q]
      unfold va_up del
      by_cases q1 : q = 32 + r
      · rw [if_pos q1, if_pos q1]
      · rw [if_neg q1, if_neg q1]
        by_cases q2 : 36 + 20 * r + p ≤ q ∧ q < 36 + 20 * r + (Z - 1)
        · rw [if_pos q2, if_pos (by omega)]
        · rw [if_neg q2, if_neg (by omega)]
    have eZ : G (32 + r) = nI (Z - 1) := by rw [hG, if_pos rfl]
    rw [b305_92, nI_add, r_in (j := 32 + r) (by omega) (by decide), nI_clamp (by omega)]
    simp (disch := omega) only [E0]
    rw [eZ, if_pos (nI_le (Nat.le_refl _) (by omega)), r_inc (j := 32 + r) (by omega) (by decide), ← eG]
  | j + 1, k, G, e, hk, hG => by
    have ih := l305 (x := x) (x4 := x4) hr hZ hz hp j (k + 1) (va_up G (36 + 20 * r + k) (G (36 + 20 * r + k + 1))) (by omega) (by omega) (fun q => by
      have eq : G (36 + 20 * r + k + 1) = g (36 + 20 * r + k + 1) := by rw [hG, if_neg (by omega), if_neg (by omega)]
      by_cases q1 : q = 36 + 20 * r + k
      · rw [q1, va_up_self, if_neg (by omega), if_pos (by omega), eq]
      · rw [va_up_ne _ _ q1, hG q]
        by_cases q0 : q = 32 + r
        · rw [if_pos q0, if_pos q0]
        · rw [if_neg q0, if_neg q0]
          by_cases q2 : 36 + 20 * r + p ≤ q ∧ q < 36 + 20 * r + k
          · rw [if_pos q2, if_pos (by omega)]
          · rw [if_neg q2, if_neg (by omega)])
    have eZ : G (32 + r) = nI (Z - 1) := by rw [hG, if_pos rfl]
    rw [b305_92, nI_add, r_in (j := 32 + r) (by omega) (by decide), nI_clamp (by omega)]
    simp (disch := omega) only [E0]
    rw [eZ, if_neg (nI_ge (by omega) (by omega)), nI_add, nI_add, r_in (j := 36 + 20 * r + k + 1) (by omega) (by decide), r_in (j := 36 + 20 * r + k) (by omega) (by decide), nI_clamp (by omega), nI_clamp (by omega), nI_add]
    simp (disch := omega) only [E1]
    exact ih
theorem o130 (h : CW s 0 (sa s 8) n nr np hs ml m by' nm z st bm lo li) (hk : k + 5 < X.2) (hX : X.2 < 2 ^ 31) : ∃ (s2 : ab_S) (v5 v6 : Option ab_V), sZ s s2 ∧ ab_at X (d + 31) 360 1195 [some (.inr (14, 0)), some (.inr (0, 0)), some (.inr (9, 0)), some (.inr (15, 0)), some (.inl (.int (nI k))), u5, u6, none] [] s = ab_at X (d + 31) 360 23 [some (.inr (14, 0)), some (.inr (0, 0)), some (.inr (9, 0)), some (.inr (15, 0)), some (.inl (.int (nI (k + 6)))), v5, v6, none] [] s2 := by
  obtain ⟨⟨hT, hR⟩, p1, p2, p3, p4, p5, p6, p7⟩ := id h.PW
  obtain ⟨hcn, hn, t3, t4, -⟩ := id hT
  have hr1 : sa (ths s) 8 1 = nI n := hR.1
  have hr2 : sa (ths s) 8 2 = nI nr := hR.2.2.2.2.1
  have hr3 : sa (ths s) 8 3 = nI np := p2
  have hr4 : sa (ths s) 8 4 = nI hs := p5
  obtain ⟨hKC, hGC, hHS, hL0, hLW, hWS, hPE, hm, hg6, hDR⟩ := id h
  have h10 : m ≤ 10 := hDR.1
  have h48 : nr ≤ 4 ∧ np ≤ 8 := ⟨hKC.2.2.2.1, hKC.2.2.2.2.2.1⟩
  by_cases h1 : inS (X.1 (k + 1)) n = true
  rotate_left
  · have cc : ab_ev X (d + 30) 130 [.inr (0, 0), .inl (.int (X.1 (k + 1))), .inl (.int (X.1 (k + 2))), .inl (.int (X.1 (k + 3))), .inr (15, 0)] s = some (.inl (some (.inl (.int (nI 1)))), ths s) := by
      rw [b130, b131, c_n86 hcn (by omega), if_neg h1, e_xU, e_px, e_xI]
      rfl
    have r : ab_ev X (d + 30) 304 [.inr (9, 0), .inl (.int (X.1 (k + 1))), .inl (.int (X.1 (k + 2))), .inl (.int (X.1 (k + 3)))] (ths s) = some (.inl (some (.inl (.int (nI 0)))), pz (ths s) 11 (nI 1)) := by
      rw [b304, r266 (n := n) hr1 (by omega), if_neg h1, e_bI, if_pos rfl]
    exact ⟨_, _, _, Or.inl (Or.inr (sV_pz (by omega)).X), w1195 hk hX cc r rfl (fun q => absurd q (by decide))⟩
  by_cases h2 : inS (X.1 (k + 2)) nr = true
  rotate_left
  · have cc : ab_ev X (d + 30) 130 [.inr (0, 0), .inl (.int (X.1 (k + 1))), .inl (.int (X.1 (k + 2))), .inl (.int (X.1 (k + 3))), .inr (15, 0)] s = some (.inl (some (.inl (.int (nI 1)))), ths s) := by
      rw [b130, b131, c_n86 hcn (by omega), if_pos h1, e_bU, c_n91 hKC.2.2.1 (by omega), if_neg h2, e_xU, e_px, e_xI]
      rfl
    have r : ab_ev X (d + 30) 304 [.inr (9, 0), .inl (.int (X.1 (k + 1))), .inl (.int (X.1 (k + 2))), .inl (.int (X.1 (k + 3)))] (ths s) = some (.inl (some (.inl (.int (nI 0)))), pz (ths s) 11 (nI 1)) := by
      rw [b304, r266 (n := n) hr1 (by omega), if_pos h1, e_bI, if_neg (show ¬ nI 1 = nI 0 by decide), r274 (n := nr) hr2 (by omega), if_neg h2, e_bI, if_pos rfl]
    exact ⟨_, _, _, Or.inl (Or.inr (sV_pz (by omega)).X), w1195 hk hX cc r rfl (fun q => absurd q (by decide))⟩
  obtain ⟨v, hv, ev⟩ := inS_rep h1
  obtain ⟨r, hr, er⟩ := inS_rep h2
  have hr4' : r < 4 := by have := hKC.2.2.2.1; omega
  have hz := hT.2.2.2.2.2.2.1 r hr
  have hz20 := hT.2.2.2.2.2.2.2.1 r hr
  have hzR := hR.2.2.2.2.2.2.1 r hr
  have ep := pl_eq (v := v) hT hr
  have eq := pr_eq (v := v) hR hr
  obtain ⟨p0, hp0⟩ : ∃ p0, p0 = fst (fun q => nI (st r q) == nI v) (z r) := ⟨_, rfl⟩
  rw [← hp0] at ep eq
  have cpl : ∀ d', ab_ev X (d' + 2) 64 [.inr (3, 0), .inl (.int (nI r)), .inl (.int (nI v))] s = some (.inl (some (.inl (.int (if p0 < z r then nI p0 else -nI 1)))), s) := fun d' => by
    rw [c_placeOf hr4' hz hz20, ep]

  by_cases h3 : p0 < z r
  · have cc : ab_ev X (d + 30) 130 [.inr (0, 0), .inl (.int (X.1 (k + 1))), .inl (.int (X.1 (k + 2))), .inl (.int (X.1 (k + 3))), .inr (15, 0)] s = some (.inl (some (.inl (.int (nI 2)))), ths s) := by
      rw [b130, b131, c_n86 hcn (by omega), if_pos h1, e_bU, c_n91 hKC.2.2.1 (by omega), if_pos h2, e_bU, er, ev, cpl (d + 26), e_bI, if_pos h3, if_neg (n_m1 _ (by omega)), e_xI]
      rfl
    have rr : ab_ev X (d + 30) 304 [.inr (9, 0), .inl (.int (X.1 (k + 1))), .inl (.int (X.1 (k + 2))), .inl (.int (X.1 (k + 3)))] (ths s) = some (.inl (some (.inl (.int (nI 0)))), pz (ths s) 11 (nI 2)) := by
      have eq' : fst (fun q => sa (ths s) 8 (36 + 20 * r + q) == nI v) (z r) = p0 := eq
      rw [b304, r266 (n := n) hr1 (by omega), if_pos h1, e_bI, if_neg (show ¬ nI 1 = nI 0 by decide), r274 (n := nr) hr2 (by omega), if_pos h2, e_bI, if_neg (show ¬ nI 1 = nI 0 by decide), er, ev, r249 (s := ths s) hr4' hzR hz20, eq', e_bI, if_pos h3, if_neg (n_m1 _ (by omega))]
    exact ⟨_, _, _, Or.inl (Or.inr (sV_pz (by omega)).X), w1195 hk hX cc rr rfl (fun q => absurd q (by decide))⟩
  have i0 : (nI 0).toInt = 0 := by decide
  have j0 : (lN 0).toInt = 0 := by decide
  have iz : (nI (z r)).toInt = (z r : Int) := nI_toInt (by omega)
  by_cases h4 : inR (X.1 (k + 3)).toInt 0 (z r : Int) = true
  rotate_left
  · have cc : ab_ev X (d + 30) 130 [.inr (0, 0), .inl (.int (X.1 (k + 1))), .inl (.int (X.1 (k + 2))), .inl (.int (X.1 (k + 3))), .inr (15, 0)] s = some (.inl (some (.inl (.int (nI 3)))), ths s) := by
      rw [b130, b131, c_n86 hcn (by omega), if_pos h1, e_bU, c_n91 hKC.2.2.1 (by omega), if_pos h2, e_bU, er, ev, cpl (d + 26), e_bI, if_neg h3, if_pos rfl, c_sizeOf hr4', hz, e_bI, c_n103, i0, iz, if_neg h4, e_xU, e_px, e_xI]
      rfl
    have rr : ab_ev X (d + 30) 304 [.inr (9, 0), .inl (.int (X.1 (k + 1))), .inl (.int (X.1 (k + 2))), .inl (.int (X.1 (k + 3)))] (ths s) = some (.inl (some (.inl (.int (nI 0)))), pz (ths s) 11 (nI 3)) := by
      have eq' : fst (fun q => sa (ths s) 8 (36 + 20 * r + q) == nI v) (z r) = p0 := eq
      have hzR' : sa (ths s) 8 (32 + r) = nI (z r) := hzR
      rw [b304, r266 (n := n) hr1 (by omega), if_pos h1, e_bI, if_neg (show ¬ nI 1 = nI 0 by decide), r274 (n := nr) hr2 (by omega), if_pos h2, e_bI, if_neg (show ¬ nI 1 = nI 0 by decide), er, ev, r249 (s := ths s) hr4' hzR hz20, eq', e_bI, if_neg h3, if_pos rfl, nI_add, r_in (j := 32 + r) (by omega) (by decide), nI_clamp (by omega), hzR', r232, j_of, j_of, j0, iz, if_neg h4, e_bI, if_pos rfl]
    exact ⟨_, _, _, Or.inl (Or.inr (sV_pz (by omega)).X), w1195 hk hX cc rr rfl (fun q => absurd q (by decide))⟩
  obtain ⟨p, hp, ey⟩ := inS_rep (x := X.1 (k + 3)) (n := z r + 1) (inS_def.mpr (by have := inR_iff.mp h4; omega))
  have hno : ∀ q, q < z r → st r q ≠ v := fun q hq e => by
    have h5 := fst_no (fun q => nI (st r q) == nI v) (z r) q (by have := fst_le (fun q => nI (st r q) == nI v) (z r); omega)
    have h6 : (nI (st r q) == nI v) = false := h5
    rw [e] at h6
    simp at h6
  have hst6 := hT.2.2.2.2.2.2.2.2.2.1 r hr
  have hst7 := hT.2.2.2.2.2.2.2.2.2.2.1 r hr
  have hzn : z r + 1 ≤ n := fb_holes n (z r + 1) (fun q => if q < z r then st r q else v) (fun q hq => by
    show (if q < z r then st r q else v) < n
    by_cases q1 : q < z r
    · rw [if_pos q1]
      exact hst6 q q1
    · rw [if_neg q1]
      exact hv) (fun a b hab hb e => by
    have e : (if a < z r then st r a else v) = (if b < z r then st r b else v) := e
    by_cases q1 : b < z r
    · rw [if_pos q1, if_pos (by omega)] at e
      have := hst7 a b (by omega) q1 e
      omega
    · rw [if_neg q1, if_pos (by omega)] at e
      exact hno a (by omega) e)
  have hz19 : z r < 20 := by omega
  obtain ⟨s1, hs1⟩ : ∃ s1, s1 = nt (wA (wA s 3 0 (ins (sA s 3 0) (20 * r) (z r) p (nI v))) 4 0 (va_up (sA s 4 0) r (nI (z r + 1)))) 0 m (nI 4) (nI v) (nI r) (nI p) := ⟨_, rfl⟩
  have cc : ab_ev X (d + 30) 130 [.inr (0, 0), .inl (.int (X.1 (k + 1))), .inl (.int (X.1 (k + 2))), .inl (.int (X.1 (k + 3))), .inr (15, 0)] s = some (.inl (some (.inl (.int (nI 0)))), pb s1 3 (va_up (sb s1 3) 0 (nI (z r + 1)).toInt64)) := by
    rw [b130, b131, c_n86 hcn (by omega), if_pos h1, e_bU, c_n91 hKC.2.2.1 (by omega), if_pos h2, e_bU, er, ev, cpl (d + 26), e_bI, if_neg h3, if_pos rfl, c_sizeOf hr4', hz, e_bI, c_n103, i0, iz, if_pos h4, e_bU, ey, c_join hm h10 hr4' hz hz19 (by omega), e_bI, e_bI, hs1]
  obtain ⟨sM, hsM⟩ : ∃ sM, sM = pz (pb s1 3 (va_up (sb s1 3) 0 (nI (z r + 1)).toInt64)) 11 (nI 0) := ⟨_, rfl⟩
  have e8 : sa sM 8 = sa s 8 := by rw [hsM, hs1]; rfl
  have esi : si sM = si s1 := by rw [hsM]; rfl
  have esA : sA sM = sA s1 := by rw [hsM]; rfl
  have d1 : sD s sM := by
    rw [hsM, hs1]
    exact sD_trans (sD_wA (by decide)) (sD_trans (sD_wA (by decide)) (sD_trans (sD_nt (by decide)) (sD_trans sV_pb.D (sV_pz (by omega)).D)))
  obtain ⟨H, q1, hK⟩ := r289 (X := X) (d := d + 29) (s := sM) (m := m) (by rw [e8]; exact hg6) h10
  rw [e8] at hK
  have eHz : H (32 + r) = nI (z r) := by rw [hK.1 _ (by omega) (by omega)]; exact hzR
  obtain ⟨g2, hg2⟩ : ∃ g2, g2 = va_up (ins H (36 + 20 * r) (z r) p (nI v)) (32 + r) (nI (z r + 1)) := ⟨_, rfl⟩
  have e1 : st_ g2 11 = va_up (ins (st_ (sa s 8) 11) (25 + 20 * r) (z r) p (nI v)) (21 + r) (nI (z r + 1)) := by
    have a1 := st_up (g := ins H (36 + 20 * r) (z r) p (nI v)) (b := 11) (j := 21 + r) (v := nI (z r + 1)) (by omega)
    have a2 := st_ins (g := H) (a := 25 + 20 * r) (z := z r) (p := p) (x := nI v) (by omega) (by omega)
    rw [show 11 + (21 + r) = 32 + r by omega] at a1
    rw [show 11 + (25 + 20 * r) = 36 + 20 * r by omega, hK.st] at a2
    rw [hg2, a1, a2]
  have rr : ab_ev X (d + 30) 304 [.inr (9, 0), .inl (.int (X.1 (k + 1))), .inl (.int (X.1 (k + 2))), .inl (.int (X.1 (k + 3)))] (pb s1 3 (va_up (sb s1 3) 0 (nI (z r + 1)).toInt64)) = some (.inl (some (.inl (.int (nI (z r + 1))))), pa sM 8 g2) := by
    have e80 : sa (pb s1 3 (va_up (sb s1 3) 0 (nI (z r + 1)).toInt64)) 8 = sa s 8 := by rw [hs1]; rfl
    have hr1 : sa (pb s1 3 (va_up (sb s1 3) 0 (nI (z r + 1)).toInt64)) 8 1 = nI n := by rw [e80]; exact hR.1
    have hr2 : sa (pb s1 3 (va_up (sb s1 3) 0 (nI (z r + 1)).toInt64)) 8 2 = nI nr := by rw [e80]; exact hR.2.2.2.2.1
    have hzR' : sa (pb s1 3 (va_up (sb s1 3) 0 (nI (z r + 1)).toInt64)) 8 (32 + r) = nI (z r) := by rw [e80]; exact hzR
    have eq' : fst (fun q => sa (pb s1 3 (va_up (sb s1 3) 0 (nI (z r + 1)).toInt64)) 8 (36 + 20 * r + q) == nI v) (z r) = p0 := by rw [e80]; exact eq
    have l1 := l304 (X := X) (d := d + 29) (s := sM) (g := H) (r := r) (Z := z r) (p := p) (x := nI v) hr4' hz19 eHz (z r - p) (z r) H (by omega) (Nat.le_refl _) (fun q => by rw [if_neg (by omega)])
    rw [b304, r266 (n := n) hr1 (by omega), if_pos h1, e_bI, if_neg (show ¬ nI 1 = nI 0 by decide), r274 (n := nr) hr2 (by omega), if_pos h2, e_bI, if_neg (show ¬ nI 1 = nI 0 by decide), er, ev, r249 (s := pb s1 3 (va_up (sb s1 3) 0 (nI (z r + 1)).toInt64)) hr4' hzR' hz20, eq', e_bI, if_neg h3, if_pos rfl, nI_add, r_in (j := 32 + r) (by omega) (by decide), nI_clamp (by omega), hzR', r232, j_of, j_of, j0, iz, if_pos h4, e_bI, if_neg (show ¬ nI 1 = nI 0 by decide), ← hsM, q1, e_bU, r_inc (j := 32 + r) (by omega) (by decide), pk_mul, nI_add, ey]
    simp (disch := omega) only [E0]
    rw [eHz, l1, hg2]
  have hX1 : ∀ t, t ≠ 21 + r → (t < 25 + 20 * r ∨ 45 + 20 * r ≤ t) → st_ g2 11 t = st_ (sa s 8) 11 t := fun t a1 a2 => by rw [e1, va_up_ne _ _ a1, ins_out (by omega) (by omega)]
  have hX2 : st_ g2 11 (21 + r) = nI (z r + 1) := by rw [e1, va_up_self]
  have hX3 : ∀ q, q ≤ z r → st_ g2 11 (25 + 20 * r + q) = if p < q then st_ (sa s 8) 11 (25 + 20 * r + q - 1) else if q = p then nI v else st_ (sa s 8) 11 (25 + 20 * r + q) := fun q hq => by rw [e1, va_up_ne _ _ (by omega), ins_at hq]
  have hws5 := hWS.2.2.2.2.1 r hr
  have hC : CW (pa sM 8 g2) 0 g2 n nr np hs ml (min m 9 + 1) by' nm (fun q => if q = r then z r + 1 else z q) (fun q j => if q = r then (if p < j then st r (j - 1) else if j = p then v else st r j) else st q j) bm lo li := by
    refine h.deed (k := nI 4) (a := nI v) (b := nI r) (c := nI p) hK (fun q a1 a2 a3 a4 => ?_) ?_ ?_ ?_ ?_ (fun q hq => by rw [hg2, va_up_ne _ _ (by omega), ins_out (by omega) (by omega)]) ?_ ?_ ?_
    · show si sM q 0 = _
      rw [esi, hs1, nt_si a4]
      rfl
    · show sA sM 5 0 = _
      rw [esA, hs1, nt_sA (by decide)]
      simp (disch := omega) only [E0]
    · show sA sM 6 0 = _
      rw [esA, hs1, nt_sA (by decide)]
      simp (disch := omega) only [E0]
    · show si sM 9 0 = _
      rw [esi, hs1, nt_si9 h10]
    · show sA sM 8 0 = _
      rw [esA, hs1, nt_sA8]
      simp (disch := omega) only [E0]
    · refine hWS.rounds (sr := fun j => if p < j then st r (j - 1) else if j = p then v else st r j) hn h48 hr (by omega) hX2 hX1 (fun q hq => ?_) (fun q hq => ?_) (fun a b ha hb e => ?_)
      · rw [hX3 q (by omega)]
        show _ = nI (if p < q then st r (q - 1) else if q = p then v else st r q)
        by_cases c1 : p < q
        · rw [if_pos c1, if_pos c1, ← hws5 (q - 1) (by omega)]
          congr 1
          omega
        · rw [if_neg c1, if_neg c1]
          by_cases c2 : q = p
          · rw [if_pos c2, if_pos c2]
          · rw [if_neg c2, if_neg c2]
            exact hws5 q (by omega)
      · show (if p < q then st r (q - 1) else if q = p then v else st r q) < n
        by_cases c1 : p < q
        · rw [if_pos c1]
          exact hst6 _ (by omega)
        · rw [if_neg c1]
          by_cases c2 : q = p
          · rw [if_pos c2]
            exact hv
          · rw [if_neg c2]
            exact hst6 _ (by omega)
      · have e : (if p < a then st r (a - 1) else if a = p then v else st r a) = (if p < b then st r (b - 1) else if b = p then v else st r b) := e
        by_cases c1 : p < a
        · rw [if_pos c1] at e
          by_cases c2 : p < b
          · rw [if_pos c2] at e
            have := hst7 _ _ (by omega) (by omega) e
            omega
          · rw [if_neg c2] at e
            by_cases c3 : b = p
            · rw [if_pos c3] at e
              exact absurd e (hno _ (by omega))
            · rw [if_neg c3] at e
              have := hst7 _ _ (by omega) (by omega) e
              omega
        · rw [if_neg c1] at e
          by_cases c4 : a = p
          · rw [if_pos c4] at e
            by_cases c2 : p < b
            · rw [if_pos c2] at e
              exact absurd e.symm (hno _ (by omega))
            · rw [if_neg c2] at e
              by_cases c3 : b = p
              · omega
              · rw [if_neg c3] at e
                exact absurd e.symm (hno _ (by omega))
          · rw [if_neg c4] at e
            by_cases c2 : p < b
            · rw [if_pos c2] at e
              have := hst7 _ _ (by omega) (by omega) e
              omega
            · rw [if_neg c2] at e
              by_cases c3 : b = p
              · rw [if_pos c3] at e
                exact absurd e (hno _ (by omega))
              · rw [if_neg c3] at e
                exact hst7 _ _ (by omega) (by omega) e
    · have hA : sA (pa sM 8 g2) = sA s1 := esA
      refine hPE.rounds (zn := z r + 1) hn h48 hr (fun q a9 => ?_) ?_ ?_ ?_ ?_ (by omega) hX2 hX1 (fun q hq => ?_) (fun r1 q hr1 hq => ?_)
      · show si sM q 0 = _
        rw [esi, hs1, nt_si a9]
        rfl
      · show sA sM 0 0 = _
        rw [esA, hs1, nt_sA (by decide)]
        simp (disch := omega) only [E0]
      · show sA sM 1 0 = _
        rw [esA, hs1, nt_sA (by decide)]
        simp (disch := omega) only [E0]
      · show sA sM 2 0 = _
        rw [esA, hs1, nt_sA (by decide)]
        simp (disch := omega) only [E0]
      · show sA sM 4 0 = _
        rw [esA, hs1, nt_sA (by decide)]
        simp (disch := omega) only [E0]
      · show sA sM 3 0 _ = _
        rw [esA, hs1, nt_sA (by decide)]
        simp (disch := omega) only [E0]
        have p4 := hPE.2.2.2.1 r hr (z r) hz20 (hWS.2.2.1 r hr)
        rw [hX3 q (by omega), ins_at (by omega)]
        by_cases c1 : p < q
        · rw [if_pos c1, if_pos c1, show 20 * r + q - 1 = 20 * r + (q - 1) by omega, show 25 + 20 * r + q - 1 = 25 + 20 * r + (q - 1) by omega]
          exact p4 _ (by omega)
        · rw [if_neg c1, if_neg c1]
          by_cases c2 : q = p
          · rw [if_pos c2, if_pos c2]
          · rw [if_neg c2, if_neg c2]
            exact p4 _ (by omega)
      · show sA sM 3 0 _ = _
        rw [esA, hs1, nt_sA (by decide)]
        simp (disch := omega) only [E0]
        exact ins_out (by omega) (by omega)
    · refine ⟨va_up (del (st_ g2 11) (25 + 20 * r) (z r + 1) p) (21 + r) (nI (z r + 1 - 1)), Or.inr (Or.inr (Or.inr (Or.inl ⟨rfl, r, p, z r + 1, hr, rfl, rfl, hX2, by omega, by omega, rfl⟩))), ?_⟩
      have out : ∀ t, t ≠ 21 + r → (t < 25 + 20 * r ∨ 45 + 20 * r ≤ t) → va_up (del (st_ g2 11) (25 + 20 * r) (z r + 1) p) (21 + r) (nI (z r + 1 - 1)) t = st_ (sa s 8) 11 t := fun t a1 a2 => by rw [va_up_ne _ _ a1, del_out (by omega), hX1 t a1 a2]
      refine ⟨fun q hq => (out q (by omega) (by omega)).symm, (out _ (by omega) (by omega)).symm, fun q hq => ?_, fun q hq y hy ey2 j hj => ?_, fun q hq => ⟨(out _ (by omega) (by omega)).symm, (out _ (by omega) (by omega)).symm⟩, (out _ (by omega) (by omega)).symm, (out _ (by omega) (by omega)).symm⟩
      · by_cases c1 : q = r
        · rw [c1, va_up_self, hWS.2.2.1 r hr, Nat.add_sub_cancel]
        · exact (out _ (by omega) (by omega)).symm
      · by_cases c1 : q = r
        · subst c1
          rw [hWS.2.2.1 q hr] at ey2
          have ezy : z q = y := (nI_eq (by omega) (by omega)).mp ey2
          rw [va_up_ne _ _ (by omega), del_at (by omega)]
          by_cases c2 : p ≤ j
          · rw [if_pos c2, show 25 + 20 * q + j + 1 = 25 + 20 * q + (j + 1) by omega, hX3 _ (by omega), if_pos (by omega)]
            congr 1
          · rw [if_neg c2, hX3 _ (by omega), if_neg (by omega), if_neg (by omega)]
        · exact (out _ (by omega) (by omega)).symm
  have e9 : sz (pa sM 8 g2) 11 = nI 0 := by rw [hsM]; simp (disch := omega) only [E0]
  have e10 : sb (pa sM 8 g2) 3 0 = (nI (z r + 1)).toInt64 := by
    rw [hsM]
    simp (disch := omega) only [E0]
    rw [va_up_self]
  exact ⟨_, _, _, Or.inr ⟨sD_trans d1 sD_pa8, _, _, _, _, _, _, _, _, _, _, _, _, _, hC⟩, w1195 hk hX cc rr e9 (fun _ => e10)⟩
theorem o133 (h : CW s 0 (sa s 8) n nr np hs ml m by' nm z st bm lo li) (hk : k + 5 < X.2) (hX : X.2 < 2 ^ 31) : ∃ (s2 : ab_S) (v5 v6 : Option ab_V), sZ s s2 ∧ ab_at X (d + 31) 360 1275 [some (.inr (14, 0)), some (.inr (0, 0)), some (.inr (9, 0)), some (.inr (15, 0)), some (.inl (.int (nI k))), u5, u6, none] [] s = ab_at X (d + 31) 360 23 [some (.inr (14, 0)), some (.inr (0, 0)), some (.inr (9, 0)), some (.inr (15, 0)), some (.inl (.int (nI (k + 6)))), v5, v6, none] [] s2 := by
  obtain ⟨⟨hT, hR⟩, p1, p2, p3, p4, p5, p6, p7⟩ := id h.PW
  obtain ⟨hcn, hn, t3, t4, -⟩ := id hT
  have hr1 : sa (ths s) 8 1 = nI n := hR.1
  have hr2 : sa (ths s) 8 2 = nI nr := hR.2.2.2.2.1
  have hr3 : sa (ths s) 8 3 = nI np := p2
  have hr4 : sa (ths s) 8 4 = nI hs := p5
  obtain ⟨hKC, hGC, hHS, hL0, hLW, hWS, hPE, hm, hg6, hDR⟩ := id h
  have h10 : m ≤ 10 := hDR.1
  have h48 : nr ≤ 4 ∧ np ≤ 8 := ⟨hKC.2.2.2.1, hKC.2.2.2.2.2.1⟩
  by_cases h1 : inS (X.1 (k + 1)) n = true
  rotate_left
  · have cc : ab_ev X (d + 30) 133 [.inr (0, 0), .inl (.int (X.1 (k + 1))), .inl (.int (X.1 (k + 2))), .inr (15, 0)] s = some (.inl (some (.inl (.int (nI 1)))), ths s) := by
      rw [b133, b134, c_n86 hcn (by omega), if_neg h1, e_xU, e_px, e_xI]
      rfl
    have r : ab_ev X (d + 30) 305 [.inr (9, 0), .inl (.int (X.1 (k + 1))), .inl (.int (X.1 (k + 2)))] (ths s) = some (.inl (some (.inl (.int (nI 0)))), pz (ths s) 11 (nI 1)) := by
      rw [b305, r266 (n := n) hr1 (by omega), if_neg h1, e_bI, if_pos rfl]
    exact ⟨_, _, _, Or.inl (Or.inr (sV_pz (by omega)).X), w1275 hk hX cc r rfl (fun q => absurd q (by decide))⟩
  by_cases h2 : inS (X.1 (k + 2)) nr = true
  rotate_left
  · have cc : ab_ev X (d + 30) 133 [.inr (0, 0), .inl (.int (X.1 (k + 1))), .inl (.int (X.1 (k + 2))), .inr (15, 0)] s = some (.inl (some (.inl (.int (nI 1)))), ths s) := by
      rw [b133, b134, c_n86 hcn (by omega), if_pos h1, e_bU, c_n91 hKC.2.2.1 (by omega), if_neg h2, e_xU, e_px, e_xI]
      rfl
    have r : ab_ev X (d + 30) 305 [.inr (9, 0), .inl (.int (X.1 (k + 1))), .inl (.int (X.1 (k + 2)))] (ths s) = some (.inl (some (.inl (.int (nI 0)))), pz (ths s) 11 (nI 1)) := by
      rw [b305, r266 (n := n) hr1 (by omega), if_pos h1, e_bI, if_neg (show ¬ nI 1 = nI 0 by decide), r274 (n := nr) hr2 (by omega), if_neg h2, e_bI, if_pos rfl]
    exact ⟨_, _, _, Or.inl (Or.inr (sV_pz (by omega)).X), w1275 hk hX cc r rfl (fun q => absurd q (by decide))⟩
  obtain ⟨v, hv, ev⟩ := inS_rep h1
  obtain ⟨r, hr, er⟩ := inS_rep h2
  have hr4' : r < 4 := by have := hKC.2.2.2.1; omega
  have hz := hT.2.2.2.2.2.2.1 r hr
  have hz20 := hT.2.2.2.2.2.2.2.1 r hr
  have hzR := hR.2.2.2.2.2.2.1 r hr
  have ep := pl_eq (v := v) hT hr
  have eq := pr_eq (v := v) hR hr
  obtain ⟨p0, hp0⟩ : ∃ p0, p0 = fst (fun q => nI (st r q) == nI v) (z r) := ⟨_, rfl⟩
  rw [← hp0] at ep eq
  have cpl : ∀ d', ab_ev X (d' + 2) 64 [.inr (3, 0), .inl (.int (nI r)), .inl (.int (nI v))] s = some (.inl (some (.inl (.int (if p0 < z r then nI p0 else -nI 1)))), s) := fun d' => by
    rw [c_placeOf hr4' hz hz20, ep]

  by_cases h3 : p0 < z r
  rotate_left
  · have cc : ab_ev X (d + 30) 133 [.inr (0, 0), .inl (.int (X.1 (k + 1))), .inl (.int (X.1 (k + 2))), .inr (15, 0)] s = some (.inl (some (.inl (.int (nI 2)))), ths s) := by
      rw [b133, b134, c_n86 hcn (by omega), if_pos h1, e_bU, c_n91 hKC.2.2.1 (by omega), if_pos h2, e_bU, er, ev, cpl (d + 26), e_bI, if_neg h3, if_pos rfl, e_xI]
      rfl
    have rr : ab_ev X (d + 30) 305 [.inr (9, 0), .inl (.int (X.1 (k + 1))), .inl (.int (X.1 (k + 2)))] (ths s) = some (.inl (some (.inl (.int (nI 0)))), pz (ths s) 11 (nI 2)) := by
      have eq' : fst (fun q => sa (ths s) 8 (36 + 20 * r + q) == nI v) (z r) = p0 := eq
      rw [b305, r266 (n := n) hr1 (by omega), if_pos h1, e_bI, if_neg (show ¬ nI 1 = nI 0 by decide), r274 (n := nr) hr2 (by omega), if_pos h2, e_bI, if_neg (show ¬ nI 1 = nI 0 by decide), er, ev, r249 (s := ths s) hr4' hzR hz20, eq', e_bI, if_neg h3, if_pos rfl]
    exact ⟨_, _, _, Or.inl (Or.inr (sV_pz (by omega)).X), w1275 hk hX cc rr rfl (fun q => absurd q (by decide))⟩
  have hst6 := hT.2.2.2.2.2.2.2.2.2.1 r hr
  have hst7 := hT.2.2.2.2.2.2.2.2.2.2.1 r hr
  have hyes : st r p0 = v := by
    have h5 := fst_yes (fun q => nI (st r q) == nI v) (z r) (by rw [← hp0]; exact h3)
    rw [← hp0] at h5
    have h6 : nI (st r p0) = nI v := beq_iff_eq.mp h5
    have := hst6 p0 h3
    exact (nI_eq (by omega) (by omega)).mp h6
  obtain ⟨s1, hs1⟩ : ∃ s1, s1 = nt (wA (wA s 3 0 (del (sA s 3 0) (20 * r) (z r) p0)) 4 0 (va_up (sA s 4 0) r (nI (z r - 1)))) 0 m (nI 5) (nI v) (nI r) (nI p0) := ⟨_, rfl⟩
  have cc : ab_ev X (d + 30) 133 [.inr (0, 0), .inl (.int (X.1 (k + 1))), .inl (.int (X.1 (k + 2))), .inr (15, 0)] s = some (.inl (some (.inl (.int (nI 0)))), pb s1 3 (va_up (sb s1 3) 0 (nI (z r - 1)).toInt64)) := by
    have cl := c_leave (X := X) (d := d + 25) (x := nI v) hm h10 hr4' hz hz20 (by rw [ep]; exact h3)
    rw [ep] at cl
    rw [b133, b134, c_n86 hcn (by omega), if_pos h1, e_bU, c_n91 hKC.2.2.1 (by omega), if_pos h2, e_bU, er, ev, cpl (d + 26), e_bI, if_pos h3, if_neg (n_m1 _ (by omega)), cl, e_bI, e_bI, hs1]
  obtain ⟨sM, hsM⟩ : ∃ sM, sM = pz (pb s1 3 (va_up (sb s1 3) 0 (nI (z r - 1)).toInt64)) 11 (nI 0) := ⟨_, rfl⟩
  have e8 : sa sM 8 = sa s 8 := by rw [hsM, hs1]; rfl
  have esi : si sM = si s1 := by rw [hsM]; rfl
  have esA : sA sM = sA s1 := by rw [hsM]; rfl
  have d1 : sD s sM := by
    rw [hsM, hs1]
    exact sD_trans (sD_wA (by decide)) (sD_trans (sD_wA (by decide)) (sD_trans (sD_nt (by decide)) (sD_trans sV_pb.D (sV_pz (by omega)).D)))
  obtain ⟨H, q1, hK⟩ := r289 (X := X) (d := d + 29) (s := sM) (m := m) (by rw [e8]; exact hg6) h10
  rw [e8] at hK
  have eHz : H (32 + r) = nI (z r) := by rw [hK.1 _ (by omega) (by omega)]; exact hzR
  have eHq : fst (fun q => H (36 + 20 * r + q) == nI v) (z r) = p0 := by
    rw [← eq]
    exact fst_cong (fun q hq => by rw [hK.1 _ (by omega) (by omega)])
  obtain ⟨g2, hg2⟩ : ∃ g2, g2 = va_up (del H (36 + 20 * r) (z r) p0) (32 + r) (nI (z r - 1)) := ⟨_, rfl⟩
  have e1 : st_ g2 11 = va_up (del (st_ (sa s 8) 11) (25 + 20 * r) (z r) p0) (21 + r) (nI (z r - 1)) := by
    have a1 := st_up (g := del H (36 + 20 * r) (z r) p0) (b := 11) (j := 21 + r) (v := nI (z r - 1)) (by omega)
    have a2 := st_del (g := H) (a := 25 + 20 * r) (z := z r) (p := p0) (by omega)
    rw [show 11 + (21 + r) = 32 + r by omega] at a1
    rw [show 11 + (25 + 20 * r) = 36 + 20 * r by omega, hK.st] at a2
    rw [hg2, a1, a2]
  have rr : ab_ev X (d + 30) 305 [.inr (9, 0), .inl (.int (X.1 (k + 1))), .inl (.int (X.1 (k + 2)))] (pb s1 3 (va_up (sb s1 3) 0 (nI (z r - 1)).toInt64)) = some (.inl (some (.inl (.int (nI (z r - 1))))), pa sM 8 g2) := by
    have e80 : sa (pb s1 3 (va_up (sb s1 3) 0 (nI (z r - 1)).toInt64)) 8 = sa s 8 := by rw [hs1]; rfl
    have hr1 : sa (pb s1 3 (va_up (sb s1 3) 0 (nI (z r - 1)).toInt64)) 8 1 = nI n := by rw [e80]; exact hR.1
    have hr2 : sa (pb s1 3 (va_up (sb s1 3) 0 (nI (z r - 1)).toInt64)) 8 2 = nI nr := by rw [e80]; exact hR.2.2.2.2.1
    have hzR' : sa (pb s1 3 (va_up (sb s1 3) 0 (nI (z r - 1)).toInt64)) 8 (32 + r) = nI (z r) := by rw [e80]; exact hzR
    have eq' : fst (fun q => sa (pb s1 3 (va_up (sb s1 3) 0 (nI (z r - 1)).toInt64)) 8 (36 + 20 * r + q) == nI v) (z r) = p0 := by rw [e80]; exact eq
    have l0 : ab_ev X (d + 29) 249 [.inr (37, 0), .inl (.int (nI r)), .inl (.int (nI v))] (pa sM 8 H) = some (.inl (some (.inl (.int (nI p0)))), pa sM 8 H) := by
      have z0 : sa (pa sM 8 H) 8 = H := by simp (disch := omega) only [E0]
      rw [r249 (s := pa sM 8 H) hr4' (by rw [z0]; exact eHz) hz20, z0, eHq, if_pos h3]
    have l1 := l305 (X := X) (d := d + 29) (s := sM) (g := H) (r := r) (Z := z r) (p := p0) (x := nI v) (x4 := nI p0) hr4' hz20 eHz h3 (z r - 1 - p0) p0 (va_up H (32 + r) (nI (z r - 1))) (by omega) (Nat.le_refl _) (fun q => by
      unfold va_up
      by_cases c1 : q = 32 + r
      · rw [if_pos c1, if_pos c1]
      · rw [if_neg c1, if_neg c1, if_neg (by omega)])
    rw [b305, r266 (n := n) hr1 (by omega), if_pos h1, e_bI, if_neg (show ¬ nI 1 = nI 0 by decide), r274 (n := nr) hr2 (by omega), if_pos h2, e_bI, if_neg (show ¬ nI 1 = nI 0 by decide), er, ev, r249 (s := pb s1 3 (va_up (sb s1 3) 0 (nI (z r - 1)).toInt64)) hr4' hzR' hz20, eq', e_bI, if_pos h3, if_neg (n_m1 _ (by omega)), ← hsM, q1, e_bU, l0, e_bI, nI_add, r_in (j := 32 + r) (by omega) (by decide), r_in (j := 32 + r) (by omega) (by decide), nI_clamp (by omega), pk_mul, nI_add]
    simp (disch := omega) only [E0, E1]
    rw [eHz, pk_sub (by omega), l1, hg2]
  have hX1 : ∀ t, t ≠ 21 + r → (t < 25 + 20 * r ∨ 45 + 20 * r ≤ t) → st_ g2 11 t = st_ (sa s 8) 11 t := fun t a1 a2 => by rw [e1, va_up_ne _ _ a1, del_out (by omega)]
  have hX2 : st_ g2 11 (21 + r) = nI (z r - 1) := by rw [e1, va_up_self]
  have hX3 : ∀ q, q + 1 < z r → st_ g2 11 (25 + 20 * r + q) = if p0 ≤ q then st_ (sa s 8) 11 (25 + 20 * r + q + 1) else st_ (sa s 8) 11 (25 + 20 * r + q) := fun q hq => by rw [e1, va_up_ne _ _ (by omega), del_at hq]
  have hws5 := hWS.2.2.2.2.1 r hr
  have hC : CW (pa sM 8 g2) 0 g2 n nr np hs ml (min m 9 + 1) by' nm (fun q => if q = r then z r - 1 else z q) (fun q j => if q = r then (if p0 ≤ j then st r (j + 1) else st r j) else st q j) bm lo li := by
    refine h.deed (k := nI 5) (a := nI v) (b := nI r) (c := nI p0) hK (fun q a1 a2 a3 a4 => ?_) ?_ ?_ ?_ ?_ (fun q hq => by rw [hg2, va_up_ne _ _ (by omega), del_out (by omega)]) ?_ ?_ ?_
    · show si sM q 0 = _
      rw [esi, hs1, nt_si a4]
      rfl
    · show sA sM 5 0 = _
      rw [esA, hs1, nt_sA (by decide)]
      simp (disch := omega) only [E0]
    · show sA sM 6 0 = _
      rw [esA, hs1, nt_sA (by decide)]
      simp (disch := omega) only [E0]
    · show si sM 9 0 = _
      rw [esi, hs1, nt_si9 h10]
    · show sA sM 8 0 = _
      rw [esA, hs1, nt_sA8]
      simp (disch := omega) only [E0]
    · refine hWS.rounds (sr := fun j => if p0 ≤ j then st r (j + 1) else st r j) hn h48 hr (by omega) hX2 hX1 (fun q hq => ?_) (fun q hq => ?_) (fun a b ha hb e => ?_)
      · rw [hX3 q (by omega)]
        show _ = nI (if p0 ≤ q then st r (q + 1) else st r q)
        by_cases c1 : p0 ≤ q
        · rw [if_pos c1, if_pos c1]
          exact hws5 (q + 1) (by omega)
        · rw [if_neg c1, if_neg c1]
          exact hws5 q (by omega)
      · show (if p0 ≤ q then st r (q + 1) else st r q) < n
        by_cases c1 : p0 ≤ q
        · rw [if_pos c1]
          exact hst6 _ (by omega)
        · rw [if_neg c1]
          exact hst6 _ (by omega)
      · have e : (if p0 ≤ a then st r (a + 1) else st r a) = (if p0 ≤ b then st r (b + 1) else st r b) := e
        by_cases c1 : p0 ≤ a
        · rw [if_pos c1] at e
          by_cases c2 : p0 ≤ b
          · rw [if_pos c2] at e
            have := hst7 _ _ (by omega) (by omega) e
            omega
          · rw [if_neg c2] at e
            have := hst7 _ _ (by omega) (by omega) e
            omega
        · rw [if_neg c1] at e
          by_cases c2 : p0 ≤ b
          · rw [if_pos c2] at e
            have := hst7 _ _ (by omega) (by omega) e
            omega
          · rw [if_neg c2] at e
            exact hst7 _ _ (by omega) (by omega) e
    · refine hPE.rounds (zn := z r - 1) hn h48 hr (fun q a9 => ?_) ?_ ?_ ?_ ?_ (by omega) hX2 hX1 (fun q hq => ?_) (fun r1 q hr1 hq => ?_)
      · show si sM q 0 = _
        rw [esi, hs1, nt_si a9]
        rfl
      · show sA sM 0 0 = _
        rw [esA, hs1, nt_sA (by decide)]
        simp (disch := omega) only [E0]
      · show sA sM 1 0 = _
        rw [esA, hs1, nt_sA (by decide)]
        simp (disch := omega) only [E0]
      · show sA sM 2 0 = _
        rw [esA, hs1, nt_sA (by decide)]
        simp (disch := omega) only [E0]
      · show sA sM 4 0 = _
        rw [esA, hs1, nt_sA (by decide)]
        simp (disch := omega) only [E0]
      · show sA sM 3 0 _ = _
        rw [esA, hs1, nt_sA (by decide)]
        simp (disch := omega) only [E0]
        have p4 := hPE.2.2.2.1 r hr (z r) hz20 (hWS.2.2.1 r hr)
        rw [hX3 q (by omega), del_at (by omega)]
        by_cases c1 : p0 ≤ q
        · rw [if_pos c1, if_pos c1]
          exact p4 (q + 1) (by omega)
        · rw [if_neg c1, if_neg c1]
          exact p4 q (by omega)
      · show sA sM 3 0 _ = _
        rw [esA, hs1, nt_sA (by decide)]
        simp (disch := omega) only [E0]
        exact del_out (by omega)
    · refine ⟨va_up (ins (st_ g2 11) (25 + 20 * r) (z r - 1) p0 (nI v)) (21 + r) (nI (z r - 1 + 1)), Or.inr (Or.inr (Or.inr (Or.inr (Or.inl ⟨rfl, r, p0, z r - 1, hr, rfl, rfl, hX2, by omega, by omega, rfl⟩)))), ?_⟩
      have out : ∀ t, t ≠ 21 + r → (t < 25 + 20 * r ∨ 45 + 20 * r ≤ t) → va_up (ins (st_ g2 11) (25 + 20 * r) (z r - 1) p0 (nI v)) (21 + r) (nI (z r - 1 + 1)) t = st_ (sa s 8) 11 t := fun t a1 a2 => by rw [va_up_ne _ _ a1, ins_out (by omega) (by omega), hX1 t a1 a2]
      refine ⟨fun q hq => (out q (by omega) (by omega)).symm, (out _ (by omega) (by omega)).symm, fun q hq => ?_, fun q hq y hy ey2 j hj => ?_, fun q hq => ⟨(out _ (by omega) (by omega)).symm, (out _ (by omega) (by omega)).symm⟩, (out _ (by omega) (by omega)).symm, (out _ (by omega) (by omega)).symm⟩
      · by_cases c1 : q = r
        · rw [c1, va_up_self, hWS.2.2.1 r hr, show z r - 1 + 1 = z r by omega]
        · exact (out _ (by omega) (by omega)).symm
      · by_cases c1 : q = r
        · subst c1
          rw [hWS.2.2.1 q hr] at ey2
          have ezy : z q = y := (nI_eq (by omega) (by omega)).mp ey2
          rw [va_up_ne _ _ (by omega), ins_at (by omega)]
          by_cases c2 : p0 < j
          · rw [if_pos c2, show 25 + 20 * q + j - 1 = 25 + 20 * q + (j - 1) by omega, hX3 _ (by omega), if_pos (by omega)]
            exact congrArg (st_ (sa s 8) 11) (by omega)
          · rw [if_neg c2]
            by_cases c3 : j = p0
            · rw [if_pos c3, c3, hws5 p0 h3, hyes]
            · rw [if_neg c3, hX3 _ (by omega), if_neg (by omega)]
        · exact (out _ (by omega) (by omega)).symm
  have e9 : sz (pa sM 8 g2) 11 = nI 0 := by rw [hsM]; simp (disch := omega) only [E0]
  have e10 : sb (pa sM 8 g2) 3 0 = (nI (z r - 1)).toInt64 := by
    rw [hsM]
    simp (disch := omega) only [E0]
    rw [va_up_self]
  exact ⟨_, _, _, Or.inr ⟨sD_trans d1 sD_pa8, _, _, _, _, _, _, _, _, _, _, _, _, _, hC⟩, w1275 hk hX cc rr e9 (fun _ => e10)⟩
end OP20
