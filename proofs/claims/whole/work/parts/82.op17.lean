/-! Whole calls of told numbers: when, errors, ink. -/
section OP17
variable {X : (Nat → Int32) × Nat} {d k n nr bm np hs ml : Nat} {u5 u6 : Option ab_V} {s : ab_S} {nm z f g lo li src w : Nat → Nat} {st : Nat → Nat → Nat} {by' : Nat → Int32}
/-- all told signs hang, k moves ahead -/
def whA (nm g : Nat → Nat) (m : Nat) (w : Nat → Nat) (k : Nat) : Bool := decide (∀ q, q < m → nm (it g k (w q % 20)) = w q / 20)
theorem l162 {t m P : Nat} {x1 : Int32} (hP : P < 2 ^ 30) (h8 : sz s 8 = nI n) (hn : n ≤ 20) (h1 : ∀ k, k < n → sa s 1 k = nI (nm k)) (hnm : ∀ k, k < n → nm k < n) (h3 : ∀ k, k < n → sa s 3 k = nI (g k)) (hg : ∀ k, k < n → g k < n) (hz : si s 11 t = nI m) (h30 : m ≤ 30) (hw : ∀ k, k < m → sB s 0 t k = lN (w k)) (hw2 : ∀ k, k < m → w k < 400 ∧ w k % 20 < n) : ∀ (i j : Nat) (G : Nat → Int32), j + i = P → (∀ q, q < n → G q = nI (it g j q)) → (∀ q, q < j → whA nm g m w q = false) → ∃ G' : Nat → Int32, ab_at X (d + 3) 162 35 [some (.inr (0, 0)), some (.inl (.int x1)), some (.inr (8, t)), some (.inl (.int (nI P))), some (.inl (.int (nI j)))] [] (pa s 4 G) = some (.inl (some (.inl (.long (if fst (whA nm g m w) P < P then (nI (fst (whA nm g m w) P)).toInt64 else -lN 1)))), pa s 4 G')
  | 0, j, G, e, hG, hr => by
    obtain rfl : j = P := by omega
    refine ⟨G, ?_⟩
    rw [b162_35, if_pos (nI_le (Nat.le_refl _) (by omega)), fst_eqn hr, if_neg (by omega)]
  | i + 1, j, G, e, hG, hr => by
    have hlt : ∀ q, q < n → it g j q < n := fun q hq => it_lt hg j hq
    have e1 : ab_ev X (d + 2) 164 [.inr (6, 0), .inr (8, t)] (pa s 4 G) = _ := c_allHang (s := pa s 4 G) (nm := nm) (src := fun q => it g j q) hn (fun q hq => by simp (disch := omega) only [E0]; exact h1 q hq) hnm (fun q hq => by simp (disch := omega) only [E0]; exact hG q hq) hlt hz h30 hw hw2
    by_cases q : ∀ q, q < m → nm (it g j (w q % 20)) = w q / 20
    · refine ⟨G, ?_⟩
      have hB : whA nm g m w j = true := decide_eq_true q
      rw [b162_35, if_neg (nI_ge (by omega) (by omega)), e1, e_bI, if_pos q, if_neg (show ¬ nI 1 = nI 0 by decide), fst_eq (show j < P by omega) hB hr, if_pos (show j < P by omega)]
    · obtain ⟨G', g1, g2⟩ := c_step (X := X) (d := d + 1) (s := pa s 4 G) (n := n) (g := g) (src := fun q => it g j q) h8 hn (fun q hq => by simp (disch := omega) only [E0]; exact h3 q hq) (fun q hq => by simp (disch := omega) only [E0]; exact hG q hq) hlt
      have e4 : pa (pa s 4 G) 4 G' = pa s 4 G' := by simp (disch := omega) only [E1]
      rw [e4] at g1
      obtain ⟨G2, i1⟩ := l162 (x1 := x1) hP h8 hn h1 hnm h3 hg hz h30 hw hw2 i (j + 1) G' (by omega) g2 (fun q2 hq => by
        by_cases e6 : q2 = j
        · rw [e6]
          exact decide_eq_false q
        · exact hr q2 (by omega))
      refine ⟨G2, ?_⟩
      rw [← i1, b162_35, if_neg (nI_ge (by omega) (by omega)), e1, e_bI, if_neg q, if_pos rfl, g1, e_bU, nI_add]
theorem r326 {j i k : Nat} (h : RW s n nm nr z st bm by') (h2 : ∀ k, k < n → sa s 13 k = nI (f k)) (hf : ∀ k, k < n → f k < n) (hi : ∀ a b, a < n → b < n → f a = f b → a = b) (hgf : ∀ q, q < n → g (f q) = q) (hg : ∀ q, q < n → g q < n) (hj : j < 4) (hik : i < 30) (hk : k < 2 ^ 30) {v : Nat} (hv : sb s 2 (30 * j + i) = lN v) (hv2 : v < 400 ∧ v % 20 < n) : ab_ev X (d + 3) 326 [.inr (9, 0), .inl (.int (nI j)), .inl (.int (nI i)), .inl (.int (nI k))] s = some (.inl (some (.inl (.int (if nm (it g k (v % 20)) = v / 20 then nI 1 else nI 0)))), s) := by
  have hn := h.2.1
  have c1 := it_lt hg k hv2.2
  have c2 := h.2.2.2.1 _ c1
  have e1 : ah f n (v % 20) (-nI k).toInt = it g k (v % 20) := by rw [n_negi (by omega), ah_neg hf hi hgf hv2.2]
  rw [b326, pk_mul, nI_add, r_in (j := 30 * j + i) (by omega) (by decide), nI_clamp (by omega), hv, lN_i, n_rem (by omega) (by omega) (by omega), r284 (d := d) h h2 hf hi hv2.2, e_bI, e1, pk_div (by omega) (by omega) (by omega)]
  by_cases q : nm (it g k (v % 20)) = v / 20
  · rw [if_pos (by rw [q]), if_pos q]
  · rw [if_neg (fun z => q ((nI_eq (by omega) (by omega)).mp z)), if_neg q]
theorem l324b {j m P k : Nat} (h : RW s n nm nr z st bm by') (h2 : ∀ k, k < n → sa s 13 k = nI (f k)) (hf : ∀ k, k < n → f k < n) (hi : ∀ a b, a < n → b < n → f a = f b → a = b) (hgf : ∀ q, q < n → g (f q) = q) (hg : ∀ q, q < n → g q < n) (hj : j < 4) (hm : sa s 23 j = nI m) (h30 : m ≤ 30) (hk : k < 2 ^ 30) (hw : ∀ q, q < m → sb s 2 (30 * j + q) = lN (w q)) (hw2 : ∀ k, k < m → w k < 400 ∧ w k % 20 < n) : ∀ (i' i : Nat), i + i' = m → (∀ q, q < i → nm (it g k (w q % 20)) = w q / 20) → ∃ u4 u5 : Option ab_V, ab_at X (d + 4) 324 38 [some (.inr (9, 0)), some (.inl (.int (nI j))), some (.inl (.int (nI P))), some (.inl (.int (nI k))), some (.inl (.int (nI 1))), some (.inl (.int (nI i)))] [] s = if whA nm g m w k = true then some (.inl (some (.inl (.long (nI k).toInt64))), s) else ab_at X (d + 4) 324 27 [some (.inr (9, 0)), some (.inl (.int (nI j))), some (.inl (.int (nI P))), some (.inl (.int (nI (k + 1)))), u4, u5] [] s
  | 0, i, e, hr => by
    obtain rfl : i = m := by omega
    have hB : whA nm g i w k = true := decide_eq_true hr
    refine ⟨none, none, ?_⟩
    rw [b324_38, r_in hj (by decide), nI_clamp (by omega), hm, if_pos (nI_le (Nat.le_refl _) (by omega)), if_neg (show ¬ nI 1 = nI 0 by decide), if_pos hB]
  | i' + 1, i, e, hr => by
    have hi' : i < m := by omega
    have e1 := r326 (X := X) (d := d) (i := i) h h2 hf hi hgf hg hj (by omega) hk (hw i hi') (hw2 i hi')
    have hb := b324_38 (X := X) (d := d + 3) (x1 := nI j) (x2 := nI P) (x3 := nI k) (x4 := nI 1) (x5 := nI i) (s := s)
    rw [r_in hj (by decide), nI_clamp (by omega), hm, if_neg (nI_ge hi' (by omega)), if_neg (show ¬ nI 1 = nI 0 by decide), e1, e_bI, nI_add] at hb
    by_cases q : nm (it g k (w i % 20)) = w i / 20
    · obtain ⟨u4, u5, g1⟩ := l324b (P := P) h h2 hf hi hgf hg hj hm h30 hk hw hw2 i' (i + 1) (by omega) (fun q2 hq => by
        by_cases e6 : q2 = i
        · rw [e6]
          exact q
        · exact hr q2 (by omega))
      rw [if_pos q] at hb
      exact ⟨u4, u5, hb.trans g1⟩
    · have hB : whA nm g m w k = false := decide_eq_false (fun z => q (z i hi'))
      rw [if_neg q] at hb
      have hb2 := b324_38 (X := X) (d := d + 3) (x1 := nI j) (x2 := nI P) (x3 := nI k) (x4 := nI 0) (x5 := nI (i + 1)) (s := s)
      rw [r_in hj (by decide), nI_clamp (by omega), hm] at hb2
      refine ⟨some (.inl (.int (nI 0))), some (.inl (.int (nI (i + 1)))), ?_⟩
      rw [hB, if_neg (show ¬ false = true by decide)]
      by_cases q2 : nI m ≤ nI (i + 1)
      · rw [if_pos q2, if_pos rfl, nI_add] at hb2
        exact hb.trans hb2
      · rw [if_neg q2, if_pos rfl, if_pos rfl, nI_add] at hb2
        exact hb.trans hb2
theorem l324 {j m P : Nat} (hP : P < 2 ^ 30) (h : RW s n nm nr z st bm by') (h2 : ∀ k, k < n → sa s 13 k = nI (f k)) (hf : ∀ k, k < n → f k < n) (hi : ∀ a b, a < n → b < n → f a = f b → a = b) (hgf : ∀ q, q < n → g (f q) = q) (hg : ∀ q, q < n → g q < n) (hj : j < 4) (hm : sa s 23 j = nI m) (h30 : m ≤ 30) (hw : ∀ q, q < m → sb s 2 (30 * j + q) = lN (w q)) (hw2 : ∀ k, k < m → w k < 400 ∧ w k % 20 < n) : ∀ (i k : Nat) (u4 u5 : Option ab_V), k + i = P → (∀ q, q < k → whA nm g m w q = false) → ab_at X (d + 4) 324 27 [some (.inr (9, 0)), some (.inl (.int (nI j))), some (.inl (.int (nI P))), some (.inl (.int (nI k))), u4, u5] [] s = some (.inl (some (.inl (.long (if fst (whA nm g m w) P < P then (nI (fst (whA nm g m w) P)).toInt64 else -lN 1)))), s)
  | 0, k, u4, u5, e, hr => by
    obtain rfl : k = P := by omega
    rw [b324_27, if_pos (nI_le (Nat.le_refl _) (by omega)), fst_eqn hr, if_neg (by omega)]
  | i + 1, k, u4, u5, e, hr => by
    obtain ⟨v4, v5, g1⟩ := l324b (X := X) (d := d) (P := P) (k := k) h h2 hf hi hgf hg hj hm h30 (by omega) hw hw2 m 0 (by omega) (fun q hq => by omega)
    rw [b324_27, if_neg (nI_ge (by omega) (by omega)), g1]
    by_cases q : whA nm g m w k = true
    · rw [if_pos q, fst_eq (show k < P by omega) q hr, if_pos (show k < P by omega)]
    · rw [if_neg q]
      exact l324 hP h h2 hf hi hgf hg hj hm h30 hw hw2 i (k + 1) v4 v5 (by omega) (fun q2 hq => by
        by_cases e6 : q2 = k
        · rw [e6]
          simpa using q
        · exact hr q2 (by omega))
theorem LB_rep {y : Int64} (h : LB n y = true) (hn : n ≤ 20) : y = lN y.toInt.toNat ∧ y.toInt.toNat < 400 ∧ y.toInt.toNat % 20 < n ∧ y.toInt.toNat / 20 < n := by
  unfold LB at h
  rw [Bool.and_eq_true, Bool.and_eq_true, decide_eq_true_iff, decide_eq_true_iff, decide_eq_true_iff] at h
  exact ⟨lN_rep h.1, by omega, h.2.1, h.2.2⟩
theorem NB_rep {y : Int64} (h : NB n 0 y = true) : y = lN y.toInt.toNat ∧ y.toInt.toNat < n := by
  unfold NB at h
  rw [Bool.and_eq_true, decide_eq_true_iff, decide_eq_true_iff] at h
  exact ⟨lN_rep h.1, by omega⟩
theorem o161 (h : BW s n nm nr z st bm by') (ht : TR s) (hk : k + 5 < X.2) (hX : X.2 < 2 ^ 31) : ∃ (s2 : ab_S) (v5 v6 : Option ab_V), sW s s2 ∧ ab_at X (d + 31) 360 1755 [some (.inr (14, 0)), some (.inr (0, 0)), some (.inr (9, 0)), some (.inr (15, 0)), some (.inl (.int (nI k))), u5, u6, none] [] s = ab_at X (d + 31) 360 23 [some (.inr (14, 0)), some (.inr (0, 0)), some (.inr (9, 0)), some (.inr (15, 0)), some (.inl (.int (nI (k + 6)))), v5, v6, none] [] s2 := by
  obtain ⟨hT, hR⟩ := id h
  obtain ⟨hcn, hn, t3, t4, -⟩ := id hT
  have hr1 : sa s 8 1 = nI n := hR.1
  by_cases h1 : inS (X.1 (k + 1)) 4 = true
  rotate_left
  · have cc : ab_ev X (d + 30) 161 [.inr (0, 0), .inl (.int (X.1 (k + 1))), .inr (15, 0)] s = some (.inl (some (.inl (.int (nI 1)))), ths s) := by
      rw [b161, b162, c_n150_1 h1, e_xA, e_px, e_xJ]
      rfl
    have r : ab_ev X (d + 30) 324 [.inr (9, 0), .inl (.int (X.1 (k + 1)))] (ths s) = some (.inl (some (.inl (.long (lN 0)))), pz (ths s) 11 (nI 1)) := by
      rw [b324, r325_1 h1, e_bI, if_neg (show ¬ nI 1 ≤ nI 0 by decide)]
    exact ⟨_, _, _, Or.inr (sV_pz (by omega)), w1755 hk hX cc r rfl (fun q => absurd q (by decide))⟩
  obtain ⟨j, hj, ej⟩ := inS_rep h1
  rcases ht.1 j hj with ⟨q1, q2⟩ | ⟨t, so, m, q1, q2, q3, q4, q5, q6, q7, q8, q9⟩
  · have cc : ab_ev X (d + 30) 161 [.inr (0, 0), .inl (.int (X.1 (k + 1))), .inr (15, 0)] s = some (.inl (some (.inl (.int (nI 2)))), ths s) := by
      rw [b161, b162, ej, c_n150_2 hj q1, e_xA, e_px, e_xJ]
      rfl
    have r : ab_ev X (d + 30) 324 [.inr (9, 0), .inl (.int (X.1 (k + 1)))] (ths s) = some (.inl (some (.inl (.long (lN 0)))), pz (ths s) 11 (nI 2)) := by
      have q2' : sa (ths s) 22 j = -nI 1 := q2
      rw [b324, ej, r325_2 hj q2', e_bI, if_neg (show ¬ nI 2 ≤ nI 0 by decide)]
    exact ⟨_, _, _, Or.inr (sV_pz (by omega)), w1755 hk hX cc r rfl (fun q => absurd q (by decide))⟩
  by_cases h2 : 1 ≤ m ∧ m ≤ 10 ∧ ∀ q, q < m → LB n (sB s 0 t q) = true
  rotate_left
  · have cc : ab_ev X (d + 30) 161 [.inr (0, 0), .inl (.int (X.1 (k + 1))), .inr (15, 0)] s = some (.inl (some (.inl (.int (nI 3)))), ths s) := by
      rw [b161, b162, ej, c_n150_3 hj q1, e_bA, b162_5, c_163 hcn hn q6 q4 (by omega), if_neg h2, e_xU, e_px, e_xJ]
      rfl
    have r : ab_ev X (d + 30) 324 [.inr (9, 0), .inl (.int (X.1 (k + 1)))] (ths s) = some (.inl (some (.inl (.long (lN 0)))), pz (ths s) 11 (nI 3)) := by
      have h2' : ¬ (1 ≤ m ∧ m ≤ 10 ∧ ∀ q, q < m → LB n (sb (ths s) 2 (30 * j + q)) = true) := fun z => h2 ⟨z.1, z.2.1, fun q hq => by rw [q9 q (by omega)]; exact z.2.2 q hq⟩
      rw [b324, ej, r325 (s := ths s) hr1 hn hj q3 q7 q8 q4 (by omega), if_neg h2', e_bI, if_neg (show ¬ nI 3 ≤ nI 0 by decide)]
    exact ⟨_, _, _, Or.inr (sV_pz (by omega)), w1755 hk hX cc r rfl (fun q => absurd q (by decide))⟩
  have hg : ∀ q, q < n → inv (to_ nr z st bm by') n q < n := fun q hq => (inv_lt hT.to_lt hT.to_inj hq).1
  have hgf : ∀ q, q < n → inv (to_ nr z st bm by') n (to_ nr z st bm by' q) = q := fun q hq => inv_f hT.to_inj hq
  have hgi : ∀ a b, a < n → b < n → inv (to_ nr z st bm by') n a = inv (to_ nr z st bm by') n b → a = b := fun a b ha hb e => by
    have q1 := (inv_lt hT.to_lt hT.to_inj ha).2
    have q2 := (inv_lt hT.to_lt hT.to_inj hb).2
    rw [← q1, ← q2, e]
  obtain ⟨h21, h22, h23⟩ := id h2
  obtain ⟨w, hw⟩ : ∃ w : Nat → Nat, w = fun q => (sB s 0 t q).toInt.toNat := ⟨_, rfl⟩
  have hwB : ∀ q, q < m → sB s 0 t q = lN (w q) := fun q hq => by rw [hw]; exact (LB_rep (h23 q hq) hn).1
  have hw2 : ∀ q, q < m → w q < 400 ∧ w q % 20 < n := fun q hq => by rw [hw]; exact ⟨(LB_rep (h23 q hq) hn).2.1, (LB_rep (h23 q hq) hn).2.2.1⟩
  obtain ⟨s1, a1, a2, a3⟩ := c_look (X := X) (d := d + 25) hT
  obtain ⟨o1, o2, o3, o4, o5, o6⟩ := id a3
  have b3 := pr_lt hn hT.to_lt hT.to_inj
  have hz1 : si s1 11 t = nI m := by rw [a2.2.2.2.1]; exact q6
  have hB1 : ∀ q, q < m → sB s1 0 t q = lN (w q) := fun q hq => by rw [a2.2.2.2.2.2.2.2.1]; exact hwB q hq
  obtain ⟨G, l1⟩ := l162 (X := X) (d := d + 26) (s := s1) (t := t) (x1 := nI j) (P := pr (to_ nr z st bm by') n n) b3 o1 hn o3 t4 o5 hg hz1 q4 hB1 hw2 (pr (to_ nr z st bm by') n n) 0 (sa s1 4) (by omega) o6 (fun q hq => by omega)
  rw [pa_id] at l1
  obtain ⟨y, hy⟩ : ∃ y, y = (if fst (whA nm (inv (to_ nr z st bm by') n) m w) (pr (to_ nr z st bm by') n n) < pr (to_ nr z st bm by') n n then (nI (fst (whA nm (inv (to_ nr z st bm by') n) m w) (pr (to_ nr z st bm by') n n))).toInt64 else -lN 1) := ⟨_, rfl⟩
  rw [← hy] at l1
  have cc : ab_ev X (d + 30) 161 [.inr (0, 0), .inl (.int (X.1 (k + 1))), .inr (15, 0)] s = some (.inl (some (.inl (.int (nI 0)))), pb (pa s1 4 G) 3 (va_up (sb (pa s1 4 G) 3) 0 y)) := by
    rw [b161, b162, ej, c_n150_3 hj q1, e_bA, b162_5, c_163 hcn hn q6 q4 (by omega), if_pos h2, e_bU, a1, e_bU, c_period (s := s1) o1 hn o4 hT.to_lt hT.to_inj, e_bI, l1, e_bJ]
  have hV0 : sV s (pb (pa s1 4 G) 3 (va_up (sb (pa s1 4 G) 3) 0 y)) := sV_trans a2.V (sV_trans (sO_pa (by omega) (by omega)).V sV_pb)
  have hV : sV s (pz (pb (pa s1 4 G) 3 (va_up (sb (pa s1 4 G) 3) 0 y)) 11 (nI 0)) := sV_trans hV0 (sV_pz (by omega))
  have hb := h.same hV
  have hb0 := h.same hV0
  obtain ⟨s2, r1, r2, r3, -, r5⟩ := r320 (X := X) (d := d + 6) hb.2
  have e22 : sa (pb (pa s1 4 G) 3 (va_up (sb (pa s1 4 G) 3) 0 y)) 22 j = nI so := by rw [hV0.2.2.2.2.1 22 (by omega)]; exact q7
  have e23 : sa (pb (pa s1 4 G) 3 (va_up (sb (pa s1 4 G) 3) 0 y)) 23 j = nI m := by rw [hV0.2.2.2.2.1 23 (by omega)]; exact q8
  have eb2 : sb (pb (pa s1 4 G) 3 (va_up (sb (pa s1 4 G) 3) 0 y)) 2 = sb s 2 := hV0.2.2.2.2.2.2.1 2 (by decide)
  have h2' : 1 ≤ m ∧ m ≤ 10 ∧ ∀ q, q < m → LB n (sb (pb (pa s1 4 G) 3 (va_up (sb (pa s1 4 G) 3) 0 y)) 2 (30 * j + q)) = true := ⟨h21, h22, fun q hq => by rw [eb2, ← q9 q (by omega)]; exact h23 q hq⟩
  have f23 : sa s2 23 j = nI m := by rw [r2.2.2.2.2.1 23 (by omega)]; exact e23
  have fb2 : ∀ q, q < m → sb s2 2 (30 * j + q) = lN (w q) := fun q hq => by
    rw [r2.2.2.2.2.2.2.1]
    show sb (pb (pa s1 4 G) 3 (va_up (sb (pa s1 4 G) 3) 0 y)) 2 (30 * j + q) = _
    rw [eb2, ← q9 q (by omega)]
    exact hwB q hq
  have l2 := l324 (X := X) (d := d + 26) (j := j) (P := pr (to_ nr z st bm by') n n) b3 (hb.same r2.V).2 r5 hT.to_lt hT.to_inj hgf hg hj f23 q4 fb2 hw2 (pr (to_ nr z st bm by') n n) 0 none none (by omega) (fun q hq => by omega)
  have r : ab_ev X (d + 30) 324 [.inr (9, 0), .inl (.int (X.1 (k + 1)))] (pb (pa s1 4 G) 3 (va_up (sb (pa s1 4 G) 3) 0 y)) = some (.inl (some (.inl (.long y))), s2) := by
    rw [b324, ej, r325 (s := pb (pa s1 4 G) 3 (va_up (sb (pa s1 4 G) 3) 0 y)) hb0.2.1 hn hj q3 e22 e23 q4 (by omega), if_pos h2', e_bI, if_pos (by decide), r1, e_bI, l2, hy]
  refine ⟨s2, _, _, Or.inl (sV_trans hV r2.V), w1755 hk hX cc r r3 (fun _ => ?_)⟩
  rw [r2.2.2.2.2.2.2.1]
  rfl
/-- on how many of the first k streets another name is told -/
def inkN (nm w : Nat → Nat) : Nat → Nat := fb_ct (fun q => decide (w q ≠ nm q))
theorem l211 {t : Nat} {x1 : Int32} (hcn : si s 1 0 = nI n) (hn : n ≤ 20) (hnm : ∀ k, k < n → sA s 0 0 k = nI (nm k)) (hlt : ∀ k, k < n → nm k < n) (hz : si s 11 t = nI n) (hw : ∀ k, k < n → sB s 0 t k = lN (w k)) (hw2 : ∀ k, k < n → w k < n) : ∀ (j i : Nat), i + j = n → ab_at X (d + 1) 211 17 [some (.inr (0, 0)), some (.inl (.int x1)), some (.inr (8, t)), some (.inl (.int (nI (inkN nm w i)))), some (.inl (.int (nI i)))] [] s = some (.inl (some (.inl (.int (nI (inkN nm w n))))), s)
  | 0, i, e => by
    obtain rfl : i = n := by omega
    rw [b211_17, hcn, if_pos (nI_le (Nat.le_refl _) (by omega))]
  | j + 1, i, e => by
    have hi : i < n := by omega
    have c1 := hlt i hi
    have c2 := hw2 i hi
    have ih := l211 (x1 := x1) hcn hn hnm hlt hz hw hw2 j (i + 1) (by omega)
    have es : inkN nm w (i + 1) = inkN nm w i + (if decide (w i ≠ nm i) = true then 1 else 0) := rfl
    have cq : lg_cmp (lN (w i)) (nI (nm i)).toInt64 = nI 0 ↔ w i = nm i := by
      rw [j_eq, j_of, lN_int (by omega), nI_toInt (by omega)]
      omega
    rw [es] at ih
    rw [b211_17, hcn, if_neg (nI_ge hi (by omega)), c_get hz (by omega) hi, e_bJ, at19 (by omega), hnm i hi, e_bI, hw i hi]
    by_cases q : w i = nm i
    · rw [if_pos (cq.mpr q), nI_add]
      rw [if_neg (by simp [q])] at ih
      exact ih
    · rw [if_neg (fun z => q (cq.mp z)), nI_add, nI_add]
      rw [if_pos (by simp [q])] at ih
      exact ih
theorem l347 {j : Nat} (h : RW s n nm nr z st bm by') (hj : j < 4) (hw : ∀ k, k < n → sb s 2 (30 * j + k) = lN (w k)) (hw2 : ∀ k, k < n → w k < n) : ∀ (i' i : Nat), i + i' = n → ab_at X (d + 1) 347 23 [some (.inr (9, 0)), some (.inl (.int (nI j))), some (.inl (.int (nI (inkN nm w i)))), some (.inl (.int (nI i)))] [] s = some (.inl (some (.inl (.int (nI (inkN nm w n))))), s)
  | 0, i, e => by
    have hn := h.2.1
    obtain rfl : i = n := by omega
    rw [b347_23, r267 h.1, e_bI, if_pos (nI_le (Nat.le_refl _) (by omega))]
  | i' + 1, i, e => by
    have hn := h.2.1
    have hi : i < n := by omega
    have c1 := h.2.2.2.1 i hi
    have c2 := hw2 i hi
    have ih := l347 h hj hw hw2 i' (i + 1) (by omega)
    have es : inkN nm w (i + 1) = inkN nm w i + (if decide (w i ≠ nm i) = true then 1 else 0) := rfl
    have cq : lg_cmp (lN (w i)) (nI (nm i)).toInt64 = nI 0 ↔ w i = nm i := by
      rw [j_eq, j_of, lN_int (by omega), nI_toInt (by omega)]
      omega
    rw [es] at ih
    rw [b347_23, r267 h.1, e_bI, if_neg (nI_ge hi (by omega)), pk_mul, nI_add, r_in (j := 30 * j + i) (by omega) (by decide), nI_add, r_in (j := 11 + i) (by omega) (by decide), nI_clamp (by omega), nI_clamp (by omega), hw i hi, h.2.2.1 i hi]
    by_cases q : w i = nm i
    · rw [if_pos (cq.mpr q), nI_add, nI_add]
      rw [if_neg (by simp [q])] at ih
      exact ih
    · rw [if_neg (fun z => q (cq.mp z)), nI_add, nI_add]
      rw [if_pos (by simp [q])] at ih
      exact ih
theorem o210 (h : BW s n nm nr z st bm by') (ht : TR s) (hk : k + 5 < X.2) (hX : X.2 < 2 ^ 31) : ∃ (s2 : ab_S) (v5 v6 : Option ab_V), sW s s2 ∧ ab_at X (d + 31) 360 2749 [some (.inr (14, 0)), some (.inr (0, 0)), some (.inr (9, 0)), some (.inr (15, 0)), some (.inl (.int (nI k))), u5, u6, none] [] s = ab_at X (d + 31) 360 23 [some (.inr (14, 0)), some (.inr (0, 0)), some (.inr (9, 0)), some (.inr (15, 0)), some (.inl (.int (nI (k + 6)))), v5, v6, none] [] s2 := by
  obtain ⟨hT, hR⟩ := id h
  obtain ⟨hcn, hn, t3, t4, -⟩ := id hT
  have hr1 : sa s 8 1 = nI n := hR.1
  by_cases h1 : inS (X.1 (k + 1)) 4 = true
  rotate_left
  · have cc : ab_ev X (d + 30) 210 [.inr (0, 0), .inl (.int (X.1 (k + 1))), .inr (15, 0)] s = some (.inl (some (.inl (.int (nI 1)))), ths s) := by
      rw [b210, b211, c_n150_1 h1, e_xA, e_px, e_xI]
      rfl
    have r : ab_ev X (d + 30) 347 [.inr (9, 0), .inl (.int (X.1 (k + 1)))] (ths s) = some (.inl (some (.inl (.int (nI 0)))), pz (ths s) 11 (nI 1)) := by
      rw [b347, r345_1 h1, e_bI, if_neg (show ¬ nI 1 ≤ nI 0 by decide)]
    exact ⟨_, _, _, Or.inr (sV_pz (by omega)), w2749 hk hX cc r rfl (fun q => absurd q (by decide))⟩
  obtain ⟨j, hj, ej⟩ := inS_rep h1
  rcases ht.1 j hj with ⟨q1, q2⟩ | ⟨t, so, m, q1, q2, q3, q4, q5, q6, q7, q8, q9⟩
  · have cc : ab_ev X (d + 30) 210 [.inr (0, 0), .inl (.int (X.1 (k + 1))), .inr (15, 0)] s = some (.inl (some (.inl (.int (nI 2)))), ths s) := by
      rw [b210, b211, ej, c_n150_2 hj q1, e_xA, e_px, e_xI]
      rfl
    have r : ab_ev X (d + 30) 347 [.inr (9, 0), .inl (.int (X.1 (k + 1)))] (ths s) = some (.inl (some (.inl (.int (nI 0)))), pz (ths s) 11 (nI 2)) := by
      have q2' : sa (ths s) 22 j = -nI 1 := q2
      rw [b347, ej, r345_2 hj q2', e_bI, if_neg (show ¬ nI 2 ≤ nI 0 by decide)]
    exact ⟨_, _, _, Or.inr (sV_pz (by omega)), w2749 hk hX cc r rfl (fun q => absurd q (by decide))⟩
  have x0 : (nI 0).toInt = 0 := by decide
  by_cases h2 : m = n ∧ ∀ q, q < m → NB n (nI 0).toInt (sB s 0 t q) = true
  rotate_left
  · have cc : ab_ev X (d + 30) 210 [.inr (0, 0), .inl (.int (X.1 (k + 1))), .inr (15, 0)] s = some (.inl (some (.inl (.int (nI 3)))), ths s) := by
      rw [b210, b211, ej, c_n150_3 hj q1, e_bA, b211_5, c_208 hcn hn q6 q4, if_neg h2, e_xU, e_px, e_xI]
      rfl
    have r : ab_ev X (d + 30) 347 [.inr (9, 0), .inl (.int (X.1 (k + 1)))] (ths s) = some (.inl (some (.inl (.int (nI 0)))), pz (ths s) 11 (nI 3)) := by
      have h2' : ¬ (m = n ∧ ∀ q, q < n → NB n (nI 0).toInt (sb (ths s) 2 (30 * j + q)) = true) := fun z => h2 ⟨z.1, fun q hq => by rw [q9 q (by omega)]; exact z.2 q (by omega)⟩
      rw [b347, ej, r345 (s := ths s) hr1 hn hj q3 q7 q8 q4, if_neg h2', e_bI, if_neg (show ¬ nI 3 ≤ nI 0 by decide)]
    exact ⟨_, _, _, Or.inr (sV_pz (by omega)), w2749 hk hX cc r rfl (fun q => absurd q (by decide))⟩
  obtain ⟨rfl, h23⟩ := id h2
  obtain ⟨w, hw⟩ : ∃ w : Nat → Nat, w = fun q => (sB s 0 t q).toInt.toNat := ⟨_, rfl⟩
  rw [x0] at h23
  have hwB : ∀ q, q < m → sB s 0 t q = lN (w q) := fun q hq => by rw [hw]; exact (NB_rep (h23 q hq)).1
  have hw2 : ∀ q, q < m → w q < m := fun q hq => by rw [hw]; exact (NB_rep (h23 q hq)).2
  have l1 := l211 (X := X) (d := d + 28) (x1 := nI j) hcn hn t3 t4 q6 hwB hw2 m 0 (by omega)
  obtain ⟨y, hy⟩ : ∃ y, y = nI (inkN nm w m) := ⟨_, rfl⟩
  rw [← hy] at l1
  have l1' : ab_at X (d + 29) 211 17 [some (.inr (0, 0)), some (.inl (.int (nI j))), some (.inr (8, t)), some (.inl (.int (nI 0))), some (.inl (.int (nI 0)))] [] s = _ := l1
  have cc : ab_ev X (d + 30) 210 [.inr (0, 0), .inl (.int (X.1 (k + 1))), .inr (15, 0)] s = some (.inl (some (.inl (.int (nI 0)))), pb s 3 (va_up (sb s 3) 0 y.toInt64)) := by
    rw [b210, b211, ej, c_n150_3 hj q1, e_bA, b211_5, c_208 hcn hn q6 q4, if_pos h2, e_bU, l1', e_bI]
  have hV : sV s (pz (pb s 3 (va_up (sb s 3) 0 y.toInt64)) 11 (nI 0)) := sV_trans sV_pb (sV_pz (by omega))
  have hb := h.same hV
  have eb2 : sb (pb s 3 (va_up (sb s 3) 0 y.toInt64)) 2 = sb s 2 := (sV_pb (s := s) (F := va_up (sb s 3) 0 y.toInt64)).2.2.2.2.2.2.1 2 (by decide)
  have fb2 : ∀ q, q < m → sb (pz (pb s 3 (va_up (sb s 3) 0 y.toInt64)) 11 (nI 0)) 2 (30 * j + q) = lN (w q) := fun q hq => by
    show sb (pb s 3 (va_up (sb s 3) 0 y.toInt64)) 2 (30 * j + q) = _
    rw [eb2, ← q9 q (by omega)]
    exact hwB q hq
  have h2' : m = m ∧ ∀ q, q < m → NB m (nI 0).toInt (sb (pb s 3 (va_up (sb s 3) 0 y.toInt64)) 2 (30 * j + q)) = true := ⟨rfl, fun q hq => by rw [eb2, ← q9 q (by omega), x0]; exact h23 q hq⟩
  have l2 := l347 (X := X) (d := d + 29) hb.2 hj fb2 hw2 m 0 (by omega)
  have l2' : ab_at X (d + 30) 347 23 [some (.inr (9, 0)), some (.inl (.int (nI j))), some (.inl (.int (nI 0))), some (.inl (.int (nI 0)))] [] (pz (pb s 3 (va_up (sb s 3) 0 y.toInt64)) 11 (nI 0)) = _ := l2
  have r : ab_ev X (d + 30) 347 [.inr (9, 0), .inl (.int (X.1 (k + 1)))] (pb s 3 (va_up (sb s 3) 0 y.toInt64)) = some (.inl (some (.inl (.int y))), pz (pb s 3 (va_up (sb s 3) 0 y.toInt64)) 11 (nI 0)) := by
    rw [b347, ej, r345 (s := pb s 3 (va_up (sb s 3) 0 y.toInt64)) hr1 hn hj q3 q7 q8 q4, if_pos h2', e_bI, if_pos (by decide), l2', ← hy]
  exact ⟨_, _, _, Or.inl hV, w2749 hk hX cc r rfl (fun _ => rfl)⟩
/-- the first of 0 to k by which C is least -/
def be (C : Nat → Nat) : Nat → Nat
  | 0 => 0
  | k + 1 => if C (k + 1) < C (be C k) then k + 1 else be C k
/-- streets on which another name was seen, k moves ahead -/
def unS (nm g : Nat → Nat) (y : Nat → Int64) (n k : Nat) : Nat := bs (fun q => unl (y q) (nm (it g k q))) n
def unC (nm g : Nat → Nat) (y : Nat → Int64) (n k : Nat) : Nat := fb_ct (fun j => (unS nm g y n k).testBit j) 31
theorem unS_lt {y : Nat → Int64} (hn : n ≤ 20) (k : Nat) : unS nm g y n k < 2 ^ 31 := bs_lt20 _ (by omega)
theorem c37u {y : Nat → Int64} {k : Nat} (hn : n ≤ 20) : ab_ev X d 37 [.inl (.int (nI (unS nm g y n k)))] s = some (.inl (some (.inl (.int (nI (unC nm g y n k))))), s) := by
  have h := unS_lt (nm := nm) (g := g) (y := y) hn k
  rw [c_ct32 (by omega), ct3231 h]
  rfl
theorem r293u {y : Nat → Int64} {k : Nat} (hn : n ≤ 20) : ab_ev X d 293 [.inl (.int (nI (unS nm g y n k)))] s = some (.inl (some (.inl (.int (nI (unC nm g y n k))))), s) := r293 (unS_lt hn k)
theorem unC_le {y : Nat → Int64} {k : Nat} : unC nm g y n k ≤ 31 := fb_ct_le _ _
theorem l207 {t P c : Nat} {x1 x2 : Int32} (hP : P < 2 ^ 30) (h8 : sz s 8 = nI n) (hn : n ≤ 20) (h1 : ∀ k, k < n → sa s 1 k = nI (nm k)) (hnm : ∀ k, k < n → nm k < n) (h3 : ∀ k, k < n → sa s 3 k = nI (g k)) (hg : ∀ k, k < n → g k < n) (hz : si s 11 t = nI n) : ∀ (i j : Nat) (G : Nat → Int32) (u : Option ab_V), j + 1 + i = P → (∀ q, q < n → G q = nI (it g j q)) → ∃ (G' : Nat → Int32) (v : Option ab_V), ab_at X (d + 3) 207 55 [some (.inr (0, 0)), some (.inl (.int x1)), some (.inl (.int x2)), some (.inr (8, t)), some (.inl (.int (nI P))), some (.inl (.int (nI (be (unC nm g (sB s 0 t) n) j)))), some (.inl (.int (nI (unS nm g (sB s 0 t) n (be (unC nm g (sB s 0 t) n) j))))), some (.inl (.int (nI (j + 1)))), u] [] (pa s 4 G) = ab_at X (d + 3) 207 107 [some (.inr (0, 0)), some (.inl (.int x1)), some (.inl (.int x2)), some (.inr (8, t)), some (.inl (.int (nI P))), some (.inl (.int (nI (be (unC nm g (sB s 0 t) n) (P - 1))))), some (.inl (.int (nI (unS nm g (sB s 0 t) n (be (unC nm g (sB s 0 t) n) (P - 1)))))), some (.inl (.int (nI P))), v] [.inl (.int x2)] (pa s 4 G')
  | 0, j, G, u, e, hG => by
    obtain rfl : j + 1 = P := by omega
    refine ⟨G, u, ?_⟩
    rw [b207_55, if_pos (nI_le (Nat.le_refl _) (by omega)), Nat.add_sub_cancel]
  | i + 1, j, G, u, e, hG => by
    have hlt : ∀ q, q < n → it g j q < n := fun q hq => it_lt hg j hq
    obtain ⟨G', g1, g2⟩ := c_step (X := X) (d := d + 1) (s := pa s 4 G) (n := n) (g := g) (src := fun q => it g j q) h8 hn (fun q hq => by simp (disch := omega) only [E0]; exact h3 q hq) (fun q hq => by simp (disch := omega) only [E0]; exact hG q hq) hlt
    have e4 : pa (pa s 4 G) 4 G' = pa s 4 G' := by simp (disch := omega) only [E1]
    rw [e4] at g1
    have hG' : ∀ q, q < n → G' q = nI (it g (j + 1) q) := g2
    have e5 : ab_ev X (d + 2) 209 [.inr (6, 0), .inr (8, t)] (pa s 4 G') = some (.inl (some (.inl (.int (nI (unS nm g (sB s 0 t) n (j + 1)))))), pa s 4 G') := c_unlike (s := pa s 4 G') (nm := nm) (src := fun q => it g (j + 1) q) h8 hn (fun q hq => by simp (disch := omega) only [E0]; exact h1 q hq) hnm (fun q hq => by simp (disch := omega) only [E0]; exact hG' q hq) (fun q hq => it_lt hg (j + 1) hq) hz
    obtain ⟨G2, v, i1⟩ := l207 (x1 := x1) (x2 := x2) (c := c) hP h8 hn h1 hnm h3 hg hz i (j + 1) G' (some (.inl (.int (nI (unS nm g (sB s 0 t) n (j + 1)))))) (by omega) hG'
    have l1 := unC_le (nm := nm) (g := g) (y := sB s 0 t) (n := n) (k := j + 1)
    have l2 := unC_le (nm := nm) (g := g) (y := sB s 0 t) (n := n) (k := be (unC nm g (sB s 0 t) n) j)
    refine ⟨G2, v, ?_⟩
    have eb : be (unC nm g (sB s 0 t) n) (j + 1) = if unC nm g (sB s 0 t) n (j + 1) < unC nm g (sB s 0 t) n (be (unC nm g (sB s 0 t) n) j) then j + 1 else be (unC nm g (sB s 0 t) n) j := rfl
    rw [b207_55, if_neg (nI_ge (by omega) (by omega)), g1, e_bU, e5, e_bI, c37u hn, e_bI, c37u hn, e_bI, nI_add, ← i1, eb]
    by_cases q : unC nm g (sB s 0 t) n (j + 1) < unC nm g (sB s 0 t) n (be (unC nm g (sB s 0 t) n) j)
    · rw [if_pos q, if_neg (nI_ge q (by omega))]
    · rw [if_neg q, if_pos (nI_le (by omega) (by omega))]
theorem l346 {j : Nat} {k : Nat} (h : RW s n nm nr z st bm by') (h2 : ∀ k, k < n → sa s 13 k = nI (f k)) (hf : ∀ k, k < n → f k < n) (hi : ∀ a b, a < n → b < n → f a = f b → a = b) (hgf : ∀ q, q < n → g (f q) = q) (hg : ∀ q, q < n → g q < n) (hj : j < 4) (hk : k < 2 ^ 30) : ∀ (i' i : Nat) (u : Option ab_V), i + i' = n → ab_at X (d + 3) 346 5 [some (.inr (9, 0)), some (.inl (.int (nI j))), some (.inl (.int (nI k))), some (.inl (.int (nI (bs (fun q => unl (sb s 2 (30 * j + q)) (nm (it g k q))) i)))), some (.inl (.int (nI i))), u, none] [] s = some (.inl (some (.inl (.int (nI (unS nm g (fun q => sb s 2 (30 * j + q)) n k))))), s)
  | 0, i, u, e => by
    have hn := h.2.1
    obtain rfl : i = n := by omega
    rw [b346_5, r267 h.1, e_bI, if_pos (nI_le (Nat.le_refl _) (by omega))]
    rfl
  | i' + 1, i, u, e => by
    have hn := h.2.1
    have hi' : i < n := by omega
    have c1 := it_lt hg k hi'
    have c2 := h.2.2.2.1 _ c1
    have e1 : ah f n i (-nI k).toInt = it g k i := by rw [n_negi (by omega), ah_neg hf hi hgf hi']
    have m1 : (-lN 1).toInt = -1 := by decide
    have ih := fun u => l346 h h2 hf hi hgf hg hj hk i' (i + 1) u (by omega)
    rw [bs] at ih
    rw [b346_5, r267 h.1, e_bI, if_neg (nI_ge hi' (by omega)), pk_mul, nI_add, r_in (j := 30 * j + i) (by omega) (by decide), nI_clamp (by omega)]
    by_cases q1 : (sb s 2 (30 * j + i)).toInt = -1
    · rw [if_neg (by unfold unl; simp [q1])] at ih
      rw [if_pos ((j_eq _ _).mpr (q1.trans m1.symm)), nI_add, n_or, Nat.or_zero]
      exact ih _
    · have cq : lg_cmp (sb s 2 (30 * j + i)) (nI (nm (it g k i))).toInt64 = nI 0 ↔ (sb s 2 (30 * j + i)).toInt = (nm (it g k i) : Int) := by
        rw [j_eq, j_of, nI_toInt (by omega)]
      rw [if_neg (fun z => q1 (((j_eq _ _).mp z).trans m1)), r284 (d := d) h h2 hf hi hi', e_bI, e1]
      by_cases q2 : (sb s 2 (30 * j + i)).toInt = (nm (it g k i) : Int)
      · rw [if_neg (by unfold unl; simp [q2])] at ih
        rw [if_pos (cq.mpr q2), nI_add, n_or, Nat.or_zero]
        exact ih _
      · rw [if_pos (by unfold unl; simp [q1, q2])] at ih
        rw [if_neg (fun z => q2 (cq.mp z)), n_sh _ (by omega), n_or, nI_add]
        exact ih _
theorem r346 {j : Nat} {k : Nat} (h : RW s n nm nr z st bm by') (h2 : ∀ k, k < n → sa s 13 k = nI (f k)) (hf : ∀ k, k < n → f k < n) (hi : ∀ a b, a < n → b < n → f a = f b → a = b) (hgf : ∀ q, q < n → g (f q) = q) (hg : ∀ q, q < n → g q < n) (hj : j < 4) (hk : k < 2 ^ 30) : ab_ev X (d + 3) 346 [.inr (9, 0), .inl (.int (nI j)), .inl (.int (nI k))] s = some (.inl (some (.inl (.int (nI (unS nm g (fun q => sb s 2 (30 * j + q)) n k))))), s) := by
  rw [b346]
  exact l346 (d := d) h h2 hf hi hgf hg hj hk n 0 none (by omega)
/-- what is asked of errors -/
def erV (nm g : Nat → Nat) (y : Nat → Int64) (n P c : Nat) : Int32 := if c = 0 then nI (unC nm g y n (be (unC nm g y n) (P - 1))) else if c = 1 then nI (be (unC nm g y n) (P - 1)) else nI (unS nm g y n (be (unC nm g y n) (P - 1)))
theorem l344 {j P c : Nat} (hP : P < 2 ^ 30) (hc : c < 3) (h : RW s n nm nr z st bm by') (h2 : ∀ k, k < n → sa s 13 k = nI (f k)) (hf : ∀ k, k < n → f k < n) (hi : ∀ a b, a < n → b < n → f a = f b → a = b) (hgf : ∀ q, q < n → g (f q) = q) (hg : ∀ q, q < n → g q < n) (hj : j < 4) : ∀ (i k : Nat) (u : Option ab_V), k + 1 + i = P → ab_at X (d + 4) 344 62 [some (.inr (9, 0)), some (.inl (.int (nI j))), some (.inl (.int (nI c))), some (.inl (.int (nI P))), some (.inl (.int (nI (be (unC nm g (fun q => sb s 2 (30 * j + q)) n) k)))), some (.inl (.int (nI (unS nm g (fun q => sb s 2 (30 * j + q)) n (be (unC nm g (fun q => sb s 2 (30 * j + q)) n) k))))), some (.inl (.int (nI (k + 1)))), u] [] s = some (.inl (some (.inl (.int (erV nm g (fun q => sb s 2 (30 * j + q)) n P c)))), s)
  | 0, k, u, e => by
    have hn := h.2.1
    obtain rfl : k + 1 = P := by omega
    rw [b344_62, if_pos (nI_le (Nat.le_refl _) (by omega))]
    unfold erV
    rw [Nat.add_sub_cancel]
    by_cases q0 : c = 0
    · rw [if_pos (by rw [q0]), r293u hn, e_bI, if_pos q0]
    · rw [if_neg (fun z => q0 ((nI_eq (by omega) (by omega)).mp z)), if_neg q0]
      by_cases q1 : c = 1
      · rw [if_pos (by rw [q1]), if_pos q1]
      · rw [if_neg (fun z => q1 ((nI_eq (by omega) (by omega)).mp z)), if_neg q1]
  | i + 1, k, u, e => by
    have hn := h.2.1
    have l1 := unC_le (nm := nm) (g := g) (y := fun q => sb s 2 (30 * j + q)) (n := n) (k := k + 1)
    have l2 := unC_le (nm := nm) (g := g) (y := fun q => sb s 2 (30 * j + q)) (n := n) (k := be (unC nm g (fun q => sb s 2 (30 * j + q)) n) k)
    have ih := l344 hP hc h h2 hf hi hgf hg hj i (k + 1) (some (.inl (.int (nI (unS nm g (fun q => sb s 2 (30 * j + q)) n (k + 1)))))) (by omega)
    have eb : be (unC nm g (fun q => sb s 2 (30 * j + q)) n) (k + 1) = if unC nm g (fun q => sb s 2 (30 * j + q)) n (k + 1) < unC nm g (fun q => sb s 2 (30 * j + q)) n (be (unC nm g (fun q => sb s 2 (30 * j + q)) n) k) then k + 1 else be (unC nm g (fun q => sb s 2 (30 * j + q)) n) k := rfl
    rw [b344_62, if_neg (nI_ge (by omega) (by omega)), r346 (d := d) h h2 hf hi hgf hg hj (by omega), e_bI, r293u hn, e_bI, r293u hn, e_bI, nI_add, ← ih, eb]
    by_cases q : unC nm g (fun q => sb s 2 (30 * j + q)) n (k + 1) < unC nm g (fun q => sb s 2 (30 * j + q)) n (be (unC nm g (fun q => sb s 2 (30 * j + q)) n) k)
    · rw [if_pos q, if_pos (nI_lt q (by omega))]
    · rw [if_neg q, if_neg (nI_nlt (by omega) (by omega))]
theorem l207e {t P c : Nat} {x1 : Int32} {u : Option ab_V} {s : ab_S} {y : Nat → Int64} (hP1 : 1 ≤ P) (hc : c < 3) (hn : n ≤ 20) : ab_at X (d + 3) 207 107 [some (.inr (0, 0)), some (.inl (.int x1)), some (.inl (.int (nI c))), some (.inr (8, t)), some (.inl (.int (nI P))), some (.inl (.int (nI (be (unC nm g y n) (P - 1))))), some (.inl (.int (nI (unS nm g y n (be (unC nm g y n) (P - 1)))))), some (.inl (.int (nI P))), u] [.inl (.int (nI c))] s = some (.inl (some (.inl (.int (erV nm g y n P c)))), s) := by
  unfold erV
  rw [b207_107]
  by_cases q0 : c = 0
  · rw [if_pos (by rw [q0]), if_pos q0, b207_132, c37u hn, e_bI]
  · rw [if_neg (fun z => q0 ((nI_eq (by omega) (by omega)).mp z)), if_neg q0]
    by_cases q1 : c = 1
    · rw [if_pos (by rw [q1]), if_pos q1, b207_138]
    · rw [if_neg (fun z => q1 ((nI_eq (by omega) (by omega)).mp z)), if_neg q1, b207_141]
theorem o206 (h : BW s n nm nr z st bm by') (ht : TR s) (hk : k + 5 < X.2) (hX : X.2 < 2 ^ 31) : ∃ (s2 : ab_S) (v5 v6 : Option ab_V), sW s s2 ∧ ab_at X (d + 31) 360 2681 [some (.inr (14, 0)), some (.inr (0, 0)), some (.inr (9, 0)), some (.inr (15, 0)), some (.inl (.int (nI k))), u5, u6, none] [] s = ab_at X (d + 31) 360 23 [some (.inr (14, 0)), some (.inr (0, 0)), some (.inr (9, 0)), some (.inr (15, 0)), some (.inl (.int (nI (k + 6)))), v5, v6, none] [] s2 := by
  obtain ⟨hT, hR⟩ := id h
  obtain ⟨hcn, hn, t3, t4, -⟩ := id hT
  have hr1 : sa s 8 1 = nI n := hR.1
  by_cases h1 : inS (X.1 (k + 1)) 4 = true
  rotate_left
  · have cc : ab_ev X (d + 30) 206 [.inr (0, 0), .inl (.int (X.1 (k + 1))), .inl (.int (X.1 (k + 2))), .inr (15, 0)] s = some (.inl (some (.inl (.int (nI 1)))), ths s) := by
      rw [b206, b207, c_n150_1 h1, e_xA, e_px, e_xI]
      rfl
    have r : ab_ev X (d + 30) 344 [.inr (9, 0), .inl (.int (X.1 (k + 1))), .inl (.int (X.1 (k + 2)))] (ths s) = some (.inl (some (.inl (.int (nI 0)))), pz (ths s) 11 (nI 1)) := by
      rw [b344, r345_1 h1, e_bI, if_neg (show ¬ nI 1 = nI 0 by decide), if_neg (show ¬ nI 1 ≤ nI 0 by decide)]
    exact ⟨_, _, _, Or.inr (sV_pz (by omega)), w2681 hk hX cc r rfl (fun q => absurd q (by decide))⟩
  obtain ⟨j, hj, ej⟩ := inS_rep h1
  rcases ht.1 j hj with ⟨q1, q2⟩ | ⟨t, so, m, q1, q2, q3, q4, q5, q6, q7, q8, q9⟩
  · have cc : ab_ev X (d + 30) 206 [.inr (0, 0), .inl (.int (X.1 (k + 1))), .inl (.int (X.1 (k + 2))), .inr (15, 0)] s = some (.inl (some (.inl (.int (nI 2)))), ths s) := by
      rw [b206, b207, ej, c_n150_2 hj q1, e_xA, e_px, e_xI]
      rfl
    have r : ab_ev X (d + 30) 344 [.inr (9, 0), .inl (.int (X.1 (k + 1))), .inl (.int (X.1 (k + 2)))] (ths s) = some (.inl (some (.inl (.int (nI 0)))), pz (ths s) 11 (nI 2)) := by
      have q2' : sa (ths s) 22 j = -nI 1 := q2
      rw [b344, ej, r345_2 hj q2', e_bI, if_neg (show ¬ nI 2 = nI 0 by decide), if_neg (show ¬ nI 2 ≤ nI 0 by decide)]
    exact ⟨_, _, _, Or.inr (sV_pz (by omega)), w2681 hk hX cc r rfl (fun q => absurd q (by decide))⟩
  have x0 : (-nI 1).toInt = -1 := by decide
  by_cases h2 : m = n ∧ ∀ q, q < m → NB n (-nI 1).toInt (sB s 0 t q) = true
  rotate_left
  · have cc : ab_ev X (d + 30) 206 [.inr (0, 0), .inl (.int (X.1 (k + 1))), .inl (.int (X.1 (k + 2))), .inr (15, 0)] s = some (.inl (some (.inl (.int (nI 3)))), ths s) := by
      rw [b206, b207, ej, c_n150_3 hj q1, e_bA, b207_5, c_208 hcn hn q6 q4, if_neg h2, e_xU, e_px, e_xI]
      rfl
    have r : ab_ev X (d + 30) 344 [.inr (9, 0), .inl (.int (X.1 (k + 1))), .inl (.int (X.1 (k + 2)))] (ths s) = some (.inl (some (.inl (.int (nI 0)))), pz (ths s) 11 (nI 3)) := by
      have h2' : ¬ (m = n ∧ ∀ q, q < n → NB n (-nI 1).toInt (sb (ths s) 2 (30 * j + q)) = true) := fun z => h2 ⟨z.1, fun q hq => by rw [q9 q (by omega)]; exact z.2 q (by omega)⟩
      rw [b344, ej, r345 (s := ths s) hr1 hn hj q3 q7 q8 q4, if_neg h2', e_bI, if_neg (show ¬ nI 3 = nI 0 by decide), if_neg (show ¬ nI 3 ≤ nI 0 by decide)]
    exact ⟨_, _, _, Or.inr (sV_pz (by omega)), w2681 hk hX cc r rfl (fun q => absurd q (by decide))⟩
  have hg : ∀ q, q < n → inv (to_ nr z st bm by') n q < n := fun q hq => (inv_lt hT.to_lt hT.to_inj hq).1
  have hgf : ∀ q, q < n → inv (to_ nr z st bm by') n (to_ nr z st bm by' q) = q := fun q hq => inv_f hT.to_inj hq
  have hgi : ∀ a b, a < n → b < n → inv (to_ nr z st bm by') n a = inv (to_ nr z st bm by') n b → a = b := fun a b ha hb e => by
    have q1 := (inv_lt hT.to_lt hT.to_inj ha).2
    have q2 := (inv_lt hT.to_lt hT.to_inj hb).2
    rw [← q1, ← q2, e]
  have i_0 : (nI 0).toInt = 0 := by decide
  have i_2 : (nI 2).toInt = 2 := by decide
  have j_0 : (lN 0).toInt = 0 := by decide
  have j_2 : (lN 2).toInt = 2 := by decide
  have h2t : m = n ∧ ∀ q, q < n → NB n (-nI 1).toInt (sb (ths s) 2 (30 * j + q)) = true := ⟨h2.1, fun q hq => by
    have z := h2.2 q (by omega)
    rw [q9 q (by omega)] at z
    exact z⟩
  by_cases h3 : inR (X.1 (k + 2)).toInt 0 2 = true
  rotate_left
  · have cc : ab_ev X (d + 30) 206 [.inr (0, 0), .inl (.int (X.1 (k + 1))), .inl (.int (X.1 (k + 2))), .inr (15, 0)] s = some (.inl (some (.inl (.int (nI 3)))), ths s) := by
      rw [b206, b207, ej, c_n150_3 hj q1, e_bA, b207_5, c_208 hcn hn q6 q4, if_pos h2, e_bU, c_n103, i_0, i_2, if_neg h3, e_xU, e_px, e_xI]
      rfl
    have r : ab_ev X (d + 30) 344 [.inr (9, 0), .inl (.int (X.1 (k + 1))), .inl (.int (X.1 (k + 2)))] (ths s) = some (.inl (some (.inl (.int (nI 0)))), pz (ths s) 11 (nI 3)) := by
      rw [b344, ej, r345 (s := ths s) hr1 hn hj q3 q7 q8 q4, if_pos h2t, e_bI, if_pos rfl, r232, j_of, j_0, j_2, if_neg h3, e_bI, if_pos rfl, pz2]
    exact ⟨_, _, _, Or.inr (sV_pz (by omega)), w2681 hk hX cc r rfl (fun q => absurd q (by decide))⟩
  obtain ⟨c, hc, ec⟩ := inS_rep (x := X.1 (k + 2)) (n := 3) (inS_def.mpr (by have := inR_iff.mp h3; omega))
  obtain ⟨rfl, h23⟩ := id h2
  obtain ⟨s1, a1, a2, a3⟩ := c_look (X := X) (d := d + 25) hT
  obtain ⟨o1, o2, o3, o4, o5, o6⟩ := id a3
  have b3 := pr_lt hn hT.to_lt hT.to_inj
  obtain ⟨b1, b2⟩ := pr_L hn hT.to_lt hT.to_inj m (Nat.le_refl m)
  have hz1 : si s1 11 t = nI m := by rw [a2.2.2.2.1]; exact q6
  have hB1 : sB s1 0 t = sB s 0 t := by rw [a2.2.2.2.2.2.2.2.1]
  have g0 : ab_ev X (d + 28) 209 [.inr (6, 0), .inr (8, t)] s1 = some (.inl (some (.inl (.int (nI (unS nm (inv (to_ nr z st bm by') m) (sB s1 0 t) m 0))))), s1) := c_unlike (s := s1) (nm := nm) (src := fun q => q) o1 hn o3 t4 o6 (fun q hq => hq) hz1
  obtain ⟨G, v, l1⟩ := l207 (X := X) (d := d + 26) (s := s1) (t := t) (x1 := nI j) (x2 := nI c) (c := c) (P := pr (to_ nr z st bm by') m m) b3 o1 hn o3 t4 o5 hg hz1 (pr (to_ nr z st bm by') m m - 1) 0 (sa s1 4) none (by omega) o6
  rw [pa_id, l207e b2 hc hn] at l1
  have l1' : ab_at X (d + 29) 207 55 [some (.inr (0, 0)), some (.inl (.int (nI j))), some (.inl (.int (nI c))), some (.inr (8, t)), some (.inl (.int (nI (pr (to_ nr z st bm by') m m)))), some (.inl (.int (nI 0))), some (.inl (.int (nI (unS nm (inv (to_ nr z st bm by') m) (sB s1 0 t) m 0)))), some (.inl (.int (nI 1))), none] [] s1 = _ := l1
  obtain ⟨y, hy⟩ : ∃ y, y = erV nm (inv (to_ nr z st bm by') m) (sB s1 0 t) m (pr (to_ nr z st bm by') m m) c := ⟨_, rfl⟩
  rw [← hy] at l1'
  have cc : ab_ev X (d + 30) 206 [.inr (0, 0), .inl (.int (X.1 (k + 1))), .inl (.int (X.1 (k + 2))), .inr (15, 0)] s = some (.inl (some (.inl (.int (nI 0)))), pb (pa s1 4 G) 3 (va_up (sb (pa s1 4 G) 3) 0 y.toInt64)) := by
    rw [b206, b207, ej, c_n150_3 hj q1, e_bA, b207_5, c_208 hcn hn q6 q4, if_pos h2, e_bU, c_n103, i_0, i_2, if_pos h3, e_bU, a1, e_bU, c_period (s := s1) o1 hn o4 hT.to_lt hT.to_inj, e_bI, g0, e_bI, ec, l1', e_bI]
  have hV0 : sV s (pb (pa s1 4 G) 3 (va_up (sb (pa s1 4 G) 3) 0 y.toInt64)) := sV_trans a2.V (sV_trans (sO_pa (by omega) (by omega)).V sV_pb)
  have hV : sV s (pz (pb (pa s1 4 G) 3 (va_up (sb (pa s1 4 G) 3) 0 y.toInt64)) 11 (nI 0)) := sV_trans hV0 (sV_pz (by omega))
  have hb := h.same hV
  have hb0 := h.same hV0
  obtain ⟨s2, r1, r2, r3, -, r5⟩ := r320 (X := X) (d := d + 6) hb.2
  have e22 : sa (pb (pa s1 4 G) 3 (va_up (sb (pa s1 4 G) 3) 0 y.toInt64)) 22 j = nI so := by rw [hV0.2.2.2.2.1 22 (by omega)]; exact q7
  have e23 : sa (pb (pa s1 4 G) 3 (va_up (sb (pa s1 4 G) 3) 0 y.toInt64)) 23 j = nI m := by rw [hV0.2.2.2.2.1 23 (by omega)]; exact q8
  have eb2 : sb (pb (pa s1 4 G) 3 (va_up (sb (pa s1 4 G) 3) 0 y.toInt64)) 2 = sb s 2 := hV0.2.2.2.2.2.2.1 2 (by decide)
  have h2' : m = m ∧ ∀ q, q < m → NB m (-nI 1).toInt (sb (pb (pa s1 4 G) 3 (va_up (sb (pa s1 4 G) 3) 0 y.toInt64)) 2 (30 * j + q)) = true := ⟨rfl, fun q hq => by rw [eb2, ← q9 q (by omega)]; exact h23 q hq⟩
  have fb2 : sb s2 2 = sb s 2 := by
    rw [r2.2.2.2.2.2.2.1]
    exact eb2
  have hS : ∀ k, unS nm (inv (to_ nr z st bm by') m) (fun q => sb s2 2 (30 * j + q)) m k = unS nm (inv (to_ nr z st bm by') m) (sB s1 0 t) m k := fun k => bs_cong (fun q hq => by
    rw [fb2]
    show unl (sb s 2 (30 * j + q)) _ = unl (sB s1 0 t q) _
    rw [hB1, ← q9 q (by omega)])
  have hC : unC nm (inv (to_ nr z st bm by') m) (fun q => sb s2 2 (30 * j + q)) m = unC nm (inv (to_ nr z st bm by') m) (sB s1 0 t) m := by
    funext k
    unfold unC
    rw [hS]
  have l2 := l344 (X := X) (d := d + 26) (j := j) (c := c) (P := pr (to_ nr z st bm by') m m) b3 hc (hb.same r2.V).2 r5 hT.to_lt hT.to_inj hgf hg hj (pr (to_ nr z st bm by') m m - 1) 0 none (by omega)
  have eV : erV nm (inv (to_ nr z st bm by') m) (fun q => sb s2 2 (30 * j + q)) m (pr (to_ nr z st bm by') m m) c = y := by
    rw [hy]
    unfold erV
    rw [hC, hS]
  rw [eV] at l2
  have l2' : ab_at X (d + 30) 344 62 [some (.inr (9, 0)), some (.inl (.int (nI j))), some (.inl (.int (nI c))), some (.inl (.int (nI (pr (to_ nr z st bm by') m m)))), some (.inl (.int (nI 0))), some (.inl (.int (nI (unS nm (inv (to_ nr z st bm by') m) (fun q => sb s2 2 (30 * j + q)) m 0)))), some (.inl (.int (nI 1))), none] [] s2 = _ := l2
  have g3 := r346 (X := X) (d := d + 26) (j := j) (k := 0) (hb.same r2.V).2 r5 hT.to_lt hT.to_inj hgf hg hj (by decide)
  have r : ab_ev X (d + 30) 344 [.inr (9, 0), .inl (.int (X.1 (k + 1))), .inl (.int (X.1 (k + 2)))] (pb (pa s1 4 G) 3 (va_up (sb (pa s1 4 G) 3) 0 y.toInt64)) = some (.inl (some (.inl (.int y))), s2) := by
    have e11 : sz (pz (pb (pa s1 4 G) 3 (va_up (sb (pa s1 4 G) 3) 0 y.toInt64)) 11 (nI 0)) 11 = nI 0 := by simp (disch := omega) only [E0]
    rw [b344, ej, r345 (s := pb (pa s1 4 G) 3 (va_up (sb (pa s1 4 G) 3) 0 y.toInt64)) hb0.2.1 hn hj q3 e22 e23 q4, if_pos h2', e_bI, if_pos rfl, r232, j_of, j_0, j_2, if_pos h3, e_bI, if_neg (show ¬ nI 1 = nI 0 by decide), e11, if_pos (by decide), r1, e_bI, g3, e_bI, ec, l2']
  refine ⟨s2, _, _, Or.inl (sV_trans hV r2.V), w2681 hk hX cc r r3 (fun _ => ?_)⟩
  rw [r2.2.2.2.2.2.2.1]
  rfl
end OP17
