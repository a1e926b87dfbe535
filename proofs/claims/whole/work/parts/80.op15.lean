/-! Whole calls: beside, harm, the least harm. -/
/-- the sum of the first k values -/
def sm (F : Nat → Nat) : Nat → Nat
  | 0 => 0
  | k + 1 => sm F k + F k
theorem sm_cong {F G : Nat → Nat} : ∀ {n : Nat}, (∀ k, k < n → F k = G k) → sm F n = sm G n
  | 0, _ => rfl
  | n + 1, h => by rw [sm, sm, sm_cong (fun k hk => h k (by omega)), h n (by omega)]
theorem sm_le {F : Nat → Nat} {M : Nat} : ∀ {n : Nat}, (∀ k, k < n → F k ≤ M) → sm F n ≤ n * M
  | 0, _ => by rw [sm]; omega
  | n + 1, h => by
    have h1 := sm_le (n := n) (fun k hk => h k (by omega))
    have h2 := h n (by omega)
    rw [sm, Nat.succ_mul]
    omega
theorem sm_up (A B : Nat → Nat) {a : Nat} : ∀ {n : Nat}, sm (fun v => A v + (if v = a then B v else 0)) n = sm A n + (if a < n then B a else 0)
  | 0 => by
    rw [if_neg (by omega)]
    rfl
  | n + 1 => by
    rw [sm, sm, sm_up (n := n)]
    show _ + (A n + (if n = a then B n else 0)) = _
    by_cases h : n = a
    · subst h
      rw [if_pos rfl, if_neg (by omega), if_pos (by omega)]
      omega
    · rw [if_neg h]
      by_cases h2 : a < n
      · rw [if_pos h2, if_pos (by omega)]
        omega
      · rw [if_neg h2, if_neg (by omega)]
        omega
theorem sm_by (F p : Nat → Nat) {n : Nat} : ∀ {k : Nat}, (∀ q, q < k → p q < n) → sm (fun q => F (p q)) k = sm (fun v => F v * ct p k v) n
  | 0, _ => by
    have h : ∀ n, sm (fun v => F v * ct p 0 v) n = 0 := by
      intro n
      induction n with
      | zero => rfl
      | succ n ih =>
        rw [sm, ih]
        show 0 + F n * 0 = 0
        omega
    rw [h]
    rfl
  | k + 1, h => by
    have h1 := h k (by omega)
    have e : sm (fun v => F v * ct p (k + 1) v) n = sm (fun v => F v * ct p k v + (if v = p k then F v else 0)) n := sm_cong (fun v hv => by
      rw [ct_succ, Nat.mul_add]
      by_cases q : p k = v
      · rw [if_pos q, if_pos q.symm, Nat.mul_one]
      · rw [if_neg q, if_neg (fun z => q z.symm), Nat.mul_zero])
    rw [sm, sm_by F p (fun q hq => h q (by omega)), e, sm_up, if_pos h1]
theorem ct_one {p : Nat → Nat} {n : Nat} (hp : ∀ q, q < n → p q < n) (hi : ∀ a b, a < n → b < n → p a = p b → a = b) {v : Nat} (hv : v < n) : ct p n v = 1 := by
  obtain ⟨i, hi1, rfl⟩ := prm_onto hp hi hv
  have e : ct p n (p i) = fb_ct (fun k => if k = i then true else (fun _ => false) k) n := fb_ct_cong (fun k hk => by
    by_cases q : k = i
    · rw [if_pos q, q]
      exact beq_self_eq_true _
    · rw [if_neg q]
      exact beq_eq_false_iff_ne.mpr (fun z => q (hi k i hk hi1 z)))
  have h1 := fb_ct_upd (fun _ => false) true hi1
  have h2 : fb_ct (fun _ => false) n = 0 := fb_ct_zero.mpr (fun _ _ => rfl)
  rw [e]
  rw [h2, if_neg (by decide), if_pos rfl] at h1
  omega
/-- a sum over all streets is one over where their signs go -/
theorem sm_prm {F p : Nat → Nat} {n : Nat} (hp : ∀ q, q < n → p q < n) (hi : ∀ a b, a < n → b < n → p a = p b → a = b) : sm (fun q => F (p q)) n = sm F n := by
  rw [sm_by F p hp]
  exact sm_cong (fun v hv => by rw [ct_one hp hi hv, Nat.mul_one])
theorem sm_fb (P : Nat → Bool) : ∀ n, sm (fun q => if P q then 1 else 0) n = fb_ct P n
  | 0 => rfl
  | n + 1 => by rw [sm, fb_ct_succ, sm_fb P n]
theorem fb_prm {P : Nat → Bool} {p : Nat → Nat} {n : Nat} (hp : ∀ q, q < n → p q < n) (hi : ∀ a b, a < n → b < n → p a = p b → a = b) : fb_ct (fun q => P (p q)) n = fb_ct P n := by
  rw [← sm_fb, ← sm_fb]
  exact sm_prm (F := fun q => if P q then 1 else 0) hp hi
theorem ah_back {f : Nat → Nat} {n : Nat} (hf : ∀ q, q < n → f q < n) (hi : ∀ a b, a < n → b < n → f a = f b → a = b) {v : Nat} (hv : v < n) (c : Int) : ah f n (ah f n v c) (-c) = v := by
  have c0 := cyc_pos f n v
  unfold ah
  rw [cyc_same hf hi hv, ← it_add, it_mod hf hi hv]
  have a1 := Int.emod_nonneg c (show ((cyc f n v : Nat) : Int) ≠ 0 by omega)
  have a2 := Int.emod_nonneg (-c) (show ((cyc f n v : Nat) : Int) ≠ 0 by omega)
  have a3 : ((-c) % ((cyc f n v : Nat) : Int) + c % ((cyc f n v : Nat) : Int)) % ((cyc f n v : Nat) : Int) = 0 := by
    rw [← Int.add_emod]
    have : -c + c = 0 := by omega
    rw [this]
    exact Int.zero_emod _
  obtain ⟨a, ha⟩ := Int.eq_ofNat_of_zero_le a2
  obtain ⟨b, hb⟩ := Int.eq_ofNat_of_zero_le a1
  rw [ha, hb] at a3 ⊢
  have a4 : (a + b) % cyc f n v = 0 := by
    have q : ((a + b : Nat) : Int) % ((cyc f n v : Nat) : Int) = 0 := by
      rw [Int.natCast_add]
      exact a3
    rw [← Int.natCast_emod] at q
    exact Int.ofNat.inj q
  show it f ((a + b) % cyc f n v) v = v
  rw [a4]
  rfl
theorem ah_inj {f : Nat → Nat} {n : Nat} (hf : ∀ q, q < n → f q < n) (hi : ∀ a b, a < n → b < n → f a = f b → a = b) (c : Int) : ∀ a b, a < n → b < n → ah f n a c = ah f n b c → a = b := fun a b ha hb e => by
  rw [← ah_back hf hi ha c, e, ah_back hf hi hb c]
theorem hrm_sm (nm src : Nat → Nat) (n : Nat) : ∀ k, hrm nm src n k = sm (fun q => if (shd nm n).testBit (nm (src q)) then 0 else adf q (src q)) k
  | 0 => rfl
  | k + 1 => by rw [hrm, sm, hrm_sm nm src n k]
/-- harm, summed from where signs go -/
def hrs (nm a : Nat → Nat) (n : Nat) : Nat → Nat := sm (fun q => if ct nm n (nm q) = 1 then adf (a q) q else 0)
theorem harm_eq {nm a src : Nat → Nat} {n : Nat} (hnm : ∀ q, q < n → nm q < n) (ha : ∀ q, q < n → a q < n) (hi : ∀ x y, x < n → y < n → a x = a y → x = y) (hs : ∀ q, q < n → src (a q) = q) : hrm nm src n n = hrs nm a n n := by
  rw [hrm_sm, ← sm_prm (p := a) ha hi]
  exact sm_cong (fun q hq => by
    have h1 : 0 < ct nm n (nm q) := fb_ct_pos.mpr ⟨q, hq, beq_self_eq_true _⟩
    have h2 := hnm q hq
    show (if (shd nm n).testBit (nm (src (a q))) then 0 else adf (a q) (src (a q))) = _
    rw [hs q hq, shd, bs_bit, decide_eq_true h2, Bool.true_and]
    by_cases h3 : ct nm n (nm q) = 1
    · rw [if_pos h3, decide_eq_false (by omega), if_neg (by decide)]
    · rw [if_neg h3, decide_eq_true (by omega), if_pos rfl])
theorem hrs_le {nm a : Nat → Nat} {n k : Nat} (ha : ∀ q, q < n → a q < n) (hk : k ≤ n) (hn : n ≤ 20) : hrs nm a n k ≤ 400 := by
  have h1 : hrs nm a n k ≤ k * 20 := sm_le (fun q hq => by
    have := ha q (by omega)
    show (if ct nm n (nm q) = 1 then adf (a q) q else 0) ≤ 20
    unfold adf
    split <;> omega)
  omega
section OP15
variable {X : (Nat → Int32) × Nat} {d k n nr bm np hs ml : Nat} {u5 u6 : Option ab_V} {s : ab_S} {nm z f g lo li : Nat → Nat} {st : Nat → Nat → Nat} {by' : Nat → Int32}
theorem l342 {x : Int32} (h8 : sa s 8 1 = nI n) (hn : n ≤ 20) (h2 : ∀ k, k < n → sa s 13 k = nI (f k)) (hf : ∀ k, k < n → f k < n) (hi : ∀ a b, a < n → b < n → f a = f b → a = b) : ∀ (j i : Nat) (A : Nat → Int32), i + j = n → (∀ q, q < i → A q = nI (ah f n q x.toInt)) → ∃ A' : Nat → Int32, ab_at X (d + 2) 342 2 [some (.inr (9, 0)), some (.inl (.int x)), some (.inl (.int (nI i)))] [] (pa s 14 A) = some (.inl none, pa s 14 A') ∧ ∀ q, q < n → A' q = nI (ah f n q x.toInt)
  | 0, i, A, e, hA => by
    obtain rfl : i = n := by omega
    refine ⟨A, ?_, hA⟩
    have h8' : sa (pa s 14 A) 8 1 = nI i := h8
    rw [b342_2, r267 h8', e_bI, if_pos (nI_le (Nat.le_refl _) (by omega))]
  | j + 1, i, A, e, hA => by
    have hin : i < n := by omega
    have h8' : sa (pa s 14 A) 8 1 = nI n := h8
    obtain ⟨A', g1, g2⟩ := l342 (x := x) h8 hn h2 hf hi j (i + 1) (va_up A i (nI (ah f n i x.toInt))) (by omega) (fun q hq => by
      by_cases h5 : q = i
      · rw [h5, va_up_self]
      · rw [va_up_ne _ _ h5]
        exact hA q (by omega))
    refine ⟨A', ?_, g2⟩
    have e1 : ab_ev X (d + 1) 285 [.inr (9, 0), .inl (.int (nI i)), .inl (.int x)] (pa s 14 A) = _ := r285 (s := pa s 14 A) (x := x) hn h2 hf hi hin
    rw [← g1, b342_2, r267 h8', e_bI, if_neg (nI_ge hin (by omega)), e1, e_bI, r_in (j := i) (by omega) (by decide), nI_clamp (by omega), nI_add]
    simp (disch := omega) only [E0, E1]
theorem l341 {a : Nat → Nat} {x : Int32} (h : RW s n nm nr z st bm by') (h14 : ∀ k, k < n → sa s 14 k = nI (a k)) (ha : ∀ k, k < n → a k < n) : ∀ (j i : Nat), i + j = n → ab_at X (d + 2) 341 9 [some (.inr (9, 0)), some (.inl (.int x)), some (.inl (.int (nI (hrs nm a n i)))), some (.inl (.int (nI i)))] [] s = some (.inl (some (.inl (.int (nI (hrs nm a n n))))), s)
  | 0, i, e => by
    have hn := h.2.1
    obtain rfl : i = n := by omega
    rw [b341_9, r267 h.1, e_bI, if_pos (nI_le (Nat.le_refl _) (by omega))]
  | j + 1, i, e => by
    have hn := h.2.1
    have hin : i < n := by omega
    have c1 := h.2.2.2.1 i hin
    have c2 := ha i hin
    have c3 : ct nm n (nm i) ≤ n := fb_ct_le _ n
    have ih := l341 (x := x) h h14 ha j (i + 1) (by omega)
    have es : hrs nm a n (i + 1) = hrs nm a n i + (if ct nm n (nm i) = 1 then adf (a i) i else 0) := rfl
    rw [es] at ih
    rw [b341_9, r267 h.1, e_bI, if_neg (nI_ge hin (by omega)), nI_add 11 i, r_in (j := 11 + i) (by omega) (by decide), nI_clamp (by omega), h.2.2.1 i hin, r_hc h (by omega)]
    by_cases q : ct nm n (nm i) = 1
    · rw [if_pos (by rw [q]), r_in (j := i) (by omega) (by decide), nI_clamp (by omega), h14 i hin, c_abs (by omega) (by omega), e_bI, nI_add, nI_add]
      rw [if_pos q] at ih
      exact ih
    · rw [if_neg (fun w => q ((nI_eq (by omega) (by omega)).mp w)), nI_add]
      rw [if_neg q, Nat.add_zero] at ih
      exact ih
theorem r341 {x : Int32} (h : RW s n nm nr z st bm by') (h2 : ∀ k, k < n → sa s 13 k = nI (f k)) (hf : ∀ k, k < n → f k < n) (hi : ∀ a b, a < n → b < n → f a = f b → a = b) : ∃ A : Nat → Int32, ab_ev X (d + 3) 341 [.inr (9, 0), .inl (.int x)] s = some (.inl (some (.inl (.int (nI (hrs nm (fun q => ah f n q x.toInt) n n))))), pa s 14 A) := by
  obtain ⟨A, g1, g2⟩ := l342 (X := X) (d := d) (x := x) h.1 h.2.1 h2 hf hi n 0 (sa s 14) (by omega) (fun q hq => by omega)
  rw [pa_id] at g1
  refine ⟨A, ?_⟩
  have g3 : ab_ev X (d + 2) 342 [.inr (9, 0), .inl (.int x)] s = some (.inl none, pa s 14 A) := by
    rw [b342]
    exact g1
  rw [b341, g3, e_bU]
  exact l341 (s := pa s 14 A) (a := fun q => ah f n q x.toInt) (h.same rfl) (fun q hq => by simp (disch := omega) only [E0]; exact g2 q hq) (fun q hq => ah_lt hf hq _) n 0 (by omega)
theorem o169 (h : BW s n nm nr z st bm by') (hk : k + 5 < X.2) (hX : X.2 < 2 ^ 31) : ∃ (s2 : ab_S) (v5 v6 : Option ab_V), sW s s2 ∧ ab_at X (d + 31) 360 1933 [some (.inr (14, 0)), some (.inr (0, 0)), some (.inr (9, 0)), some (.inr (15, 0)), some (.inl (.int (nI k))), u5, u6, none] [] s = ab_at X (d + 31) 360 23 [some (.inr (14, 0)), some (.inr (0, 0)), some (.inr (9, 0)), some (.inr (15, 0)), some (.inl (.int (nI (k + 6)))), v5, v6, none] [] s2 := by
  obtain ⟨hT, hR⟩ := id h
  obtain ⟨hcn, hn, t3, t4, -⟩ := id hT
  have hr1 : sa (ths s) 8 1 = nI n := hR.1
  by_cases h1 : inS (X.1 (k + 1)) n = true
  rotate_left
  · have cc : ab_ev X (d + 30) 169 [.inr (0, 0), .inl (.int (X.1 (k + 1))), .inl (.int (X.1 (k + 2))), .inr (15, 0)] s = some (.inl (some (.inl (.int (nI 1)))), ths s) := by
      rw [b169, b170, c_n127 hcn (by omega), if_neg (fun q => h1 q.1), e_xU, e_px, e_xI]
      rfl
    have r : ab_ev X (d + 30) 329 [.inr (9, 0), .inl (.int (X.1 (k + 1))), .inl (.int (X.1 (k + 2)))] (ths s) = some (.inl (some (.inl (.int (nI 0)))), pz (ths s) 11 (nI 1)) := by
      rw [b329, r266 (n := n) hr1 (by omega), if_neg h1, e_bI, if_pos rfl]
    exact ⟨_, _, _, Or.inr (sV_pz (by omega)), w1933 hk hX cc r rfl (fun q => absurd q (by decide))⟩
  by_cases h2 : inS (X.1 (k + 2)) n = true
  rotate_left
  · have cc : ab_ev X (d + 30) 169 [.inr (0, 0), .inl (.int (X.1 (k + 1))), .inl (.int (X.1 (k + 2))), .inr (15, 0)] s = some (.inl (some (.inl (.int (nI 1)))), ths s) := by
      rw [b169, b170, c_n127 hcn (by omega), if_neg (fun q => h2 q.2), e_xU, e_px, e_xI]
      rfl
    have r : ab_ev X (d + 30) 329 [.inr (9, 0), .inl (.int (X.1 (k + 1))), .inl (.int (X.1 (k + 2)))] (ths s) = some (.inl (some (.inl (.int (nI 0)))), pz (ths s) 11 (nI 1)) := by
      rw [b329, r266 (n := n) hr1 (by omega), if_pos h1, e_bI, if_neg (show ¬ nI 1 = nI 0 by decide), r266 (n := n) hr1 (by omega), if_neg h2, e_bI, if_pos rfl]
    exact ⟨_, _, _, Or.inr (sV_pz (by omega)), w1933 hk hX cc r rfl (fun q => absurd q (by decide))⟩
  by_cases h3 : X.1 (k + 1) = X.1 (k + 2)
  · have cc : ab_ev X (d + 30) 169 [.inr (0, 0), .inl (.int (X.1 (k + 1))), .inl (.int (X.1 (k + 2))), .inr (15, 0)] s = some (.inl (some (.inl (.int (nI 2)))), ths s) := by
      rw [b169, b170, c_n127 hcn (by omega), if_pos ⟨h1, h2⟩, if_pos h3, e_xU, e_px, e_xI]
      rfl
    have r : ab_ev X (d + 30) 329 [.inr (9, 0), .inl (.int (X.1 (k + 1))), .inl (.int (X.1 (k + 2)))] (ths s) = some (.inl (some (.inl (.int (nI 0)))), pz (ths s) 11 (nI 2)) := by
      rw [b329, r266 (n := n) hr1 (by omega), if_pos h1, e_bI, if_neg (show ¬ nI 1 = nI 0 by decide), r266 (n := n) hr1 (by omega), if_pos h2, e_bI, if_neg (show ¬ nI 1 = nI 0 by decide), if_pos h3]
    exact ⟨_, _, _, Or.inr (sV_pz (by omega)), w1933 hk hX cc r rfl (fun q => absurd q (by decide))⟩
  obtain ⟨v, hv, ev⟩ := inS_rep h1
  obtain ⟨u, hu, eu⟩ := inS_rep h2
  obtain ⟨s1, a1, a2, a3⟩ := c_look (X := X) (d := d + 25) hT
  obtain ⟨o1, o2, o3, o4, o5, o6⟩ := id a3
  have b3 := pr_lt hn hT.to_lt hT.to_inj
  have l1 := l170 (X := X) (d := d + 28) (x1 := nI v) (x2 := nI u) b3 hn o4 hT.to_lt hv hu (pr (to_ nr z st bm by') n n) 0 (by omega)
  obtain ⟨w, hw⟩ : ∃ w, w = nI (fb_ct (fun q => adf (it (to_ nr z st bm by') q v) (it (to_ nr z st bm by') q u) == 1) (pr (to_ nr z st bm by') n n)) := ⟨_, rfl⟩
  rw [← hw] at l1
  have cc : ab_ev X (d + 30) 169 [.inr (0, 0), .inl (.int (X.1 (k + 1))), .inl (.int (X.1 (k + 2))), .inr (15, 0)] s = some (.inl (some (.inl (.int (nI 0)))), pb s1 3 (va_up (sb s1 3) 0 w.toInt64)) := by
    have l1' : ab_at X (d + 29) 170 37 [some (.inr (0, 0)), some (.inl (.int (nI v))), some (.inl (.int (nI u))), some (.inl (.int (nI (pr (to_ nr z st bm by') n n)))), some (.inl (.int (nI v))), some (.inl (.int (nI u))), some (.inl (.int (nI 0))), some (.inl (.int (nI 0)))] [] s1 = _ := l1
    rw [b169, b170, c_n127 hcn (by omega), if_pos ⟨h1, h2⟩, if_neg h3, e_bU, a1, e_bU, c_period (s := s1) o1 hn o4 hT.to_lt hT.to_inj, e_bI, ev, eu, l1', e_bI]
  have hV : sV s (pz (pb s1 3 (va_up (sb s1 3) 0 w.toInt64)) 11 (nI 0)) := sV_trans a2.V (sV_trans sV_pb (sV_pz (by omega)))
  have hb := h.same hV
  obtain ⟨s2, r1, r2, r3, -, r5⟩ := r320 (X := X) (d := d + 6) hb.2
  have hr' : sa (pb s1 3 (va_up (sb s1 3) 0 w.toInt64)) 8 1 = nI n := hb.2.1
  have r : ab_ev X (d + 30) 329 [.inr (9, 0), .inl (.int (X.1 (k + 1))), .inl (.int (X.1 (k + 2)))] (pb s1 3 (va_up (sb s1 3) 0 w.toInt64)) = some (.inl (some (.inl (.int w))), s2) := by
    rw [b329, r266 (n := n) hr' (by omega), if_pos h1, e_bI, if_neg (show ¬ nI 1 = nI 0 by decide), r266 (n := n) hr' (by omega), if_pos h2, e_bI, if_neg (show ¬ nI 1 = nI 0 by decide), if_neg h3, r1, e_bI, ev, eu, hw]
    exact l329 (d := d + 28) b3 hn r5 hT.to_lt hT.to_inj hv hu (pr (to_ nr z st bm by') n n) 0 (by omega)
  refine ⟨s2, _, _, Or.inl (sV_trans hV r2.V), w1933 hk hX cc r r3 (fun _ => ?_)⟩
  rw [r2.2.2.2.2.2.2.1]
  rfl
theorem o201 (h : BW s n nm nr z st bm by') (hk : k + 5 < X.2) (hX : X.2 < 2 ^ 31) : ∃ (s2 : ab_S) (v5 v6 : Option ab_V), sW s s2 ∧ ab_at X (d + 31) 360 2569 [some (.inr (14, 0)), some (.inr (0, 0)), some (.inr (9, 0)), some (.inr (15, 0)), some (.inl (.int (nI k))), u5, u6, none] [] s = ab_at X (d + 31) 360 23 [some (.inr (14, 0)), some (.inr (0, 0)), some (.inr (9, 0)), some (.inr (15, 0)), some (.inl (.int (nI (k + 6)))), v5, v6, none] [] s2 := by
  obtain ⟨hT, hR⟩ := id h
  obtain ⟨hcn, hn, t3, t4, -⟩ := id hT
  have hr1 : sa (ths s) 8 1 = nI n := hR.1
  by_cases h1 : inR (X.1 (k + 1)).toInt (-9999) 9999 = true
  rotate_left
  · have cc : ab_ev X (d + 30) 201 [.inr (0, 0), .inl (.int (X.1 (k + 1))), .inr (15, 0)] s = some (.inl (some (.inl (.int (nI 1)))), ths s) := by
      rw [b201, b202, c_n107, if_neg h1, e_xU, e_px, e_xI]
      rfl
    have r : ab_ev X (d + 30) 340 [.inr (9, 0), .inl (.int (X.1 (k + 1)))] (ths s) = some (.inl (some (.inl (.int (nI 0)))), pz (ths s) 11 (nI 1)) := by
      rw [b340, r282, if_neg h1, e_bI, if_pos rfl, b233, e_bI, pz2]
    exact ⟨_, _, _, Or.inr (sV_pz (by omega)), w2569 hk hX cc r rfl (fun q => absurd q (by decide))⟩
  have hg : ∀ q, q < n → inv (to_ nr z st bm by') n q < n := fun q hq => (inv_lt hT.to_lt hT.to_inj hq).1
  have hgf : ∀ q, q < n → inv (to_ nr z st bm by') n (to_ nr z st bm by' q) = q := fun q hq => inv_f hT.to_inj hq
  have hgi : ∀ a b, a < n → b < n → inv (to_ nr z st bm by') n a = inv (to_ nr z st bm by') n b → a = b := fun a b ha hb e => by
    have q1 := (inv_lt hT.to_lt hT.to_inj ha).2
    have q2 := (inv_lt hT.to_lt hT.to_inj hb).2
    rw [← q1, ← q2, e]
  obtain ⟨s1, a1, a2, a3⟩ := c_look (X := X) (d := d + 25) hT
  obtain ⟨o1, o2, o3, o4, o5, o6⟩ := id a3
  obtain ⟨x, hx⟩ : ∃ x, x = X.1 (k + 1) := ⟨_, rfl⟩
  have hx2 : (-x).toInt = -x.toInt := by
    have h2 := inR_iff.mp h1
    rw [← hx] at h2
    rw [Int32.toInt_neg]
    exact Int.bmod_eq_of_le (by omega) (by omega)
  obtain ⟨G, g1, g2⟩ := c_leap (X := X) (d := d + 25) (x := X.1 (k + 1)) o1 hn o4 hT.to_lt hT.to_inj
  obtain ⟨w, hw⟩ : ∃ w, w = nI (hrm nm (fun q => ah (to_ nr z st bm by') n q (-X.1 (k + 1)).toInt) n n) := ⟨_, rfl⟩
  have e : ab_ev X (d + 28) 203 [.inr (6, 0)] (pa s1 4 G) = some (.inl (some (.inl (.int w))), pa s1 4 G) := by
    rw [c_harmThen (s := pa s1 4 G) (nm := nm) (src := fun q => ah (to_ nr z st bm by') n q (-X.1 (k + 1)).toInt) o1 o2 hn (fun q hq => by simp (disch := omega) only [E0]; exact o3 q hq) t4 (fun q hq => by simp (disch := omega) only [E0]; exact g2 q hq) (fun q hq => ah_lt hT.to_lt hq _), hw]
  have ew : w = nI (hrs nm (fun q => ah (to_ nr z st bm by') n q (X.1 (k + 1)).toInt) n n) := by
    rw [hw, ← hx]
    exact congrArg nI (harm_eq t4 (fun q hq => ah_lt hT.to_lt hq _) (ah_inj hT.to_lt hT.to_inj _) (fun q hq => by rw [hx2]; exact ah_back hT.to_lt hT.to_inj hq _))
  have cc : ab_ev X (d + 30) 201 [.inr (0, 0), .inl (.int (X.1 (k + 1))), .inr (15, 0)] s = some (.inl (some (.inl (.int (nI 0)))), pb (pa s1 4 G) 3 (va_up (sb (pa s1 4 G) 3) 0 w.toInt64)) := by
    rw [b201, b202, c_n107, if_pos h1, e_bU, a1, e_bU, g1, e_bU, e, e_bI, e_bI]
  have hV : sV s (pz (pb (pa s1 4 G) 3 (va_up (sb (pa s1 4 G) 3) 0 w.toInt64)) 11 (nI 0)) := sV_trans a2.V (sV_trans (sO_pa (by omega) (by omega)).V (sV_trans sV_pb (sV_pz (by omega))))
  have hb := h.same hV
  obtain ⟨s2, r1, r2, r3, -, r5⟩ := r268 (X := X) (d := d + 27) hb.2
  obtain ⟨A, q1⟩ := r341 (X := X) (d := d + 26) (x := X.1 (k + 1)) (hb.same r2.V).2 r5 hT.to_lt hT.to_inj
  have r : ab_ev X (d + 30) 340 [.inr (9, 0), .inl (.int (X.1 (k + 1)))] (pb (pa s1 4 G) 3 (va_up (sb (pa s1 4 G) 3) 0 w.toInt64)) = some (.inl (some (.inl (.int w))), pa s2 14 A) := by
    rw [b340, r282, if_pos h1, e_bI, if_neg (show ¬ nI 1 = nI 0 by decide), r1, e_bU, q1, e_bI, ← ew]
  refine ⟨_, _, _, Or.inl (sV_trans hV (sV_trans r2.V (sR_pa (by omega) (by omega)).V)), w2569 hk hX cc r r3 (fun _ => ?_)⟩
  show sb s2 3 0 = _
  rw [r2.2.2.2.2.2.2.1]
  rfl
theorem pr_dvd (f : Nat → Nat) (n q : Nat) : ∀ k, q < k → cyc f n q ∣ pr f n k
  | 0, h => by omega
  | k + 1, h => by
    rw [pr]
    by_cases e : q = k
    · rw [e]
      exact Nat.dvd_lcm_right _ _
    · exact Nat.dvd_trans (pr_dvd f n q k (by omega)) (Nat.dvd_lcm_left _ _)
theorem pr_it (hf : ∀ q, q < n → f q < n) (hi : ∀ a b, a < n → b < n → f a = f b → a = b) {q : Nat} (hq : q < n) : it f (pr f n n) q = q := by
  obtain ⟨m, e⟩ := pr_dvd f n q n hq
  rw [e, it_mul hf hi hq]
/-- the first of 1 to k by which H is least -/
def bst (H : Nat → Nat) : Nat → Nat
  | 0 => 1
  | 1 => 1
  | k + 2 => if H (k + 2) < H (bst H (k + 1)) then k + 2 else bst H (k + 1)
theorem bst_s (H : Nat → Nat) {k : Nat} (h : 1 ≤ k) : bst H (k + 1) = if H (k + 1) < H (bst H k) then k + 1 else bst H k := by
  obtain ⟨j, rfl⟩ : ∃ j, k = j + 1 := ⟨k - 1, by omega⟩
  rfl
theorem bst_le (H : Nat → Nat) : ∀ k, 1 ≤ k → 1 ≤ bst H k ∧ bst H k ≤ k ∧ ∀ j, 1 ≤ j → j ≤ k → H (bst H k) ≤ H j
  | 0, h => by omega
  | 1, _ => ⟨Nat.le_refl _, Nat.le_refl _, fun j h1 h2 => by
    have : j = 1 := by omega
    rw [this]
    exact Nat.le_refl _⟩
  | k + 2, _ => by
    obtain ⟨h0, h1, h2⟩ := bst_le H (k + 1) (by omega)
    rw [bst_s H (by omega)]
    by_cases q : H (k + 2) < H (bst H (k + 1))
    · rw [if_pos q]
      refine ⟨by omega, Nat.le_refl _, fun j j1 j2 => ?_⟩
      by_cases q2 : j = k + 2
      · rw [q2]
        exact Nat.le_refl _
      · have := h2 j j1 (by omega)
        show H (k + 2) ≤ H j
        omega
    · rw [if_neg q]
      refine ⟨h0, by omega, fun j j1 j2 => ?_⟩
      by_cases q2 : j = k + 2
      · rw [q2]
        have : ¬ H (k + 1 + 1) < H (bst H (k + 1)) := q
        omega
      · exact h2 j j1 (by omega)
theorem bst_stop (H : Nat → Nat) {k : Nat} (h : 1 ≤ k) (h0 : H (bst H k) = 0) : ∀ j, bst H (k + j) = bst H k
  | 0 => rfl
  | j + 1 => by
    have ih := bst_stop H h h0 j
    rw [show k + (j + 1) = (k + j) + 1 by omega, bst_s H (by omega), ih, h0, if_neg (by omega)]
theorem l205 {N : Nat} (hN : N < 2 ^ 30) (h8 : sz s 8 = nI n) (h9 : sz s 9 = nI (sh_s nm n)) (hn : n ≤ 20) (h1 : ∀ k, k < n → sa s 1 k = nI (nm k)) (hnm : ∀ k, k < n → nm k < n) (h3 : ∀ k, k < n → sa s 3 k = nI (g k)) (hg : ∀ k, k < n → g k < n) : ∀ (i j : Nat) (G : Nat → Int32) (u : Option ab_V), j + 1 + i = N → (∀ q, q < n → G q = nI (it g (j + 1) q)) → ∃ G' : Nat → Int32, ab_at X (d + 3) 205 40 [some (.inr (0, 0)), some (.inl (.int (nI N))), some (.inl (.int (nI (bst (fun y => hrm nm (it g y) n n) (j + 1))))), some (.inl (.int (nI (hrm nm (it g (bst (fun y => hrm nm (it g y) n n) (j + 1))) n n)))), some (.inl (.int (nI (j + 2)))), u] [] (pa s 4 G) = some (.inl (some (.inl (.int (nI (bst (fun y => hrm nm (it g y) n n) N))))), pa s 4 G')
  | 0, j, G, u, e, hG => by
    refine ⟨G, ?_⟩
    obtain rfl : j + 1 = N := by omega
    rw [b205_40, if_pos (nI_lt (by omega) (by omega))]
  | i + 1, j, G, u, e, hG => by
    have hle := hrm_le nm (src := it g (bst (fun y => hrm nm (it g y) n n) (j + 1))) (fun q hq => it_lt hg _ hq) n (Nat.le_refl _)
    have hle2 := hrm_le nm (src := it g (j + 2)) (fun q hq => it_lt hg _ hq) n (Nat.le_refl _)
    have hn2 : n * n ≤ 20 * 20 := Nat.mul_le_mul hn hn
    have hb := b205_40 (X := X) (d := d + 2) (x1 := nI N) (x2 := nI (bst (fun y => hrm nm (it g y) n n) (j + 1))) (x3 := nI (hrm nm (it g (bst (fun y => hrm nm (it g y) n n) (j + 1))) n n)) (x4 := nI (j + 2)) (u5 := u) (s := pa s 4 G)
    rw [if_neg (nI_nlt (by omega) (by omega))] at hb
    by_cases q0 : hrm nm (it g (bst (fun y => hrm nm (it g y) n n) (j + 1))) n n = 0
    · refine ⟨G, ?_⟩
      have e1 := bst_stop (fun y => hrm nm (it g y) n n) (show 1 ≤ j + 1 by omega) q0 (i + 1)
      rw [show j + 1 + (i + 1) = N by omega] at e1
      rw [hb, if_pos (by rw [q0]; decide), e1]
    · obtain ⟨G', g1, g2⟩ := c_step (X := X) (d := d + 1) (s := pa s 4 G) (n := n) (g := g) (src := fun q => it g (j + 1) q) h8 hn (fun q hq => by simp (disch := omega) only [E0]; exact h3 q hq) (fun q hq => by simp (disch := omega) only [E0]; exact hG q hq) (fun q hq => it_lt hg _ hq)
      have e4 : pa (pa s 4 G) 4 G' = pa s 4 G' := by simp (disch := omega) only [E1]
      rw [e4] at g1
      have hG' : ∀ q, q < n → G' q = nI (it g (j + 1 + 1) q) := g2
      have e5 : ab_ev X (d + 2) 203 [.inr (6, 0)] (pa s 4 G') = _ := c_harmThen (s := pa s 4 G') (nm := nm) (src := it g (j + 2)) h8 h9 hn (fun q hq => by simp (disch := omega) only [E0]; exact h1 q hq) hnm (fun q hq => by simp (disch := omega) only [E0]; exact hG' q hq) (fun q hq => it_lt hg _ hq)
      obtain ⟨G2, i1⟩ := l205 hN h8 h9 hn h1 hnm h3 hg i (j + 1) G' (some (.inl (.int (nI (hrm nm (it g (j + 2)) n n))))) (by omega) hG'
      refine ⟨G2, ?_⟩
      have eb := bst_s (fun y => hrm nm (it g y) n n) (show 1 ≤ j + 1 by omega)
      rw [hb, if_neg (fun q => q0 (by
        have q3 := (n_len _ (by omega)).mp q
        rw [nI_toInt (by omega)] at q3
        omega)), g1, e_bU, e5, e_bI, nI_add, ← i1, eb]
      show _ = ab_at X (d + 3) 205 40 [some (.inr (0, 0)), some (.inl (.int (nI N))), some (.inl (.int (nI (if hrm nm (it g (j + 2)) n n < hrm nm (it g (bst (fun y => hrm nm (it g y) n n) (j + 1))) n n then j + 2 else bst (fun y => hrm nm (it g y) n n) (j + 1))))), some (.inl (.int (nI (hrm nm (it g (if hrm nm (it g (j + 2)) n n < hrm nm (it g (bst (fun y => hrm nm (it g y) n n) (j + 1))) n n then j + 2 else bst (fun y => hrm nm (it g y) n n) (j + 1))) n n)))), _, _] [] _
      by_cases q : hrm nm (it g (j + 2)) n n < hrm nm (it g (bst (fun y => hrm nm (it g y) n n) (j + 1))) n n
      · rw [if_pos q, if_neg (nI_ge q (by omega))]
      · rw [if_neg q, if_pos (nI_le (by omega) (by omega))]
theorem l343 {N P : Nat} (hN : N < 2 ^ 30) (hP : P < 2 ^ 30) (hP1 : 1 ≤ P) (h : RW s n nm nr z st bm by') (h2 : ∀ k, k < n → sa s 13 k = nI (f k)) (hf : ∀ k, k < n → f k < n) (hi : ∀ a b, a < n → b < n → f a = f b → a = b) (hP2 : ∀ q, q < n → it f P q = q) : ∀ (i j : Nat) (A : Nat → Int32) (u : Option ab_V), j + 1 + i = N → j + 1 ≤ P → ∃ A' : Nat → Int32, ab_at X (d + 4) 343 40 [some (.inr (9, 0)), some (.inl (.int (nI N))), some (.inl (.int (nI P))), some (.inl (.int (nI (bst (fun y => hrs nm (it f y) n n) (j + 1))))), some (.inl (.int (nI (hrs nm (it f (bst (fun y => hrs nm (it f y) n n) (j + 1))) n n)))), some (.inl (.int (nI (j + 2)))), u] [] (pa s 14 A) = some (.inl (some (.inl (.int (nI (bst (fun y => hrs nm (it f y) n n) N))))), pa s 14 A')
  | 0, j, A, u, e, hj => by
    refine ⟨A, ?_⟩
    obtain rfl : j + 1 = N := by omega
    rw [b343_40, if_pos (nI_lt (by omega) (by omega))]
  | i + 1, j, A, u, e, hj => by
    have hn := h.2.1
    have hle := hrs_le (nm := nm) (a := it f (bst (fun y => hrs nm (it f y) n n) (j + 1))) (n := n) (fun q hq => it_lt hf _ hq) (Nat.le_refl _) hn
    have hle2 := hrs_le (nm := nm) (a := it f (j + 2)) (n := n) (fun q hq => it_lt hf _ hq) (Nat.le_refl _) hn
    have hb := b343_40 (X := X) (d := d + 3) (x1 := nI N) (x2 := nI P) (x3 := nI (bst (fun y => hrs nm (it f y) n n) (j + 1))) (x4 := nI (hrs nm (it f (bst (fun y => hrs nm (it f y) n n) (j + 1))) n n)) (x5 := nI (j + 2)) (u6 := u) (s := pa s 14 A)
    rw [if_neg (nI_nlt (by omega) (by omega))] at hb
    by_cases qP : P < j + 2
    · have eP : P = j + 1 := by omega
      have h0 : hrs nm (it f P) n n = 0 := by
        have : hrs nm (it f P) n n = sm (fun _ => 0) n := sm_cong (fun q hq => by
          rw [hP2 q hq]
          unfold adf
          split <;> omega)
        rw [this]
        have hz : ∀ k, sm (fun _ => 0) k = 0 := fun k => by
          induction k with
          | zero => rfl
          | succ k ih => rw [sm, ih]
        exact hz n
      have q0 : hrs nm (it f (bst (fun y => hrs nm (it f y) n n) (j + 1))) n n = 0 := by
        have q1 : hrs nm (it f (bst (fun y => hrs nm (it f y) n n) (j + 1))) n n ≤ hrs nm (it f P) n n := (bst_le (fun y => hrs nm (it f y) n n) (j + 1) (by omega)).2.2 P hP1 (by omega)
        omega
      have e1 := bst_stop (fun y => hrs nm (it f y) n n) (show 1 ≤ j + 1 by omega) q0 (i + 1)
      rw [show j + 1 + (i + 1) = N by omega] at e1
      exact ⟨A, by rw [hb, if_pos (nI_lt qP (by omega)), e1]⟩
    · obtain ⟨B, g1⟩ := r341 (X := X) (d := d) (s := pa s 14 A) (x := nI (j + 2)) (h.same rfl) h2 hf hi
      have e4 : pa (pa s 14 A) 14 B = pa s 14 B := by simp (disch := omega) only [E1]
      have e5 : hrs nm (fun q => ah f n q (nI (j + 2)).toInt) n n = hrs nm (it f (j + 2)) n n := sm_cong (fun q hq => by
        have e6 : ah f n q (nI (j + 2)).toInt = it f (j + 2) q := by rw [nI_toInt (by omega), ah_nat hf hi hq]
        show (if ct nm n (nm q) = 1 then adf (ah f n q (nI (j + 2)).toInt) q else 0) = _
        rw [e6])
      rw [e4, e5] at g1
      obtain ⟨A', i1⟩ := l343 hN hP hP1 h h2 hf hi hP2 i (j + 1) B (some (.inl (.int (nI (hrs nm (it f (j + 2)) n n))))) (by omega) (by omega)
      refine ⟨A', ?_⟩
      have eb := bst_s (fun y => hrs nm (it f y) n n) (show 1 ≤ j + 1 by omega)
      rw [hb, if_neg (nI_nlt (by omega) (by omega)), g1, e_bI, nI_add, ← i1, eb]
      show _ = ab_at X (d + 4) 343 40 [some (.inr (9, 0)), some (.inl (.int (nI N))), some (.inl (.int (nI P))), some (.inl (.int (nI (if hrs nm (it f (j + 2)) n n < hrs nm (it f (bst (fun y => hrs nm (it f y) n n) (j + 1))) n n then j + 2 else bst (fun y => hrs nm (it f y) n n) (j + 1))))), some (.inl (.int (nI (hrs nm (it f (if hrs nm (it f (j + 2)) n n < hrs nm (it f (bst (fun y => hrs nm (it f y) n n) (j + 1))) n n then j + 2 else bst (fun y => hrs nm (it f y) n n) (j + 1))) n n)))), _, _] [] _
      by_cases q : hrs nm (it f (j + 2)) n n < hrs nm (it f (bst (fun y => hrs nm (it f y) n n) (j + 1))) n n
      · rw [if_pos q, if_pos (nI_lt q (by omega))]
      · rw [if_neg q, if_neg (nI_nlt (by omega) (by omega))]
theorem bst_cong {H K : Nat → Nat} (h : ∀ y, H y = K y) (k : Nat) : bst H k = bst K k := by
  have : H = K := funext h
  rw [this]
theorem o204 (h : BW s n nm nr z st bm by') (hk : k + 5 < X.2) (hX : X.2 < 2 ^ 31) : ∃ (s2 : ab_S) (v5 v6 : Option ab_V), sW s s2 ∧ ab_at X (d + 31) 360 2625 [some (.inr (14, 0)), some (.inr (0, 0)), some (.inr (9, 0)), some (.inr (15, 0)), some (.inl (.int (nI k))), u5, u6, none] [] s = ab_at X (d + 31) 360 23 [some (.inr (14, 0)), some (.inr (0, 0)), some (.inr (9, 0)), some (.inr (15, 0)), some (.inl (.int (nI (k + 6)))), v5, v6, none] [] s2 := by
  obtain ⟨hT, hR⟩ := id h
  obtain ⟨hcn, hn, t3, t4, -⟩ := id hT
  have hr1 : sa (ths s) 8 1 = nI n := hR.1
  have i_1 : (nI 1).toInt = 1 := by decide
  have j_1 : (lN 1).toInt = 1 := by decide
  have i_999 : (nI 999).toInt = 999 := by decide
  have j_999 : (lN 999).toInt = 999 := by decide
  by_cases h1 : inR (X.1 (k + 1)).toInt 1 999 = true
  rotate_left
  · have cc : ab_ev X (d + 30) 204 [.inr (0, 0), .inl (.int (X.1 (k + 1))), .inr (15, 0)] s = some (.inl (some (.inl (.int (nI 1)))), ths s) := by
      rw [b204, b205, c_n103, i_1, i_999, if_neg h1, e_xU, e_px, e_xI]
      rfl
    have r : ab_ev X (d + 30) 343 [.inr (9, 0), .inl (.int (X.1 (k + 1)))] (ths s) = some (.inl (some (.inl (.int (nI 0)))), pz (ths s) 11 (nI 1)) := by
      rw [b343, r232, j_of, j_1, j_999, if_neg h1, e_bI, if_pos rfl, b233, e_bI, pz2]
    exact ⟨_, _, _, Or.inr (sV_pz (by omega)), w2625 hk hX cc r rfl (fun q => absurd q (by decide))⟩
  have hg : ∀ q, q < n → inv (to_ nr z st bm by') n q < n := fun q hq => (inv_lt hT.to_lt hT.to_inj hq).1
  have hgf : ∀ q, q < n → inv (to_ nr z st bm by') n (to_ nr z st bm by' q) = q := fun q hq => inv_f hT.to_inj hq
  have hgi : ∀ a b, a < n → b < n → inv (to_ nr z st bm by') n a = inv (to_ nr z st bm by') n b → a = b := fun a b ha hb e => by
    have q1 := (inv_lt hT.to_lt hT.to_inj ha).2
    have q2 := (inv_lt hT.to_lt hT.to_inj hb).2
    rw [← q1, ← q2, e]
  obtain ⟨N, hN, ev⟩ := inS_rep (x := X.1 (k + 1)) (n := 1000) (inS_def.mpr (by have := inR_iff.mp h1; omega))
  have hN1 : 1 ≤ N := by
    have h2 := (inR_iff.mp h1).1
    rw [ev, nI_toInt (by omega)] at h2
    omega
  obtain ⟨s1, a1, a2, a3⟩ := c_look (X := X) (d := d + 25) hT
  obtain ⟨o1, o2, o3, o4, o5, o6⟩ := id a3
  obtain ⟨G0, g1, g2⟩ := c_step (X := X) (d := d + 27) (s := s1) (n := n) (src := fun q => q) o1 hn o5 o6 (fun q hq => hq)
  have e : ab_ev X (d + 28) 203 [.inr (6, 0)] (pa s1 4 G0) = _ := c_harmThen (s := pa s1 4 G0) (nm := nm) (src := it (inv (to_ nr z st bm by') n) 1) o1 o2 hn (fun q hq => by simp (disch := omega) only [E0]; exact o3 q hq) t4 (fun q hq => by simp (disch := omega) only [E0]; exact g2 q hq) (fun q hq => it_lt hg _ hq)
  obtain ⟨G, l1⟩ := l205 (X := X) (d := d + 26) (s := s1) (N := N) (by omega) o1 o2 hn o3 t4 o5 hg (N - 1) 0 G0 none (by omega) g2
  obtain ⟨w, hw⟩ : ∃ w, w = nI (bst (fun y => hrm nm (it (inv (to_ nr z st bm by') n) y) n n) N) := ⟨_, rfl⟩
  rw [← hw] at l1
  have cc : ab_ev X (d + 30) 204 [.inr (0, 0), .inl (.int (X.1 (k + 1))), .inr (15, 0)] s = some (.inl (some (.inl (.int (nI 0)))), pb (pa s1 4 G) 3 (va_up (sb (pa s1 4 G) 3) 0 w.toInt64)) := by
    have l1' : ab_at X (d + 29) 205 40 [some (.inr (0, 0)), some (.inl (.int (nI N))), some (.inl (.int (nI 1))), some (.inl (.int (nI (hrm nm (it (inv (to_ nr z st bm by') n) 1) n n)))), some (.inl (.int (nI 2))), none] [] (pa s1 4 G0) = _ := l1
    rw [b204, b205, c_n103, i_1, i_999, if_pos h1, e_bU, a1, e_bU, g1, e_bU, e, e_bI, ev, l1', e_bI]
  have hV : sV s (pz (pb (pa s1 4 G) 3 (va_up (sb (pa s1 4 G) 3) 0 w.toInt64)) 11 (nI 0)) := sV_trans a2.V (sV_trans (sO_pa (by omega) (by omega)).V (sV_trans sV_pb (sV_pz (by omega))))
  have hb := h.same hV
  obtain ⟨s2, r1, r2, r3, -, r5⟩ := r320 (X := X) (d := d + 6) hb.2
  obtain ⟨b1, b2⟩ := pr_L hn hT.to_lt hT.to_inj n (Nat.le_refl n)
  have b3 := pr_lt hn hT.to_lt hT.to_inj
  obtain ⟨A, q1⟩ := r341 (X := X) (d := d + 26) (x := nI 1) (hb.same r2.V).2 r5 hT.to_lt hT.to_inj
  have e7 : hrs nm (fun q => ah (to_ nr z st bm by') n q (nI 1).toInt) n n = hrs nm (it (to_ nr z st bm by') 1) n n := sm_cong (fun q hq => by
    have e6 : ah (to_ nr z st bm by') n q (nI 1).toInt = it (to_ nr z st bm by') 1 q := by rw [nI_toInt (by decide), ah_nat hT.to_lt hT.to_inj hq]
    show (if ct nm n (nm q) = 1 then adf (ah (to_ nr z st bm by') n q (nI 1).toInt) q else 0) = _
    rw [e6])
  rw [e7] at q1
  obtain ⟨A2, l2⟩ := l343 (X := X) (d := d + 26) (N := N) (P := pr (to_ nr z st bm by') n n) (by omega) b3 b2 (hb.same r2.V).2 r5 hT.to_lt hT.to_inj (fun q hq => pr_it hT.to_lt hT.to_inj hq) (N - 1) 0 A none (by omega) b2
  have ew : w = nI (bst (fun y => hrs nm (it (to_ nr z st bm by') y) n n) N) := by
    rw [hw]
    exact congrArg nI (bst_cong (fun y => harm_eq t4 (fun q hq => it_lt hT.to_lt _ hq) (fun a b ha hb => it_inj hT.to_lt hT.to_inj y ha hb) (fun q hq => it_back hT.to_lt hgf y hq)) N)
  have r : ab_ev X (d + 30) 343 [.inr (9, 0), .inl (.int (X.1 (k + 1)))] (pb (pa s1 4 G) 3 (va_up (sb (pa s1 4 G) 3) 0 w.toInt64)) = some (.inl (some (.inl (.int w))), pa s2 14 A2) := by
    rw [b343, r232, j_of, j_1, j_999, if_pos h1, e_bI, if_neg (show ¬ nI 1 = nI 0 by decide), r1, e_bI, q1, e_bI, ev]
    rw [← ew] at l2
    exact l2
  refine ⟨_, _, _, Or.inl (sV_trans hV (sV_trans r2.V (sR_pa (by omega) (by omega)).V)), w2625 hk hX cc r r3 (fun _ => ?_)⟩
  show sb s2 3 0 = _
  rw [r2.2.2.2.2.2.2.1]
  rfl
end OP15
