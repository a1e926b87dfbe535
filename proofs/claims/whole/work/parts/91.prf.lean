/-! Whole calls: perform, judge. -/
/-- what a told number means -/
def dd (y : Int64) : Dd := if y.toInt = -1 then none else some (decide (400 ≤ y.toInt), y.toInt.toNat % 400 % 20, y.toInt.toNat % 400 / 20)
theorem dd_night {n : Nat} {y : Int64} (h : y.toInt = -1) : dd y = none ∧ y.toInt32 = dcode (dd y) ∧ dok n (dd y) := by
  have e : y = -lN 1 := Int64.toInt_inj.mp (by rw [h]; decide)
  have e2 : dd y = none := if_pos h
  refine ⟨e2, ?_, ?_⟩
  · rw [e2, e]
    decide
  · rw [e2]
    trivial
theorem dd_other {n : Nat} {y : Int64} (h : ¬ y.toInt = -1) (ht : trb n y = 0) : ∃ v u : Nat, v < n ∧ u < n ∧ v < 20 ∧ u < 20 ∧ ((y.toInt32 = nI (v + 20 * u) ∧ dd y = some (false, v, u)) ∨ (y.toInt32 = nI (v + 20 * u + 400) ∧ dd y = some (true, v, u))) := by
  unfold trb at ht
  rw [if_neg h] at ht
  by_cases h1 : y.toInt < 0 ∨ 800 ≤ y.toInt
  · rw [if_pos h1] at ht
    cases ht
  · rw [if_neg h1] at ht
    by_cases h2 : n ≤ y.toInt.toNat % 400 % 20 ∨ n ≤ y.toInt.toNat % 400 / 20
    · rw [if_pos h2] at ht
      cases ht
    · refine ⟨y.toInt.toNat % 400 % 20, y.toInt.toNat % 400 / 20, by omega, by omega, by omega, by omega, ?_⟩
      have e : y = lN y.toInt.toNat := lN_rep (by omega)
      have e32 : y.toInt32 = nI y.toInt.toNat := by
        rw [e]
        have : (lN y.toInt.toNat).toInt = (y.toInt.toNat : Int) := lN_int (by omega)
        rw [this]
        exact Int64.toInt32_ofNat'
      by_cases h4 : 400 ≤ y.toInt
      · refine Or.inr ⟨?_, ?_⟩
        · rw [e32]
          exact congrArg nI (by omega)
        · unfold dd
          rw [if_neg h, decide_eq_true h4]
      · refine Or.inl ⟨?_, ?_⟩
        · rw [e32]
          exact congrArg nI (by omega)
        · unfold dd
          rw [if_neg h, decide_eq_false h4]
theorem dd_ok {n : Nat} {y : Int64} (ht : trb n y = 0) : dok n (dd y) ∧ y.toInt32 = dcode (dd y) := by
  by_cases h : y.toInt = -1
  · exact ⟨(dd_night h).2.2, (dd_night (n := n) h).2.1⟩
  · obtain ⟨v, u, h1, h2, -, -, ⟨h3, h4⟩ | ⟨h3, h4⟩⟩ := dd_other h ht
    · rw [h4, h3]
      exact ⟨⟨h1, h2⟩, rfl⟩
    · rw [h4, h3]
      exact ⟨⟨h1, h2⟩, rfl⟩
/-- deeds with the pictures kept: names, row, how many kept, how many moved -/
def gsq (n : Nat) (gi : Nat → Nat) (sg : Nat → Int32) (ml : Nat) (D : Nat → Dd) (nm : Nat → Nat) (g : Nat → Int32) (m : Nat) : Nat → (Nat → Nat) × (Nat → Int32) × Nat × Nat
  | 0 => (nm, g, m, 0)
  | k + 1 => ((dstep n gi sg ml (D k) ((gsq n gi sg ml D nm g m k).1, kpF (gsq n gi sg ml D nm g m k).2.1 (gsq n gi sg ml D nm g m k).2.2.1)).1, (dstep n gi sg ml (D k) ((gsq n gi sg ml D nm g m k).1, kpF (gsq n gi sg ml D nm g m k).2.1 (gsq n gi sg ml D nm g m k).2.2.1)).2, min (gsq n gi sg ml D nm g m k).2.2.1 9 + 1, (gsq n gi sg ml D nm g m k).2.2.2 + dret n sg ml (D k) ((gsq n gi sg ml D nm g m k).1, kpF (gsq n gi sg ml D nm g m k).2.1 (gsq n gi sg ml D nm g m k).2.2.1))
/-- deeds with no pictures kept: names, row, how many moved -/
def hsq (n : Nat) (gi : Nat → Nat) (sg : Nat → Int32) (ml : Nat) (D : Nat → Dd) (nm : Nat → Nat) (g : Nat → Int32) : Nat → (Nat → Nat) × (Nat → Int32) × Nat
  | 0 => (nm, g, 0)
  | k + 1 => ((dstep n gi sg ml (D k) ((hsq n gi sg ml D nm g k).1, (hsq n gi sg ml D nm g k).2.1)).1, (dstep n gi sg ml (D k) ((hsq n gi sg ml D nm g k).1, (hsq n gi sg ml D nm g k).2.1)).2, (hsq n gi sg ml D nm g k).2.2 + dret n sg ml (D k) ((hsq n gi sg ml D nm g k).1, (hsq n gi sg ml D nm g k).2.1))
theorem gsq_m {n ml m : Nat} {gi nm : Nat → Nat} {sg g : Nat → Int32} {D : Nat → Dd} (hm : m ≤ 10) : ∀ k, (gsq n gi sg ml D nm g m k).2.2.1 ≤ 10
  | 0 => hm
  | k + 1 => by
    show min (gsq n gi sg ml D nm g m k).2.2.1 9 + 1 ≤ 10
    omega
theorem gh_eq {n ml m : Nat} {gi nm : Nat → Nat} {sg g : Nat → Int32} {D : Nat → Dd} (hn : n ≤ 20) (hg : ∀ q, q < n → gi q < n) (hm : m ≤ 10) : ∀ k, (∀ j, j < k → dok n (D j)) → (hsq n gi sg ml D nm g k).1 = (gsq n gi sg ml D nm g m k).1 ∧ rEq (gsq n gi sg ml D nm g m k).2.1 (hsq n gi sg ml D nm g k).2.1 ∧ (hsq n gi sg ml D nm g k).2.2 = (gsq n gi sg ml D nm g m k).2.2.2
  | 0, _ => ⟨rfl, rEq_refl _, rfl⟩
  | k + 1, hD => by
    obtain ⟨i1, i2, i3⟩ := gh_eq (ml := ml) (nm := nm) (sg := sg) (g := g) hn hg hm k (fun j hj => hD j (by omega))
    have h1 : rEq (kpF (gsq n gi sg ml D nm g m k).2.1 (gsq n gi sg ml D nm g m k).2.2.1) (hsq n gi sg ml D nm g k).2.1 := rEq_trans (rEq_symm (rEq_kp (gsq_m hm k))) i2
    obtain ⟨j1, j2, j3⟩ := dstep_eq (ml := ml) (sg := sg) (nm := (gsq n gi sg ml D nm g m k).1) hn hg (hD k (by omega)) h1
    rw [← i1] at j1 j2 j3
    refine ⟨j1.trans (by rw [i1]; rfl), ?_, ?_⟩
    · have := j3
      rw [i1] at this
      show rEq (dstep n gi sg ml (D k) ((gsq n gi sg ml D nm g m k).1, kpF (gsq n gi sg ml D nm g m k).2.1 (gsq n gi sg ml D nm g m k).2.2.1)).2 (dstep n gi sg ml (D k) ((hsq n gi sg ml D nm g k).1, (hsq n gi sg ml D nm g k).2.1)).2
      rw [i1]
      exact this
    · show (hsq n gi sg ml D nm g k).2.2 + dret n sg ml (D k) ((hsq n gi sg ml D nm g k).1, (hsq n gi sg ml D nm g k).2.1) = (gsq n gi sg ml D nm g m k).2.2.2 + dret n sg ml (D k) ((gsq n gi sg ml D nm g m k).1, kpF (gsq n gi sg ml D nm g m k).2.1 (gsq n gi sg ml D nm g m k).2.2.1)
      rw [i3, j2, i1]
theorem bD_le (sg : Nat → Int32) (ml : Nat) (g : Nat → Int32) (w : Nat) : bD sg ml g w ≤ 1 := by
  unfold bD
  split <;> omega
theorem dret_le {n ml : Nat} {sg : Nat → Int32} {D : Dd} {p : (Nat → Nat) × (Nat → Int32)} : dret n sg ml D p ≤ 1 := by
  match D with
  | none => exact bD_le _ _ _ _
  | some _ => exact Nat.zero_le _
theorem gsq_le {n ml m : Nat} {gi nm : Nat → Nat} {sg g : Nat → Int32} {D : Nat → Dd} : ∀ k, (gsq n gi sg ml D nm g m k).2.2.2 ≤ k
  | 0 => Nat.le_refl _
  | k + 1 => by
    have := gsq_le (n := n) (ml := ml) (m := m) (gi := gi) (nm := nm) (sg := sg) (g := g) (D := D) k
    have h2 := dret_le (n := n) (ml := ml) (sg := sg) (D := D k) (p := ((gsq n gi sg ml D nm g m k).1, kpF (gsq n gi sg ml D nm g m k).2.1 (gsq n gi sg ml D nm g m k).2.2.1))
    show (gsq n gi sg ml D nm g m k).2.2.2 + dret n sg ml (D k) ((gsq n gi sg ml D nm g m k).1, kpF (gsq n gi sg ml D nm g m k).2.1 (gsq n gi sg ml D nm g m k).2.2.1) ≤ k + 1
    omega
theorem pk8 {a : Nat} (h : a < 800) : nI a - nI a / nI 400 * nI 400 - (nI a - nI a / nI 400 * nI 400) / nI 20 * nI 20 = nI (a % 400 % 20) ∧ (nI a - nI a / nI 400 * nI 400) / nI 20 = nI (a % 400 / 20) := by
  rw [n_rem (by omega) (by omega) (by omega), n_rem (by omega) (by omega) (by omega), n_div (by omega) (by omega)]
  exact ⟨rfl, rfl⟩
section PRF
variable {X : (Nat → Int32) × Nat} {d k i n nr bm np hs ml m : Nat} {u5 u6 : Option ab_V} {s : ab_S} {nm z lo li : Nat → Nat} {st : Nat → Nat → Nat} {by' g : Nat → Int32}
theorem DF.tray {s' : ab_S} {t : Nat} (h : DF s s' i) : si s' 10 t = si s 10 t ∧ si s' 11 t = si s 11 t ∧ sB s' = sB s := ⟨h.1.2.2.1 10 t (Or.inr (by decide)), h.1.2.2.1 11 t (Or.inr (by decide)), h.1.2.2.2.2.2.2.1⟩
/-- the told deeds, done by the class -/
theorem l154 {t M N : Nat} (h : CW s i g n nr np hs ml m by' nm z st bm lo li) (hi : i ≤ 1) (hz : si s 11 t = nI M) (hM : M ≤ 30) (hN : N ≤ M) (hD : ∀ q, q < N → trb n (sB s 0 t q) = 0) : ∀ (j c : Nat) (s1 : ab_S) (u6 u7 u8 : Option ab_V), c + j = N → DF s s1 i → CW s1 i (gsq n (inv (to_ nr z st bm by') n) (sA s 6 i) ml (fun q => dd (sB s 0 t q)) nm g m c).2.1 n nr np hs ml (gsq n (inv (to_ nr z st bm by') n) (sA s 6 i) ml (fun q => dd (sB s 0 t q)) nm g m c).2.2.1 by' (gsq n (inv (to_ nr z st bm by') n) (sA s 6 i) ml (fun q => dd (sB s 0 t q)) nm g m c).1 z st bm lo li → ∃ s' : ab_S, ab_at X (d + 6) 154 6 [some (.inr (0, 0)), some (.inr (8, t)), some (.inl (.int (nI N))), some (.inr (2, i)), some (.inl (.int (nI (gsq n (inv (to_ nr z st bm by') n) (sA s 6 i) ml (fun q => dd (sB s 0 t q)) nm g m c).2.2.2))), some (.inl (.int (nI c))), u6, u7, u8] [] s1 = some (.inl (some (.inl (.int (nI (gsq n (inv (to_ nr z st bm by') n) (sA s 6 i) ml (fun q => dd (sB s 0 t q)) nm g m N).2.2.2)))), s') ∧ DF s s' i ∧ CW s' i (gsq n (inv (to_ nr z st bm by') n) (sA s 6 i) ml (fun q => dd (sB s 0 t q)) nm g m N).2.1 n nr np hs ml (gsq n (inv (to_ nr z st bm by') n) (sA s 6 i) ml (fun q => dd (sB s 0 t q)) nm g m N).2.2.1 by' (gsq n (inv (to_ nr z st bm by') n) (sA s 6 i) ml (fun q => dd (sB s 0 t q)) nm g m N).1 z st bm lo li
  | 0, c, s1, u6, u7, u8, e, h1, h2 => by
    obtain rfl : c = N := by omega
    exact ⟨s1, by rw [b154_6, if_pos (nI_le (Nat.le_refl _) (by omega))], h1, h2⟩
  | j + 1, c, s1, u6, u7, u8, e, h1, h2 => by
    obtain ⟨y, hy⟩ : ∃ y, y = sB s 0 t c := ⟨_, rfl⟩
    have hc := hD c (by omega)
    rw [← hy] at hc
    have e11 : si s1 11 t = nI M := h1.tray.2.1.trans hz
    have eB : sB s1 0 t c = y := by rw [(h1.tray (t := t)).2.2, hy]
    have eD : (fun q => dd (sB s 0 t q)) c = dd y := by rw [hy]
    have ih := fun (s2 : ab_S) (u6 u7 u8 : Option ab_V) (a : DF s s2 i) b => l154 h hi hz hM hN hD j (c + 1) s2 u6 u7 u8 (by omega) a b
    obtain ⟨P, hP⟩ : ∃ P, P = gsq n (inv (to_ nr z st bm by') n) (sA s 6 i) ml (fun q => dd (sB s 0 t q)) nm g m c := ⟨_, rfl⟩
    obtain ⟨Q, hQ⟩ : ∃ Q, Q = gsq n (inv (to_ nr z st bm by') n) (sA s 6 i) ml (fun q => dd (sB s 0 t q)) nm g m (c + 1) := ⟨_, rfl⟩
    have eQ : Q = ((dstep n (inv (to_ nr z st bm by') n) (sA s 6 i) ml (dd y) (P.1, kpF P.2.1 P.2.2.1)).1, (dstep n (inv (to_ nr z st bm by') n) (sA s 6 i) ml (dd y) (P.1, kpF P.2.1 P.2.2.1)).2, min P.2.2.1 9 + 1, P.2.2.2 + dret n (sA s 6 i) ml (dd y) (P.1, kpF P.2.1 P.2.2.1)) := by
      rw [hQ, hP, hy]
      rfl
    rw [← hP] at h2 ⊢
    rw [← hQ] at ih
    have e6 : sA s1 6 i = sA s 6 i := h1.2.2.2.1
    rw [b154_6, if_neg (nI_ge (by omega) (by omega)), c_get e11 hM (by omega), e_bJ, eB]
    by_cases q1 : y.toInt = -1
    · have e1 : dd y = none := (dd_night (n := n) q1).1
      have e2 : y.toInt32 = -nI 1 := by rw [(dd_night (n := n) q1).2.1, e1]; rfl
      obtain ⟨s2, g1, g2, g3⟩ := h2.ngt (X := X) (d := d) hi
      rw [e6] at g1 g3
      rw [e1] at eQ
      have eQ4 : Q.2.2.2 = P.2.2.2 + bD (sA s 6 i) ml (kpF P.2.1 P.2.2.1) (wrg P.1 n) := by rw [eQ]; rfl
      rw [if_pos e2, g1, e_bI, nI_add, nI_add, ← eQ4]
      refine ih s2 _ _ _ (DF_trans h1 g2) ?_
      rw [eQ]
      exact g3
    · obtain ⟨v, u, hv, hu, hv20, hu20, ⟨e2, e1⟩ | ⟨e2, e1⟩⟩ := dd_other q1 hc
      · obtain ⟨s2, g1, g2, g3⟩ := h2.chg (X := X) (d := d + 3) hi hv hu
        rw [e1] at eQ
        have eQ4 : Q.2.2.2 = P.2.2.2 := by rw [eQ]; rfl
        have p8 := pk8 (a := v + 20 * u) (by omega)
        rw [e2, if_neg (n_m1 _ (by omega)), if_neg (nI_ge (by omega) (by omega)), p8.1, p8.2, show (v + 20 * u) % 400 % 20 = v by omega, show (v + 20 * u) % 400 / 20 = u by omega, g1, e_bI, nI_add, ← eQ4]
        refine ih s2 _ _ _ (DF_trans h1 g2) ?_
        rw [eQ]
        exact g3
      · obtain ⟨s2, g1, g2, g3⟩ := h2.swp (X := X) (d := d + 3) hi hv hu
        rw [e1] at eQ
        have eQ4 : Q.2.2.2 = P.2.2.2 := by rw [eQ]; rfl
        have p8 := pk8 (a := v + 20 * u + 400) (by omega)
        rw [e2, if_neg (n_m1 _ (by omega)), if_pos (nI_le (by omega) (by omega)), p8.1, p8.2, show (v + 20 * u + 400) % 400 % 20 = v by omega, show (v + 20 * u + 400) % 400 / 20 = u by omega, g1, e_bU, nI_add, ← eQ4]
        refine ih s2 _ _ _ (DF_trans h1 g2) ?_
        rw [eQ]
        exact g3
/-- how many told deeds can be, from the first on -/
def ldN (n : Nat) (f : Nat → Int64) (M : Nat) : Nat := fst (fun q => trb n (f q) != 0) M
theorem ldN_ok {f : Nat → Int64} {M q : Nat} (h : q < ldN n f M) : trb n (f q) = 0 := by
  have h1 : (trb n (f q) != 0) = false := fst_no (fun q => trb n (f q) != 0) M q h
  exact bne_eq_false_iff_eq.mp h1
theorem ldN_no {f : Nat → Int64} {M : Nat} (h : ldN n f M < M) : trb n (f (ldN n f M)) ≠ 0 := by
  have h1 : (trb n (f (ldN n f M)) != 0) = true := fst_yes (fun q => trb n (f q) != 0) M h
  exact bne_iff_ne.mp h1
theorem trb_le {y : Int64} : trb n y ≤ 2 := by
  unfold trb
  repeat' split
  all_goals omega
theorem l151 {t M : Nat} (hn : si s 1 0 = nI n) (h20 : n ≤ 20) (hz : si s 11 t = nI M) (hM : M ≤ 30) : ∀ (j c : Nat), c + j = ldN n (sB s 0 t) M → ab_at X (d + 1) 151 2 [some (.inr (0, 0)), some (.inr (8, t)), some (.inl (.int (nI c)))] [] s = some (.inl (some (.inl (.int (nI (ldN n (sB s 0 t) M))))), s)
  | 0, c, e => by
    have hle : ldN n (sB s 0 t) M ≤ M := fst_le _ _
    obtain rfl : c = ldN n (sB s 0 t) M := by omega
    rw [b151_2, hz]
    by_cases q : ldN n (sB s 0 t) M = M
    · rw [if_pos (by rw [q]; exact nI_le (Nat.le_refl _) (by omega))]
    · have h3 := ldN_no (n := n) (f := sB s 0 t) (M := M) (by omega)
      have h4 := trb_le (n := n) (y := sB s 0 t (ldN n (sB s 0 t) M))
      rw [if_neg (nI_ge (by omega) (by omega)), c_get hz hM (by omega), e_bJ, c_trouble hn h20, e_bI, if_neg (fun z => h3 ((nI_eq (by omega) (by omega)).mp z))]
  | j + 1, c, e => by
    have hle : ldN n (sB s 0 t) M ≤ M := fst_le _ _
    have h3 := ldN_ok (n := n) (f := sB s 0 t) (M := M) (q := c) (by omega)
    rw [b151_2, hz, if_neg (nI_ge (by omega) (by omega)), c_get hz hM (by omega), e_bJ, c_trouble hn h20, e_bI, h3, if_pos rfl, nI_add]
    exact l151 hn h20 hz hM j (c + 1) (by omega)
/-- the model's look at a told deed -/
theorem r313 {y : Int64} (hn : sa s 8 1 = nI n) (h20 : n ≤ 20) : ab_ev X (d + 2) 313 [.inr (9, 0), .inl (.long y)] s = some (.inl (some (.inl (.int (nI (trb n y))))), s) := by
  have m1 : (-lN 1).toInt = -1 := by decide
  have j_0 : (lN 0).toInt = 0 := by decide
  have j_799 : (lN 799).toInt = 799 := by decide
  rw [b313]
  unfold trb
  by_cases h1 : y.toInt = -1
  · rw [if_pos ((j_eq _ _).mpr (h1.trans m1.symm)), if_pos h1]
  · rw [if_neg (fun q => h1 (((j_eq _ _).mp q).trans m1)), if_neg h1, r232, j_0, j_799, e_bI]
    by_cases h2 : y.toInt < 0 ∨ 800 ≤ y.toInt
    · have h2' : ¬ inR y.toInt 0 799 = true := fun z => by
        have := inR_iff.mp z
        omega
      rw [if_neg h2', if_pos rfl, if_pos h2]
    · have h2' : inR y.toInt 0 799 = true := inR_iff.mpr (by omega)
      have hy := lN_rep (y := y) (by omega)
      generalize hv : y.toInt.toNat = v at *
      have hv8 : v < 800 := by omega
      have e1 : y - y / lN 20 * lN 20 = lN (v % 20) := by rw [hy, lN_rem (by omega)]
      have e2 : (y - y / lN 400 * lN 400) / lN 20 = lN (v % 400 / 20) := by
        rw [hy, pk_lRem (by omega) (by decide) (by decide), lN_div (by omega)]
      have c1 : ab_ev X (d + 1) 266 [.inr (9, 0), .inl (.long (lN (v % 20)))] s = some (.inl (some (.inl (.int (if decide (v % 20 < n) = true then nI 1 else nI 0)))), s) := by
        have c : inR ((v % 20 : Nat) : Int) 0 ((n : Int) - 1) = decide (v % 20 < n) := by
          unfold inR
          rw [decide_eq_true (by omega), Bool.true_and]
          exact decide_eq_decide.mpr (by omega)
        rw [r266L (n := n) hn (by omega), lN_int (by omega), c]
      have c2 : ab_ev X (d + 1) 266 [.inr (9, 0), .inl (.long (lN (v % 400 / 20)))] s = some (.inl (some (.inl (.int (if decide (v % 400 / 20 < n) = true then nI 1 else nI 0)))), s) := by
        have c : inR ((v % 400 / 20 : Nat) : Int) 0 ((n : Int) - 1) = decide (v % 400 / 20 < n) := by
          unfold inR
          rw [decide_eq_true (by omega), Bool.true_and]
          exact decide_eq_decide.mpr (by omega)
        rw [r266L (n := n) hn (by omega), lN_int (by omega), c]
      have e4 : v % 400 % 20 = v % 20 := by omega
      rw [if_pos h2', if_neg (show ¬ nI 1 = nI 0 by decide), if_neg h2, e1, e2, c1, e_bI, e4]
      by_cases q1 : v % 20 < n
      · rw [decide_eq_true q1, if_pos rfl, if_neg (show ¬ nI 1 = nI 0 by decide), c2, e_bI]
        by_cases q2 : v % 400 / 20 < n
        · rw [decide_eq_true q2, if_pos rfl, if_neg (show ¬ nI 1 = nI 0 by decide), if_neg (show ¬ (n ≤ v % 20 ∨ n ≤ v % 400 / 20) by omega)]
          have c3 : lg_cmp y (lN 400) < nI 0 ↔ v < 400 := by
            rw [j_lt, lN_int (by omega)]
            omega
          have c4 : lg_cmp (lN (v % 20)) (lN (v % 400 / 20)) = nI 0 ↔ v % 20 = v % 400 / 20 := by
            rw [j_eq, lN_int (by omega), lN_int (by omega)]
            omega
          by_cases q3 : v < 400
          · rw [if_pos (c3.mpr q3), if_neg (show ¬ (400 ≤ v ∧ v % 20 = v % 400 / 20) by omega)]
          · rw [if_neg (fun z => q3 (c3.mp z))]
            by_cases q4 : v % 20 = v % 400 / 20
            · rw [if_pos (c4.mpr q4), if_pos ⟨by omega, q4⟩]
            · rw [if_neg (fun z => q4 (c4.mp z)), if_neg (fun z => q4 z.2)]
        · rw [decide_eq_false q2, if_neg (show ¬ false = true by decide), if_pos rfl, if_pos (Or.inr (by omega))]
      · rw [decide_eq_false q1, if_neg (show ¬ false = true by decide), if_pos rfl, if_pos (Or.inl (by omega))]
end PRF
