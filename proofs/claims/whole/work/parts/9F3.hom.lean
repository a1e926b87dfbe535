/-! A whole call: home. -/
theorem LsV_uniq {M f f' : Nat → Nat} {m N : Nat} (h : ∀ i, i < m → LsV M f m N i (f i)) (h' : ∀ i, i < m → LsV M f' m N i (f' i)) : ∀ i, i < m → f' i = f i := by
  intro i
  induction i using Nat.strongRecOn with
  | ind i ih =>
    intro hi
    have a := h i hi
    have b := (LsV_cong (fun j hj => ih j hj (by omega))).mp (h' i hi)
    rcases Nat.lt_trichotomy (f' i) (f i) with z | z | z
    · exact absurd ⟨b.2.1, b.2.2.1⟩ (a.2.2.2 _ z)
    · exact z
    · exact absurd ⟨a.2.1, a.2.2.1⟩ (b.2.2.2 _ z)
/-- the store of the class' letters -/
def kH (s : ab_S) (F : Nat → Int64) (C : Nat → Int32) (c : Nat) : ab_S := pz (pb (pa s 7 C) 0 F) 10 (nI c)
theorem kH_up {s : ab_S} {F F' : Nat → Int64} {C C' : Nat → Int32} {c c' : Nat} : pz (pa (pb (kH s F C c) 0 F') 7 C') 10 (nI c') = kH s F' C' c' := by
  unfold kH
  show pz (pz (pb (pb (pa (pa s 7 C) 7 C') 0 F) 0 F') 10 (nI c)) 10 (nI c') = _
  simp only [E1]
theorem kH_X {s : ab_S} {F : Nat → Int64} {C : Nat → Int32} {c : Nat} : sX s (kH s F C c) := sX_trans (sX_pa (j := 7) (F := C) (by omega)) (sX_trans (sX_pb (j := 0) (F := F) (by omega)) (sX_pz (j := 10) (by omega)))
section HOM
variable {X : (Nat → Int32) × Nat} {d k n nr bm np hs ml m : Nat} {u5 u6 : Option ab_V} {s : ab_S} {nm z f g w lo li : Nat → Nat} {st : Nat → Nat → Nat} {by' : Nat → Int32}
theorem l180h {i : Nat} (hn : n ≤ 20) (h1 : ∀ k, k < n → sa s 1 k = nI (nm k)) (hnm : ∀ k, k < n → nm k < n) (h3 : ∀ k, k < n → sa s 3 k = nI (g k)) (hg : ∀ k, k < n → g k < n) (ht : w i % 20 < n) (hw : w i / 20 < 2 ^ 31) : ∀ (j c : Nat), c + j = 60 → ab_at X (d + 1) 180 9 [some (.inr (6, 0)), some (.inl (.int (nI (w i / 20)))), some (.inl (.int (nI (w i % 20)))), some (.inl (.int (nI 59))), some (.inl (.long (lN (bs (lP nm g w i) c)))), none, some (.inl (.int (nI (it g c (w i % 20))))), some (.inl (.int (nI c)))] [] s = some (.inl (some (.inl (.long (lN (lM nm g w i))))), s)
  | 0, c, e => by
    obtain rfl : c = 60 := by omega
    rw [b180_9, if_pos (nI_lt (by omega) (by omega))]
    rfl
  | j + 1, c, e => by
    have ih := l180h hn h1 hnm h3 hg ht hw j (c + 1) (by omega)
    have c0 := it_lt hg c ht
    have c1 := hnm _ c0
    have eit : it g (c + 1) (w i % 20) = g (it g c (w i % 20)) := rfl
    have eb := bs_orp (lP nm g w i) c
    rw [eit] at ih
    rw [b180_9, if_neg (nI_nlt (by omega) (by omega)), at28 (by omega), e_bI, h1 _ c0, n_l2i c (by omega), l_or, nI_add]
    by_cases q : nm (it g c (w i % 20)) = w i / 20
    · have q' : lP nm g w i c = true := decide_eq_true q
      rw [if_pos q'] at eb
      rw [if_pos (by rw [q]), at30 (by omega), e_bI, h3 _ c0, eb]
      exact ih
    · have q' : ¬ lP nm g w i c = true := fun z => q (of_decide_eq_true z)
      rw [if_neg q', Nat.or_zero] at eb
      rw [if_neg (fun z => q ((nI_eq (by omega) hw).mp z)), at30 (by omega), e_bI, h3 _ c0, eb]
      exact ih
theorem l178 {t : Nat} {x1 x2 : Int32} (hn : n ≤ 20) (h1 : ∀ k, k < n → sa s 1 k = nI (nm k)) (hnm : ∀ k, k < n → nm k < n) (h3 : ∀ k, k < n → sa s 3 k = nI (g k)) (hg : ∀ k, k < n → g k < n) (hm : m ≤ 8) (hz : si s 11 t = nI m) (hw : ∀ i, i < m → sB s 0 t i = lN (w i)) (hw2 : ∀ i, i < m → w i < 400 ∧ w i % 20 < n) : ∀ (j c : Nat) (F : Nat → Int64) (C : Nat → Int32) (u : Option ab_V), c + j = m → (∀ i, i < c → F i = lN (lM nm g w i) ∧ C i = -nI 1) → ∃ (F' : Nat → Int64) (C' : Nat → Int32) (u' : Option ab_V), ab_at X (d + 2) 178 54 [some (.inr (0, 0)), some (.inl (.int x1)), some (.inl (.int x2)), some (.inr (8, t)), some (.inl (.int (nI c))), u] [] (kH s F C c) = ab_at X (d + 2) 178 54 [some (.inr (0, 0)), some (.inl (.int x1)), some (.inl (.int x2)), some (.inr (8, t)), some (.inl (.int (nI m))), u'] [] (kH s F' C' m) ∧ ∀ i, i < m → F' i = lN (lM nm g w i) ∧ C' i = -nI 1
  | 0, c, F, C, u, e, hF => by
    obtain rfl : c = m := by omega
    exact ⟨F, C, u, rfl, hF⟩
  | j + 1, c, F, C, u, e, hF => by
    have hc : c < m := by omega
    obtain ⟨v1, v2⟩ := hw2 c hc
    obtain ⟨F', C', u', g1, g2⟩ := l178 (x1 := x1) (x2 := x2) hn h1 hnm h3 hg hm hz hw hw2 j (c + 1) (va_up F c (lN (lM nm g w c))) (va_up C c (-nI 1)) (some (.inl (.int (nI (w c))))) (by omega) (fun i hi => by
      by_cases z : i = c
      · rw [z, va_up_self, va_up_self]
        exact ⟨rfl, rfl⟩
      · rw [va_up_ne _ _ z, va_up_ne _ _ z]
        exact hF i (by omega))
    refine ⟨F', C', u', ?_, g2⟩
    have hz' : si (kH s F C c) 11 t = nI m := hz
    have hB' : sB (kH s F C c) 0 t c = lN (w c) := hw c hc
    have e10 : sz (kH s F C c) 10 = nI c := by
      unfold kH
      simp (disch := omega) only [E0]
    have e7 : sa (kH s F C c) 7 = C := by
      unfold kH
      simp (disch := omega) only [E0]
    have e0 : sb (kH s F C c) 0 = F := by
      unfold kH
      simp (disch := omega) only [E0]
    have l := l180h (X := X) (d := d) (s := kH s F C c) (i := c) hn (fun q hq => by
      have : sa (kH s F C c) 1 = sa s 1 := by
        unfold kH
        simp (disch := omega) only [E0]
      rw [this]
      exact h1 q hq) hnm (fun q hq => by
      have : sa (kH s F C c) 3 = sa s 3 := by
        unfold kH
        simp (disch := omega) only [E0]
      rw [this]
      exact h3 q hq) hg v2 (by omega) 60 0 (by omega)
    have c180 : ab_ev X (d + 1) 180 [.inr (6, 0), .inl (.int (nI (w c / 20))), .inl (.int (nI (w c % 20))), .inl (.int (nI 59))] (kH s F C c) = some (.inl (some (.inl (.long (lN (lM nm g w c))))), kH s F C c) := by
      rw [b180]
      exact l
    have c181 : ab_ev X (d + 1) 181 [.inr (7, 0), .inl (.long (lN (lM nm g w c)))] (kH s F C c) = some (.inl none, kH s (va_up F c (lN (lM nm g w c))) (va_up C c (-nI 1)) (c + 1)) := by
      have e10' : sz (pa (pb (kH s F C c) 0 (va_up F c (lN (lM nm g w c)))) 7 (va_up C c (-nI 1))) 10 = nI c := e10
      have e7' : sa (pb (kH s F C c) 0 (va_up F c (lN (lM nm g w c)))) 7 = C := e7
      rw [b181, e10, if_neg (nI_ge (by omega) (by omega)), r_in (j := c) (by omega) (by decide), nI_clamp (by omega), e0, put35 (by omega), e_bU, e7', e10', nI_add, kH_up]
    rw [← g1, b178_54, hz', if_neg (nI_ge hc (by omega)), c_get hz' (by omega) hc, e_bJ, hB', l_i, n_rem (by omega) (by omega) (by omega), n_div (by omega) (by omega), c180, e_bJ, c181, e_bU, nI_add]
theorem o177 (h : BW s n nm nr z st bm by') (ht : TR s) (hk : k + 5 < X.2) (hX : X.2 < 2 ^ 31) : ∃ (s2 : ab_S) (v5 v6 : Option ab_V), sY s s2 ∧ ab_at X (d + 31) 360 2137 [some (.inr (14, 0)), some (.inr (0, 0)), some (.inr (9, 0)), some (.inr (15, 0)), some (.inl (.int (nI k))), u5, u6, none] [] s = ab_at X (d + 31) 360 23 [some (.inr (14, 0)), some (.inr (0, 0)), some (.inr (9, 0)), some (.inr (15, 0)), some (.inl (.int (nI (k + 6)))), v5, v6, none] [] s2 := by
  obtain ⟨hT, hR⟩ := id h
  obtain ⟨hcn, hn, t3, t4, -⟩ := id hT
  have hr1 : sa s 8 1 = nI n := hR.1
  by_cases h1 : inS (X.1 (k + 1)) 4 = true
  rotate_left
  · have cc : ab_ev X (d + 30) 177 [.inr (0, 0), .inl (.int (X.1 (k + 1))), .inl (.int (X.1 (k + 2))), .inr (15, 0)] s = some (.inl (some (.inl (.int (nI 1)))), ths s) := by
      rw [b177, b178, c_n150_1 h1, e_xA, e_px, e_xI]
      rfl
    have r : ab_ev X (d + 30) 332 [.inr (9, 0), .inl (.int (X.1 (k + 1))), .inl (.int (X.1 (k + 2)))] (ths s) = some (.inl (some (.inl (.int (nI 0)))), pz (ths s) 11 (nI 1)) := by
      have e9 : sz (pz (ths s) 11 (nI 1)) 11 = nI 1 := by simp (disch := omega) only [E0]
      rw [b332, r325_1 h1, e_bI, if_neg (show ¬ nI 1 = nI 0 by decide), b332_48, e9, if_neg (show ¬ nI 1 ≤ nI 0 by decide)]
    exact ⟨_, _, _, Or.inr (sV_pz (by omega)).X, w2137 hk hX cc r (by simp (disch := omega) only [E0]) (fun q => absurd q (by decide))⟩
  obtain ⟨j, hj, ej⟩ := inS_rep h1
  rcases ht.1 j hj with ⟨q1, q2⟩ | ⟨t, so, m, q1, q2, q3, q4, q5, q6, q7, q8, q9⟩
  · have cc : ab_ev X (d + 30) 177 [.inr (0, 0), .inl (.int (X.1 (k + 1))), .inl (.int (X.1 (k + 2))), .inr (15, 0)] s = some (.inl (some (.inl (.int (nI 2)))), ths s) := by
      rw [b177, b178, ej, c_n150_2 hj q1, e_xA, e_px, e_xI]
      rfl
    have r : ab_ev X (d + 30) 332 [.inr (9, 0), .inl (.int (X.1 (k + 1))), .inl (.int (X.1 (k + 2)))] (ths s) = some (.inl (some (.inl (.int (nI 0)))), pz (ths s) 11 (nI 2)) := by
      have q2' : sa (ths s) 22 j = -nI 1 := q2
      have e9 : sz (pz (ths s) 11 (nI 2)) 11 = nI 2 := by simp (disch := omega) only [E0]
      rw [b332, ej, r325_2 hj q2', e_bI, if_neg (show ¬ nI 2 = nI 0 by decide), b332_48, e9, if_neg (show ¬ nI 2 ≤ nI 0 by decide)]
    exact ⟨_, _, _, Or.inr (sV_pz (by omega)).X, w2137 hk hX cc r (by simp (disch := omega) only [E0]) (fun q => absurd q (by decide))⟩
  by_cases h2 : 1 ≤ m ∧ m ≤ 8 ∧ ∀ q, q < m → LB n (sB s 0 t q) = true
  rotate_left
  · have cc : ab_ev X (d + 30) 177 [.inr (0, 0), .inl (.int (X.1 (k + 1))), .inl (.int (X.1 (k + 2))), .inr (15, 0)] s = some (.inl (some (.inl (.int (nI 3)))), ths s) := by
      rw [b177, b178, ej, c_n150_3 hj q1, e_bA, b178_5, c_163 hcn hn q6 q4 (by omega), if_neg h2, e_xU, e_px, e_xI]
      rfl
    have r : ab_ev X (d + 30) 332 [.inr (9, 0), .inl (.int (X.1 (k + 1))), .inl (.int (X.1 (k + 2)))] (ths s) = some (.inl (some (.inl (.int (nI 0)))), pz (ths s) 11 (nI 3)) := by
      have e9 : sz (pz (ths s) 11 (nI 3)) 11 = nI 3 := by simp (disch := omega) only [E0]
      have h2' : ¬ (1 ≤ m ∧ m ≤ 8 ∧ ∀ q, q < m → LB n (sb (ths s) 2 (30 * j + q)) = true) := fun z => h2 ⟨z.1, z.2.1, fun q hq => by rw [q9 q (by omega)]; exact z.2.2 q hq⟩
      rw [b332, ej, r325 (s := ths s) hr1 hn hj q3 q7 q8 q4 (by omega), if_neg h2', e_bI, if_neg (show ¬ nI 3 = nI 0 by decide), b332_48, e9, if_neg (show ¬ nI 3 ≤ nI 0 by decide)]
    exact ⟨_, _, _, Or.inr (sV_pz (by omega)).X, w2137 hk hX cc r (by simp (disch := omega) only [E0]) (fun q => absurd q (by decide))⟩
  obtain ⟨m1, m8, hLB⟩ := id h2
  have h2m : ∀ u : ab_S, sb u 2 = sb s 2 → 1 ≤ m ∧ m ≤ 8 ∧ ∀ q, q < m → LB n (sb u 2 (30 * j + q)) = true := fun u eu => ⟨m1, m8, fun q hq => by rw [eu, ← q9 q (by omega)]; exact hLB q hq⟩
  have i_10 : (nI 10).toInt = 10 := by decide
  have j_10 : (lN 10).toInt = 10 := by decide
  have eT : (nI 10 + nI m) - nI 1 = nI (9 + m) := by
    rw [nI_add, pk_sub (by omega)]
    exact congrArg nI (by omega)
  have eT2 : nI 9 + nI m = nI (9 + m) := nI_add 9 m
  by_cases h3 : X.1 (k + 2) = nI 0 ∨ inR (X.1 (k + 2)).toInt 10 (9 + m : Nat) = true
  rotate_left
  · have h30 : ¬ X.1 (k + 2) = nI 0 := fun z => h3 (Or.inl z)
    have h31 : ¬ inR (X.1 (k + 2)).toInt 10 (9 + m : Nat) = true := fun z => h3 (Or.inr z)
    have cc : ab_ev X (d + 30) 177 [.inr (0, 0), .inl (.int (X.1 (k + 1))), .inl (.int (X.1 (k + 2))), .inr (15, 0)] s = some (.inl (some (.inl (.int (nI 3)))), ths s) := by
      rw [b177, b178, ej, c_n150_3 hj q1, e_bA, b178_5, c_163 hcn hn q6 q4 (by omega), if_pos h2, e_bU, if_neg h30, q6, eT, c_n103, i_10, nI_toInt (by omega), if_neg h31, e_xU, e_px, e_xI]
      rfl
    have r : ab_ev X (d + 30) 332 [.inr (9, 0), .inl (.int (X.1 (k + 1))), .inl (.int (X.1 (k + 2)))] (ths s) = some (.inl (some (.inl (.int (nI 0)))), pz (ths s) 11 (nI 3)) := by
      have e9 : sz (pz (ths s) 11 (nI 3)) 11 = nI 3 := by simp (disch := omega) only [E0]
      rw [b332, ej, r325 (s := ths s) hr1 hn hj q3 q7 q8 q4 (by omega), if_pos (h2m (ths s) rfl), e_bI, if_pos rfl, if_neg h30, r_in hj (by decide), nI_clamp (by omega)]
      rw [show sa (ths s) 23 j = nI m from q8, eT2, r232, j_of, j_of, j_10, nI_toInt (by omega), if_neg h31, e_bI, if_pos rfl, pz2, b332_48, e9, if_neg (show ¬ nI 3 ≤ nI 0 by decide)]
    exact ⟨_, _, _, Or.inr (sV_pz (by omega)).X, w2137 hk hX cc r (by simp (disch := omega) only [E0]) (fun q => absurd q (by decide))⟩
  -- the letters
  obtain ⟨w, hwd⟩ : ∃ w : Nat → Nat, w = fun i => (sB s 0 t i).toInt.toNat := ⟨_, rfl⟩
  have hLBi : ∀ i, i < m → sB s 0 t i = lN (w i) ∧ w i < 400 ∧ w i % 20 < n := fun i hi => by
    have a := hLB i hi
    unfold LB at a
    have a1 := Bool.and_eq_true_iff.mp a
    have a2 := Bool.and_eq_true_iff.mp a1.2
    have b0 := of_decide_eq_true a1.1
    have b1 := of_decide_eq_true a2.1
    have b2 := of_decide_eq_true a2.2
    rw [hwd]
    exact ⟨lN_rep b0, by show (sB s 0 t i).toInt.toNat < 400; omega, b1⟩
  have hw : ∀ i, i < m → sB s 0 t i = lN (w i) := fun i hi => (hLBi i hi).1
  have hw2 : ∀ i, i < m → w i < 400 ∧ w i % 20 < n := fun i hi => (hLBi i hi).2
  have hwm : ∀ u : ab_S, sb u 2 = sb s 2 → ∀ i, i < m → sb u 2 (30 * j + i) = lN (w i) := fun u eu i hi => by rw [eu, ← q9 i (by omega)]; exact hw i hi
  have hg : ∀ q, q < n → inv (to_ nr z st bm by') n q < n := fun q hq => (inv_lt hT.to_lt hT.to_inj hq).1
  obtain ⟨s1, a1, a2, a3⟩ := c_look (X := X) (d := d + 25) hT
  obtain ⟨o1, o2, o3, o4, o5, o6⟩ := id a3
  have e11 : si s1 11 t = nI m := by rw [a2.2.2.2.1]; exact q6
  have eB1 : sB s1 = sB s := a2.2.2.2.2.2.2.2.1
  obtain ⟨F, C, u', l1, l2⟩ := l178 (X := X) (d := d + 27) (s := s1) (t := t) (w := w) (x1 := nI j) (x2 := X.1 (k + 2)) hn o3 t4 o5 hg m8 e11 (fun i hi => by rw [eB1]; exact hw i hi) hw2 m 0 (sb s1 0) (sa s1 7) none (by omega) (fun i hi => absurd hi (by omega))
  have e0 : kH s1 (sb s1 0) (sa s1 7) 0 = pz s1 10 (nI 0) := by
    unfold kH
    rw [pa_id, pb_id]
  rw [e0] at l1
  have l1' : ab_at X (d + 29) 178 54 [some (.inr (0, 0)), some (.inl (.int (nI j))), some (.inl (.int (X.1 (k + 2)))), some (.inr (8, t)), some (.inl (.int (nI 0))), none] [] (pz s1 10 (nI 0)) = ab_at X (d + 29) 178 54 [some (.inr (0, 0)), some (.inl (.int (nI j))), some (.inl (.int (X.1 (k + 2)))), some (.inr (8, t)), some (.inl (.int (nI m))), u'] [] (kH s1 F C m) := l1
  have pre : ab_ev X (d + 30) 177 [.inr (0, 0), .inl (.int (X.1 (k + 1))), .inl (.int (X.1 (k + 2))), .inr (15, 0)] s = ab_bI (ab_at X (d + 29) 178 54 [some (.inr (0, 0)), some (.inl (.int (nI j))), some (.inl (.int (X.1 (k + 2)))), some (.inr (8, t)), some (.inl (.int (nI m))), u'] [] (kH s1 F C m)) (fun r3 s1 => some (.inl (some (.inl (.int (nI 0)))), (pb s1 3 (va_up (sb s1 3) 0 (r3.toInt64))))) (fun E2 s1 => ab_hx 177 5 [some (.inr (0, 0)), some (.inl (.int (nI j))), some (.inl (.int (X.1 (k + 2)))), some (.inr (15, 0)), none] E2 s1 (fun pc L K s => ab_go X [] (d + 29 + 1) 177 8 pc L K s)) := by
    by_cases h30 : X.1 (k + 2) = nI 0
    · rw [b177, b178, ej, c_n150_3 hj q1, e_bA, b178_5, c_163 hcn hn q6 q4 (by omega), if_pos h2, e_bU, if_pos h30, a1, e_bU, b179, e_bU, l1']
    · have h31 : inR (X.1 (k + 2)).toInt 10 (9 + m : Nat) = true := by
        rcases h3 with z | z
        · exact absurd z h30
        · exact z
      rw [b177, b178, ej, c_n150_3 hj q1, e_bA, b178_5, c_163 hcn hn q6 q4 (by omega), if_pos h2, e_bU, if_neg h30, q6, eT, c_n103, i_10, nI_toInt (by omega), if_pos h31, e_bU, a1, e_bU, b179, e_bU, l1']
  obtain ⟨M, hMd⟩ : ∃ M, M = lM nm (inv (to_ nr z st bm by') n) w := ⟨_, rfl⟩
  have hM : ∀ i, i < m → M i < 2 ^ 60 := fun i _ => by rw [hMd]; exact lM_lt
  have hz10 : sz (kH s1 F C m) 10 = nI m := by
    unfold kH
    simp (disch := omega) only [E0]
  have hk11 : si (kH s1 F C m) 11 t = nI m := e11
  have hF : ∀ i, i < m → sb (kH s1 F C m) 0 i = lN (M i) := fun i hi => by
    have : sb (kH s1 F C m) 0 = F := by
      unfold kH
      simp (disch := omega) only [E0]
    rw [this, hMd]
    exact (l2 i hi).1
  have c182 := c_182 (X := X) (d := d + 24) (s := kH s1 F C m) hz10 m1 m8 hM hF
  have hXk : sX s (kH s1 F C m) := sX_trans a2.V.X kH_X
  have hidx : ¬ X.1 (k + 2) = nI 0 → ∃ i, i < m ∧ X.1 (k + 2) = nI (10 + i) := fun h30 => by
    have h31 : inR (X.1 (k + 2)).toInt 10 (9 + m : Nat) = true := by
      rcases h3 with z | z
      · exact absurd z h30
      · exact z
    obtain ⟨v, hv, ev⟩ := inS_rep (x := X.1 (k + 2)) (n := 10 + m) (inS_def.mpr (by have := inR_iff.mp h31; omega))
    have := inR_iff.mp h31
    rw [ev, nI_toInt (by omega)] at this
    exact ⟨v - 10, by omega, by rw [ev]; exact congrArg nI (by omega)⟩
  -- the model's end
  have fin : ∀ (A : Int32) (u : ab_S), ab_ev X (d + 30) 177 [.inr (0, 0), .inl (.int (X.1 (k + 1))), .inl (.int (X.1 (k + 2))), .inr (15, 0)] s = some (.inl (some (.inl (.int (nI 0)))), pb u 3 (va_up (sb u 3) 0 A.toInt64)) → sX s u → (∀ t2 : ab_S, sX (pz (pb u 3 (va_up (sb u 3) 0 A.toInt64)) 11 (nI 0)) t2 → sz t2 11 = nI 0 → sb t2 3 = va_up (sb u 3) 0 A.toInt64 → ((ab_ev X (d + 29) 333 [.inr (9, 0), .inl (.int (nI j))] (pz (pb u 3 (va_up (sb u 3) 0 A.toInt64)) 11 (nI 0)) = some (.inl (some (.inl (.int (-nI 1)))), t2) ∧ ∀ N, N ≤ 60 → 0 < N → ¬ HL (bb M (fun _ => 60)) m N) ∨ ∃ (N0 : Nat) (f : Nat → Nat), N0 < 60 ∧ ab_ev X (d + 29) 333 [.inr (9, 0), .inl (.int (nI j))] (pz (pb u 3 (va_up (sb u 3) 0 A.toInt64)) 11 (nI 0)) = some (.inl (some (.inl (.int (nI N0)))), t2) ∧ HL (bb M (fun _ => 60)) m (N0 + 1) ∧ (∀ N, N ≤ N0 → 0 < N → ¬ HL (bb M (fun _ => 60)) m N) ∧ (∀ i, i < m → sa t2 21 i = nI (f i)) ∧ ∀ i, i < m → LsV M f m (N0 + 1) i (f i)) → ab_at X (d + 30) 332 48 [some (.inr (9, 0)), some (.inl (.int (nI j))), some (.inl (.int (X.1 (k + 2)))), none] [] (pz (pb u 3 (va_up (sb u 3) 0 A.toInt64)) 11 (nI 0)) = some (.inl (some (.inl (.int A))), t2)) → ∃ (s2 : ab_S) (v5 v6 : Option ab_V), sY s s2 ∧ ab_at X (d + 31) 360 2137 [some (.inr (14, 0)), some (.inr (0, 0)), some (.inr (9, 0)), some (.inr (15, 0)), some (.inl (.int (nI k))), u5, u6, none] [] s = ab_at X (d + 31) 360 23 [some (.inr (14, 0)), some (.inr (0, 0)), some (.inr (9, 0)), some (.inr (15, 0)), some (.inl (.int (nI (k + 6)))), v5, v6, none] [] s2 := by
    intro A u cc hXu hend
    obtain ⟨sM, hsM⟩ : ∃ sM, sM = pz (pb u 3 (va_up (sb u 3) 0 A.toInt64)) 11 (nI 0) := ⟨_, rfl⟩
    have hXM : sX s sM := by
      rw [hsM]
      exact sX_trans hXu (sX_trans (sX_pb (j := 3) (by omega)) (sX_pz (j := 11) (by omega)))
    have e8 : sa sM 8 = sa s 8 := hXM.2.2.2.1 8 (by omega)
    have eb2 : sb sM 2 = sb s 2 := hXM.2.2.2.2.2.1
    have e23 : sa sM 23 j = nI m := by rw [hXM.2.2.2.1 23 (by omega)]; exact q8
    have e22 : sa sM 22 j = nI so := by rw [hXM.2.2.2.1 22 (by omega)]; exact q7
    obtain ⟨t2, b1, b2, b3, b4⟩ := r333 (X := X) (d := d + 16) (s := sM) (w := w) (hR.same e8) hj m8 e23 (hwm sM eb2) hw2
    rw [← hMd] at b4
    have e9M : sz sM 11 = nI 0 := by
      rw [hsM]
      simp (disch := omega) only [E0]
    have e3M : sb sM 3 = va_up (sb u 3) 0 A.toInt64 := by
      rw [hsM]
      simp (disch := omega) only [E0]
    have hE := hend t2 (by rw [← hsM]; exact b1) (b2.trans e9M) (b3.trans e3M) (by rw [← hsM]; exact b4)
    rw [← hsM] at hE
    have r : ab_ev X (d + 30) 332 [.inr (9, 0), .inl (.int (X.1 (k + 1))), .inl (.int (X.1 (k + 2)))] (pb u 3 (va_up (sb u 3) 0 A.toInt64)) = some (.inl (some (.inl (.int A))), t2) := by
      have e8' : sa (pb u 3 (va_up (sb u 3) 0 A.toInt64)) 8 1 = nI n := by
        show sa u 8 1 = _
        rw [hXu.2.2.2.1 8 (by omega)]
        exact hr1
      have e22' : sa (pb u 3 (va_up (sb u 3) 0 A.toInt64)) 22 j = nI so := by
        show sa u 22 j = _
        rw [hXu.2.2.2.1 22 (by omega)]
        exact q7
      have e23' : sa (pb u 3 (va_up (sb u 3) 0 A.toInt64)) 23 j = nI m := by
        show sa u 23 j = _
        rw [hXu.2.2.2.1 23 (by omega)]
        exact q8
      have eb2' : sb (pb u 3 (va_up (sb u 3) 0 A.toInt64)) 2 = sb s 2 := by
        show va_up (sb u) 3 (va_up (sb u 3) 0 A.toInt64) 2 = _
        rw [va_up_ne _ _ (by omega)]
        exact hXu.2.2.2.2.2.1
      rw [b332, ej, r325 e8' hn hj q3 e22' e23' q4 (by omega), if_pos (h2m _ eb2'), e_bI, if_pos rfl]
      by_cases h30 : X.1 (k + 2) = nI 0
      · rw [if_pos h30, ← hsM]
        exact hE
      · have h31 : inR (X.1 (k + 2)).toInt 10 (9 + m : Nat) = true := by
          rcases h3 with z | z
          · exact absurd z h30
          · exact z
        rw [if_neg h30, r_in hj (by decide), nI_clamp (by omega), e23', eT2, r232, j_of, j_of, j_10, nI_toInt (by omega), if_pos h31, e_bI, if_neg (show ¬ nI 1 = nI 0 by decide), ← hsM]
        exact hE
    exact ⟨t2, _, _, Or.inl (sX_trans hXM b1), w2137 hk hX cc r (b2.trans e9M) (fun _ => by rw [b3, e3M, va_up_self])⟩
  -- what the letters come to
  have rs := r333 (X := X) (d := d) (s := s) (w := w) hR hj m8 q8 (hwm s rfl) hw2
  rw [← hMd] at rs
  obtain ⟨t0, _, _, _, rs⟩ := rs
  have hC1 : sa (kH s1 F C m) 7 = C := by
    unfold kH
    simp (disch := omega) only [E0]
  rcases rs with ⟨-, no⟩ | ⟨N0, f, n1, -, n2, n3, -, n4⟩
  · have c1 := c182.1 no
    have c1' : ab_ev X (d + 28) 182 [.inr (7, 0)] (kH s1 F C m) = _ := c1
    refine fin (-nI 1) (kH s1 F C m) ?_ hXk (fun t2 hx2 e9 e3 hh => ?_)
    · rw [pre, b178_54, hk11, if_pos (nI_le (Nat.le_refl _) (by omega)), c1', e_bI]
      by_cases h30 : X.1 (k + 2) = nI 0
      · rw [if_pos h30, e_bI]
      · obtain ⟨i, hi, ei⟩ := hidx h30
        have e2 : X.1 (k + 2) - nI 10 = nI i := by
          rw [ei, pk_sub (by omega)]
          exact congrArg nI (by omega)
        rw [if_neg h30, e2, b189, at35 (by omega), e_bI, e_bI, hC1, (l2 i hi).2, e_bI]
    · rcases hh with ⟨g1, -⟩ | ⟨N1, f1, g0, -, g2, -⟩
      · rw [b332_48, show sz (pz (pb (kH s1 F C m) 3 (va_up (sb (kH s1 F C m) 3) 0 (-nI 1).toInt64)) 11 (nI 0)) 11 = nI 0 by simp (disch := omega) only [E0], if_pos (show nI 0 ≤ nI 0 by decide), g1, e_bI, if_pos rfl, b332_72, b332_85]
      · exact absurd g2 (no (N1 + 1) (by omega) (by omega))
  · obtain ⟨C2, F2, c1, c2⟩ := c182.2 N0 f n1 n2 n3 n4
    have c1' : ab_ev X (d + 28) 182 [.inr (7, 0)] (kH s1 F C m) = _ := c1
    obtain ⟨u, hu⟩ : ∃ u, u = pb (pa (kH s1 F C m) 7 C2) 0 F2 := ⟨_, rfl⟩
    rw [← hu] at c1'
    have hXu : sX s u := by
      rw [hu]
      exact sX_trans hXk (sX_trans (sX_pa (j := 7) (by omega)) (sX_pb (j := 0) (by omega)))
    have e7 : sa u 7 = C2 := by
      rw [hu]
      simp (disch := omega) only [E0]
    by_cases h30 : X.1 (k + 2) = nI 0
    · refine fin (nI N0) u ?_ hXu (fun t2 hx2 e9 e3 hh => ?_)
      · rw [pre, b178_54, hk11, if_pos (nI_le (Nat.le_refl _) (by omega)), c1', e_bI, if_pos h30, e_bI]
      · rcases hh with ⟨-, no⟩ | ⟨N1, f1, g0, g1, g2, g3, g4, g5⟩
        · exact absurd n2 (no (N0 + 1) (by omega) (by omega))
        · have eN : N1 = N0 := by
            rcases Nat.lt_trichotomy N1 N0 with z | z | z
            · exact absurd g2 (n3 (N1 + 1) (by omega) (by omega))
            · exact z
            · exact absurd n2 (g3 (N0 + 1) (by omega) (by omega))
          rw [b332_48, show sz (pz (pb u 3 (va_up (sb u 3) 0 (nI N0).toInt64)) 11 (nI 0)) 11 = nI 0 by simp (disch := omega) only [E0], if_pos (show nI 0 ≤ nI 0 by decide), g1, e_bI, if_neg (n_m1 _ (by omega)), if_pos h30, b332_72, b332_85, eN]
    · obtain ⟨i, hi, ei⟩ := hidx h30
      have e2 : X.1 (k + 2) - nI 10 = nI i := by
        rw [ei, pk_sub (by omega)]
        exact congrArg nI (by omega)
      refine fin (nI (f i)) u ?_ hXu (fun t2 hx2 e9 e3 hh => ?_)
      · rw [pre, b178_54, hk11, if_pos (nI_le (Nat.le_refl _) (by omega)), c1', e_bI, if_neg h30, e2, b189, at35 (by omega), e_bI, e_bI, e7, c2 i hi, e_bI]
      · rcases hh with ⟨-, no⟩ | ⟨N1, f1, g0, g1, g2, g3, g4, g5⟩
        · exact absurd n2 (no (N0 + 1) (by omega) (by omega))
        · have eN : N1 = N0 := by
            rcases Nat.lt_trichotomy N1 N0 with z | z | z
            · exact absurd g2 (n3 (N1 + 1) (by omega) (by omega))
            · exact z
            · exact absurd n2 (g3 (N0 + 1) (by omega) (by omega))
          rw [eN] at g5
          have ef := LsV_uniq n4 g5 i hi
          rw [b332_48, show sz (pz (pb u 3 (va_up (sb u 3) 0 (nI (f i)).toInt64)) 11 (nI 0)) 11 = nI 0 by simp (disch := omega) only [E0], if_pos (show nI 0 ≤ nI 0 by decide), g1, e_bI, if_neg (n_m1 _ (by omega)), if_neg h30, e2, r_in (j := i) (by omega) (by decide), nI_clamp (by omega), g4 i hi, ef, b332_85]
end HOM
