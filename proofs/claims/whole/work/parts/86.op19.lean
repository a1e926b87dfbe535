/-! Whole calls: a sign hung, two changed, a street blind, a person who moves. -/
theorem nt_si {s : ab_S} {i m q : Nat} {a b c e : Int32} (h : q ≠ 9) : si (nt s i m a b c e) q = si s q := by
  unfold nt
  simp (disch := omega) only [E0]
theorem nt_si9 {s : ab_S} {i m : Nat} {a b c e : Int32} (h10 : m ≤ 10) : si (nt s i m a b c e) 9 i = nI (min m 9 + 1) := by
  unfold nt
  simp (disch := omega) only [E0]
  exact congrArg nI (by omega)
theorem nt_sA {s : ab_S} {i m q : Nat} {a b c e : Int32} (h : q ≠ 8) : sA (nt s i m a b c e) q = sA s q := by
  unfold nt
  simp (disch := omega) only [E0]
theorem nt_sA8 {s : ab_S} {i m : Nat} {a b c e : Int32} : sA (nt s i m a b c e) 8 i = dn (sA s 8 i) m a b c e := by
  unfold nt
  simp (disch := omega) only [E0]
section OP19
variable {X : (Nat → Int32) × Nat} {d k n nr bm np hs ml m : Nat} {u5 u6 : Option ab_V} {s : ab_S} {nm z f g lo li : Nat → Nat} {st : Nat → Nat → Nat} {by' : Nat → Int32}
theorem r303 {a b : Nat} (ha : a < 20) (hb : b < 20) : ab_ev X d 303 [.inr (9, 0), .inl (.int (nI a)), .inl (.int (nI b))] s = some (.inl none, pa s 8 (va_up (va_up (sa s 8) (11 + a) (sa s 8 (11 + b))) (11 + b) (sa s 8 (11 + a)))) := by
  rw [b303, nI_add, nI_add, r_in (j := 11 + a) (by omega) (by decide), r_in (j := 11 + b) (by omega) (by decide), r_in (j := 11 + a) (by omega) (by decide), r_in (j := 11 + b) (by omega) (by decide), nI_clamp (by omega), nI_clamp (by omega)]
  simp (disch := omega) only [E0, E1]
theorem o122 (h : CW s 0 (sa s 8) n nr np hs ml m by' nm z st bm lo li) (hk : k + 5 < X.2) (hX : X.2 < 2 ^ 31) : ∃ (s2 : ab_S) (v5 v6 : Option ab_V), sZ s s2 ∧ ab_at X (d + 31) 360 1059 [some (.inr (14, 0)), some (.inr (0, 0)), some (.inr (9, 0)), some (.inr (15, 0)), some (.inl (.int (nI k))), u5, u6, none] [] s = ab_at X (d + 31) 360 23 [some (.inr (14, 0)), some (.inr (0, 0)), some (.inr (9, 0)), some (.inr (15, 0)), some (.inl (.int (nI (k + 6)))), v5, v6, none] [] s2 := by
  obtain ⟨⟨hT, hR⟩, p1, p2, p3, p4, p5, p6, p7⟩ := id h.PW
  obtain ⟨hcn, hn, t3, t4, -⟩ := id hT
  have hr1 : sa (ths s) 8 1 = nI n := hR.1
  have hr2 : sa (ths s) 8 2 = nI nr := hR.2.2.2.2.1
  have hr3 : sa (ths s) 8 3 = nI np := p2
  have hr4 : sa (ths s) 8 4 = nI hs := p5
  obtain ⟨hKC, hGC, hHS, hL0, hLW, hWS, hPE, hm, hg6, hDR⟩ := id h
  have h10 : m ≤ 10 := hDR.1
  have h48 : nr ≤ 4 ∧ np ≤ 8 := ⟨hKC.2.2.2.1, hKC.2.2.2.2.2.1⟩
  by_cases h1 : inS (X.1 (k + 1)) n = true
  rotate_left
  · have cc : ab_ev X (d + 30) 122 [.inr (0, 0), .inl (.int (X.1 (k + 1))), .inl (.int (X.1 (k + 2))), .inr (15, 0)] s = some (.inl (some (.inl (.int (nI 1)))), ths s) := by
      rw [b122, b123, c_n86 hcn (by omega), if_neg h1, e_xU, e_px, e_xI]
      rfl
    have r : ab_ev X (d + 30) 301 [.inr (9, 0), .inl (.int (X.1 (k + 1))), .inl (.int (X.1 (k + 2)))] (ths s) = some (.inl (some (.inl (.int (nI 0)))), pz (ths s) 11 (nI 1)) := by
      have hr1 : sa (pz (ths s) 11 (nI 0)) 8 1 = nI n := hR.1
      rw [b301, r266 (n := n) hr1 (by omega), if_neg h1, e_bI, if_pos rfl, b233, e_bI, pz2]
    exact ⟨_, _, _, Or.inl (Or.inr (sV_pz (by omega)).X), w1059 hk hX cc r rfl (fun q => absurd q (by decide))⟩
  by_cases h2 : inS (X.1 (k + 2)) n = true
  rotate_left
  · have cc : ab_ev X (d + 30) 122 [.inr (0, 0), .inl (.int (X.1 (k + 1))), .inl (.int (X.1 (k + 2))), .inr (15, 0)] s = some (.inl (some (.inl (.int (nI 1)))), ths s) := by
      rw [b122, b123, c_n86 hcn (by omega), if_pos h1, e_bU, c_n98 hcn (by omega), if_neg h2, e_xU, e_px, e_xI]
      rfl
    have r : ab_ev X (d + 30) 301 [.inr (9, 0), .inl (.int (X.1 (k + 1))), .inl (.int (X.1 (k + 2)))] (ths s) = some (.inl (some (.inl (.int (nI 0)))), pz (ths s) 11 (nI 1)) := by
      have hr1 : sa (pz (ths s) 11 (nI 0)) 8 1 = nI n := hR.1
      rw [b301, r266 (n := n) hr1 (by omega), if_pos h1, e_bI, if_neg (show ¬ nI 1 = nI 0 by decide), r266 (n := n) hr1 (by omega), if_neg h2, e_bI, if_pos rfl, b233, e_bI, pz2]
    exact ⟨_, _, _, Or.inl (Or.inr (sV_pz (by omega)).X), w1059 hk hX cc r rfl (fun q => absurd q (by decide))⟩
  obtain ⟨v, hv, ev⟩ := inS_rep h1
  obtain ⟨u, hu, eu⟩ := inS_rep h2
  obtain ⟨s1, hs1⟩ : ∃ s1, s1 = nt (wA s 0 0 (va_up (sA s 0 0) v (nI u))) 0 m (nI 2) (nI v) (sA s 0 0 v) (nI 0) := ⟨_, rfl⟩
  have cc : ab_ev X (d + 30) 122 [.inr (0, 0), .inl (.int (X.1 (k + 1))), .inl (.int (X.1 (k + 2))), .inr (15, 0)] s = some (.inl (some (.inl (.int (nI 0)))), pb s1 3 (va_up (sb s1 3) 0 (sA s 0 0 v).toInt64)) := by
    rw [b122, b123, c_n86 hcn (by omega), if_pos h1, e_bU, c_n98 hcn (by omega), if_pos h2, e_bU, ev, eu, c_hangSign hm h10 (by omega), e_bI, e_bI, hs1]
  obtain ⟨sM, hsM⟩ : ∃ sM, sM = pz (pb s1 3 (va_up (sb s1 3) 0 (sA s 0 0 v).toInt64)) 11 (nI 0) := ⟨_, rfl⟩
  have e8 : sa sM 8 = sa s 8 := by rw [hsM, hs1]; rfl
  have esi : si sM = si s1 := by rw [hsM]; rfl
  have esA : sA sM = sA s1 := by rw [hsM]; rfl
  have d1 : sD s sM := by
    rw [hsM, hs1]
    exact sD_trans (sD_wA (by decide)) (sD_trans (sD_nt (by decide)) (sD_trans sV_pb.D (sV_pz (by omega)).D))
  obtain ⟨H, q1, hK⟩ := r289 (X := X) (d := d + 29) (s := sM) (m := m) (by rw [e8]; exact hg6) h10
  rw [e8] at hK
  have eH : H (11 + v) = sA s 0 0 v := by rw [hK.1 _ (by omega) (by omega), hR.2.2.1 v hv, t3 v hv]
  have r : ab_ev X (d + 30) 301 [.inr (9, 0), .inl (.int (X.1 (k + 1))), .inl (.int (X.1 (k + 2)))] (pb s1 3 (va_up (sb s1 3) 0 (sA s 0 0 v).toInt64)) = some (.inl (some (.inl (.int (sA s 0 0 v)))), pa sM 8 (va_up H (11 + v) (nI u))) := by
    have hr1 : sa sM 8 1 = nI n := by rw [e8]; exact hR.1
    rw [b301, ← hsM, r266 (n := n) hr1 (by omega), if_pos h1, e_bI, if_neg (show ¬ nI 1 = nI 0 by decide), r266 (n := n) hr1 (by omega), if_pos h2, e_bI, if_neg (show ¬ nI 1 = nI 0 by decide), q1, e_bU, ev, nI_add, r_in (j := 11 + v) (by omega) (by decide), r_in (j := 11 + v) (by omega) (by decide), nI_clamp (by omega), eu]
    simp (disch := omega) only [E0, E1]
    rw [eH]
  have e1 : st_ (va_up H (11 + v) (nI u)) 11 = va_up (st_ (sa s 8) 11) v (nI u) := by rw [st_up (by omega), hK.st]
  have hC : CW (pa sM 8 (va_up H (11 + v) (nI u))) 0 (va_up H (11 + v) (nI u)) n nr np hs ml (min m 9 + 1) by' (fun q => if q = v then u else nm q) z st bm lo li := by
    refine h.deed (k := nI 2) (a := nI v) (b := sA s 0 0 v) (c := nI 0) hK (fun q a1 a2 a3 a4 => ?_) ?_ ?_ ?_ ?_ (fun q hq => va_up_ne _ _ (by omega)) ?_ ?_ ?_
    · show si sM q 0 = _
      rw [esi, hs1, nt_si a4]
      rfl
    · show sA sM 5 0 = _
      rw [esA, hs1, nt_sA (by decide)]
      simp (disch := omega) only [E0]
    · show sA sM 6 0 = _
      rw [esA, hs1, nt_sA (by decide)]
      simp (disch := omega) only [E0]
    · show si sM 9 0 = _
      rw [esi, hs1, nt_si9 h10]
    · show sA sM 8 0 = _
      rw [esA, hs1, nt_sA8]
      simp (disch := omega) only [E0]
    · rw [e1]
      refine hWS.names (fun q hq => ?_) (fun q hq => ?_) (fun t _ _ _ => va_up_ne _ _ (by omega)) h48
      · unfold va_up
        by_cases e : q = v
        · rw [if_pos e, if_pos e]
        · rw [if_neg e, if_neg e]
          exact hWS.1 q hq
      · show (if q = v then u else nm q) < n
        split
        · exact hu
        · exact t4 q hq
    · rw [e1]
      refine hPE.names hn (fun q hq => ?_) ?_ ?_ ?_ ?_ ?_ ?_ ?_ (fun t _ _ _ => va_up_ne _ _ (by omega)) h48
      · show sA sM 0 0 q = _
        rw [esA, hs1, nt_sA (by decide)]
        simp (disch := omega) only [E0]
        unfold va_up
        have p1q : sA s 0 0 q = st_ (sa s 8) 11 q := hPE.1 q hq
        rw [p1q]
      · show si sM 6 0 = _
        rw [esi, hs1, nt_si (by decide)]
        rfl
      · show sA sM 4 0 = _
        rw [esA, hs1, nt_sA (by decide)]
        simp (disch := omega) only [E0]
      · show sA sM 3 0 = _
        rw [esA, hs1, nt_sA (by decide)]
        simp (disch := omega) only [E0]
      · show sA sM 1 0 = _
        rw [esA, hs1, nt_sA (by decide)]
        simp (disch := omega) only [E0]
      · show sA sM 2 0 = _
        rw [esA, hs1, nt_sA (by decide)]
        simp (disch := omega) only [E0]
      · show si sM 4 0 = _
        rw [esi, hs1, nt_si (by decide), va_up_ne _ _ (by omega)]
        exact hPE.2.2.2.2.2.1
      · show si sM 5 0 = _
        rw [esi, hs1, nt_si (by decide), va_up_ne _ _ (by omega)]
        exact hPE.2.2.2.2.2.2
    · refine ⟨st_ (sa s 8) 11, Or.inr (Or.inl ⟨rfl, v, hv, rfl, ?_⟩), eqv_refl _ _ _ _⟩
      have p1v : sA s 0 0 v = st_ (sa s 8) 11 v := hPE.1 v hv
      rw [e1, p1v, va_up_back]
  have e9 : sz (pa sM 8 (va_up H (11 + v) (nI u))) 11 = nI 0 := by rw [hsM]; simp (disch := omega) only [E0]
  have e10 : sb (pa sM 8 (va_up H (11 + v) (nI u))) 3 0 = (sA s 0 0 v).toInt64 := by
    rw [hsM]
    simp (disch := omega) only [E0]
    rw [va_up_self]
  exact ⟨_, _, _, Or.inr ⟨sD_trans d1 sD_pa8, _, _, _, _, _, _, _, _, _, _, _, _, _, hC⟩, w1059 hk hX cc r e9 (fun _ => e10)⟩
theorem o125 (h : CW s 0 (sa s 8) n nr np hs ml m by' nm z st bm lo li) (hk : k + 5 < X.2) (hX : X.2 < 2 ^ 31) : ∃ (s2 : ab_S) (v5 v6 : Option ab_V), sZ s s2 ∧ ab_at X (d + 31) 360 1127 [some (.inr (14, 0)), some (.inr (0, 0)), some (.inr (9, 0)), some (.inr (15, 0)), some (.inl (.int (nI k))), u5, u6, none] [] s = ab_at X (d + 31) 360 23 [some (.inr (14, 0)), some (.inr (0, 0)), some (.inr (9, 0)), some (.inr (15, 0)), some (.inl (.int (nI (k + 6)))), v5, v6, none] [] s2 := by
  obtain ⟨⟨hT, hR⟩, p1, p2, p3, p4, p5, p6, p7⟩ := id h.PW
  obtain ⟨hcn, hn, t3, t4, -⟩ := id hT
  have hr1 : sa (ths s) 8 1 = nI n := hR.1
  have hr2 : sa (ths s) 8 2 = nI nr := hR.2.2.2.2.1
  have hr3 : sa (ths s) 8 3 = nI np := p2
  have hr4 : sa (ths s) 8 4 = nI hs := p5
  obtain ⟨hKC, hGC, hHS, hL0, hLW, hWS, hPE, hm, hg6, hDR⟩ := id h
  have h10 : m ≤ 10 := hDR.1
  have h48 : nr ≤ 4 ∧ np ≤ 8 := ⟨hKC.2.2.2.1, hKC.2.2.2.2.2.1⟩
  by_cases h1 : inS (X.1 (k + 1)) n = true
  rotate_left
  · have cc : ab_ev X (d + 30) 125 [.inr (0, 0), .inl (.int (X.1 (k + 1))), .inl (.int (X.1 (k + 2))), .inr (15, 0)] s = some (.inl (some (.inl (.int (nI 1)))), ths s) := by
      rw [b125, b126, c_n127 hcn (by omega), if_neg (fun q => h1 q.1), e_xU, e_px, e_xI]
      rfl
    have r : ab_ev X (d + 30) 302 [.inr (9, 0), .inl (.int (X.1 (k + 1))), .inl (.int (X.1 (k + 2)))] (ths s) = some (.inl (some (.inl (.int (nI 0)))), pz (ths s) 11 (nI 1)) := by
      rw [b302, r266 (n := n) hr1 (by omega), if_neg h1, e_bI, if_pos rfl]
    exact ⟨_, _, _, Or.inl (Or.inr (sV_pz (by omega)).X), w1127 hk hX cc r rfl (fun q => absurd q (by decide))⟩
  by_cases h2 : inS (X.1 (k + 2)) n = true
  rotate_left
  · have cc : ab_ev X (d + 30) 125 [.inr (0, 0), .inl (.int (X.1 (k + 1))), .inl (.int (X.1 (k + 2))), .inr (15, 0)] s = some (.inl (some (.inl (.int (nI 1)))), ths s) := by
      rw [b125, b126, c_n127 hcn (by omega), if_neg (fun q => h2 q.2), e_xU, e_px, e_xI]
      rfl
    have r : ab_ev X (d + 30) 302 [.inr (9, 0), .inl (.int (X.1 (k + 1))), .inl (.int (X.1 (k + 2)))] (ths s) = some (.inl (some (.inl (.int (nI 0)))), pz (ths s) 11 (nI 1)) := by
      rw [b302, r266 (n := n) hr1 (by omega), if_pos h1, e_bI, if_neg (show ¬ nI 1 = nI 0 by decide), r266 (n := n) hr1 (by omega), if_neg h2, e_bI, if_pos rfl]
    exact ⟨_, _, _, Or.inl (Or.inr (sV_pz (by omega)).X), w1127 hk hX cc r rfl (fun q => absurd q (by decide))⟩
  by_cases h3 : X.1 (k + 1) = X.1 (k + 2)
  · have cc : ab_ev X (d + 30) 125 [.inr (0, 0), .inl (.int (X.1 (k + 1))), .inl (.int (X.1 (k + 2))), .inr (15, 0)] s = some (.inl (some (.inl (.int (nI 2)))), ths s) := by
      rw [b125, b126, c_n127 hcn (by omega), if_pos ⟨h1, h2⟩, if_pos h3, e_xU, e_px, e_xI]
      rfl
    have r : ab_ev X (d + 30) 302 [.inr (9, 0), .inl (.int (X.1 (k + 1))), .inl (.int (X.1 (k + 2)))] (ths s) = some (.inl (some (.inl (.int (nI 0)))), pz (ths s) 11 (nI 2)) := by
      rw [b302, r266 (n := n) hr1 (by omega), if_pos h1, e_bI, if_neg (show ¬ nI 1 = nI 0 by decide), r266 (n := n) hr1 (by omega), if_pos h2, e_bI, if_neg (show ¬ nI 1 = nI 0 by decide), if_pos h3]
    exact ⟨_, _, _, Or.inl (Or.inr (sV_pz (by omega)).X), w1127 hk hX cc r rfl (fun q => absurd q (by decide))⟩
  obtain ⟨v, hv, ev⟩ := inS_rep h1
  obtain ⟨u, hu, eu⟩ := inS_rep h2
  obtain ⟨nm', hnm'⟩ : ∃ nm' : Nat → Nat, nm' = fun q => if q = u then nm v else if q = v then nm u else nm q := ⟨_, rfl⟩
  have hlt' : ∀ q, q < n → nm' q < n := fun q hq => by
    rw [hnm']
    show (if q = u then nm v else if q = v then nm u else nm q) < n
    split
    · exact t4 v hv
    · split
      · exact t4 u hu
      · exact t4 q hq
  obtain ⟨s1, hs1⟩ : ∃ s1, s1 = nt (wA s 0 0 (va_up (va_up (sA s 0 0) v (sA s 0 0 u)) u (sA s 0 0 v))) 0 m (nI 3) (nI v) (nI u) (nI 0) := ⟨_, rfl⟩
  have hn1 : ∀ q, q < n → sA s1 0 0 q = nI (nm' q) := fun q hq => by
    rw [hs1, nt_sA (by decide), hnm']
    simp (disch := omega) only [E0]
    unfold va_up
    by_cases e : q = u
    · rw [if_pos e, if_pos e, t3 v hv]
    · rw [if_neg e, if_neg e]
      by_cases e2 : q = v
      · rw [if_pos e2, if_pos e2, t3 u hu]
      · rw [if_neg e2, if_neg e2, t3 q hq]
  have hc1 : si s1 1 0 = nI n := by
    rw [hs1, nt_si (by decide)]
    exact hcn
  obtain ⟨w, hw⟩ : ∃ w, w = nI (wrg nm' n) := ⟨_, rfl⟩
  have cc : ab_ev X (d + 30) 125 [.inr (0, 0), .inl (.int (X.1 (k + 1))), .inl (.int (X.1 (k + 2))), .inr (15, 0)] s = some (.inl (some (.inl (.int (nI 0)))), pb s1 3 (va_up (sb s1 3) 0 w.toInt64)) := by
    rw [b125, b126, c_n127 hcn (by omega), if_pos ⟨h1, h2⟩, if_neg h3, e_bU, ev, eu, c_exchange hm h10 (by omega) (by omega), e_bU, ← hs1, c_wrong hc1 hn hn1 hlt', e_bI, e_bI, hw]
  obtain ⟨sM, hsM⟩ : ∃ sM, sM = pz (pb s1 3 (va_up (sb s1 3) 0 w.toInt64)) 11 (nI 0) := ⟨_, rfl⟩
  have e8 : sa sM 8 = sa s 8 := by rw [hsM, hs1]; rfl
  have esi : si sM = si s1 := by rw [hsM]; rfl
  have esA : sA sM = sA s1 := by rw [hsM]; rfl
  have d1 : sD s sM := by
    rw [hsM, hs1]
    exact sD_trans (sD_wA (by decide)) (sD_trans (sD_nt (by decide)) (sD_trans sV_pb.D (sV_pz (by omega)).D))
  obtain ⟨H, q1, hK⟩ := r289 (X := X) (d := d + 29) (s := sM) (m := m) (by rw [e8]; exact hg6) h10
  rw [e8] at hK
  have eHv : H (11 + v) = st_ (sa s 8) 11 v := by rw [← hK.st, st_at (by omega)]
  have eHu : H (11 + u) = st_ (sa s 8) 11 u := by rw [← hK.st, st_at (by omega)]
  obtain ⟨g2, hg2⟩ : ∃ g2, g2 = va_up (va_up H (11 + v) (H (11 + u))) (11 + u) (H (11 + v)) := ⟨_, rfl⟩
  have e1 : st_ g2 11 = va_up (va_up (st_ (sa s 8) 11) v (st_ (sa s 8) 11 u)) u (st_ (sa s 8) 11 v) := by rw [hg2, st_up (by omega), st_up (by omega), hK.st, eHv, eHu]
  have hC : CW (pa sM 8 g2) 0 g2 n nr np hs ml (min m 9 + 1) by' nm' z st bm lo li := by
    refine h.deed (k := nI 3) (a := nI v) (b := nI u) (c := nI 0) hK (fun q a1 a2 a3 a4 => ?_) ?_ ?_ ?_ ?_ (fun q hq => by rw [hg2, va_up_ne _ _ (by omega), va_up_ne _ _ (by omega)]) ?_ ?_ ?_
    · show si sM q 0 = _
      rw [esi, hs1, nt_si a4]
      rfl
    · show sA sM 5 0 = _
      rw [esA, hs1, nt_sA (by decide)]
      simp (disch := omega) only [E0]
    · show sA sM 6 0 = _
      rw [esA, hs1, nt_sA (by decide)]
      simp (disch := omega) only [E0]
    · show si sM 9 0 = _
      rw [esi, hs1, nt_si9 h10]
    · show sA sM 8 0 = _
      rw [esA, hs1, nt_sA8]
      simp (disch := omega) only [E0]
    · refine hWS.names (fun q hq => ?_) hlt' (fun t _ _ _ => by rw [e1, va_up_ne _ _ (by omega), va_up_ne _ _ (by omega)]) h48
      rw [e1, hnm', hWS.1 v hv, hWS.1 u hu]
      unfold va_up
      show (if q = u then nI (nm v) else if q = v then nI (nm u) else st_ (sa s 8) 11 q) = nI (if q = u then nm v else if q = v then nm u else nm q)
      by_cases e : q = u
      · rw [if_pos e, if_pos e]
      · rw [if_neg e, if_neg e]
        by_cases e2 : q = v
        · rw [if_pos e2, if_pos e2]
        · rw [if_neg e2, if_neg e2]
          exact hWS.1 q hq
    · refine hPE.names hn (fun q hq => ?_) ?_ ?_ ?_ ?_ ?_ ?_ ?_ (fun t _ _ _ => by rw [e1, va_up_ne _ _ (by omega), va_up_ne _ _ (by omega)]) h48
      · show sA sM 0 0 q = _
        have p1q : sA s 0 0 q = st_ (sa s 8) 11 q := hPE.1 q hq
        have p1v : sA s 0 0 v = st_ (sa s 8) 11 v := hPE.1 v hv
        have p1u : sA s 0 0 u = st_ (sa s 8) 11 u := hPE.1 u hu
        rw [esA, hs1, nt_sA (by decide), e1]
        simp (disch := omega) only [E0]
        unfold va_up
        rw [p1q, p1v, p1u]
      · show si sM 6 0 = _
        rw [esi, hs1, nt_si (by decide)]
        rfl
      · show sA sM 4 0 = _
        rw [esA, hs1, nt_sA (by decide)]
        simp (disch := omega) only [E0]
      · show sA sM 3 0 = _
        rw [esA, hs1, nt_sA (by decide)]
        simp (disch := omega) only [E0]
      · show sA sM 1 0 = _
        rw [esA, hs1, nt_sA (by decide)]
        simp (disch := omega) only [E0]
      · show sA sM 2 0 = _
        rw [esA, hs1, nt_sA (by decide)]
        simp (disch := omega) only [E0]
      · show si sM 4 0 = _
        rw [esi, hs1, nt_si (by decide), e1, va_up_ne _ _ (by omega), va_up_ne _ _ (by omega)]
        exact hPE.2.2.2.2.2.1
      · show si sM 5 0 = _
        rw [esi, hs1, nt_si (by decide), e1, va_up_ne _ _ (by omega), va_up_ne _ _ (by omega)]
        exact hPE.2.2.2.2.2.2
    · refine ⟨st_ (sa s 8) 11, Or.inr (Or.inr (Or.inl ⟨rfl, v, u, hv, hu, rfl, rfl, ?_⟩)), eqv_refl _ _ _ _⟩
      rw [e1, swp_back]
  have r : ab_ev X (d + 30) 302 [.inr (9, 0), .inl (.int (X.1 (k + 1))), .inl (.int (X.1 (k + 2)))] (pb s1 3 (va_up (sb s1 3) 0 w.toInt64)) = some (.inl (some (.inl (.int w))), pa sM 8 g2) := by
    have hrs : sa (pb s1 3 (va_up (sb s1 3) 0 w.toInt64)) 8 1 = nI n := by rw [hs1]; exact hR.1
    have q3 : ab_ev X (d + 29) 303 [.inr (9, 0), .inl (.int (nI v)), .inl (.int (nI u))] (pa sM 8 H) = some (.inl none, pa sM 8 g2) := by
      rw [r303 (by omega) (by omega), hg2]
      simp (disch := omega) only [E0, E1]
    rw [b302, r266 (n := n) hrs (by omega), if_pos h1, e_bI, if_neg (show ¬ nI 1 = nI 0 by decide), r266 (n := n) hrs (by omega), if_pos h2, e_bI, if_neg (show ¬ nI 1 = nI 0 by decide), if_neg h3, ← hsM, q1, e_bU, ev, eu, q3, e_bU, r292 (d := d + 27) hC.PW.1.2, e_bI, hw]
  have e9 : sz (pa sM 8 g2) 11 = nI 0 := by rw [hsM]; simp (disch := omega) only [E0]
  have e10 : sb (pa sM 8 g2) 3 0 = w.toInt64 := by
    rw [hsM]
    simp (disch := omega) only [E0]
    rw [va_up_self]
  exact ⟨_, _, _, Or.inr ⟨sD_trans d1 sD_pa8, _, _, _, _, _, _, _, _, _, _, _, _, _, hC⟩, w1127 hk hX cc r e9 (fun _ => e10)⟩
theorem o137 (h : CW s 0 (sa s 8) n nr np hs ml m by' nm z st bm lo li) (hk : k + 5 < X.2) (hX : X.2 < 2 ^ 31) : ∃ (s2 : ab_S) (v5 v6 : Option ab_V), sZ s s2 ∧ ab_at X (d + 31) 360 1343 [some (.inr (14, 0)), some (.inr (0, 0)), some (.inr (9, 0)), some (.inr (15, 0)), some (.inl (.int (nI k))), u5, u6, none] [] s = ab_at X (d + 31) 360 23 [some (.inr (14, 0)), some (.inr (0, 0)), some (.inr (9, 0)), some (.inr (15, 0)), some (.inl (.int (nI (k + 6)))), v5, v6, none] [] s2 := by
  obtain ⟨⟨hT, hR⟩, p1, p2, p3, p4, p5, p6, p7⟩ := id h.PW
  obtain ⟨hcn, hn, t3, t4, -⟩ := id hT
  have hr1 : sa (ths s) 8 1 = nI n := hR.1
  have hr2 : sa (ths s) 8 2 = nI nr := hR.2.2.2.2.1
  have hr3 : sa (ths s) 8 3 = nI np := p2
  have hr4 : sa (ths s) 8 4 = nI hs := p5
  obtain ⟨hKC, hGC, hHS, hL0, hLW, hWS, hPE, hm, hg6, hDR⟩ := id h
  have h10 : m ≤ 10 := hDR.1
  have h48 : nr ≤ 4 ∧ np ≤ 8 := ⟨hKC.2.2.2.1, hKC.2.2.2.2.2.1⟩
  by_cases h1 : inS (X.1 (k + 1)) n = true
  rotate_left
  · have cc : ab_ev X (d + 30) 137 [.inr (0, 0), .inl (.int (X.1 (k + 1))), .inr (15, 0)] s = some (.inl (some (.inl (.int (nI 1)))), ths s) := by
      rw [b137, b138, c_n86 hcn (by omega), if_neg h1, e_xU, e_px, e_xI]
      rfl
    have r : ab_ev X (d + 30) 306 [.inr (9, 0), .inl (.int (X.1 (k + 1)))] (ths s) = some (.inl (some (.inl (.int (nI 0)))), pz (ths s) 11 (nI 1)) := by
      have hr1 : sa (pz (ths s) 11 (nI 0)) 8 1 = nI n := hR.1
      rw [b306, r266 (n := n) hr1 (by omega), if_neg h1, e_bI, if_pos rfl, b233, e_bI, pz2]
    exact ⟨_, _, _, Or.inl (Or.inr (sV_pz (by omega)).X), w1343 hk hX cc r rfl (fun q => absurd q (by decide))⟩
  obtain ⟨v, hv, ev⟩ := inS_rep h1
  obtain ⟨-, -, -, -, -, -, -, hb31, hb20, -⟩ := id hWS
  obtain ⟨bm', hbm'⟩ : ∃ bm', bm' = bm ^^^ 2 ^ v := ⟨_, rfl⟩
  have hb20' : bm' < 2 ^ 20 := by
    rw [hbm']
    exact Nat.xor_lt_two_pow hb20 (Nat.pow_lt_pow_right (by decide) (by omega))
  have hbm0 : bm' ^^^ 2 ^ v = bm := by rw [hbm', Nat.xor_assoc, Nat.xor_self, Nat.xor_zero]
  obtain ⟨s1, hs1⟩ : ∃ s1, s1 = nt (wi s 6 0 (nI bm')) 0 m (nI 6) (nI v) (nI 0) (nI 0) := ⟨_, rfl⟩
  obtain ⟨w, hw⟩ : ∃ w, w = (if bm'.testBit v = true then nI 1 else nI 0) := ⟨_, rfl⟩
  have hb6 : si s 6 0 = nI bm := hPE.2.1.trans hb31
  have cc : ab_ev X (d + 30) 137 [.inr (0, 0), .inl (.int (X.1 (k + 1))), .inr (15, 0)] s = some (.inl (some (.inl (.int (nI 0)))), pb s1 3 (va_up (sb s1 3) 0 w.toInt64)) := by
    rw [b137, b138, c_n86 hcn (by omega), if_pos h1, e_bU, ev, c_turnBlind hm h10 (by omega) hb6 hb20, e_bI, e_bI, hs1, hw, hbm']
  obtain ⟨sM, hsM⟩ : ∃ sM, sM = pz (pb s1 3 (va_up (sb s1 3) 0 w.toInt64)) 11 (nI 0) := ⟨_, rfl⟩
  have e8 : sa sM 8 = sa s 8 := by rw [hsM, hs1]; rfl
  have esi : si sM = si s1 := by rw [hsM]; rfl
  have esA : sA sM = sA s1 := by rw [hsM]; rfl
  have d1 : sD s sM := by
    rw [hsM, hs1]
    exact sD_trans (sD_wi (by decide) (by decide)) (sD_trans (sD_nt (by decide)) (sD_trans sV_pb.D (sV_pz (by omega)).D))
  obtain ⟨H, q1, hK⟩ := r289 (X := X) (d := d + 29) (s := sM) (m := m) (by rw [e8]; exact hg6) h10
  rw [e8] at hK
  have eH : H 31 = nI bm := by rw [hK.1 _ (by omega) (by omega)]; exact hR.2.2.2.2.2.2.2.2.2.2.2.1
  have e1 : st_ (va_up H 31 (nI bm')) 11 = va_up (st_ (sa s 8) 11) 20 (nI bm') := by
    have := st_up (g := H) (b := 11) (j := 20) (v := nI bm') (by omega)
    rw [hK.st] at this
    exact this
  have r : ab_ev X (d + 30) 306 [.inr (9, 0), .inl (.int (X.1 (k + 1)))] (pb s1 3 (va_up (sb s1 3) 0 w.toInt64)) = some (.inl (some (.inl (.int w))), pa sM 8 (va_up H 31 (nI bm'))) := by
    have hr1 : sa sM 8 1 = nI n := by rw [e8]; exact hR.1
    rw [b306, ← hsM, r266 (n := n) hr1 (by omega), if_pos h1, e_bI, if_neg (show ¬ nI 1 = nI 0 by decide), q1, e_bU, ev]
    simp (disch := omega) only [E0, E1]
    rw [va_up_self, eH, n_sh _ (by omega), n_xor, ← hbm', n_shr1 (by omega) (by omega), hw]
    cases bm'.testBit v <;> rfl
  have hC : CW (pa sM 8 (va_up H 31 (nI bm'))) 0 (va_up H 31 (nI bm')) n nr np hs ml (min m 9 + 1) by' nm z st bm' lo li := by
    refine h.deed (k := nI 6) (a := nI v) (b := nI 0) (c := nI 0) hK (fun q a1 a2 a3 a4 => ?_) ?_ ?_ ?_ ?_ (fun q hq => va_up_ne _ _ (by omega)) ?_ ?_ ?_
    · show si sM q 0 = _
      rw [esi, hs1, nt_si a4]
      simp (disch := omega) only [E0]
    · show sA sM 5 0 = _
      rw [esA, hs1, nt_sA (by decide)]
      rfl
    · show sA sM 6 0 = _
      rw [esA, hs1, nt_sA (by decide)]
      rfl
    · show si sM 9 0 = _
      rw [esi, hs1, nt_si9 h10]
    · show sA sM 8 0 = _
      rw [esA, hs1, nt_sA8]
      rfl
    · rw [e1]
      obtain ⟨w1, w2, w3, w4, w5, w6, w7, w8, w9, w10⟩ := hWS
      exact ⟨fun q hq => by rw [va_up_ne _ _ (by omega)]; exact w1 q hq, w2, fun q hq => by rw [va_up_ne _ _ (by omega)]; exact w3 q hq, w4, fun q hq y hy => by rw [va_up_ne _ _ (by omega)]; exact w5 q hq y hy, w6, w7, va_up_self _ _ _, hb20', fun q hq => by rw [va_up_ne _ _ (by omega), va_up_ne _ _ (by omega)]; exact w10 q hq⟩
    · rw [e1]
      obtain ⟨v1, v2, v3, v4, v5, v6, v7⟩ := hPE
      have fA : ∀ q, q ≠ 8 → sA (pa sM 8 (va_up H 31 (nI bm'))) q 0 = sA s q 0 := fun q hq => by
        show sA sM q 0 = _
        rw [esA, hs1, nt_sA hq]
        rfl
      refine ⟨fun q hq => ?_, ?_, fun q hq => ?_, fun q hq y hy ey j hj => ?_, fun q hq => ?_, ?_, ?_⟩
      · rw [va_up_ne _ _ (by omega)]
        show sA _ 0 0 q = _
        rw [fA 0 (by decide)]
        exact v1 q hq
      · show si sM 6 0 = _
        rw [esi, hs1, nt_si (by decide), va_up_self]
        simp (disch := omega) only [E0]
      · rw [va_up_ne _ _ (by omega)]
        show sA _ 4 0 q = _
        rw [fA 4 (by decide)]
        exact v3 q hq
      · rw [va_up_ne _ _ (by omega)] at ey
        rw [va_up_ne _ _ (by omega)]
        show sA _ 3 0 _ = _
        rw [fA 3 (by decide)]
        exact v4 q hq y hy ey j hj
      · rw [va_up_ne _ _ (by omega), va_up_ne _ _ (by omega)]
        show sA _ 1 0 q = _ ∧ sA _ 2 0 q = _
        rw [fA 1 (by decide), fA 2 (by decide)]
        exact v5 q hq
      · show si sM 4 0 = _
        rw [esi, hs1, nt_si (by decide), va_up_ne _ _ (by omega)]
        simp (disch := omega) only [E0]
        exact v6
      · show si sM 5 0 = _
        rw [esi, hs1, nt_si (by decide), va_up_ne _ _ (by omega)]
        simp (disch := omega) only [E0]
        exact v7
    · refine ⟨st_ (sa s 8) 11, Or.inr (Or.inr (Or.inr (Or.inr (Or.inr (Or.inl ⟨rfl, v, bm', hv, rfl, ?_, hb20', ?_⟩))))), eqv_refl _ _ _ _⟩
      · rw [e1, va_up_self]
      · rw [e1, hbm0, ← hb31, va_up_back]
  have e9 : sz (pa sM 8 (va_up H 31 (nI bm'))) 11 = nI 0 := by rw [hsM]; simp (disch := omega) only [E0]
  have e10 : sb (pa sM 8 (va_up H 31 (nI bm'))) 3 0 = w.toInt64 := by
    rw [hsM]
    simp (disch := omega) only [E0]
    rw [va_up_self]
  exact ⟨_, _, _, Or.inr ⟨sD_trans d1 sD_pa8, _, _, _, _, _, _, _, _, _, _, _, _, _, hC⟩, w1343 hk hX cc r e9 (fun _ => e10)⟩
theorem o140 (h : CW s 0 (sa s 8) n nr np hs ml m by' nm z st bm lo li) (hk : k + 5 < X.2) (hX : X.2 < 2 ^ 31) : ∃ (s2 : ab_S) (v5 v6 : Option ab_V), sZ s s2 ∧ ab_at X (d + 31) 360 1399 [some (.inr (14, 0)), some (.inr (0, 0)), some (.inr (9, 0)), some (.inr (15, 0)), some (.inl (.int (nI k))), u5, u6, none] [] s = ab_at X (d + 31) 360 23 [some (.inr (14, 0)), some (.inr (0, 0)), some (.inr (9, 0)), some (.inr (15, 0)), some (.inl (.int (nI (k + 6)))), v5, v6, none] [] s2 := by
  obtain ⟨⟨hT, hR⟩, p1, p2, p3, p4, p5, p6, p7⟩ := id h.PW
  obtain ⟨hcn, hn, t3, t4, -⟩ := id hT
  have hr1 : sa (ths s) 8 1 = nI n := hR.1
  have hr2 : sa (ths s) 8 2 = nI nr := hR.2.2.2.2.1
  have hr3 : sa (ths s) 8 3 = nI np := p2
  have hr4 : sa (ths s) 8 4 = nI hs := p5
  obtain ⟨hKC, hGC, hHS, hL0, hLW, hWS, hPE, hm, hg6, hDR⟩ := id h
  have h10 : m ≤ 10 := hDR.1
  have h48 : nr ≤ 4 ∧ np ≤ 8 := ⟨hKC.2.2.2.1, hKC.2.2.2.2.2.1⟩
  by_cases h1 : inS (X.1 (k + 1)) np = true
  rotate_left
  · have cc : ab_ev X (d + 30) 140 [.inr (0, 0), .inl (.int (X.1 (k + 1))), .inl (.int (X.1 (k + 2))), .inl (.int (X.1 (k + 3))), .inr (15, 0)] s = some (.inl (some (.inl (.int (nI 1)))), ths s) := by
      rw [b140, b141, c_n95 p1 (by omega), if_neg h1, e_xU, e_px, e_xI]
      rfl
    have r : ab_ev X (d + 30) 307 [.inr (9, 0), .inl (.int (X.1 (k + 1))), .inl (.int (X.1 (k + 2))), .inl (.int (X.1 (k + 3)))] (ths s) = some (.inl (some (.inl (.int (nI 0)))), pz (ths s) 11 (nI 1)) := by
      rw [b307, r276 (n := np) hr3 (by omega), if_neg h1, e_bI, if_pos rfl]
    exact ⟨_, _, _, Or.inl (Or.inr (sV_pz (by omega)).X), w1399 hk hX cc r rfl (fun q => absurd q (by decide))⟩
  by_cases h2 : inS (X.1 (k + 2)) n = true
  rotate_left
  · have cc : ab_ev X (d + 30) 140 [.inr (0, 0), .inl (.int (X.1 (k + 1))), .inl (.int (X.1 (k + 2))), .inl (.int (X.1 (k + 3))), .inr (15, 0)] s = some (.inl (some (.inl (.int (nI 1)))), ths s) := by
      rw [b140, b141, c_n95 p1 (by omega), if_pos h1, e_bU, c_n86 hcn (by omega), if_neg h2, e_xU, e_px, e_xI]
      rfl
    have r : ab_ev X (d + 30) 307 [.inr (9, 0), .inl (.int (X.1 (k + 1))), .inl (.int (X.1 (k + 2))), .inl (.int (X.1 (k + 3)))] (ths s) = some (.inl (some (.inl (.int (nI 0)))), pz (ths s) 11 (nI 1)) := by
      rw [b307, r276 (n := np) hr3 (by omega), if_pos h1, e_bI, if_neg (show ¬ nI 1 = nI 0 by decide), r266 (n := n) hr1 (by omega), if_neg h2, e_bI, if_pos rfl]
    exact ⟨_, _, _, Or.inl (Or.inr (sV_pz (by omega)).X), w1399 hk hX cc r rfl (fun q => absurd q (by decide))⟩
  by_cases h3 : inR (X.1 (k + 3)).toInt 1 hs = true
  rotate_left
  · have cc : ab_ev X (d + 30) 140 [.inr (0, 0), .inl (.int (X.1 (k + 1))), .inl (.int (X.1 (k + 2))), .inl (.int (X.1 (k + 3))), .inr (15, 0)] s = some (.inl (some (.inl (.int (nI 2)))), ths s) := by
      rw [b140, b141, c_n95 p1 (by omega), if_pos h1, e_bU, c_n86 hcn (by omega), if_pos h2, e_bU, c_n102 p4 (by omega), if_neg h3, e_xU, e_px, e_xI]
      rfl
    have r : ab_ev X (d + 30) 307 [.inr (9, 0), .inl (.int (X.1 (k + 1))), .inl (.int (X.1 (k + 2))), .inl (.int (X.1 (k + 3)))] (ths s) = some (.inl (some (.inl (.int (nI 0)))), pz (ths s) 11 (nI 2)) := by
      rw [b307, r276 (n := np) hr3 (by omega), if_pos h1, e_bI, if_neg (show ¬ nI 1 = nI 0 by decide), r266 (n := n) hr1 (by omega), if_pos h2, e_bI, if_neg (show ¬ nI 1 = nI 0 by decide), r281 (n := hs) hr4 (by omega), if_neg h3, e_bI, if_pos rfl]
    exact ⟨_, _, _, Or.inl (Or.inr (sV_pz (by omega)).X), w1399 hk hX cc r rfl (fun q => absurd q (by decide))⟩
  obtain ⟨p, hp, ep⟩ := inS_rep h1
  obtain ⟨v, hv, ev⟩ := inS_rep h2
  obtain ⟨y, hy, ey⟩ := inS_rep (x := X.1 (k + 3)) (n := hs + 1) (inS_def.mpr (by have := inR_iff.mp h3; omega))
  obtain ⟨-, -, -, -, -, -, -, -, -, w10⟩ := id hWS
  obtain ⟨v1, v2, v3, v4, v5, v6, v7⟩ := id hPE
  obtain ⟨s1, hs1⟩ : ∃ s1, s1 = wA (wA (nt s 0 m (nI 7) (nI p) (sA s 1 0 p) (sA s 2 0 p)) 1 0 (va_up (sA s 1 0) p (nI v))) 2 0 (va_up (sA s 2 0) p (nI y)) := ⟨_, rfl⟩
  have cc : ab_ev X (d + 30) 140 [.inr (0, 0), .inl (.int (X.1 (k + 1))), .inl (.int (X.1 (k + 2))), .inl (.int (X.1 (k + 3))), .inr (15, 0)] s = some (.inl (some (.inl (.int (nI 0)))), pb s1 3 (va_up (sb s1 3) 0 (sA s 0 0 v).toInt64)) := by
    rw [b140, b141, c_n95 p1 (by omega), if_pos h1, e_bU, c_n86 hcn (by omega), if_pos h2, e_bU, c_n102 p4 (by omega), if_pos h3, e_bU, ep, ev, ey, c_moveHouse hm h10 (by omega) (by omega), e_bI, e_bI, hs1]
  obtain ⟨sM, hsM⟩ : ∃ sM, sM = pz (pb s1 3 (va_up (sb s1 3) 0 (sA s 0 0 v).toInt64)) 11 (nI 0) := ⟨_, rfl⟩
  have e8 : sa sM 8 = sa s 8 := by rw [hsM, hs1]; rfl
  have esi : si sM = si s1 := by rw [hsM]; rfl
  have esA : sA sM = sA s1 := by rw [hsM]; rfl
  have d1 : sD s sM := by
    rw [hsM, hs1]
    exact sD_trans (sD_nt (by decide)) (sD_trans (sD_wA (by decide)) (sD_trans (sD_wA (by decide)) (sD_trans sV_pb.D (sV_pz (by omega)).D)))
  obtain ⟨H, q1, hK⟩ := r289 (X := X) (d := d + 29) (s := sM) (m := m) (by rw [e8]; exact hg6) h10
  rw [e8] at hK
  obtain ⟨g2, hg2⟩ : ∃ g2, g2 = va_up (va_up H (116 + p) (nI v)) (124 + p) (nI y) := ⟨_, rfl⟩
  have eH : g2 (11 + v) = sA s 0 0 v := by rw [hg2, va_up_ne _ _ (by omega), va_up_ne _ _ (by omega), hK.1 _ (by omega) (by omega), hR.2.2.1 v hv, t3 v hv]
  have e1 : st_ g2 11 = va_up (va_up (st_ (sa s 8) 11) (105 + p) (nI v)) (113 + p) (nI y) := by
    have a1 := st_up (g := va_up H (116 + p) (nI v)) (b := 11) (j := 113 + p) (v := nI y) (by omega)
    have a2 := st_up (g := H) (b := 11) (j := 105 + p) (v := nI v) (by omega)
    rw [show 11 + (113 + p) = 124 + p by omega] at a1
    rw [show 11 + (105 + p) = 116 + p by omega] at a2
    rw [hg2, a1, a2, hK.st]
  have r : ab_ev X (d + 30) 307 [.inr (9, 0), .inl (.int (X.1 (k + 1))), .inl (.int (X.1 (k + 2))), .inl (.int (X.1 (k + 3)))] (pb s1 3 (va_up (sb s1 3) 0 (sA s 0 0 v).toInt64)) = some (.inl (some (.inl (.int (sA s 0 0 v)))), pa sM 8 g2) := by
    have hr1 : sa (pb s1 3 (va_up (sb s1 3) 0 (sA s 0 0 v).toInt64)) 8 1 = nI n := by rw [hs1]; exact hR.1
    have hr3 : sa (pb s1 3 (va_up (sb s1 3) 0 (sA s 0 0 v).toInt64)) 8 3 = nI np := by rw [hs1]; exact p2
    have hr4 : sa (pb s1 3 (va_up (sb s1 3) 0 (sA s 0 0 v).toInt64)) 8 4 = nI hs := by rw [hs1]; exact p5
    rw [b307, r276 (n := np) hr3 (by omega), if_pos h1, e_bI, if_neg (show ¬ nI 1 = nI 0 by decide), r266 (n := n) hr1 (by omega), if_pos h2, e_bI, if_neg (show ¬ nI 1 = nI 0 by decide), r281 (n := hs) hr4 (by omega), if_pos h3, e_bI, if_neg (show ¬ nI 1 = nI 0 by decide), ← hsM, q1, e_bU, ep, ev, ey, nI_add, nI_add, nI_add, r_in (j := 116 + p) (by omega) (by decide), r_in (j := 124 + p) (by omega) (by decide), r_in (j := 11 + v) (by omega) (by decide), nI_clamp (by omega), nI_clamp (by omega), nI_clamp (by omega)]
    simp (disch := omega) only [E0, E1]
    rw [← hg2, eH]
  have fA : ∀ q, q ≠ 8 → q ≠ 1 → q ≠ 2 → sA (pa sM 8 g2) q 0 = sA s q 0 := fun q h8 h1 h2 => by
    show sA sM q 0 = _
    rw [esA, hs1]
    simp (disch := omega) only [E0]
    rw [nt_sA h8]
  have fI : ∀ q, q ≠ 9 → si (pa sM 8 g2) q 0 = si s q 0 := fun q h9 => by
    show si sM q 0 = _
    rw [esi, hs1]
    simp (disch := omega) only [E0]
    rw [nt_si h9]
  have hC : CW (pa sM 8 g2) 0 g2 n nr np hs ml (min m 9 + 1) by' nm z st bm (fun q => if q = p then v else lo q) (fun q => if q = p then y else li q) := by
    refine h.deed (k := nI 7) (a := nI p) (b := sA s 1 0 p) (c := sA s 2 0 p) hK (fun q a1 a2 a3 a4 => fI q a4) (fA 5 (by decide) (by decide) (by decide)) (fA 6 (by decide) (by decide) (by decide)) ?_ ?_ (fun q hq => by rw [hg2, va_up_ne _ _ (by omega), va_up_ne _ _ (by omega)]) ?_ ?_ ?_
    · show si sM 9 0 = _
      rw [esi, hs1]
      simp (disch := omega) only [E0]
      rw [nt_si9 h10]
    · show sA sM 8 0 = _
      rw [esA, hs1]
      simp (disch := omega) only [E0]
      rw [nt_sA8]
    · rw [e1]
      obtain ⟨w1, w2, w3, w4, w5, w6, w7, w8, w9, w10⟩ := hWS
      refine ⟨fun q hq => by rw [va_up_ne _ _ (by omega), va_up_ne _ _ (by omega)]; exact w1 q hq, w2, fun q hq => by rw [va_up_ne _ _ (by omega), va_up_ne _ _ (by omega)]; exact w3 q hq, w4, fun q hq y hy => by have := w4 q hq; rw [va_up_ne _ _ (by omega), va_up_ne _ _ (by omega)]; exact w5 q hq y hy, w6, w7, by rw [va_up_ne _ _ (by omega), va_up_ne _ _ (by omega)]; exact w8, w9, fun q hq => ?_⟩
      rw [va_up_ne _ (j := 105 + q) _ (by omega)]
      show _ ∧ (if q = p then v else lo q) < n ∧ _ = nI (if q = p then y else li q) ∧ (if q = p then y else li q) ≤ hs
      by_cases e : q = p
      · rw [e, va_up_self, va_up_self, if_pos rfl, if_pos rfl]
        exact ⟨by show nI v = nI (if p = p then v else lo p); rw [if_pos rfl], hv, rfl, by omega⟩
      · rw [va_up_ne _ _ (by omega), va_up_ne _ _ (by omega), va_up_ne _ _ (by omega), if_neg e, if_neg e]
        have := w10 q hq
        exact ⟨by show _ = nI (if q = p then v else lo q); rw [if_neg e]; exact this.1, this.2⟩
    · rw [e1]
      refine ⟨fun q hq => ?_, ?_, fun q hq => ?_, fun q hq x hx ex j hj => ?_, fun q hq => ?_, ?_, ?_⟩
      · rw [va_up_ne _ _ (by omega), va_up_ne _ _ (by omega)]
        show sA _ 0 0 q = _
        rw [fA 0 (by decide) (by decide) (by decide)]
        exact v1 q hq
      · rw [va_up_ne _ _ (by omega), va_up_ne _ _ (by omega)]
        exact (fI 6 (by decide)).trans v2
      · rw [va_up_ne _ _ (by omega), va_up_ne _ _ (by omega)]
        show sA _ 4 0 q = _
        rw [fA 4 (by decide) (by decide) (by decide)]
        exact v3 q hq
      · rw [va_up_ne _ _ (by omega), va_up_ne _ _ (by omega)] at ex
        rw [va_up_ne _ _ (by omega), va_up_ne _ _ (by omega)]
        show sA _ 3 0 _ = _
        rw [fA 3 (by decide) (by decide) (by decide)]
        exact v4 q hq x hx ex j hj
      · rw [va_up_ne _ (j := 105 + q) _ (by omega)]
        show sA sM 1 0 q = _ ∧ sA sM 2 0 q = _
        rw [esA, hs1]
        simp (disch := omega) only [E0]
        by_cases e : q = p
        · rw [e, va_up_self, va_up_self, va_up_self, va_up_self]
          exact ⟨rfl, rfl⟩
        · rw [va_up_ne _ _ e, va_up_ne _ _ e, va_up_ne _ _ (by omega), va_up_ne _ _ (by omega), va_up_ne _ _ (by omega)]
          exact v5 q hq
      · rw [va_up_ne _ _ (by omega), va_up_ne _ _ (by omega)]
        exact (fI 4 (by decide)).trans v6
      · rw [va_up_ne _ _ (by omega), va_up_ne _ _ (by omega)]
        exact (fI 5 (by decide)).trans v7
    · refine ⟨st_ (sa s 8) 11, Or.inr (Or.inr (Or.inr (Or.inr (Or.inr (Or.inr ⟨rfl, p, hp, rfl, ?_⟩))))), eqv_refl _ _ _ _⟩
      have a1 : sA s 1 0 p = st_ (sa s 8) 11 (105 + p) := (v5 p hp).1
      have a2 : sA s 2 0 p = st_ (sa s 8) 11 (113 + p) := (v5 p hp).2
      rw [e1, a1, a2]
      funext t
      unfold va_up
      by_cases e : t = 113 + p
      · rw [if_pos e, e]
      · rw [if_neg e]
        by_cases e2 : t = 105 + p
        · rw [if_pos e2, e2]
        · rw [if_neg e2, if_neg e, if_neg e2]
  have e9 : sz (pa sM 8 g2) 11 = nI 0 := by rw [hsM]; simp (disch := omega) only [E0]
  have e10 : sb (pa sM 8 g2) 3 0 = (sA s 0 0 v).toInt64 := by
    rw [hsM]
    simp (disch := omega) only [E0]
    rw [va_up_self]
  exact ⟨_, _, _, Or.inr ⟨sD_trans d1 sD_pa8, _, _, _, _, _, _, _, _, _, _, _, _, _, hC⟩, w1399 hk hX cc r e9 (fun _ => e10)⟩
end OP19
