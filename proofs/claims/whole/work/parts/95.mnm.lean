/-! Whole calls: month; the model's side. -/
section MNM
variable {X : (Nat → Int32) × Nat} {d k i n nr bm np hs ml m : Nat} {u5 u6 : Option ab_V} {s : ab_S} {nm z lo li : Nat → Nat} {st : Nat → Nat → Nat} {by' sg g : Nat → Int32}
theorem l317 {x1 : Int32} {N : Nat} {p : Int32 × (Nat → Nat) × (Nat → Int32) × Nat × Nat} (hm : p.2.2.2.1 ≤ 10) (h0 : 0 < n) (hN : N ≤ 30) (h900 : ml ≤ 900) (hw : WL sg ml) : ∀ (j c : Nat) (t : ab_S) (u5 u6 u7 : Option ab_V), c + j = N → sE s t → sz t 11 = sz s 11 → sz t 23 = (msq n (inv (to_ nr z st bm by') n) sg ml p c).1 → sa t 8 = (msq n (inv (to_ nr z st bm by') n) sg ml p c).2.2.1 → RW t n (msq n (inv (to_ nr z st bm by') n) sg ml p c).2.1 nr z st bm by' → sa t 8 5 = nI ml → sa t 8 6 = nI (msq n (inv (to_ nr z st bm by') n) sg ml p c).2.2.2.1 → LR sg (sa t 8) ml → ∃ t' : ab_S, ab_at X (d + 7) 317 51 [some (.inr (9, 0)), some (.inl (.int x1)), some (.inl (.int (nI N))), some (.inl (.int (nI (msq n (inv (to_ nr z st bm by') n) sg ml p c).2.2.2.2))), some (.inl (.int (nI c))), u5, u6, u7] [] t = some (.inl (some (.inl (.int (nI (msq n (inv (to_ nr z st bm by') n) sg ml p N).2.2.2.2)))), t') ∧ sE s t' ∧ sz t' 11 = sz s 11 ∧ sa t' 8 = (msq n (inv (to_ nr z st bm by') n) sg ml p N).2.2.1
  | 0, c, t, u5, u6, u7, e, h1, h11, hz, h8, hR, h5, h6, hl => by
    obtain rfl : c = N := by omega
    exact ⟨t, by rw [b317_51, if_pos (nI_le (Nat.le_refl _) (by omega))], h1, h11, h8⟩
  | j + 1, c, t, u5, u6, u7, e, h1, h11, hz, h8, hR, h5, h6, hl => by
    have hn := hR.2.1
    have ih := fun (t2 : ab_S) (u5 u6 u7 : Option ab_V) (a : sE s t2) b => l317 (x1 := x1) (p := p) hm h0 hN h900 hw j (c + 1) t2 u5 u6 u7 (by omega) a b
    obtain ⟨P, hP⟩ : ∃ P, P = msq n (inv (to_ nr z st bm by') n) sg ml p c := ⟨_, rfl⟩
    have eQ : msq n (inv (to_ nr z st bm by') n) sg ml p (c + 1) = mst n (inv (to_ nr z st bm by') n) sg ml P := by rw [hP]; rfl
    have hm10 : P.2.2.2.1 ≤ 10 := by rw [hP]; exact msq_m hm c
    rw [eQ] at ih
    rw [← hP] at hz h8 hR h6 ⊢
    obtain ⟨K, hK⟩ : ∃ K, K = dv (drw P.1) % 4 := ⟨_, rfl⟩
    have hK4 : K < 4 := by rw [hK]; exact Nat.mod_lt _ (by omega)
    have c4 : ab_ev X (d + 6) 318 [.inr (9, 0), .inl (.int (nI 4))] t = some (.inl (some (.inl (.int (nI K)))), pz t 23 (drw P.1)) := by
      rw [r318 (by omega) (by omega), hz, hK]
    -- one drawn deed, done by the model
    have run : ∀ (D : Dd) (v : Int32), mdd n P.1 = some D → dok n D → v = mnx P.1 → ∃ t2 : ab_S, ab_ev X (d + 6) 289 [.inr (9, 0)] (pz t 23 v) = some (.inl none, pa (pz t 23 v) 8 (kpF P.2.2.1 P.2.2.2.1)) ∧ (∃ r : Int32, ab_ev X (d + 6) 314 [.inr (9, 0), .inl (.int (dcode D))] (pa (pz t 23 v) 8 (kpF P.2.2.1 P.2.2.2.1)) = some (.inl (some (.inl (.int r))), t2)) ∧ ∀ u5 u6 u7 : Option ab_V, ∃ t' : ab_S, ab_at X (d + 7) 317 51 [some (.inr (9, 0)), some (.inl (.int x1)), some (.inl (.int (nI N))), some (.inl (.int (nI (P.2.2.2.2 + 1)))), some (.inl (.int (nI (c + 1)))), u5, u6, u7] [] t2 = some (.inl (some (.inl (.int (nI (msq n (inv (to_ nr z st bm by') n) sg ml p N).2.2.2.2)))), t') ∧ sE s t' ∧ sz t' 11 = sz s 11 ∧ sa t' 8 = (msq n (inv (to_ nr z st bm by') n) sg ml p N).2.2.1 := by
      intro D v hD hok hv
      have hR' : RW (pz t 23 v) n P.2.1 nr z st bm by' := hR.same rfl
      obtain ⟨t2, g1, g2, g3, g4, g5, g6, g7, g8, g9, g10⟩ := r316 (X := X) (d := d) (t := pz t 23 v) (P := (P.2.1, P.2.2.1, P.2.2.2.1, 0)) (D := D) (sg := sg) (ml := ml) hm10 h8 hR' h5 h6 h900 hw hl hok
      have g1' := (r289e (X := X) (d := d + 6) (s := pz t 23 v) (m := P.2.2.2.1) h6 hm10).1
      have e8 : sa (pz t 23 v) 8 = P.2.2.1 := h8
      rw [e8] at g1'
      refine ⟨t2, g1', ⟨_, g2⟩, fun u5 u6 u7 => ?_⟩
      have es : sE s t2 := sE_trans h1 (sE_trans ((sR_pz (k := 23) (Or.inr rfl)).E rfl) g3)
      have e11 : sz t2 11 = sz s 11 := by
        rw [g4]
        simp (disch := omega) only [E0]
        exact h11
      have e23 : sz t2 23 = mnx P.1 := by
        rw [g5]
        simp (disch := omega) only [E0]
        exact hv
      rw [mst_some hD] at ih
      exact ih t2 u5 u6 u7 es e11 e23 g6 g7 g8 g9 g10
    have skip : ∀ (v : Int32), mdd n P.1 = none → v = mnx P.1 → ∀ u5 u6 u7 : Option ab_V, ∃ t' : ab_S, ab_at X (d + 7) 317 51 [some (.inr (9, 0)), some (.inl (.int x1)), some (.inl (.int (nI N))), some (.inl (.int (nI P.2.2.2.2))), some (.inl (.int (nI (c + 1)))), u5, u6, u7] [] (pz t 23 v) = some (.inl (some (.inl (.int (nI (msq n (inv (to_ nr z st bm by') n) sg ml p N).2.2.2.2)))), t') ∧ sE s t' ∧ sz t' 11 = sz s 11 ∧ sa t' 8 = (msq n (inv (to_ nr z st bm by') n) sg ml p N).2.2.1 := by
      intro v hD hv u5 u6 u7
      rw [mst_none hD] at ih
      refine ih (pz t 23 v) u5 u6 u7 (sE_trans h1 ((sR_pz (k := 23) (Or.inr rfl)).E rfl)) ?_ ?_ h8 (hR.same rfl) h5 h6 hl
      · simp (disch := omega) only [E0]
        exact h11
      · simp (disch := omega) only [E0]
        exact hv
    have e1 : ∀ v, sa (pz t 23 v) 8 1 = nI n := fun _ => hR.1
    by_cases q : K < 2
    · have e2 : mdd n P.1 = some none := by
        unfold mdd
        rw [← hK, if_pos q]
      have e3 : mnx P.1 = drw P.1 := by
        unfold mnx
        rw [← hK, if_pos q]
      obtain ⟨t2, g1, ⟨r, g2⟩, g3⟩ := run none (drw P.1) e2 trivial e3.symm
      have g2' : ab_ev X (d + 6) 314 [.inr (9, 0), .inl (.int (-nI 1))] (pa (pz t 23 (drw P.1)) 8 (kpF P.2.2.1 P.2.2.2.1)) = _ := g2
      have e0 : trb n ((-nI 1).toInt64) = 0 := by
        unfold trb
        rw [if_pos (by decide)]
      obtain ⟨t', i1, i2⟩ := g3 (some (.inl (.int (nI K)))) (some (.inl (.int (-nI 1)))) u7
      refine ⟨t', ?_, i2⟩
      rw [b317_51, if_neg (nI_ge (by omega) (by omega)), c4, e_bI, if_pos (nI_le (by omega) (by omega)), r313 (d := d + 4) (e1 _) hn, e_bI, e0, if_pos rfl, g1, e_bU, g2', e_bI, nI_add, nI_add]
      exact i1
    · have e3 : mnx P.1 = drw (drw (drw P.1)) := by
        unfold mnx
        rw [← hK, if_neg q]
      obtain ⟨a, ha⟩ : ∃ a, a = dv (drw (drw P.1)) % n := ⟨_, rfl⟩
      obtain ⟨b, hb⟩ : ∃ b, b = dv (drw (drw (drw P.1))) % n := ⟨_, rfl⟩
      have ha' : a < n := by rw [ha]; exact Nat.mod_lt _ h0
      have hb' : b < n := by rw [hb]; exact Nat.mod_lt _ h0
      have c5 : ab_ev X (d + 6) 318 [.inr (9, 0), .inl (.int (nI n))] (pz t 23 (drw P.1)) = some (.inl (some (.inl (.int (nI a)))), pz t 23 (drw (drw P.1))) := by
        rw [r318 h0 (by omega), pz2]
        simp (disch := omega) only [E0]
        rw [ha]
      have c6 : ab_ev X (d + 6) 318 [.inr (9, 0), .inl (.int (nI n))] (pz t 23 (drw (drw P.1))) = some (.inl (some (.inl (.int (nI b)))), pz t 23 (drw (drw (drw P.1)))) := by
        rw [r318 h0 (by omega), pz2]
        simp (disch := omega) only [E0]
        rw [hb]
      obtain ⟨tc0, tc1⟩ := trb_code hn ha' hb'
      have ea : nI a + nI 20 * nI b = nI (a + 20 * b) := by rw [pk_mul, nI_add]
      have ea0 : nI a + nI 20 * nI b + nI 0 = nI (a + 20 * b) := by rw [ea, nI_add, Nat.add_zero]
      by_cases q2 : K = 2
      · have e2 : mdd n P.1 = some (some (false, a, b)) := by
          unfold mdd
          rw [← hK, if_neg q, if_pos q2, ha, hb]
        obtain ⟨t2, g1, ⟨r, g2⟩, g3⟩ := run (some (false, a, b)) (drw (drw (drw P.1))) e2 ⟨ha', hb'⟩ e3.symm
        have g2' : ab_ev X (d + 6) 314 [.inr (9, 0), .inl (.int (nI (a + 20 * b)))] (pa (pz t 23 (drw (drw (drw P.1)))) 8 (kpF P.2.2.1 P.2.2.2.1)) = _ := g2
        obtain ⟨t', i1, i2⟩ := g3 (some (.inl (.int (nI K)))) (some (.inl (.int (nI (a + 20 * b))))) (some (.inl (.int (nI a))))
        refine ⟨t', ?_, i2⟩
        rw [b317_51, if_neg (nI_ge (by omega) (by omega)), c4, e_bI, if_neg (nI_ge (by omega) (by omega)), r267 (e1 _), e_bI, c5, e_bI, r267 (e1 _), e_bI, c6, e_bI, if_neg (fun z => by have := (nI_eq (by omega) (by omega)).mp z; omega), ea0, r313 (d := d + 4) (e1 _) hn, e_bI, tc0, if_pos rfl, g1, e_bU, g2', e_bI, nI_add, nI_add]
        exact i1
      · have q3 : K = 3 := by omega
        by_cases q4 : a = b
        · have e2 : mdd n P.1 = none := by
            unfold mdd
            rw [← hK, if_neg q, if_neg q2, if_pos (by rw [← ha, ← hb]; exact q4)]
          rw [if_pos q4] at tc1
          obtain ⟨t', i1, i2⟩ := skip (drw (drw (drw P.1))) e2 e3.symm (some (.inl (.int (nI K)))) (some (.inl (.int (nI (a + 20 * b + 400))))) (some (.inl (.int (nI a))))
          refine ⟨t', ?_, i2⟩
          rw [b317_51, if_neg (nI_ge (by omega) (by omega)), c4, e_bI, if_neg (nI_ge (by omega) (by omega)), r267 (e1 _), e_bI, c5, e_bI, r267 (e1 _), e_bI, c6, e_bI, if_pos (by rw [q3]), ea, nI_add, r313 (d := d + 4) (e1 _) hn, e_bI, tc1, if_neg (show ¬ nI 2 = nI 0 by decide), nI_add]
          exact i1
        · have e2 : mdd n P.1 = some (some (true, a, b)) := by
            unfold mdd
            rw [← hK, if_neg q, if_neg q2, if_neg (by rw [← ha, ← hb]; exact q4), ha, hb]
          rw [if_neg q4] at tc1
          obtain ⟨t2, g1, ⟨r, g2⟩, g3⟩ := run (some (true, a, b)) (drw (drw (drw P.1))) e2 ⟨ha', hb'⟩ e3.symm
          have g2' : ab_ev X (d + 6) 314 [.inr (9, 0), .inl (.int (nI (a + 20 * b + 400)))] (pa (pz t 23 (drw (drw (drw P.1)))) 8 (kpF P.2.2.1 P.2.2.2.1)) = _ := g2
          obtain ⟨t', i1, i2⟩ := g3 (some (.inl (.int (nI K)))) (some (.inl (.int (nI (a + 20 * b + 400))))) (some (.inl (.int (nI a))))
          refine ⟨t', ?_, i2⟩
          rw [b317_51, if_neg (nI_ge (by omega) (by omega)), c4, e_bI, if_neg (nI_ge (by omega) (by omega)), r267 (e1 _), e_bI, c5, e_bI, r267 (e1 _), e_bI, c6, e_bI, if_pos (by rw [q3]), ea, nI_add, r313 (d := d + 4) (e1 _) hn, e_bI, tc1, if_pos rfl, g1, e_bU, g2', e_bI, nI_add, nI_add]
          exact i1
theorem o157 (h : CW s 0 (sa s 8) n nr np hs ml m by' nm z st bm lo li) (hk : k + 5 < X.2) (hX : X.2 < 2 ^ 31) : ∃ (s2 : ab_S) (v5 v6 : Option ab_V), sZ s s2 ∧ ab_at X (d + 31) 360 1659 [some (.inr (14, 0)), some (.inr (0, 0)), some (.inr (9, 0)), some (.inr (15, 0)), some (.inl (.int (nI k))), u5, u6, none] [] s = ab_at X (d + 31) 360 23 [some (.inr (14, 0)), some (.inr (0, 0)), some (.inr (9, 0)), some (.inr (15, 0)), some (.inl (.int (nI (k + 6)))), v5, v6, none] [] s2 := by
  obtain ⟨hKC, hGC, hHS, hL0, hLW, hWS, hPE, hm, hg6, hDR⟩ := id h
  have h10 : m ≤ 10 := hDR.1
  have hn := hKC.2.1
  have hRs : RW s n nm nr z st bm by' := h.PW.1.2
  have i_1 : (nI 1).toInt = 1 := by decide
  have i_30 : (nI 30).toInt = 30 := by decide
  have j_1 : (lN 1).toInt = 1 := by decide
  have j_30 : (lN 30).toInt = 30 := by decide
  by_cases h1 : inR (X.1 (k + 2)).toInt 1 30 = true
  rotate_left
  · have cc : ab_ev X (d + 30) 157 [.inr (0, 0), .inl (.int (X.1 (k + 1))), .inl (.int (X.1 (k + 2))), .inr (15, 0)] s = some (.inl (some (.inl (.int (nI 1)))), ths s) := by
      rw [b157, b158, c_n103, i_1, i_30, if_neg h1, e_xU, e_px, e_xI]
      rfl
    have r : ab_ev X (d + 30) 317 [.inr (9, 0), .inl (.int (X.1 (k + 1))), .inl (.int (X.1 (k + 2)))] (ths s) = some (.inl (some (.inl (.int (nI 0)))), pz (ths s) 11 (nI 1)) := by
      rw [b317, r232, j_of, j_1, j_30, if_neg h1, e_bI, if_pos rfl]
    exact ⟨_, _, _, Or.inl (Or.inr (sV_pz (by omega)).X), w1659 hk hX cc r rfl (fun q => absurd q (by decide))⟩
  by_cases h0 : n = 0
  · have cc : ab_ev X (d + 30) 157 [.inr (0, 0), .inl (.int (X.1 (k + 1))), .inl (.int (X.1 (k + 2))), .inr (15, 0)] s = some (.inl (some (.inl (.int (nI 2)))), ths s) := by
      rw [b157, b158, c_n103, i_1, i_30, if_pos h1, e_bU, hKC.1, if_pos (by rw [h0]), c_thr, e_xI]
      rfl
    have r : ab_ev X (d + 30) 317 [.inr (9, 0), .inl (.int (X.1 (k + 1))), .inl (.int (X.1 (k + 2)))] (ths s) = some (.inl (some (.inl (.int (nI 0)))), pz (ths s) 11 (nI 2)) := by
      rw [b317, r232, j_of, j_1, j_30, if_pos h1, e_bI, if_neg (show ¬ nI 1 = nI 0 by decide), r267 (s := ths s) (n := n) hRs.1, e_bI, if_pos (by rw [h0])]
    exact ⟨_, _, _, Or.inl (Or.inr (sV_pz (by omega)).X), w1659 hk hX cc r rfl (fun q => absurd q (by decide))⟩
  obtain ⟨N, hN, ev⟩ := inS_rep (x := X.1 (k + 2)) (n := 31) (inS_def.mpr (by have := inR_iff.mp h1; omega))
  obtain ⟨p, hp⟩ : ∃ p : Int32 × (Nat → Nat) × (Nat → Int32) × Nat × Nat, p = (X.1 (k + 1), nm, sa s 8, m, 0) := ⟨_, rfl⟩
  obtain ⟨sZ', hsZ⟩ : ∃ u, u = pz s 0 (X.1 (k + 1)) := ⟨_, rfl⟩
  have hC0 : CW sZ' 0 p.2.2.1 n nr np hs ml p.2.2.2.1 by' p.2.1 z st bm lo li := by
    rw [hp, hsZ]
    exact h.same (fun _ => rfl) (fun _ _ => rfl)
  obtain ⟨s1, c1, c2, c3⟩ := l158 (X := X) (d := d + 22) (s := sZ') (x1 := X.1 (k + 1)) (N := N) (p := p) (by omega) (by omega) N 0 sZ' (by omega) ⟨sD_refl _, rfl, rfl⟩ (by rw [hsZ, hp]; simp (disch := omega) only [E0]; rfl) hC0
  have e60 : sA sZ' 6 0 = sA s 6 0 := by rw [hsZ]; rfl
  rw [e60] at c1 c3
  obtain ⟨B, hB⟩ : ∃ B, B = (msq n (inv (to_ nr z st bm by') n) (sA s 6 0) ml p N).2.2.2.2 := ⟨_, rfl⟩
  rw [← hB] at c1
  have cc : ab_ev X (d + 30) 157 [.inr (0, 0), .inl (.int (X.1 (k + 1))), .inl (.int (X.1 (k + 2))), .inr (15, 0)] s = some (.inl (some (.inl (.int (nI 0)))), pb s1 3 (va_up (sb s1 3) 0 (nI B).toInt64)) := by
    have c1' : ab_at X (d + 29) 158 39 [some (.inr (0, 0)), some (.inl (.int (X.1 (k + 1)))), some (.inl (.int (nI N))), some (.inl (.int (nI p.2.2.2.2))), some (.inl (.int (nI 0)))] [] sZ' = _ := c1
    have ep : p.2.2.2.2 = 0 := by rw [hp]
    rw [ep] at c1'
    rw [b157, b158, c_n103, i_1, i_30, if_pos h1, e_bU, hKC.1, if_neg (fun z => h0 ((nI_eq (by omega) (by omega)).mp z)), ev, ← hsZ, c1', e_bI]
  have dZ : sD s s1 := sD_trans (by rw [hsZ]; exact (DM_pz).1) c2.1
  obtain ⟨sM, hsM⟩ : ∃ sM, sM = pz (pz (pb s1 3 (va_up (sb s1 3) 0 (nI B).toInt64)) 11 (nI 0)) 23 (X.1 (k + 1)) := ⟨_, rfl⟩
  have e8 : sa sM 8 = sa s 8 := by
    rw [hsM]
    show sa s1 8 = _
    rw [c2.2.2, hsZ]
    rfl
  have esM : si sM = si s1 ∧ sA sM = sA s1 := by rw [hsM]; exact ⟨rfl, rfl⟩
  have hRM : RW sM n nm nr z st bm by' := hRs.same e8
  obtain ⟨x1, x2, x3, x4, x5⟩ := hLW
  obtain ⟨t', l1, l2, l3, l4⟩ := l317 (X := X) (d := d + 23) (s := sM) (x1 := X.1 (k + 1)) (N := N) (p := p) (sg := sA s 6 0) (z := z) (st := st) (bm := bm) (by' := by') (nr := nr) (n := n) (ml := ml) (by rw [hp]; exact h10) (by omega) (by omega) x3 x4 N 0 sM none none none (by omega) (sE_refl _) rfl (by rw [hsM, hp]; simp (disch := omega) only [E0]; rfl) (by rw [e8, hp]; rfl) (by rw [hp]; exact hRM) (by rw [e8]; exact x2) (by rw [e8, hp]; exact hg6) (by rw [e8]; exact x5)
  rw [← hB] at l1
  have r : ab_ev X (d + 30) 317 [.inr (9, 0), .inl (.int (X.1 (k + 1))), .inl (.int (X.1 (k + 2)))] (pb s1 3 (va_up (sb s1 3) 0 (nI B).toInt64)) = some (.inl (some (.inl (.int (nI B)))), t') := by
    have en : sa (pb s1 3 (va_up (sb s1 3) 0 (nI B).toInt64)) 8 1 = nI n := by
      show sa s1 8 1 = _
      rw [c2.2.2, hsZ]
      exact hRs.1
    have l1' : ab_at X (d + 30) 317 51 [some (.inr (9, 0)), some (.inl (.int (X.1 (k + 1)))), some (.inl (.int (nI N))), some (.inl (.int (nI p.2.2.2.2))), some (.inl (.int (nI 0))), none, none, none] [] sM = _ := l1
    have ep : p.2.2.2.2 = 0 := by rw [hp]
    rw [ep] at l1'
    rw [b317, r232, j_of, j_1, j_30, if_pos h1, e_bI, if_neg (show ¬ nI 1 = nI 0 by decide), r267 en, e_bI, if_neg (fun z => h0 ((nI_eq (by omega) (by omega)).mp z)), ← hsM, ev, l1']
  have hC : CW t' 0 (sa t' 8) n nr np hs ml (msq n (inv (to_ nr z st bm by') n) (sA s 6 0) ml p N).2.2.2.1 by' (msq n (inv (to_ nr z st bm by') n) (sA s 6 0) ml p N).2.1 z st bm lo li := by
    rw [l4]
    exact c3.same (fun q => by rw [l2.2.2.2.1, esM.1]) (fun q _ => by rw [l2.2.2.2.2.2.1, esM.2])
  have e9 : sz t' 11 = nI 0 := by
    rw [l3, hsM]
    simp (disch := omega) only [E0]
  have e10 : sb t' 3 0 = (nI B).toInt64 := by
    rw [l2.2.2.2.2.2.2.1, hsM]
    simp (disch := omega) only [E0]
    rw [va_up_self]
  have d1 : sD s t' := sD_trans dZ (sD_trans (by rw [hsM]; exact sD_trans sV_pb.D (sD_trans (sV_pz (k := 11) (by omega)).D (sV_pz (k := 23) (by omega)).D)) l2.D)
  exact ⟨t', _, _, Or.inr ⟨d1, _, _, _, _, _, _, _, _, _, _, _, _, _, hC⟩, w1659 hk hX cc r e9 (fun _ => e10)⟩
end MNM
