/-! A round's head, as both read one. -/
theorem way_neg : ∀ v, v < 10 → -nI 1 * nI v = -nI v ∧ -100 ≤ (-nI v).toInt ∧ (-nI v).toInt ≤ 100 ∧ nI 1 * nI v = nI v ∧ -100 ≤ (nI v).toInt ∧ (nI v).toInt ≤ 100 := by decide +kernel
section RNH
variable {X : (Nat → Int32) × Nat} {D E L p n nr v : Nat} {way bk : Int32} {c m c' m' : ab_S}
theorem dfC_beg {x : Int32} : dfC c (wi (wA (wA c 4 1 (va_up (sA c 4 1) nr (nI 0))) 5 1 (va_up (sA c 5 1) nr x)) 7 1 (nI (nr + 1))) := ((dfC_wA (k := 4) (by omega)).t (dfC_wA (k := 5) (by omega))).t (dfC_wi (k := 7) (by omega))
/-- the colon and what follows -/
theorem rnd_col (hw : (bk = nI 0 ∧ way = nI 1) ∨ (bk = nI 1 ∧ way = -nI 1)) (h : SG L p n c m) (h7 : si c 7 1 = nI nr) (hnr : nr < 4) (hv : v < 10) (hD : 8 ≤ D) (hE : 6 ≤ E) : ∃ c' m' : ab_S, ab_bU (ab_ev X D 54 [.inr (1, 0), .inr (10, 14)] c) (fun s7 => ab_bI (ab_ev X D 62 [.inr (3, 1), .inl (.int (way * nI v))] s7) (fun r9 s8 => ab_at X (D + 1) 61 85 [some (.inr (1, 0)), some (.inr (2, 1)), some (.inl (.int way)), some (.inl (.int (nI v))), some (.inl (.int r9)), some (.inl (.int (nI 0)))] [] s8) ab_px) ab_px = some (.inl none, c') ∧ ab_at X (E + 1) 247 44 [some (.inr (9, 0)), some (.inl (.int (nI nr))), some (.inl (.int bk)), none, none] [.inl (.int (nI v))] m = some (.inl none, m') ∧ dfC c c' ∧ dfM m m' ∧ SR L p n c' m' := by
  obtain ⟨d, rfl⟩ : ∃ d, D = d + 1 := ⟨D - 1, by omega⟩
  obtain ⟨c1, m1, g1, g2, g3, g4, g5⟩ := h.1.take (X := X) (D := d + 1) (E := E) (i := 14) (x := nI 58) (by decide) (by decide) (by decide) (by decide) (by omega) (by omega)
  have h71 : si c1 7 1 = nI nr := by
    rw [fC_si g3]
    exact h7
  have hb := c_begin (X := X) (d := d) (i := 1) (x := way * nI v) h71 hnr
  rw [g1, e_bU, hb, e_bI, b247_44, g2, e_bU]
  rcases g5 with ⟨-, p', q1, q2⟩ | q
  · have hS := h.tok q2 g3 g4
    obtain ⟨w1, w2, w3, w4, w5, w6⟩ := way_neg v hv
    have hbv : way * nI v = (if bk = nI 0 then nI v else -nI v) ∧ -100 ≤ (way * nI v).toInt ∧ (way * nI v).toInt ≤ 100 := by
      rcases hw with ⟨rfl, rfl⟩ | ⟨rfl, rfl⟩
      · rw [if_pos rfl, w4]
        exact ⟨rfl, w5, w6⟩
      · rw [if_neg (show ¬ nI 1 = nI 0 by decide), w1]
        exact ⟨rfl, w2, w3⟩
    have hR : RM L p' n nr 0 (way * nI v) (wi (wA (wA c1 4 1 (va_up (sA c1 4 1) nr (nI 0))) 5 1 (va_up (sA c1 5 1) nr (way * nI v))) 7 1 (nI (nr + 1))) m1 := by
      obtain ⟨hG, ⟨d1, d2, d3, d4, d5, d6, d7⟩, h22⟩ := hS
      obtain ⟨nr', k1, k2, k3, k4, k5⟩ := d4
      obtain rfl : nr' = nr := (nI_eq (by omega) (by omega)).mp (k2.symm.trans h71)
      refine ⟨hG.of rfl rfl rfl (fun _ _ _ => rfl) rfl, h22, ?_⟩
      unfold RD
      simp (disch := omega) only [E0]
      refine ⟨⟨d1, d2, d3, d5, d6, d7⟩, hnr, trivial, k3, fun r hr => (k4 r hr).cl (va_up_ne _ _ (by omega)) (va_up_ne _ _ (by omega)) (fun _ _ => rfl), fun r h1 h2 => k5 r (by omega) h2, va_up_self _ _ _, hbv.2.1, hbv.2.2, by omega, va_up_self _ _ _, k5 nr' (Nat.le_refl _) hnr, fun _ => 0, fun i hi => absurd hi (by omega), fun a b ha => absurd ha (by omega)⟩
    obtain ⟨c2, m2, y1, y2, y3, y4, y5⟩ := rnd_lp (X := X) (L := L) (n := n) (nr := nr) (bk := bk) (by' := nI v) hbv.1 (L - p' + 1) (d + 1) E 0 way (nI v) none _ m1 p' (by omega) (by omega) (by omega) hR (Or.inl rfl)
    refine ⟨c2, m2, y1, y2, (g3.d.t dfC_beg).t y3, g4.d.t y4, ?_⟩
    rcases y5 with ⟨p5, z1, z2⟩ | y
    · exact Or.inl ⟨p5, by omega, z2⟩
    · exact Or.inr y
  · refine ⟨_, m1, lp61b (c := wi (wA (wA c1 4 1 (va_up (sA c1 4 1) nr (nI 0))) 5 1 (va_up (sA c1 5 1) nr (way * nI v))) 7 1 (nI (nr + 1))) q.nc, ?_, g3.d.t dfC_beg, g4.d, Or.inr (q.of rfl rfl rfl rfl)⟩
    rw [b247_51, if_neg q.nm, r87b q.nm (by omega)]
theorem rnd_colb (hb : BD c m) (h7 : si c 7 1 = nI nr) (hnr : nr < 4) (x y : Int32) (hD : 8 ≤ D) (hE : 6 ≤ E) : ∃ c' m' : ab_S, ab_bU (ab_ev X D 54 [.inr (1, 0), .inr (10, 14)] c) (fun s7 => ab_bI (ab_ev X D 62 [.inr (3, 1), .inl (.int (way * x))] s7) (fun r9 s8 => ab_at X (D + 1) 61 85 [some (.inr (1, 0)), some (.inr (2, 1)), some (.inl (.int way)), some (.inl (.int x)), some (.inl (.int r9)), some (.inl (.int (nI 0)))] [] s8) ab_px) ab_px = some (.inl none, c') ∧ ab_at X (E + 1) 247 44 [some (.inr (9, 0)), some (.inl (.int (nI nr))), some (.inl (.int bk)), none, none] [.inl (.int y)] m = some (.inl none, m') ∧ dfC c c' ∧ dfM m m' ∧ SR L p n c' m' := by
  obtain ⟨d, rfl⟩ : ∃ d, D = d + 1 := ⟨D - 1, by omega⟩
  have hb' := c_begin (X := X) (d := d) (i := 1) (x := way * x) h7 hnr
  rw [c54b hb.nc (by omega), e_bU, hb', e_bI, b247_44, r245b hb.nm (by omega), e_bU]
  refine ⟨_, m, lp61b (c := wi (wA (wA c 4 1 (va_up (sA c 4 1) nr (nI 0))) 5 1 (va_up (sA c 5 1) nr (way * x))) 7 1 (nI (nr + 1))) hb.nc, ?_, dfC_beg, dfM_refl m, Or.inr (hb.of rfl rfl rfl rfl)⟩
  rw [b247_51, if_neg hb.nm, r87b hb.nm (by omega)]
/-- by how many, the colon and what follows -/
theorem rnd_by (hw : (bk = nI 0 ∧ way = nI 1) ∨ (bk = nI 1 ∧ way = -nI 1)) (h : SG L p n c m) (h7 : si c 7 1 = nI nr) (hnr : nr < 4) (hD : 8 ≤ D) (hE : 6 ≤ E) : ∃ c' m' : ab_S, (if (st c 0) = 7 then ab_bU (ab_ev X D 43 [.inr (1, 0)] c) (fun s4 => ab_bI (ab_ev X D 56 [.inr (1, 0), .inl (.int (nI 1)), .inl (.int (nI 9))] s4) (fun r6 s5 => ab_bU (ab_ev X D 54 [.inr (1, 0), .inr (10, 14)] s5) (fun s7 => ab_bI (ab_ev X D 62 [.inr (3, 1), .inl (.int (way * r6))] s7) (fun r9 s8 => ab_at X (D + 1) 61 85 [some (.inr (1, 0)), some (.inr (2, 1)), some (.inl (.int way)), some (.inl (.int r6)), some (.inl (.int r9)), some (.inl (.int (nI 0)))] [] s8) ab_px) ab_px) ab_px) ab_px else ab_bU (ab_ev X D 54 [.inr (1, 0), .inr (10, 14)] c) (fun s10 => ab_bI (ab_ev X D 62 [.inr (3, 1), .inl (.int (way * (nI 1)))] s10) (fun r12 s11 => ab_at X (D + 1) 61 85 [some (.inr (1, 0)), some (.inr (2, 1)), some (.inl (.int way)), some (.inl (.int (nI 1))), some (.inl (.int r12)), some (.inl (.int (nI 0)))] [] s11) ab_px) ab_px) = some (.inl none, c') ∧ ab_bI (ab_ev X E 240 [.inr (9, 0), .inr (11, 4)] m) (fun r6 s5 => (if r6 = (nI 0) then ab_at X (E + 1) 247 44 [some (.inr (9, 0)), some (.inl (.int (nI nr))), some (.inl (.int bk)), none, none] [.inl (.int (nI 1))] s5 else ab_bI (ab_ev X E 243 [.inr (9, 0), .inl (.int (nI 1)), .inl (.int (nI 9))] s5) (fun r8 s7 => ab_at X (E + 1) 247 44 [some (.inr (9, 0)), some (.inl (.int (nI nr))), some (.inl (.int bk)), none, none] [.inl (.int r8)] s7) ab_px)) ab_px = some (.inl none, m') ∧ dfC c c' ∧ dfM m m' ∧ SR L p n c' m' := by
  obtain ⟨e, rfl⟩ : ∃ e, E = e + 1 := ⟨E - 1, by omega⟩
  by_cases q : st c 0 = 7
  · obtain ⟨c1, m1, p1, a1, a2, a3, a4, a5, a6⟩ := h.1.adv (X := X) (D := D) (E := e) (by omega) (by omega) (by omega)
    have hS := h.tok a4 a5 a6
    have t7 : ab_ev X (e + 1) 240 [.inr (9, 0), .inr (11, 4)] m = some (.inl (some (.inl (.int (nI 1)))), m1) := h.1.tky (i := 7) (by decide) (by decide) (by decide) (by omega) q a3
    obtain ⟨c2, m2, r, b1, b2, b3, b4⟩ := hS.1.num (X := X) (D := D) (E := e + 1) (lo := 1) (hi := 9) (by omega) (by omega) (by omega) (by omega)
    have h72 : si c2 7 1 = nI nr := by
      rw [fC_si b2, fC_si a5]
      exact h7
    rw [if_pos q, a2, e_bU, b1, e_bI, t7, e_bI, if_neg (show ¬ nI 1 = nI 0 by decide)]
    rcases b4 with ⟨v, p2, e1, e2, e3, e4, e5, e6, e7, e8, e9⟩ | ⟨e1, e2⟩
    · have hS2 := hS.tok e9 b2 b3
      obtain ⟨c3, m3, y1, y2, y3, y4, y5⟩ := rnd_col (X := X) (D := D) (E := e + 1) (v := v) hw hS2 h72 hnr (by omega) hD hE
      rw [e7, e8, e_bI]
      refine ⟨c3, m3, y1, y2, (a5.d.t b2.d).t y3, (a6.d.t b3.d).t y4, ?_⟩
      rcases y5 with ⟨p5, z1, z2⟩ | y
      · exact Or.inl ⟨p5, by omega, z2⟩
      · exact Or.inr y
    · obtain ⟨c3, m3, y1, y2, y3, y4, y5⟩ := rnd_colb (X := X) (D := D) (E := e + 1) (L := L) (p := p) (n := n) (way := way) (bk := bk) e1 h72 hnr r (nI 1) hD hE
      rw [e2, e_bI]
      exact ⟨c3, m3, y1, y2, (a5.d.t b2.d).t y3, (a6.d.t b3.d).t y4, y5⟩
  · have t7 : ab_ev X (e + 1) 240 [.inr (9, 0), .inr (11, 4)] m = some (.inl (some (.inl (.int (nI 0)))), m) := h.1.tkn (i := 7) (by decide) (by decide) (by decide) (by omega) q
    obtain ⟨c3, m3, y1, y2, y3, y4, y5⟩ := rnd_col (X := X) (D := D) (E := e + 1) (v := 1) hw h h7 hnr (by omega) hD hE
    rw [if_neg q, t7, e_bI, if_pos rfl]
    exact ⟨c3, m3, y1, y2, y3, y4, y5⟩
/-- a round -/
theorem SG.round (h : SG L p n c m) (q5 : st c 0 = 5) (hD : 9 ≤ D) (hE : 7 ≤ E) : ∃ (c2 m2 : ab_S), ab_ev X D 61 [.inr (1, 0), .inr (2, 1)] c = some (.inl none, c2) ∧ ab_ev X E 247 [.inr (9, 0)] m = some (.inl none, m2) ∧ dfC c c2 ∧ dfM m m2 ∧ SR L p n c2 m2 := by
  obtain ⟨d, rfl⟩ : ∃ d, D = d + 1 := ⟨D - 1, by omega⟩
  obtain ⟨e, rfl⟩ : ∃ e, E = e + 2 := ⟨E - 2, by omega⟩
  obtain ⟨nr, k1, k2, k3, k4, k5⟩ := h.2.1.2.2.2.1
  by_cases q : nr = 4
  · obtain ⟨c1, m1, g1, g2, g3, g4, g5⟩ := h.1.ref (X := X) (D := d) (E := e) (f := 4) (by omega) (by omega)
    rw [q] at k2 k3
    refine ⟨c1, m1, ?_, ?_, g4.d, g5.d, Or.inr g3⟩
    · rw [b61, k2, if_pos rfl, g1, e_bU]
    · rw [b247, r248n (by omega) k3 g2 g3.nm, e_bI, if_pos rfl]
  · obtain ⟨c1, m1, p1, a1, a2, a3, a4, a5, a6⟩ := h.1.adv (X := X) (D := d) (E := e) (by omega) (by omega) (by omega)
    have hS := h.tok a4 a5 a6
    have n61 : ¬ si c 7 1 = nI 4 := fun z => q ((nI_eq (by omega) (by omega)).mp (k2.symm.trans z))
    have y248 := r248y (X := X) (E := e) (m := m) (m' := m1) (t := 2) (mx := 4) (by omega) k3 (by omega) (by omega) q h.1.2.2.2.1 a3 a4.2.2.2.1
    have h71 : si c1 7 1 = nI nr := by
      rw [fC_si a5]
      exact k2
    have g21 : sa m1 9 2 = nI nr := by
      rw [fM_sa a6]
      exact k3
    rw [b61, if_neg n61, a2, e_bU, b247, y248, e_bI, if_neg (show ¬ nI 1 = nI 0 by decide), g21]
    by_cases q6 : st c1 0 = 6
    · obtain ⟨c2, m2, p2, b1, b2, b3, b4, b5, b6⟩ := hS.1.adv (X := X) (D := d) (E := e) (by omega) (by omega) (by omega)
      have hS2 := hS.tok b4 b5 b6
      have t6 : ab_ev X (e + 1) 240 [.inr (9, 0), .inr (11, 3)] m1 = some (.inl (some (.inl (.int (nI 1)))), m2) := hS.1.tky (i := 6) (by decide) (by decide) (by decide) (by omega) q6 b3
      have h72 : si c2 7 1 = nI nr := by
        rw [fC_si b5]
        exact h71
      obtain ⟨c3, m3, y1, y2, y3, y4, y5⟩ := rnd_by (X := X) (D := d) (E := e + 1) (Or.inr ⟨rfl, rfl⟩) hS2 h72 (by omega) (by omega) (by omega)
      rw [if_pos q6, b2, e_bU, t6, e_bI]
      refine ⟨c3, m3, y1, y2, (a5.d.t b5.d).t y3, (a6.d.t b6.d).t y4, ?_⟩
      rcases y5 with ⟨p5, z1, z2⟩ | y
      · exact Or.inl ⟨p5, by omega, z2⟩
      · exact Or.inr y
    · have t6 : ab_ev X (e + 1) 240 [.inr (9, 0), .inr (11, 3)] m1 = some (.inl (some (.inl (.int (nI 0)))), m1) := hS.1.tkn (i := 6) (by decide) (by decide) (by decide) (by omega) q6
      obtain ⟨c3, m3, y1, y2, y3, y4, y5⟩ := rnd_by (X := X) (D := d) (E := e + 1) (Or.inl ⟨rfl, rfl⟩) hS h71 (by omega) (by omega) (by omega)
      rw [if_neg q6, t6, e_bI]
      refine ⟨c3, m3, y1, y2, a5.d.t y3, a6.d.t y4, ?_⟩
      rcases y5 with ⟨p5, z1, z2⟩ | y
      · exact Or.inl ⟨p5, by omega, z2⟩
      · exact Or.inr y
end RNH
