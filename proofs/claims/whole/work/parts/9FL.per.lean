/-! A person, as both read one; how many of a kind there may be. -/
section PER
variable {X : (Nat → Int32) × Nat} {D E L p n : Nat} {c m c' m' : ab_S}
theorem r248y {t w mx : Nat} (ht : t < 2300) (hw : sa m 9 t = nI w) (h1 : w < 1000) (h2 : mx < 1000) (hne : ¬ w = mx) (h18 : sz m 18 = nI 0) (hm : ab_ev X E 234 [.inr (9, 0)] m = some (.inl none, m')) (h18' : sz m' 18 = nI 0) : ab_ev X (E + 1) 248 [.inr (9, 0), .inl (.int (nI t)), .inl (.int (nI mx))] m = some (.inl (some (.inl (.int (nI 1)))), m') := by
  rw [b248, r_in (j := t) ht (by decide), nI_clamp (by omega), hw, if_neg (fun z => hne ((nI_eq (by omega) (by omega)).mp z)), if_pos h18, hm, e_bU, if_pos h18']
theorem r248n {t mx : Nat} (ht : t < 2300) (hw : sa m 9 t = nI mx) (hm : ab_ev X E 242 [.inr (9, 0), .inl (.int (nI 4))] m = some (.inl none, m')) (h18' : ¬ sz m' 18 = nI 0) : ab_ev X (E + 1) 248 [.inr (9, 0), .inl (.int (nI t)), .inl (.int (nI mx))] m = some (.inl (some (.inl (.int (nI 0)))), m') := by
  rw [b248, r_in (j := t) ht (by decide), nI_clamp (by omega), hw, if_pos rfl, hm, e_bU, if_neg h18', if_neg h18']
theorem c68t {x y : Int32} (hD : 1 ≤ D) : ∃ c' : ab_S, ab_ev X D 68 [.inr (2, 1), .inl (.int x), .inl (.int y)] c = some (.inl none, c') ∧ dfC c c' ∧ sz c' = sz c := by
  obtain ⟨d, rfl⟩ : ∃ d, D = d + 1 := ⟨D - 1, by omega⟩
  obtain ⟨s1, h1, h2⟩ := c_putT (X := X) (d := d) (k := 20) (i := 1) (n := 8) (s := c) (x := si c 3 1) (v := x) rfl rfl rfl (fun G => wA c 1 1 G) (fun G => rfl) (by decide)
  have h3 : dfC c s1 ∧ sz s1 = sz c := by
    rcases h2 with rfl | ⟨G, rfl⟩
    · exact ⟨dfC_refl _, rfl⟩
    · exact ⟨dfC_wA (by omega), rfl⟩
  obtain ⟨s2, k1, k2⟩ := c_putT (X := X) (d := d) (k := 21) (i := 1) (n := 8) (s := s1) (x := si s1 3 1) (v := y) rfl rfl rfl (fun G => wA s1 2 1 G) (fun G => rfl) (by decide)
  have k3 : dfC s1 s2 ∧ sz s2 = sz s1 := by
    rcases k2 with rfl | ⟨G, rfl⟩
    · exact ⟨dfC_refl _, rfl⟩
    · exact ⟨dfC_wA (by omega), rfl⟩
  obtain ⟨v, hv⟩ : ∃ v, v = (if nI 8 < si s2 3 1 + nI 1 then nI 8 else si s2 3 1 + nI 1) := ⟨_, rfl⟩
  refine ⟨wi s2 3 1 v, by rw [b68, h1, e_bU, k1, e_bU, c_min', e_bI, hv], (h3.1.t k3.1).t (dfC_wi (by omega)), k3.2.trans h3.2⟩
theorem c68 {x y : Int32} {np : Nat} (hD : 1 ≤ D) (h3 : si c 3 1 = nI np) (hp : np < 8) : ab_ev X D 68 [.inr (2, 1), .inl (.int x), .inl (.int y)] c = some (.inl none, wi (wA (wA c 1 1 (va_up (sA c 1 1) np x)) 2 1 (va_up (sA c 2 1) np y)) 3 1 (nI (np + 1))) := by
  obtain ⟨d, rfl⟩ : ∃ d, D = d + 1 := ⟨D - 1, by omega⟩
  have e1 : si (wA c 1 1 (va_up (sA c 1 1) np x)) 3 1 = nI np := h3
  have e2 : si (wA (wA c 1 1 (va_up (sA c 1 1) np x)) 2 1 (va_up (sA (wA c 1 1 (va_up (sA c 1 1) np x)) 2 1) np y)) 3 1 = nI np := h3
  have e3 : sA (wA c 1 1 (va_up (sA c 1 1) np x)) 2 1 = sA c 2 1 := by simp (disch := omega) only [E0]
  rw [b68, h3, put20 hp, e_bU, e1, put21 hp, e_bU, e2, nI_add, c_min _ _ (by omega) (by omega), Nat.min_eq_left (by omega), e_bI, e3]
theorem SG.person (h : SG L p n c m) (q9 : st c 0 = 9) (hD : 7 ≤ D) (hE : 6 ≤ E) : ∃ (c2 m2 : ab_S), ab_ev X D 67 [.inr (1, 0), .inr (2, 1)] c = some (.inl none, c2) ∧ ab_ev X E 251 [.inr (9, 0)] m = some (.inl none, m2) ∧ dfC c c2 ∧ dfM m m2 ∧ SR L p n c2 m2 := by
  obtain ⟨d, rfl⟩ : ∃ d, D = d + 1 := ⟨D - 1, by omega⟩
  obtain ⟨e, rfl⟩ : ∃ e, E = e + 2 := ⟨E - 2, by omega⟩
  obtain ⟨np, hs, p1, p2, p3, p4, p5, p6, p7⟩ := h.2.1.2.2.2.2.1
  by_cases q : np = 8
  · obtain ⟨c1, m1, g1, g2, g3, g4, g5⟩ := h.1.ref (X := X) (D := d) (E := e) (f := 4) (by omega) (by omega)
    rw [q] at p3 p4
    refine ⟨c1, m1, ?_, ?_, g4.d, g5.d, Or.inr g3⟩
    · rw [b67, p3, if_pos rfl, g1, e_bU]
    · rw [b251, r248n (by omega) p4 g2 g3.nm, e_bI, if_pos rfl]
  · obtain ⟨c1, m1, p1', a1, a2, a3, a4, a5, a6⟩ := h.1.adv (X := X) (D := d) (E := e) (by omega) (by omega) (by omega)
    have hS := h.tok a4 a5 a6
    have d1 := hS.2.1.1
    have n67 : ¬ si c 3 1 = nI 8 := fun z => q ((nI_eq (by omega) (by omega)).mp (p3.symm.trans z))
    have y248 := r248y (X := X) (E := e) (m := m) (m' := m1) (t := 3) (mx := 8) (by omega) p4 (by omega) (by omega) q h.1.2.2.2.1 a3 a4.2.2.2.1
    obtain ⟨c2, m2, r, b1, b2, b3, b4⟩ := hS.1.str (X := X) (D := d) (E := e + 1) d1.1 d1.2.1 d1.2.2 (by omega) (by omega)
    rcases b4 with ⟨v, p2', e1, e2, e3, e4, e5, e6, e7, e8⟩ | ⟨e1, e2⟩
    · have hS2 := hS.tok e8 b2 b3
      have i2 : si c2 2 1 = nI hs := by
        rw [fC_si b2, fC_si a5]
        exact p5
      have g4' : sa m2 9 4 = nI hs := by
        rw [fM_sa b3, fM_sa a6]
        exact p6
      obtain ⟨c3, m3, r', f1, f2, f3, f4⟩ := hS2.1.num (X := X) (D := d) (E := e + 1) (lo := 1) (hi := hs) (by omega) (by omega) (by omega) (by omega)
      rcases f4 with ⟨w, p3', y1, y2, y3, y4, y5, y6, y7, y8, y9⟩ | ⟨y1, y2⟩
      · have hS3 := hS2.tok y9 f2 f3
        obtain ⟨hG, ⟨d1, d2, d3, d4, d5, d6, d7⟩, h22⟩ := hS3
        have hn := d1.2.2.2
        have i3 : si c3 3 1 = nI np := by
          rw [fC_si f2, fC_si b2, fC_si a5]
          exact p3
        have g3' : sa m3 9 3 = nI np := by
          rw [fM_sa f3, fM_sa b3, fM_sa a6]
          exact p4
        have k := c68 (X := X) (D := d) (c := c3) (x := r) (y := r') (by omega) i3 (show np < 8 by omega)
        refine ⟨wi (wA (wA c3 1 1 (va_up (sA c3 1 1) np r)) 2 1 (va_up (sA c3 2 1) np r')) 3 1 (nI (np + 1)), pa m3 9 (va_up (va_up (va_up (sa m3 9) (116 + np) (nI v)) (124 + np) (nI w)) 3 (nI (np + 1))), ?_, ?_, ((a5.d.t b2.d).t f2.d).t ((dfC_wA (k := 1) (by omega)).t ((dfC_wA (k := 2) (by omega)).t (dfC_wi (k := 3) (x := nI (np + 1)) (by omega)))), ((a6.d.t b3.d).t f3.d).t dfM_pa, Or.inl ⟨p3', by omega, hG.of rfl rfl rfl (fun _ _ _ => rfl) rfl, ?_, h22⟩⟩
        · rw [b67, if_neg n67, a2, e_bU, b1, e_bI, i2, f1, e_bI, k, e_bU]
        · rw [b251, y248, e_bI, if_neg (show ¬ nI 1 = nI 0 by decide), e7, e_bI, g4', y8, e_bI, if_pos hG.2.2.2.1, g3', nI_add, r_in (j := 116 + np) (by omega) (by decide), nI_clamp (by omega)]
          simp (disch := omega) only [E1]
          rw [va_up_ne _ _ (show 3 ≠ 116 + np by omega), g3', nI_add, r_in (j := 124 + np) (by omega) (by decide), nI_clamp (by omega), va_up_ne _ _ (show 3 ≠ 124 + np by omega), va_up_ne _ _ (show 3 ≠ 116 + np by omega), g3', nI_add]
        · unfold DFX
          simp (disch := omega) only [E0]
          have o : ∀ t, t ≠ 3 → ¬ (116 ≤ t ∧ t < 132) → va_up (va_up (va_up (sa m3 9) (116 + np) (nI v)) (124 + np) (nI w)) 3 (nI (np + 1)) t = sa m3 9 t := fun t h3 ht => by rw [va_up_ne _ _ h3, va_up_ne _ _ (by omega), va_up_ne _ _ (by omega)]
          refine ⟨d1.row (o _ (by omega) (by omega)), d2.row hn (fun t a b => o _ (by omega) (by omega)), d3.row (o _ (by omega) (by omega)), d4.row (o _ (by omega) (by omega)) (fun t a b => o _ (by omega) (by omega)) (fun t a b => o _ (by omega) (by omega)), ?_, d6.row (o _ (by omega) (by omega)) (fun t a => o _ (by omega) (by omega)), d7.row (o _ (by omega) (by omega)) (o _ (by omega) (by omega)) (o _ (by omega) (by omega)) (o _ (by omega) (by omega))⟩
          obtain ⟨np', hs', u1, u2, u3, u4, u5, u6, u7⟩ := d5
          obtain rfl : np' = np := (nI_eq (by omega) (by omega)).mp (u3.symm.trans i3)
          have hs5 : si c3 2 1 = nI hs := by
            rw [fC_si f2]
            exact i2
          obtain rfl : hs' = hs := (nI_eq (by omega) (by omega)).mp (u5.symm.trans hs5)
          refine ⟨np' + 1, hs', by omega, by omega, rfl, va_up_self _ _ _, u5, ?_, fun t ht => ?_⟩
          · rw [o _ (by omega) (by omega)]
            exact u6
          · by_cases z : t = np'
            · rw [z]
              refine ⟨v, w, e3, y4, ?_, ?_, ?_, ?_⟩
              · rw [va_up_self, e6]
              · rw [va_up_ne _ _ (by omega), va_up_ne _ _ (by omega), va_up_self]
              · rw [va_up_self, y7]
              · rw [va_up_ne _ _ (by omega), va_up_self]
            · rw [va_up_ne _ _ z, va_up_ne _ _ z, va_up_ne _ _ (show 116 + t ≠ 3 by omega), va_up_ne _ _ (show 116 + t ≠ 124 + np' by omega), va_up_ne _ _ (show 116 + t ≠ 116 + np' by omega), va_up_ne _ _ (show 124 + t ≠ 3 by omega), va_up_ne _ _ (show 124 + t ≠ 124 + np' by omega), va_up_ne _ _ (show 124 + t ≠ 116 + np' by omega)]
              exact u7 t (by omega)
      · obtain ⟨c4, z1, z2, z3⟩ := c68t (X := X) (D := d) (c := c3) (x := r) (y := r') (by omega)
        refine ⟨c4, m3, ?_, ?_, ((a5.d.t b2.d).t f2.d).t z2, (a6.d.t b3.d).t f3.d, Or.inr (y1.of (by rw [z3]) (by rw [z3]) rfl rfl)⟩
        · rw [b67, if_neg n67, a2, e_bU, b1, e_bI, i2, f1, e_bI, z1, e_bU]
        · rw [b251, y248, e_bI, if_neg (show ¬ nI 1 = nI 0 by decide), e7, e_bI, g4', y2, e_bI, if_neg y1.nm]
    · obtain ⟨c4, z1, z2, z3⟩ := c68t (X := X) (D := d) (c := c2) (x := r) (y := sz c2 7) (by omega)
      refine ⟨c4, m2, ?_, ?_, (a5.d.t b2.d).t z2, a6.d.t b3.d, Or.inr (e1.of (by rw [z3]) (by rw [z3]) rfl rfl)⟩
      · rw [b67, if_neg n67, a2, e_bU, b1, e_bI, c56b e1.nc (by omega), e_bI, z1, e_bU]
      · rw [b251, y248, e_bI, if_neg (show ¬ nI 1 = nI 0 by decide), e2, e_bI, r243b e1.nm (by omega), e_bI, if_neg e1.nm]
end PER
