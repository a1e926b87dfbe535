/-! Whole calls of the law: nights to come; what is counted. -/
/-- the law as both hold it -/
def LW (s : ab_S) (ml : Nat) : Prop := si s 8 0 = nI ml ∧ sa s 8 5 = nI ml ∧ ml ≤ 900 ∧ WL (sA s 6 0) ml ∧ LR (sA s 6 0) (sa s 8) ml
/-- counts that both hold -/
def NW (s : ab_S) : Prop := si s 0 0 = sa s 8 0 ∧ si s 4 0 = sa s 8 132 ∧ si s 5 0 = sa s 8 133 ∧ si s 9 0 = sa s 8 6 ∧ sz s 1 = sz s 12
theorem TW.sameX {s s' : ab_S} {i n : Nat} {nm : Nat → Nat} {nr : Nat} {z : Nat → Nat} {st : Nat → Nat → Nat} {bm : Nat} {by' : Nat → Int32} (hi : i ≠ 1) (h : TW s i n nm nr z st bm by') (h1 : sX s s') : TW s' i n nm nr z st bm by' := by
  obtain ⟨a1, a2, a3, a4, a5, a6, a7, a8, a9⟩ := h1
  unfold TW at h ⊢
  rw [a3 1 i (Or.inl hi), a3 7 i (Or.inl hi), a3 6 i (Or.inl hi), a5 0 i hi (by decide), a5 4 i hi (by decide), a5 3 i hi (by decide), a5 5 i hi (by decide)]
  exact h
theorem BW.sameX {s s' : ab_S} {n : Nat} {nm : Nat → Nat} {nr : Nat} {z : Nat → Nat} {st : Nat → Nat → Nat} {bm : Nat} {by' : Nat → Int32} (h : BW s n nm nr z st bm by') (h1 : sX s s') : BW s' n nm nr z st bm by' := ⟨h.1.sameX (by decide) h1, h.2.same (h1.2.2.2.1 8 (by omega))⟩
theorem PW.sameX {s s' : ab_S} {n : Nat} {nm : Nat → Nat} {nr : Nat} {z : Nat → Nat} {st : Nat → Nat → Nat} {bm : Nat} {by' : Nat → Int32} {np hs : Nat} {lo li : Nat → Nat} (h : PW s n nm nr z st bm by' np hs lo li) (h1 : sX s s') : PW s' n nm nr z st bm by' np hs lo li := by
  obtain ⟨a, b⟩ := h
  refine ⟨a.sameX h1, ?_⟩
  obtain ⟨a1, a2, a3, a4, a5, a6, a7, a8, a9⟩ := h1
  rw [a3 3 0 (Or.inl (by decide)), a3 2 0 (Or.inl (by decide)), a4 8 (by omega)]
  have e1 := a5 1 0 (by decide) (by decide)
  have e2 := a5 2 0 (by decide) (by decide)
  rw [e1, e2]
  exact b
theorem LW.sameX {s s' : ab_S} {ml : Nat} (h : LW s ml) (h1 : sX s s') : LW s' ml := by
  obtain ⟨a1, a2, a3, a4, a5, a6, a7, a8, a9⟩ := h1
  unfold LW at h ⊢
  rw [a3 8 0 (Or.inl (by decide)), a4 8 (by omega), a5 6 0 (by decide) (by decide)]
  exact h
theorem NW.sameX {s s' : ab_S} (h : NW s) (h1 : sX s s') : NW s' := by
  obtain ⟨a1, a2, a3, a4, a5, a6, a7, a8, a9⟩ := h1
  unfold NW at h ⊢
  rw [a3 0 0 (Or.inl (by decide)), a3 4 0 (Or.inl (by decide)), a3 5 0 (Or.inl (by decide)), a3 9 0 (Or.inl (by decide)), a4 8 (by omega), a1 1 (by decide) (by decide) (by decide) (by decide) (by decide) (by decide), a1 12 (by decide) (by decide) (by decide) (by decide) (by decide) (by decide)]
  exact h
theorem ct3231 {M : Nat} (h : M < 2 ^ 31) : fb_ct (fun j => M.testBit j) 32 = fb_ct (fun j => M.testBit j) 31 := by
  rw [fb_ct_succ, Nat.testBit_lt_two_pow h]
  rfl
section OP13
variable {X : (Nat → Int32) × Nat} {d k n nr bm np hs ml : Nat} {u5 u6 : Option ab_V} {s : ab_S} {nm z f g lo li : Nat → Nat} {st : Nat → Nat → Nat} {by' : Nat → Int32}
theorem sX_pa {j : Nat} {F : Nat → Int32} (h : 1 ≤ j ∧ j ≤ 7 ∨ 13 ≤ j ∧ j ≤ 21) : sX s (pa s j F) := ⟨fun _ _ _ _ _ _ _ => rfl, rfl, fun _ _ _ => rfl, fun q hq => va_up_ne _ _ (by omega), fun _ _ _ _ => rfl, rfl, rfl, rfl, rfl⟩
theorem sX_pz {j : Nat} {v : Int32} (h : j = 0 ∨ j = 8 ∨ j = 9 ∨ j = 10 ∨ j = 11 ∨ j = 23) : sX s (pz s j v) := ⟨fun q _ _ _ _ _ _ => va_up_ne _ _ (by omega), rfl, fun _ _ _ => rfl, fun _ _ => rfl, fun _ _ _ _ => rfl, rfl, rfl, rfl, rfl⟩
theorem sX_pb {j : Nat} {F : Nat → Int64} (h : j ≠ 2) : sX s (pb s j F) := ⟨fun _ _ _ _ _ _ _ => rfl, rfl, fun _ _ _ => rfl, fun _ _ => rfl, fun _ _ _ _ => rfl, va_up_ne _ _ (Ne.symm h), rfl, rfl, rfl⟩
theorem r294H {w day moved : Int32} (h : LW s ml) (hp : si s 3 0 = sa s 8 3) : ∃ F' : Nat → Int32, ab_ev X (d + 3) 294 [.inr (9, 0), .inl (.int day), .inl (.int moved), .inl (.int w)] s = some (.inl (some (.inl (.int (if lwH s 0 w day moved then nI 1 else nI 0)))), pa s 17 F') := by
  obtain ⟨h1, h2, h3, h4, h5⟩ := h
  obtain ⟨F', g⟩ := r294 (X := X) (d := d) (day := day) (moved := moved) (wrong := w) h2 h3 h4 h5
  refine ⟨F', ?_⟩
  rw [g]
  unfold lwH
  rw [h1, nI_clamp (by omega), hp]
theorem l299 {N : Nat} {w : Int32} (h : LW s ml) (hp : si s 3 0 = sa s 8 3) (hd : si s 4 0 = sa s 8 132) (hm : si s 5 0 = sa s 8 133) (hN : N ≤ 999) : ∀ (j i : Nat) (F : Nat → Int32), i + j = N → ∃ F' : Nat → Int32, ab_at X (d + 4) 299 33 [some (.inr (9, 0)), some (.inl (.int (nI N))), some (.inl (.int w)), some (.inl (.int (nI (mvf (lwH s 0 w) (si s 4 0) (si s 5 0) i)))), some (.inl (.int (nI i)))] [] (pa s 17 F) = some (.inl (some (.inl (.int (nI (mvf (lwH s 0 w) (si s 4 0) (si s 5 0) N))))), pa s 17 F')
  | 0, i, F, e => by
    obtain rfl : i = N := by omega
    exact ⟨F, by rw [b299_33, if_pos (nI_le (Nat.le_refl _) (by omega))]⟩
  | j + 1, i, F, e => by
    have hi : i < N := by omega
    obtain ⟨G, g⟩ := r294H (X := X) (d := d) (s := pa s 17 F) (ml := ml) (w := w) (day := si s 4 0 + nI i) (moved := si s 5 0 + nI (mvf (lwH s 0 w) (si s 4 0) (si s 5 0) i)) h hp
    have e1 : lwH (pa s 17 F) 0 w = lwH s 0 w := rfl
    rw [e1] at g
    have e2 : pa (pa s 17 F) 17 G = pa s 17 G := by simp only [E1]
    rw [e2] at g
    obtain ⟨F', g2⟩ := l299 (w := w) h hp hd hm hN j (i + 1) G (by omega)
    refine ⟨F', ?_⟩
    have hb : ab_at X (d + 4) 299 33 [some (.inr (9, 0)), some (.inl (.int (nI N))), some (.inl (.int w)), some (.inl (.int (nI (mvf (lwH s 0 w) (si s 4 0) (si s 5 0) i)))), some (.inl (.int (nI i)))] [] (pa s 17 F) = _ := b299_33
    simp (disch := omega) only [E0] at hb
    rw [if_neg (nI_ge hi (by omega)), ← hd, ← hm, g, e_bI] at hb
    have hs : mvf (lwH s 0 w) (si s 4 0) (si s 5 0) (i + 1) = mvf (lwH s 0 w) (si s 4 0) (si s 5 0) i + (if lwH s 0 w (si s 4 0 + nI i) (si s 5 0 + nI (mvf (lwH s 0 w) (si s 4 0) (si s 5 0) i)) then 0 else 1) := rfl
    rw [hb, ← g2, hs]
    cases lwH s 0 w (si s 4 0 + nI i) (si s 5 0 + nI (mvf (lwH s 0 w) (si s 4 0) (si s 5 0) i)) with
    | true => rw [if_pos rfl, if_pos rfl, if_neg (by decide), nI_add, nI_add]
    | false => rw [if_pos (show (if false = true then nI 1 else nI 0) = nI 0 from rfl), if_neg (show ¬ false = true by decide), nI_add, nI_add]
theorem l300 {E : Nat} {w : Int32} (h : LW s ml) (hp : si s 3 0 = sa s 8 3) (hd : si s 4 0 = sa s 8 132) (hm : si s 5 0 = sa s 8 133) (hE : E ≤ 999) : ∀ (j i : Nat) (F : Nat → Int32), i + j = 1000 → (∀ q, q < i → (mvf (lwH s 0 w) (si s 4 0) (si s 5 0) q == E) = false) → ∃ F' : Nat → Int32, ab_at X (d + 4) 300 33 [some (.inr (9, 0)), some (.inl (.int (nI E))), some (.inl (.int w)), some (.inl (.int (nI (mvf (lwH s 0 w) (si s 4 0) (si s 5 0) i)))), some (.inl (.int (nI i)))] [] (pa s 17 F) = some (.inl (some (.inl (.int (if fst (fun q => mvf (lwH s 0 w) (si s 4 0) (si s 5 0) q == E) 1000 < 1000 then nI (fst (fun q => mvf (lwH s 0 w) (si s 4 0) (si s 5 0) q == E) 1000) else -nI 1)))), pa s 17 F')
  | 0, i, F, e, hr => by
    obtain rfl : i = 1000 := by omega
    refine ⟨F, ?_⟩
    rw [b300_33, if_pos (nI_lt (by omega) (by omega)), fst_eqn hr, if_neg (by omega)]
  | j + 1, i, F, e, hr => by
    have hi : i < 1000 := by omega
    have hle := mvf_le (lwH s 0 w) (si s 4 0) (si s 5 0) i
    have hb : ab_at X (d + 4) 300 33 [some (.inr (9, 0)), some (.inl (.int (nI E))), some (.inl (.int w)), some (.inl (.int (nI (mvf (lwH s 0 w) (si s 4 0) (si s 5 0) i)))), some (.inl (.int (nI i)))] [] (pa s 17 F) = _ := b300_33
    simp (disch := omega) only [E0] at hb
    rw [if_neg (nI_nlt (show i ≤ 999 by omega) (by omega))] at hb
    by_cases q : mvf (lwH s 0 w) (si s 4 0) (si s 5 0) i = E
    · refine ⟨F, ?_⟩
      rw [hb, if_pos (by rw [q]), fst_eq (P := fun q => mvf (lwH s 0 w) (si s 4 0) (si s 5 0) q == E) hi (beq_iff_eq.mpr q) hr, if_pos hi]
    · obtain ⟨G, g⟩ := r294H (X := X) (d := d) (s := pa s 17 F) (ml := ml) (w := w) (day := si s 4 0 + nI i) (moved := si s 5 0 + nI (mvf (lwH s 0 w) (si s 4 0) (si s 5 0) i)) h hp
      have e1 : lwH (pa s 17 F) 0 w = lwH s 0 w := rfl
      rw [e1] at g
      have e2 : pa (pa s 17 F) 17 G = pa s 17 G := by simp only [E1]
      rw [e2] at g
      obtain ⟨F', g2⟩ := l300 (w := w) h hp hd hm hE j (i + 1) G (by omega) (fun q2 hq => by
        by_cases q3 : q2 = i
        · rw [q3]
          exact beq_eq_false_iff_ne.mpr q
        · exact hr q2 (by omega))
      refine ⟨F', ?_⟩
      rw [if_neg (fun z => q ((nI_eq (by omega) (by omega)).mp z)), ← hd, ← hm, g, e_bI] at hb
      have hs : mvf (lwH s 0 w) (si s 4 0) (si s 5 0) (i + 1) = mvf (lwH s 0 w) (si s 4 0) (si s 5 0) i + (if lwH s 0 w (si s 4 0 + nI i) (si s 5 0 + nI (mvf (lwH s 0 w) (si s 4 0) (si s 5 0) i)) then 0 else 1) := rfl
      rw [hb, ← g2, hs]
      cases lwH s 0 w (si s 4 0 + nI i) (si s 5 0 + nI (mvf (lwH s 0 w) (si s 4 0) (si s 5 0) i)) with
      | true => rw [if_pos rfl, if_pos rfl, if_neg (by decide), nI_add, nI_add]
      | false => rw [if_pos (show (if false = true then nI 1 else nI 0) = nI 0 from rfl), if_neg (show ¬ false = true by decide), nI_add, nI_add]
/-- whether the coming night rests -/
theorem o5 (h : PW s n nm nr z st bm by' np hs lo li) (hl : LW s ml) (hw : NW s) (hk : k + 5 < X.2) (hX : X.2 < 2 ^ 31) : ∃ (s2 : ab_S) (v5 v6 : Option ab_V), sY s s2 ∧ ab_at X (d + 31) 360 934 [some (.inr (14, 0)), some (.inr (0, 0)), some (.inr (9, 0)), some (.inr (15, 0)), some (.inl (.int (nI k))), u5, u6, none] [] s = ab_at X (d + 31) 360 23 [some (.inr (14, 0)), some (.inr (0, 0)), some (.inr (9, 0)), some (.inr (15, 0)), some (.inl (.int (nI (k + 6)))), v5, v6, none] [] s2 := by
  obtain ⟨⟨hT, hR⟩, p1, p2, p3, p4, p5, p6, p7⟩ := id h
  obtain ⟨hcn, hn, t3, t4, -⟩ := id hT
  obtain ⟨F, a1⟩ := c_movesAmong (X := X) (d := d + 25) (N := 1) hcn hn t3 t4 hl.1 hl.2.2.1 hl.2.2.2.1 (by omega)
  obtain ⟨v, hv⟩ : ∃ v, v = lwH s 0 (nI (wrg nm n)) (si s 4 0) (si s 5 0) := ⟨_, rfl⟩
  have e0 : ∀ x : Int32, x + nI 0 = x := Int32.add_zero
  have e1 : mvf (lwH s 0 (nI (wrg nm n))) (si s 4 0) (si s 5 0) 1 = if v then 0 else 1 := by
    show 0 + (if lwH s 0 (nI (wrg nm n)) (si s 4 0 + nI 0) (si s 5 0 + nI 0) then 0 else 1) = _
    rw [e0, e0, ← hv, Nat.zero_add]
  have c : ab_ev X (d + 30) 5 [.inr (0, 0)] s = some (.inl (some (.inl (.int (if v then nI 1 else nI 0)))), wA s 7 0 F) := by
    rw [b5, a1, e_bI, e1]
    cases v <;> rfl
  have hV : sX s (pz (wA s 7 0 F) 11 (nI 0)) := sX_trans sX_wA7 (sX_pz (by omega))
  have hb := h.sameX hV
  obtain ⟨G, g⟩ := r294H (X := X) (d := d + 25) (w := nI (wrg nm n)) (day := si s 4 0) (moved := si s 5 0) (hl.sameX hV) (p1.trans p2.symm)
  have r : ab_ev X (d + 30) 298 [.inr (9, 0)] (wA s 7 0 F) = some (.inl (some (.inl (.int (if v then nI 1 else nI 0)))), pa (pz (wA s 7 0 F) 11 (nI 0)) 17 G) := by
    have ew : lwH (pz (wA s 7 0 F) 11 (nI 0)) 0 (nI (wrg nm n)) (si s 4 0) (si s 5 0) = v := by
      rw [hv]
      exact lwH_w (s := s) (i := 0) (F := F)
    rw [ew] at g
    have e2 : sa (pz (wA s 7 0 F) 11 (nI 0)) 8 132 = si s 4 0 := hw.2.1.symm
    have e3 : sa (pz (wA s 7 0 F) 11 (nI 0)) 8 133 = si s 5 0 := hw.2.2.1.symm
    rw [b298, b291, r292 (d := d + 26) hb.1.2, e_bI, e2, e3, g, e_bI]
    cases v <;> rfl
  exact ⟨_, _, _, Or.inl (sX_trans hV (sX_pa (by omega))), w934 hk hX c r rfl⟩
theorem o117 (h : PW s n nm nr z st bm by' np hs lo li) (hl : LW s ml) (hw : NW s) (hk : k + 5 < X.2) (hX : X.2 < 2 ^ 31) : ∃ (s2 : ab_S) (v5 v6 : Option ab_V), sY s s2 ∧ ab_at X (d + 31) 360 947 [some (.inr (14, 0)), some (.inr (0, 0)), some (.inr (9, 0)), some (.inr (15, 0)), some (.inl (.int (nI k))), u5, u6, none] [] s = ab_at X (d + 31) 360 23 [some (.inr (14, 0)), some (.inr (0, 0)), some (.inr (9, 0)), some (.inr (15, 0)), some (.inl (.int (nI (k + 6)))), v5, v6, none] [] s2 := by
  obtain ⟨⟨hT, hR⟩, p1, p2, p3, p4, p5, p6, p7⟩ := id h
  have hr3 : sa (ths s) 8 3 = nI np := p2
  have hr4 : sa (ths s) 8 4 = nI hs := p5
  obtain ⟨hcn, hn, t3, t4, -⟩ := id hT
  have hr1 : sa (ths s) 8 1 = nI n := hR.1
  have i_0 : (nI 0).toInt = 0 := by decide
  have j_0 : (lN 0).toInt = 0 := by decide
  have i_999 : (nI 999).toInt = 999 := by decide
  have j_999 : (lN 999).toInt = 999 := by decide
  by_cases h1 : inR (X.1 (k + 1)).toInt 0 999 = true
  rotate_left
  · have cc : ab_ev X (d + 30) 117 [.inr (0, 0), .inl (.int (X.1 (k + 1))), .inr (15, 0)] s = some (.inl (some (.inl (.int (nI 1)))), ths s) := by
      rw [b117, b118, c_n103, i_0, i_999, if_neg h1, e_xU, e_px, e_xI]
      rfl
    have r : ab_ev X (d + 30) 299 [.inr (9, 0), .inl (.int (X.1 (k + 1)))] (ths s) = some (.inl (some (.inl (.int (nI 0)))), pz (ths s) 11 (nI 1)) := by
      rw [b299, r232, j_of, j_0, j_999, if_neg h1, e_bI, if_pos rfl, b233, e_bI, pz2]
    exact ⟨_, _, _, Or.inr (sV_pz (by omega)).X, w947 hk hX cc r rfl (fun q => absurd q (by decide))⟩
  obtain ⟨N, hN, ev⟩ := inS_rep (x := X.1 (k + 1)) (n := 1000) (inS_def.mpr (by have := inR_iff.mp h1; omega))
  obtain ⟨F, a1⟩ := c_movesAmong (X := X) (d := d + 24) (N := N) hcn hn t3 t4 hl.1 hl.2.2.1 hl.2.2.2.1 (by omega)
  obtain ⟨w, hw2⟩ : ∃ w, w = nI (mvf (lwH s 0 (nI (wrg nm n))) (si s 4 0) (si s 5 0) N) := ⟨_, rfl⟩
  have cc : ab_ev X (d + 30) 117 [.inr (0, 0), .inl (.int (X.1 (k + 1))), .inr (15, 0)] s = some (.inl (some (.inl (.int (nI 0)))), pb (wA s 7 0 F) 3 (va_up (sb (wA s 7 0 F) 3) 0 w.toInt64)) := by
    rw [b117, b118, c_n103, i_0, i_999, if_pos h1, e_bU, ev, a1, e_bI, e_bI, hw2]
  have hV : sX s (pz (pb (wA s 7 0 F) 3 (va_up (sb (wA s 7 0 F) 3) 0 w.toInt64)) 11 (nI 0)) := sX_trans sX_wA7 (sX_trans (sX_pb (by decide)) (sX_pz (by omega)))
  have hb := h.sameX hV
  have ew : lwH (pz (pb (wA s 7 0 F) 3 (va_up (sb (wA s 7 0 F) 3) 0 w.toInt64)) 11 (nI 0)) 0 (nI (wrg nm n)) = lwH s 0 (nI (wrg nm n)) := by
    funext x y
    exact lwH_w (s := s) (i := 0) (F := F)
  obtain ⟨G, g⟩ := l299 (X := X) (d := d + 26) (s := pz (pb (wA s 7 0 F) 3 (va_up (sb (wA s 7 0 F) 3) 0 w.toInt64)) 11 (nI 0)) (N := N) (w := nI (wrg nm n)) (hl.sameX hV) (p1.trans p2.symm) hw.2.1 hw.2.2.1 (by omega) N 0 (sa s 17) (by omega)
  rw [ew] at g
  have e9 : pa (pz (pb (wA s 7 0 F) 3 (va_up (sb (wA s 7 0 F) 3) 0 w.toInt64)) 11 (nI 0)) 17 (sa s 17) = pz (pb (wA s 7 0 F) 3 (va_up (sb (wA s 7 0 F) 3) 0 w.toInt64)) 11 (nI 0) := pa_id _ 17
  have e4 : si (pz (pb (wA s 7 0 F) 3 (va_up (sb (wA s 7 0 F) 3) 0 w.toInt64)) 11 (nI 0)) = si s := rfl
  rw [e9, e4, ← hw2] at g
  have r : ab_ev X (d + 30) 299 [.inr (9, 0), .inl (.int (X.1 (k + 1)))] (pb (wA s 7 0 F) 3 (va_up (sb (wA s 7 0 F) 3) 0 w.toInt64)) = some (.inl (some (.inl (.int w))), pa (pz (pb (wA s 7 0 F) 3 (va_up (sb (wA s 7 0 F) 3) 0 w.toInt64)) 11 (nI 0)) 17 G) := by
    rw [b299, r232, j_of, j_0, j_999, if_pos h1, e_bI, if_neg (show ¬ nI 1 = nI 0 by decide), r292 (d := d + 27) hb.1.2, e_bI, ev]
    exact g
  exact ⟨_, _, _, Or.inl (sX_trans hV (sX_pa (by omega))), w947 hk hX cc r rfl (fun _ => rfl)⟩
theorem o119 (h : PW s n nm nr z st bm by' np hs lo li) (hl : LW s ml) (hw : NW s) (hk : k + 5 < X.2) (hX : X.2 < 2 ^ 31) : ∃ (s2 : ab_S) (v5 v6 : Option ab_V), sY s s2 ∧ ab_at X (d + 31) 360 1003 [some (.inr (14, 0)), some (.inr (0, 0)), some (.inr (9, 0)), some (.inr (15, 0)), some (.inl (.int (nI k))), u5, u6, none] [] s = ab_at X (d + 31) 360 23 [some (.inr (14, 0)), some (.inr (0, 0)), some (.inr (9, 0)), some (.inr (15, 0)), some (.inl (.int (nI (k + 6)))), v5, v6, none] [] s2 := by
  obtain ⟨⟨hT, hR⟩, p1, p2, p3, p4, p5, p6, p7⟩ := id h
  have hr3 : sa (ths s) 8 3 = nI np := p2
  have hr4 : sa (ths s) 8 4 = nI hs := p5
  obtain ⟨hcn, hn, t3, t4, -⟩ := id hT
  have hr1 : sa (ths s) 8 1 = nI n := hR.1
  have i_0 : (nI 0).toInt = 0 := by decide
  have j_0 : (lN 0).toInt = 0 := by decide
  have i_999 : (nI 999).toInt = 999 := by decide
  have j_999 : (lN 999).toInt = 999 := by decide
  by_cases h1 : inR (X.1 (k + 1)).toInt 0 999 = true
  rotate_left
  · have cc : ab_ev X (d + 30) 119 [.inr (0, 0), .inl (.int (X.1 (k + 1))), .inr (15, 0)] s = some (.inl (some (.inl (.int (nI 1)))), ths s) := by
      rw [b119, b120, c_n103, i_0, i_999, if_neg h1, e_xU, e_px, e_xI]
      rfl
    have r : ab_ev X (d + 30) 300 [.inr (9, 0), .inl (.int (X.1 (k + 1)))] (ths s) = some (.inl (some (.inl (.int (nI 0)))), pz (ths s) 11 (nI 1)) := by
      rw [b300, r232, j_of, j_0, j_999, if_neg h1, e_bI, if_pos rfl, b233, e_bI, pz2]
    exact ⟨_, _, _, Or.inr (sV_pz (by omega)).X, w1003 hk hX cc r rfl (fun q => absurd q (by decide))⟩
  obtain ⟨N, hN, ev⟩ := inS_rep (x := X.1 (k + 1)) (n := 1000) (inS_def.mpr (by have := inR_iff.mp h1; omega))
  obtain ⟨F, a1⟩ := c_nightsTill (X := X) (d := d + 24) (E := N) hcn hn t3 t4 hl.1 hl.2.2.1 hl.2.2.2.1 (by omega)
  obtain ⟨w, hw2⟩ : ∃ w, w = (if fst (fun q => mvf (lwH s 0 (nI (wrg nm n))) (si s 4 0) (si s 5 0) q == N) 1000 < 1000 then nI (fst (fun q => mvf (lwH s 0 (nI (wrg nm n))) (si s 4 0) (si s 5 0) q == N) 1000) else -nI 1) := ⟨_, rfl⟩
  have cc : ab_ev X (d + 30) 119 [.inr (0, 0), .inl (.int (X.1 (k + 1))), .inr (15, 0)] s = some (.inl (some (.inl (.int (nI 0)))), pb (wA s 7 0 F) 3 (va_up (sb (wA s 7 0 F) 3) 0 w.toInt64)) := by
    rw [b119, b120, c_n103, i_0, i_999, if_pos h1, e_bU, ev, a1, e_bI, e_bI, hw2]
  have hV : sX s (pz (pb (wA s 7 0 F) 3 (va_up (sb (wA s 7 0 F) 3) 0 w.toInt64)) 11 (nI 0)) := sX_trans sX_wA7 (sX_trans (sX_pb (by decide)) (sX_pz (by omega)))
  have hb := h.sameX hV
  have ew : lwH (pz (pb (wA s 7 0 F) 3 (va_up (sb (wA s 7 0 F) 3) 0 w.toInt64)) 11 (nI 0)) 0 (nI (wrg nm n)) = lwH s 0 (nI (wrg nm n)) := by
    funext x y
    exact lwH_w (s := s) (i := 0) (F := F)
  obtain ⟨G, g⟩ := l300 (X := X) (d := d + 26) (s := pz (pb (wA s 7 0 F) 3 (va_up (sb (wA s 7 0 F) 3) 0 w.toInt64)) 11 (nI 0)) (E := N) (w := nI (wrg nm n)) (hl.sameX hV) (p1.trans p2.symm) hw.2.1 hw.2.2.1 (by omega) 1000 0 (sa s 17) (by omega) (fun q hq => by omega)
  rw [ew] at g
  have e9 : pa (pz (pb (wA s 7 0 F) 3 (va_up (sb (wA s 7 0 F) 3) 0 w.toInt64)) 11 (nI 0)) 17 (sa s 17) = pz (pb (wA s 7 0 F) 3 (va_up (sb (wA s 7 0 F) 3) 0 w.toInt64)) 11 (nI 0) := pa_id _ 17
  have e4 : si (pz (pb (wA s 7 0 F) 3 (va_up (sb (wA s 7 0 F) 3) 0 w.toInt64)) 11 (nI 0)) = si s := rfl
  rw [e9, e4, ← hw2] at g
  have r : ab_ev X (d + 30) 300 [.inr (9, 0), .inl (.int (X.1 (k + 1)))] (pb (wA s 7 0 F) 3 (va_up (sb (wA s 7 0 F) 3) 0 w.toInt64)) = some (.inl (some (.inl (.int w))), pa (pz (pb (wA s 7 0 F) 3 (va_up (sb (wA s 7 0 F) 3) 0 w.toInt64)) 11 (nI 0)) 17 G) := by
    rw [b300, r232, j_of, j_0, j_999, if_pos h1, e_bI, if_neg (show ¬ nI 1 = nI 0 by decide), r292 (d := d + 27) hb.1.2, e_bI, ev]
    exact g
  exact ⟨_, _, _, Or.inl (sX_trans hV (sX_pa (by omega))), w1003 hk hX cc r rfl (fun _ => rfl)⟩
/-- what is counted -/
theorem o36 (h : PW s n nm nr z st bm by' np hs lo li) (hw : NW s) (hk : k + 5 < X.2) (hX : X.2 < 2 ^ 31) : ∃ (s2 : ab_S) (v5 v6 : Option ab_V), sY s s2 ∧ ab_at X (d + 31) 360 3186 [some (.inr (14, 0)), some (.inr (0, 0)), some (.inr (9, 0)), some (.inr (15, 0)), some (.inl (.int (nI k))), u5, u6, none] [] s = ab_at X (d + 31) 360 23 [some (.inr (14, 0)), some (.inr (0, 0)), some (.inr (9, 0)), some (.inr (15, 0)), some (.inl (.int (nI (k + 6)))), v5, v6, none] [] s2 := by
  obtain ⟨⟨hT, hR⟩, p1, p2, p3, p4, p5, p6, p7⟩ := id h
  obtain ⟨t1, hn, t3, t4, t5, t6, t7, t8, t9, t10, t11, t12, t13, t14, t15⟩ := id hT
  obtain ⟨q1, -, -, -, q5, -, -, -, -, -, -, q12, -⟩ := id hR
  obtain ⟨n1, n2, n3, n4, n5⟩ := hw
  have fin : ∀ w : Int32, ab_ev X (d + 30) 36 [.inr (0, 0), .inl (.int (X.1 (k + 1)))] s = some (.inl (some (.inl (.int w))), s) → ab_ev X (d + 30) 359 [.inr (9, 0), .inl (.int (X.1 (k + 1)))] s = some (.inl (some (.inl (.int w))), pz s 11 (nI 0)) → ∃ (s2 : ab_S) (v5 v6 : Option ab_V), sY s s2 ∧ ab_at X (d + 31) 360 3186 [some (.inr (14, 0)), some (.inr (0, 0)), some (.inr (9, 0)), some (.inr (15, 0)), some (.inl (.int (nI k))), u5, u6, none] [] s = ab_at X (d + 31) 360 23 [some (.inr (14, 0)), some (.inr (0, 0)), some (.inr (9, 0)), some (.inr (15, 0)), some (.inl (.int (nI (k + 6)))), v5, v6, none] [] s2 := fun w c r => ⟨_, _, _, Or.inl (sX_pz (by omega)), w3186 hk hX c r rfl⟩
  by_cases h2 : inS (X.1 (k + 1)) 11 = true
  · obtain ⟨v, hv, ev⟩ := inS_rep h2
    match v, hv with
    | 0, _ =>
      refine fin (si s 0 0) ?_ ?_
      · rw [b36, ev, b36_1, if_pos rfl, b36_60]
      · rw [b359, ev, b359_6, if_pos rfl, b359_64]
        have e8 : sa (pz s 11 (nI 0)) 8 = sa s 8 := rfl
        rw [e8, n1]
    | 1, _ =>
      refine fin (nI n) ?_ ?_
      · rw [b36, ev, b36_1, if_neg (show ¬ nI 1 = nI 0 by decide), if_pos rfl, b36_68]
        rw [t1]
      · rw [b359, ev, b359_6, if_neg (show ¬ nI 1 = nI 0 by decide), if_pos rfl, b359_71]
        rw [r267 (n := n) (s := pz s 11 (nI 0)) q1, e_bI]
    | 2, _ =>
      refine fin (nI nr) ?_ ?_
      · rw [b36, ev, b36_1, if_neg (show ¬ nI 2 = nI 0 by decide), if_neg (show ¬ nI 2 = nI 1 by decide), if_pos rfl, b36_76]
        rw [t5]
      · rw [b359, ev, b359_6, if_neg (show ¬ nI 2 = nI 0 by decide), if_neg (show ¬ nI 2 = nI 1 by decide), if_pos rfl, b359_76]
        have e8 : sa (pz s 11 (nI 0)) 8 = sa s 8 := rfl
        rw [e8, q5]
    | 3, _ =>
      refine fin (nI np) ?_ ?_
      · rw [b36, ev, b36_1, if_neg (show ¬ nI 3 = nI 0 by decide), if_neg (show ¬ nI 3 = nI 1 by decide), if_neg (show ¬ nI 3 = nI 2 by decide), if_pos rfl, b36_87]
        rw [p1]
      · rw [b359, ev, b359_6, if_neg (show ¬ nI 3 = nI 0 by decide), if_neg (show ¬ nI 3 = nI 1 by decide), if_neg (show ¬ nI 3 = nI 2 by decide), if_pos rfl, b359_83]
        have e8 : sa (pz s 11 (nI 0)) 8 = sa s 8 := rfl
        rw [e8, p2]
    | 4, _ =>
      refine fin (nI hs) ?_ ?_
      · rw [b36, ev, b36_1, if_neg (show ¬ nI 4 = nI 0 by decide), if_neg (show ¬ nI 4 = nI 1 by decide), if_neg (show ¬ nI 4 = nI 2 by decide), if_neg (show ¬ nI 4 = nI 3 by decide), if_pos rfl, b36_95]
        rw [p4]
      · rw [b359, ev, b359_6, if_neg (show ¬ nI 4 = nI 0 by decide), if_neg (show ¬ nI 4 = nI 1 by decide), if_neg (show ¬ nI 4 = nI 2 by decide), if_neg (show ¬ nI 4 = nI 3 by decide), if_pos rfl, b359_90]
        have e8 : sa (pz s 11 (nI 0)) 8 = sa s 8 := rfl
        rw [e8, p5]
    | 5, _ =>
      refine fin (si s 4 0) ?_ ?_
      · rw [b36, ev, b36_1, if_neg (show ¬ nI 5 = nI 0 by decide), if_neg (show ¬ nI 5 = nI 1 by decide), if_neg (show ¬ nI 5 = nI 2 by decide), if_neg (show ¬ nI 5 = nI 3 by decide), if_neg (show ¬ nI 5 = nI 4 by decide), if_pos rfl, b36_103]
      · rw [b359, ev, b359_6, if_neg (show ¬ nI 5 = nI 0 by decide), if_neg (show ¬ nI 5 = nI 1 by decide), if_neg (show ¬ nI 5 = nI 2 by decide), if_neg (show ¬ nI 5 = nI 3 by decide), if_neg (show ¬ nI 5 = nI 4 by decide), if_pos rfl, b359_97]
        have e8 : sa (pz s 11 (nI 0)) 8 = sa s 8 := rfl
        rw [e8, n2]
    | 6, _ =>
      refine fin (si s 5 0) ?_ ?_
      · rw [b36, ev, b36_1, if_neg (show ¬ nI 6 = nI 0 by decide), if_neg (show ¬ nI 6 = nI 1 by decide), if_neg (show ¬ nI 6 = nI 2 by decide), if_neg (show ¬ nI 6 = nI 3 by decide), if_neg (show ¬ nI 6 = nI 4 by decide), if_neg (show ¬ nI 6 = nI 5 by decide), if_pos rfl, b36_111]
      · rw [b359, ev, b359_6, if_neg (show ¬ nI 6 = nI 0 by decide), if_neg (show ¬ nI 6 = nI 1 by decide), if_neg (show ¬ nI 6 = nI 2 by decide), if_neg (show ¬ nI 6 = nI 3 by decide), if_neg (show ¬ nI 6 = nI 4 by decide), if_neg (show ¬ nI 6 = nI 5 by decide), if_pos rfl, b359_106]
        have e8 : sa (pz s 11 (nI 0)) 8 = sa s 8 := rfl
        rw [e8, n3]
    | 7, _ =>
      refine fin (nI (fb_ct (fun j => bm.testBit j) 31)) ?_ ?_
      · rw [b36, ev, b36_1, if_neg (show ¬ nI 7 = nI 0 by decide), if_neg (show ¬ nI 7 = nI 1 by decide), if_neg (show ¬ nI 7 = nI 2 by decide), if_neg (show ¬ nI 7 = nI 3 by decide), if_neg (show ¬ nI 7 = nI 4 by decide), if_neg (show ¬ nI 7 = nI 5 by decide), if_neg (show ¬ nI 7 = nI 6 by decide), if_pos rfl, b36_119]
        rw [t12, c_ct32 (by omega), e_bI, ct3231 (by omega)]
      · rw [b359, ev, b359_6, if_neg (show ¬ nI 7 = nI 0 by decide), if_neg (show ¬ nI 7 = nI 1 by decide), if_neg (show ¬ nI 7 = nI 2 by decide), if_neg (show ¬ nI 7 = nI 3 by decide), if_neg (show ¬ nI 7 = nI 4 by decide), if_neg (show ¬ nI 7 = nI 5 by decide), if_neg (show ¬ nI 7 = nI 6 by decide), if_pos rfl, b359_115]
        have e8 : sa (pz s 11 (nI 0)) 8 = sa s 8 := rfl
        rw [e8, q12, r293 (by omega), e_bI]
    | 8, _ =>
      refine fin (nI (wrg nm n)) ?_ ?_
      · rw [b36, ev, b36_1, if_neg (show ¬ nI 8 = nI 0 by decide), if_neg (show ¬ nI 8 = nI 1 by decide), if_neg (show ¬ nI 8 = nI 2 by decide), if_neg (show ¬ nI 8 = nI 3 by decide), if_neg (show ¬ nI 8 = nI 4 by decide), if_neg (show ¬ nI 8 = nI 5 by decide), if_neg (show ¬ nI 8 = nI 6 by decide), if_neg (show ¬ nI 8 = nI 7 by decide), if_pos rfl, b36_130]
        rw [c_wrong t1 hn t3 t4, e_bI]
      · rw [b359, ev, b359_6, if_neg (show ¬ nI 8 = nI 0 by decide), if_neg (show ¬ nI 8 = nI 1 by decide), if_neg (show ¬ nI 8 = nI 2 by decide), if_neg (show ¬ nI 8 = nI 3 by decide), if_neg (show ¬ nI 8 = nI 4 by decide), if_neg (show ¬ nI 8 = nI 5 by decide), if_neg (show ¬ nI 8 = nI 6 by decide), if_neg (show ¬ nI 8 = nI 7 by decide), if_pos rfl, b359_126]
        rw [r292 (d := d + 27) (hR.same (s' := pz s 11 (nI 0)) rfl), e_bI]
    | 9, _ =>
      refine fin (si s 9 0) ?_ ?_
      · rw [b36, ev, b36_1, if_neg (show ¬ nI 9 = nI 0 by decide), if_neg (show ¬ nI 9 = nI 1 by decide), if_neg (show ¬ nI 9 = nI 2 by decide), if_neg (show ¬ nI 9 = nI 3 by decide), if_neg (show ¬ nI 9 = nI 4 by decide), if_neg (show ¬ nI 9 = nI 5 by decide), if_neg (show ¬ nI 9 = nI 6 by decide), if_neg (show ¬ nI 9 = nI 7 by decide), if_neg (show ¬ nI 9 = nI 8 by decide), if_pos rfl, b36_138]
      · rw [b359, ev, b359_6, if_neg (show ¬ nI 9 = nI 0 by decide), if_neg (show ¬ nI 9 = nI 1 by decide), if_neg (show ¬ nI 9 = nI 2 by decide), if_neg (show ¬ nI 9 = nI 3 by decide), if_neg (show ¬ nI 9 = nI 4 by decide), if_neg (show ¬ nI 9 = nI 5 by decide), if_neg (show ¬ nI 9 = nI 6 by decide), if_neg (show ¬ nI 9 = nI 7 by decide), if_neg (show ¬ nI 9 = nI 8 by decide), if_pos rfl, b359_131]
        have e8 : sa (pz s 11 (nI 0)) 8 = sa s 8 := rfl
        rw [e8, n4]
    | 10, _ =>
      refine fin (sz s 1) ?_ ?_
      · rw [b36, ev, b36_1, if_neg (show ¬ nI 10 = nI 0 by decide), if_neg (show ¬ nI 10 = nI 1 by decide), if_neg (show ¬ nI 10 = nI 2 by decide), if_neg (show ¬ nI 10 = nI 3 by decide), if_neg (show ¬ nI 10 = nI 4 by decide), if_neg (show ¬ nI 10 = nI 5 by decide), if_neg (show ¬ nI 10 = nI 6 by decide), if_neg (show ¬ nI 10 = nI 7 by decide), if_neg (show ¬ nI 10 = nI 8 by decide), if_neg (show ¬ nI 10 = nI 9 by decide), if_pos rfl, b36_149]
      · rw [b359, ev, b359_6, if_neg (show ¬ nI 10 = nI 0 by decide), if_neg (show ¬ nI 10 = nI 1 by decide), if_neg (show ¬ nI 10 = nI 2 by decide), if_neg (show ¬ nI 10 = nI 3 by decide), if_neg (show ¬ nI 10 = nI 4 by decide), if_neg (show ¬ nI 10 = nI 5 by decide), if_neg (show ¬ nI 10 = nI 6 by decide), if_neg (show ¬ nI 10 = nI 7 by decide), if_neg (show ¬ nI 10 = nI 8 by decide), if_neg (show ¬ nI 10 = nI 9 by decide), if_pos rfl, b359_139]
        have e8 : sz (pz s 11 (nI 0)) 12 = sz s 12 := rfl
        rw [e8, n5]
  · have hx : ∀ c, c < 11 → ¬ X.1 (k + 1) = nI c := fun c hc q => h2 (by rw [q]; exact inS_nI hc (by decide))
    exact fin (-nI 1) (by rw [b36, b36_1, if_neg (hx 0 (by omega)), if_neg (hx 1 (by omega)), if_neg (hx 2 (by omega)), if_neg (hx 3 (by omega)), if_neg (hx 4 (by omega)), if_neg (hx 5 (by omega)), if_neg (hx 6 (by omega)), if_neg (hx 7 (by omega)), if_neg (hx 8 (by omega)), if_neg (hx 9 (by omega)), if_neg (hx 10 (by omega)), b36_157]) (by rw [b359, b359_6, if_neg (hx 0 (by omega)), if_neg (hx 1 (by omega)), if_neg (hx 2 (by omega)), if_neg (hx 3 (by omega)), if_neg (hx 4 (by omega)), if_neg (hx 5 (by omega)), if_neg (hx 6 (by omega)), if_neg (hx 7 (by omega)), if_neg (hx 8 (by omega)), if_neg (hx 9 (by omega)), if_neg (hx 10 (by omega)), b359_144])
end OP13
