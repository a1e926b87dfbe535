/-! Truths of the law, as both read them. -/
section TRU
variable {X : (Nat → Int32) × Nat} {D E L p k ml e : Nat} {c m c' m' : ab_S} {σ σ' : List Bool}
theorem r256b (h : ¬ sz m 18 = nI 0) (hE : 1 ≤ E) : ab_ev X E 256 [.inr (9, 0)] m = some (.inl none, m) := by
  obtain ⟨f, rfl⟩ : ∃ f, E = f + 1 := ⟨E - 1, by omega⟩
  rw [b256, if_neg h]
theorem r255b (h : ¬ sz m 18 = nI 0) (hE : 3 ≤ E) : ab_ev X E 255 [.inr (9, 0)] m = some (.inl none, m) := by
  obtain ⟨f, rfl⟩ : ∃ f, E = f + 1 := ⟨E - 1, by omega⟩
  rw [b255, r256b h (by omega), e_bU, b255_4, r240b h (by omega), e_bI, if_pos rfl]
theorem r254b (h : ¬ sz m 18 = nI 0) (hE : 4 ≤ E) : ab_ev X E 254 [.inr (9, 0)] m = some (.inl none, m) := by
  obtain ⟨f, rfl⟩ : ∃ f, E = f + 1 := ⟨E - 1, by omega⟩
  rw [b254, r255b h (by omega), e_bU, b254_4, r240b h (by omega), e_bI, if_pos rfl]
/-- two sums compared -/
theorem cmp1 (hk : k ≤ 6) : ∀ (d E : Nat) (c m : ab_S) (p ml e : Nat) (σ : List Bool), 10 + 3 * (6 - k) ≤ d → 10 + 3 * (6 - k) ≤ E + 1 → QL L p k c m ml σ → ml + e ≤ p → σ.length + (2 * (6 - k) + 4) ≤ 39 → ∃ c' m' : ab_S, ab_bU (ab_ev X d 75 [.inr (1, 0), .inr (4, 1), .inl (.int (nI k))] c) (fun s9 => ab_bI (ab_ev X d 79 [.inr (10, (st s9 0))] s9) (fun r11 s10 => (if r11 = (nI 0) then ab_bU (ab_ev X d 55 [.inr (1, 0), .inl (.int (nI 2))] s10) (fun s12 => (if (sz s12 2) = (nI 0) then ab_bU (ab_ev X d 43 [.inr (1, 0)] s12) (fun s13 => ab_bU (ab_ev X d 75 [.inr (1, 0), .inr (4, 1), .inl (.int (nI k))] s13) (fun s14 => ab_bU (ab_ev X d 73 [.inr (4, 1), .inl (.int (ab_tl (st s9 0)))] s14) (fun s15 => some (.inl none, s15)) ab_px) ab_px) ab_px else some (.inl none, s12))) ab_px else (if (sz s10 2) = (nI 0) then ab_bU (ab_ev X d 43 [.inr (1, 0)] s10) (fun s16 => ab_bU (ab_ev X d 75 [.inr (1, 0), .inr (4, 1), .inl (.int (nI k))] s16) (fun s17 => ab_bU (ab_ev X d 73 [.inr (4, 1), .inl (.int (ab_tl (st s9 0)))] s17) (fun s18 => some (.inl none, s18)) ab_px) ab_px) ab_px else some (.inl none, s10)))) ab_px) ab_px = some (.inl none, c') ∧ (ab_bU (ab_ev X E 260 [.inr (9, 0)] m) (fun s5 => (if (sz s5 16) = (nI 61) then ab_at X (E + 1) 256 112 [some (.inr (9, 0)), some (.inl (.int (sz s5 16)))] [] s5 else (if (sz s5 16) = (nI 60) then ab_at X (E + 1) 256 112 [some (.inr (9, 0)), some (.inl (.int (sz s5 16)))] [] s5 else (if (sz s5 16) = (nI 62) then ab_at X (E + 1) 256 112 [some (.inr (9, 0)), some (.inl (.int (sz s5 16)))] [] s5 else ab_bU (ab_ev X E 242 [.inr (9, 0), .inl (.int (nI 2))] s5) (fun s6 => ab_at X (E + 1) 256 112 [some (.inr (9, 0)), some (.inl (.int (sz s5 16)))] [] s6) ab_px)))) ab_px) = some (.inl none, m') ∧ fCL c c' ∧ fML m m' ∧ RL L (p + 1) k e c' m' (true :: σ) := by
  intro d E c m p ml e σ hD hE h hl h39
  have bad : ∀ (x : Int32) (z : ab_S), ¬ sz z 18 = nI 0 → ab_at X (E + 1) 256 112 [some (.inr (9, 0)), some (.inl (.int x))] [] z = some (.inl none, z) := fun x z hz => by
    rw [b256_112, if_neg hz, b256_123, r260b hz (by omega), e_bU]
    split
    · rw [b256_152, r258b hz, e_bU, b256_155]
    · split
      · rw [b256_152, r258b hz, e_bU, b256_155]
      · rw [b256_152, r258b hz, e_bU, b256_155]
  obtain ⟨c1, m1, b1, b2, b3, b4, b5⟩ := sum_all (X := X) (L := L) (6 - k) k (by omega) d E c m p ml e σ (by omega) (by omega) h hl (by omega)
  rw [b1, e_bU, b2, e_bU]
  rcases b5 with ⟨p1, ml1, a1, a2, a3⟩ | w
  · have hG := a3.1
    have hlt := hG.lt
    by_cases q : 22 ≤ st c1 0 ∧ st c1 0 ≤ 24
    · obtain ⟨c2, m2, p2, g1, g2, g3, g4, g5, g6⟩ := hG.adv (X := X) (D := d) (E := E) (by omega) (by omega) (by omega)
      obtain ⟨c3, m3, w1, w2, w3, w4, w5⟩ := sum_all (X := X) (L := L) (6 - k) k (by omega) d E c2 m2 p2 ml1 (e + 1) (false :: σ) (by omega) (by omega) (a3.tok g4 g5 g6) (by omega) (by rw [List.length_cons]; omega)
      have rest : ∀ (x y ch : Int32), y = nI (encI x.toInt).toNat → (x = -nI 9 ∨ x = -nI 10 ∨ x = -nI 11) → ab_tl (st c1 0) = x → sz m1 16 = ch → (ch = nI 61 ∧ y = nI 13 ∨ ch = nI 60 ∧ y = nI 14 ∨ ch = nI 62 ∧ y = nI 15) → ∃ c' m' : ab_S, ab_bU (ab_ev X d 73 [.inr (4, 1), .inl (.int (ab_tl (st c1 0)))] c3) (fun s => some (.inl none, s)) ab_px = some (.inl none, c') ∧ (if (sz m1 16) = (nI 61) then ab_at X (E + 1) 256 112 [some (.inr (9, 0)), some (.inl (.int (sz m1 16)))] [] m1 else (if (sz m1 16) = (nI 60) then ab_at X (E + 1) 256 112 [some (.inr (9, 0)), some (.inl (.int (sz m1 16)))] [] m1 else (if (sz m1 16) = (nI 62) then ab_at X (E + 1) 256 112 [some (.inr (9, 0)), some (.inl (.int (sz m1 16)))] [] m1 else ab_bU (ab_ev X E 242 [.inr (9, 0), .inl (.int (nI 2))] m1) (fun s6 => ab_at X (E + 1) 256 112 [some (.inr (9, 0)), some (.inl (.int (sz m1 16)))] [] s6) ab_px))) = some (.inl none, m') ∧ fCL c c' ∧ fML m m' ∧ RL L (p + 1) k e c' m' (true :: σ) := fun x y ch hy hx ht hc hh => by
        have hst : tstep x.toInt (false :: false :: σ) = some (true :: σ) ∧ -14 ≤ x.toInt ∧ x.toInt ≤ 999 := by
          rcases hx with rfl | rfl | rfl
          · exact ⟨rfl, by decide, by decide⟩
          · exact ⟨rfl, by decide, by decide⟩
          · exact ⟨rfl, by decide, by decide⟩
        obtain ⟨c4, m4, y1, y2, y3, y4, y5⟩ := w5.add (X := X) (D := d) (E := E) (x := x) (y := y) (σ' := true :: σ) hy hst.2.1 hst.2.2 hst.1 (by rw [List.length_cons]; omega) (by omega)
        refine ⟨c4, m4, ?_, ?_, ((b3.t g5.L).t w3).t y3, ((b4.t g6.L).t w4).t y4, ?_⟩
        · rw [ht, y1, e_bU]
        · have e112 : ab_at X (E + 1) 256 112 [some (.inr (9, 0)), some (.inl (.int ch))] [] m1 = some (.inl none, m4) := by
            rw [b256_112, if_pos hG.2.2.2.1, g3, e_bU, b256_123, w2, e_bU]
            rcases hh with ⟨rfl, rfl⟩ | ⟨rfl, rfl⟩ | ⟨rfl, rfl⟩
            · rw [if_pos rfl, b256_152, y2, e_bU, b256_155]
            · rw [if_neg (show ¬ nI 60 = nI 61 by decide), if_pos rfl, b256_152, y2, e_bU, b256_155]
            · rw [if_neg (show ¬ nI 62 = nI 61 by decide), if_neg (show ¬ nI 62 = nI 60 by decide), b256_152, y2, e_bU, b256_155]
          rw [hc, e112]
          rcases hh with ⟨rfl, rfl⟩ | ⟨rfl, rfl⟩ | ⟨rfl, rfl⟩
          · rw [if_pos rfl]
          · rw [if_neg (show ¬ nI 60 = nI 61 by decide), if_pos rfl]
          · rw [if_neg (show ¬ nI 62 = nI 61 by decide), if_neg (show ¬ nI 62 = nI 60 by decide), if_pos rfl]
        · rcases y5 with ⟨p5, ml5, z1, z2, z3⟩ | y
          · exact Or.inl ⟨p5, ml5, by omega, z2, z3⟩
          · exact Or.inr y
      rw [c79y hlt q, e_bI, if_neg (show ¬ nI 1 = nI 0 by decide), if_pos hG.2.2.1, g2, e_bU, w1, e_bU]
      rcases (show st c1 0 = 22 ∨ st c1 0 = 23 ∨ st c1 0 = 24 by omega) with q | q | q
      · exact rest (-nI 9) (nI 13) (nI 61) (by decide) (Or.inl rfl) (by rw [q]; decide) ((hG.ch (i := 22) (by decide) (by decide) (by decide)).mp q) (Or.inl ⟨rfl, rfl⟩)
      · exact rest (-nI 10) (nI 14) (nI 60) (by decide) (Or.inr (Or.inl rfl)) (by rw [q]; decide) ((hG.ch (i := 23) (by decide) (by decide) (by decide)).mp q) (Or.inr (Or.inl ⟨rfl, rfl⟩))
      · exact rest (-nI 11) (nI 15) (nI 62) (by decide) (Or.inr (Or.inr rfl)) (by rw [q]; decide) ((hG.ch (i := 24) (by decide) (by decide) (by decide)).mp q) (Or.inr (Or.inr ⟨rfl, rfl⟩))
    · have n61 : ¬ sz m1 16 = nI 61 := fun z => by
        have := (hG.ch (i := 22) (by decide) (by decide) (by decide)).mpr z
        omega
      have n60 : ¬ sz m1 16 = nI 60 := fun z => by
        have := (hG.ch (i := 23) (by decide) (by decide) (by decide)).mpr z
        omega
      have n62 : ¬ sz m1 16 = nI 62 := fun z => by
        have := (hG.ch (i := 24) (by decide) (by decide) (by decide)).mpr z
        omega
      obtain ⟨c2, m2, g1, g2, g3, g4, g5⟩ := hG.ref (X := X) (D := d) (E := E) (f := 2) (by omega) (by omega)
      refine ⟨c2, m2, ?_, ?_, b3.t g4.L, b4.t g5.L, Or.inr g3⟩
      · rw [c79n hlt q, e_bI, if_pos rfl, g1, e_bU, if_neg g3.nc]
      · rw [if_neg n61, if_neg n60, if_neg n62, g2, e_bU, bad _ _ g3.nm]
  · obtain ⟨r, hr, hr2⟩ := c79t (X := X) (D := d) (c := c1) (st c1 0)
    refine ⟨c1, m1, ?_, ?_, b3, b4, Or.inr w⟩
    · rw [hr, e_bI, c55b w.nc, e_bU, if_neg w.nc]
      split <;> rfl
    · rw [bad _ _ w.nm, r242b w.nm, e_bU, bad _ _ w.nm]
      split
      · rfl
      · split
        · rfl
        · split <;> rfl
theorem unit (hk : k ≤ 6) (iu : k < 6 → PRS X L (k + 1) (11 + 3 * (6 - (k + 1))) (2 * (6 - (k + 1)) + 4) 71 256 true) (it : k < 6 → PRS X L (k + 1) (13 + 3 * (6 - (k + 1))) (2 * (6 - (k + 1)) + 6) 69 254 true) : PRS X L k (11 + 3 * (6 - k)) (2 * (6 - k) + 4) 71 256 true := by
  intro D E c m p ml e σ hD hE h hl h39
  obtain ⟨d, rfl⟩ : ∃ d, D = d + 1 := ⟨D - 1, by omega⟩
  obtain ⟨f, rfl⟩ : ∃ f, E = f + 1 := ⟨E - 1, by omega⟩
  have hG := h.1
  have hL := hG.1
  have h18 := hG.2.2.2.1
  have w21 : ab_ev X f 241 [.inr (9, 0), .inr (11, 18)] m = some (.inl (some (.inl (.int (if st c 0 = 21 then nI 1 else nI 0)))), m) := hG.word (i := 21) (by decide) (by decide) (by decide) (by omega)
  have s17 := hG.sgn (X := X) (E := f) (i := 17) (x := nI 91) (by decide) (by decide) (by decide) (by decide)
  by_cases q : st c 0 = 21
  · rw [if_pos q] at w21
    obtain ⟨c1, m1, g1, g2, g3, g4⟩ := h.ent (X := X) (D := d) (E := f) (by omega) hk (by omega) (by omega)
    rcases g4 with ⟨hk6, p', a1, a2, a3⟩ | ⟨a2, a3⟩
    · obtain ⟨c2, m2, b1, b2, b3, b4, b5⟩ := iu hk6 d f c1 m1 p' ml (e + 1) σ (by omega) (by omega) a3 (by omega) (by omega)
      obtain ⟨c3, m3, y1, y2, y3, y4, y5⟩ := b5.add (X := X) (D := d) (E := f) (x := -nI 12) (y := nI 18) (σ' := true :: σ) (by decide) (by decide) (by decide) rfl (by rw [List.length_cons]; omega) (by omega)
      refine ⟨c3, pz m3 22 (sz m3 22 - nI 1), ?_, ?_, (g1.L.t b3).t y3, ((g2.t b4).t y4).t fML_22, ?_⟩
      · rw [b71, if_pos q, a2, e_bI, if_neg (show ¬ nI 1 = nI 0 by decide), nI_add, b1, e_bU, y1, e_bU]
      · rw [b256, if_pos h18, w21, e_bI, if_neg (show ¬ nI 1 = nI 0 by decide), g3, e_bU, b2, e_bU, y2, e_bU, b256_155]
      · rcases y5.up with ⟨p5, ml5, z1, z2, z3⟩ | y
        · exact Or.inl ⟨p5, ml5, by omega, z2, z3⟩
        · exact Or.inr y
    · refine ⟨c1, pz m1 22 (sz m1 22 - nI 1), ?_, ?_, g1.L, g2.t fML_22, Or.inr (a3.of rfl rfl (pz_sz (by omega)) (pz_sz (by omega)))⟩
      · rw [b71, if_pos q, a2, e_bI, if_pos rfl]
      · rw [b256, if_pos h18, w21, e_bI, if_neg (show ¬ nI 1 = nI 0 by decide), g3, e_bU, r256b a3.nm (by omega), e_bU, r258b a3.nm, e_bU, b256_155]
  · rw [if_neg q] at w21
    by_cases q2 : st c 0 = 17
    · rw [if_pos q2] at s17
      obtain ⟨c1, m1, g1, g2, g3, g4⟩ := h.ent (X := X) (D := d) (E := f) (by omega) hk (by omega) (by omega)
      rcases g4 with ⟨hk6, p', a1, a2, a3⟩ | ⟨a2, a3⟩
      · obtain ⟨c2, m2, b1, b2, b3, b4, b5⟩ := it hk6 d f c1 m1 p' ml e σ (by omega) (by omega) a3 (by omega) (by omega)
        obtain ⟨c3, m3, y1, y2, y3, y4, y5⟩ := b5.cls (X := X) (D := d) (E := f) (i := 18) (x := nI 93) (by decide) (by decide) (by decide) (by decide) (by omega) (by omega)
        refine ⟨c3, pz m3 22 (sz m3 22 - nI 1), ?_, ?_, (g1.L.t b3).t y3, (g2.t b4).t y4, ?_⟩
        · rw [b71, if_neg q, if_pos q2, a2, e_bI, if_neg (show ¬ nI 1 = nI 0 by decide), nI_add, b1, e_bU, y1, e_bU]
        · rw [b256, if_pos h18, w21, e_bI, if_pos rfl, s17, e_bI, if_neg (show ¬ nI 1 = nI 0 by decide), g3, e_bU, b2, e_bU, y2, e_bU, b256_155]
        · rcases y5 with ⟨p5, ml5, z1, z2, z3⟩ | y
          · exact Or.inl ⟨p5, ml5, by omega, z2, z3⟩
          · exact Or.inr y
      · refine ⟨c1, pz m1 22 (sz m1 22 - nI 1), ?_, ?_, g1.L, g2.t fML_22, Or.inr (a3.of rfl rfl (pz_sz (by omega)) (pz_sz (by omega)))⟩
        · rw [b71, if_neg q, if_pos q2, a2, e_bI, if_pos rfl]
        · rw [b256, if_pos h18, w21, e_bI, if_pos rfl, s17, e_bI, if_neg (show ¬ nI 1 = nI 0 by decide), g3, e_bU, r254b a3.nm (by omega), e_bU, r245b a3.nm (by omega), e_bU, b256_155]
    · rw [if_neg q2] at s17
      obtain ⟨c2, m2, b1, b2, b3, b4, b5⟩ := cmp1 (X := X) (L := L) hk d f c m p ml e σ (by omega) (by omega) h hl (by omega)
      refine ⟨c2, m2, ?_, ?_, b3, b4, b5⟩
      · rw [b71, if_neg q, if_neg q2, b1]
      · rw [b256, if_pos h18, w21, e_bI, if_pos rfl, s17, e_bI, if_pos rfl]
        exact b2
/-- truths bound by and -/
theorem both_lp (hk : k ≤ 6) (hA : PRS X L k (11 + 3 * (6 - k)) (2 * (6 - k) + 4) 71 256 true) : ∀ (j D E i : Nat) (c m : ab_S) (p ml e : Nat) (σ : List Bool), 12 + 3 * (6 - k) ≤ D + 1 → 12 + 3 * (6 - k) ≤ E + 1 → L - p ≤ j → i ≤ p → QL L p k c m ml (true :: σ) → ml + e ≤ p → σ.length + (2 * (6 - k) + 5) ≤ 39 → ∃ c' m' : ab_S, ab_at X (D + 1) 70 8 [some (.inr (1, 0)), some (.inr (4, 1)), some (.inl (.int (nI k))), some (.inl (.int (nI i)))] [] c = some (.inl none, c') ∧ ab_at X (E + 1) 255 4 [some (.inr (9, 0))] [] m = some (.inl none, m') ∧ fCL c c' ∧ fML m m' ∧ RL L p k e c' m' (true :: σ) := by
  intro j
  induction j with
  | zero =>
    intro D E i c m p ml e σ hD hE hj hi h hl h39
    have hG := h.1
    have hL := hG.1
    have hpL := hG.2.1
    have q0 : st c 0 = 0 := by
      by_cases q : st c 0 = 0
      · exact q
      · have := hG.pL q
        omega
    have s27 : ab_ev X E 240 [.inr (9, 0), .inr (11, 17)] m = some (.inl (some (.inl (.int (nI 0)))), m) := hG.tkn (i := 20) (by decide) (by decide) (by decide) (by omega) (by omega)
    refine ⟨c, m, ?_, ?_, fCL_refl c, fML_refl m, Or.inl ⟨p, ml, Nat.le_refl _, hl, h⟩⟩
    · rw [b70_8, if_pos hG.2.2.1, if_neg (show ¬ st c 0 = 20 by omega)]
      split <;> rfl
    · rw [b255_4, s27, e_bI, if_pos rfl]
  | succ j ih =>
    intro D E i c m p ml e σ hD hE hj hi h hl h39
    have hG := h.1
    have hL := hG.1
    have hpL := hG.2.1
    by_cases q : st c 0 = 20
    · have hp := hG.pL (by omega)
      obtain ⟨f, rfl⟩ : ∃ f, E = f + 1 := ⟨E - 1, by omega⟩
      obtain ⟨c1, m1, p1, g1, g2, g3, g4, g5, g6⟩ := hG.adv (X := X) (D := D) (E := f) (by omega) (by omega) (by omega)
      have s27 : ab_ev X (f + 1) 240 [.inr (9, 0), .inr (11, 17)] m = some (.inl (some (.inl (.int (nI 1)))), m1) := hG.tky (i := 20) (by decide) (by decide) (by decide) (by omega) q g3
      obtain ⟨c2, m2, b1, b2, b3, b4, b5⟩ := hA D (f + 1) c1 m1 p1 ml (e + 1) (true :: σ) (by omega) (by omega) (h.tok g4 g5 g6) (by omega) (by rw [List.length_cons]; omega)
      obtain ⟨c3, m3, w1, w2, w3, w4, w5⟩ := b5.add (X := X) (D := D) (E := f + 1) (x := -nI 13) (y := nI 16) (σ' := true :: σ) (by decide) (by decide) (by decide) rfl (by rw [List.length_cons]; omega) (by omega)
      have e1 : ab_at X (D + 1) 70 8 [some (.inr (1, 0)), some (.inr (4, 1)), some (.inl (.int (nI k))), some (.inl (.int (nI i)))] [] c = ab_at X (D + 1) 70 8 [some (.inr (1, 0)), some (.inr (4, 1)), some (.inl (.int (nI k))), some (.inl (.int (nI (i + 1))))] [] c3 := by
        rw [b70_8, if_neg (nI_ge (by omega) (by omega)), if_pos hG.2.2.1, if_pos q, g2, e_bU, b1, e_bU, w1, e_bU, nI_add]
      have e2 : ab_at X (f + 1 + 1) 255 4 [some (.inr (9, 0))] [] m = ab_at X (f + 1 + 1) 255 4 [some (.inr (9, 0))] [] m3 := by
        rw [b255_4, s27, e_bI, if_neg (show ¬ nI 1 = nI 0 by decide), b2, e_bU, w2, e_bU]
      rw [e1, e2]
      rcases w5 with ⟨p3, ml3, a1, a2, a3⟩ | w
      · obtain ⟨c4, m4, y1, y2, y3, y4, y5⟩ := ih D (f + 1) (i + 1) c3 m3 p3 ml3 e σ hD hE (by omega) (by omega) a3 a2 h39
        refine ⟨c4, m4, y1, y2, ((g5.L.t b3).t w3).t y3, ((g6.L.t b4).t w4).t y4, ?_⟩
        rcases y5 with ⟨p5, ml5, z1, z2, z3⟩ | y
        · exact Or.inl ⟨p5, ml5, by omega, z2, z3⟩
        · exact Or.inr y
      · refine ⟨c3, m3, ?_, ?_, (g5.L.t b3).t w3, (g6.L.t b4).t w4, Or.inr w⟩
        · rw [b70_8, if_neg w.nc]
          split <;> rfl
        · rw [b255_4, r240b w.nm (by omega), e_bI, if_pos rfl]
    · have s27 : ab_ev X E 240 [.inr (9, 0), .inr (11, 17)] m = some (.inl (some (.inl (.int (nI 0)))), m) := hG.tkn (i := 20) (by decide) (by decide) (by decide) (by omega) q
      refine ⟨c, m, ?_, ?_, fCL_refl c, fML_refl m, Or.inl ⟨p, ml, Nat.le_refl _, hl, h⟩⟩
      · rw [b70_8, if_pos hG.2.2.1, if_neg q]
        split <;> rfl
      · rw [b255_4, s27, e_bI, if_pos rfl]
theorem both (hk : k ≤ 6) (hA : PRS X L k (11 + 3 * (6 - k)) (2 * (6 - k) + 4) 71 256 true) : PRS X L k (12 + 3 * (6 - k)) (2 * (6 - k) + 5) 70 255 true := by
  intro D E c m p ml e σ hD hE h hl h39
  obtain ⟨d, rfl⟩ : ∃ d, D = d + 1 := ⟨D - 1, by omega⟩
  obtain ⟨f, rfl⟩ : ∃ f, E = f + 1 := ⟨E - 1, by omega⟩
  obtain ⟨c1, m1, b1, b2, b3, b4, b5⟩ := hA d f c m p ml e σ (by omega) (by omega) h hl (by omega)
  rw [b70, b1, e_bU, b255, b2, e_bU]
  rcases b5 with ⟨p3, ml3, a1, a2, a3⟩ | w
  · obtain ⟨c4, m4, y1, y2, y3, y4, y5⟩ := both_lp hk hA (L - p3) d f 0 c1 m1 p3 ml3 e σ (by omega) (by omega) (Nat.le_refl _) (Nat.zero_le _) a3 a2 h39
    refine ⟨c4, m4, y1, y2, b3.t y3, b4.t y4, ?_⟩
    rcases y5 with ⟨p5, ml5, z1, z2, z3⟩ | y
    · exact Or.inl ⟨p5, ml5, by omega, z2, z3⟩
    · exact Or.inr y
  · refine ⟨c1, m1, ?_, ?_, b3, b4, Or.inr w⟩
    · rw [b70_8, if_neg w.nc]
      split <;> rfl
    · rw [b255_4, r240b w.nm (by omega), e_bI, if_pos rfl]
/-- truths bound by or -/
theorem truth_lp (hk : k ≤ 6) (hA : PRS X L k (12 + 3 * (6 - k)) (2 * (6 - k) + 5) 70 255 true) : ∀ (j D E i : Nat) (c m : ab_S) (p ml e : Nat) (σ : List Bool), 13 + 3 * (6 - k) ≤ D + 1 → 13 + 3 * (6 - k) ≤ E + 1 → L - p ≤ j → i ≤ p → QL L p k c m ml (true :: σ) → ml + e ≤ p → σ.length + (2 * (6 - k) + 6) ≤ 39 → ∃ c' m' : ab_S, ab_at X (D + 1) 69 8 [some (.inr (1, 0)), some (.inr (4, 1)), some (.inl (.int (nI k))), some (.inl (.int (nI i)))] [] c = some (.inl none, c') ∧ ab_at X (E + 1) 254 4 [some (.inr (9, 0))] [] m = some (.inl none, m') ∧ fCL c c' ∧ fML m m' ∧ RL L p k e c' m' (true :: σ) := by
  intro j
  induction j with
  | zero =>
    intro D E i c m p ml e σ hD hE hj hi h hl h39
    have hG := h.1
    have hL := hG.1
    have hpL := hG.2.1
    have q0 : st c 0 = 0 := by
      by_cases q : st c 0 = 0
      · exact q
      · have := hG.pL q
        omega
    have s27 : ab_ev X E 240 [.inr (9, 0), .inr (11, 16)] m = some (.inl (some (.inl (.int (nI 0)))), m) := hG.tkn (i := 19) (by decide) (by decide) (by decide) (by omega) (by omega)
    refine ⟨c, m, ?_, ?_, fCL_refl c, fML_refl m, Or.inl ⟨p, ml, Nat.le_refl _, hl, h⟩⟩
    · rw [b69_8, if_pos hG.2.2.1, if_neg (show ¬ st c 0 = 19 by omega)]
      split <;> rfl
    · rw [b254_4, s27, e_bI, if_pos rfl]
  | succ j ih =>
    intro D E i c m p ml e σ hD hE hj hi h hl h39
    have hG := h.1
    have hL := hG.1
    have hpL := hG.2.1
    by_cases q : st c 0 = 19
    · have hp := hG.pL (by omega)
      obtain ⟨f, rfl⟩ : ∃ f, E = f + 1 := ⟨E - 1, by omega⟩
      obtain ⟨c1, m1, p1, g1, g2, g3, g4, g5, g6⟩ := hG.adv (X := X) (D := D) (E := f) (by omega) (by omega) (by omega)
      have s27 : ab_ev X (f + 1) 240 [.inr (9, 0), .inr (11, 16)] m = some (.inl (some (.inl (.int (nI 1)))), m1) := hG.tky (i := 19) (by decide) (by decide) (by decide) (by omega) q g3
      obtain ⟨c2, m2, b1, b2, b3, b4, b5⟩ := hA D (f + 1) c1 m1 p1 ml (e + 1) (true :: σ) (by omega) (by omega) (h.tok g4 g5 g6) (by omega) (by rw [List.length_cons]; omega)
      obtain ⟨c3, m3, w1, w2, w3, w4, w5⟩ := b5.add (X := X) (D := D) (E := f + 1) (x := -nI 14) (y := nI 17) (σ' := true :: σ) (by decide) (by decide) (by decide) rfl (by rw [List.length_cons]; omega) (by omega)
      have e1 : ab_at X (D + 1) 69 8 [some (.inr (1, 0)), some (.inr (4, 1)), some (.inl (.int (nI k))), some (.inl (.int (nI i)))] [] c = ab_at X (D + 1) 69 8 [some (.inr (1, 0)), some (.inr (4, 1)), some (.inl (.int (nI k))), some (.inl (.int (nI (i + 1))))] [] c3 := by
        rw [b69_8, if_neg (nI_ge (by omega) (by omega)), if_pos hG.2.2.1, if_pos q, g2, e_bU, b1, e_bU, w1, e_bU, nI_add]
      have e2 : ab_at X (f + 1 + 1) 254 4 [some (.inr (9, 0))] [] m = ab_at X (f + 1 + 1) 254 4 [some (.inr (9, 0))] [] m3 := by
        rw [b254_4, s27, e_bI, if_neg (show ¬ nI 1 = nI 0 by decide), b2, e_bU, w2, e_bU]
      rw [e1, e2]
      rcases w5 with ⟨p3, ml3, a1, a2, a3⟩ | w
      · obtain ⟨c4, m4, y1, y2, y3, y4, y5⟩ := ih D (f + 1) (i + 1) c3 m3 p3 ml3 e σ hD hE (by omega) (by omega) a3 a2 h39
        refine ⟨c4, m4, y1, y2, ((g5.L.t b3).t w3).t y3, ((g6.L.t b4).t w4).t y4, ?_⟩
        rcases y5 with ⟨p5, ml5, z1, z2, z3⟩ | y
        · exact Or.inl ⟨p5, ml5, by omega, z2, z3⟩
        · exact Or.inr y
      · refine ⟨c3, m3, ?_, ?_, (g5.L.t b3).t w3, (g6.L.t b4).t w4, Or.inr w⟩
        · rw [b69_8, if_neg w.nc]
          split <;> rfl
        · rw [b254_4, r240b w.nm (by omega), e_bI, if_pos rfl]
    · have s27 : ab_ev X E 240 [.inr (9, 0), .inr (11, 16)] m = some (.inl (some (.inl (.int (nI 0)))), m) := hG.tkn (i := 19) (by decide) (by decide) (by decide) (by omega) q
      refine ⟨c, m, ?_, ?_, fCL_refl c, fML_refl m, Or.inl ⟨p, ml, Nat.le_refl _, hl, h⟩⟩
      · rw [b69_8, if_pos hG.2.2.1, if_neg q]
        split <;> rfl
      · rw [b254_4, s27, e_bI, if_pos rfl]
theorem truth (hk : k ≤ 6) (hA : PRS X L k (12 + 3 * (6 - k)) (2 * (6 - k) + 5) 70 255 true) : PRS X L k (13 + 3 * (6 - k)) (2 * (6 - k) + 6) 69 254 true := by
  intro D E c m p ml e σ hD hE h hl h39
  obtain ⟨d, rfl⟩ : ∃ d, D = d + 1 := ⟨D - 1, by omega⟩
  obtain ⟨f, rfl⟩ : ∃ f, E = f + 1 := ⟨E - 1, by omega⟩
  obtain ⟨c1, m1, b1, b2, b3, b4, b5⟩ := hA d f c m p ml e σ (by omega) (by omega) h hl (by omega)
  rw [b69, b1, e_bU, b254, b2, e_bU]
  rcases b5 with ⟨p3, ml3, a1, a2, a3⟩ | w
  · obtain ⟨c4, m4, y1, y2, y3, y4, y5⟩ := truth_lp hk hA (L - p3) d f 0 c1 m1 p3 ml3 e σ (by omega) (by omega) (Nat.le_refl _) (Nat.zero_le _) a3 a2 h39
    refine ⟨c4, m4, y1, y2, b3.t y3, b4.t y4, ?_⟩
    rcases y5 with ⟨p5, ml5, z1, z2, z3⟩ | y
    · exact Or.inl ⟨p5, ml5, by omega, z2, z3⟩
    · exact Or.inr y
  · refine ⟨c1, m1, ?_, ?_, b3, b4, Or.inr w⟩
    · rw [b69_8, if_neg w.nc]
      split <;> rfl
    · rw [b254_4, r240b w.nm (by omega), e_bI, if_pos rfl]
theorem truth_all : ∀ (r k : Nat), k + r = 6 → PRS X L k (11 + 3 * (6 - k)) (2 * (6 - k) + 4) 71 256 true ∧ PRS X L k (13 + 3 * (6 - k)) (2 * (6 - k) + 6) 69 254 true
  | 0, k, h => by
    have u := unit (X := X) (L := L) (k := k) (by omega) (fun q => absurd q (by omega)) (fun q => absurd q (by omega))
    exact ⟨u, truth (by omega) (both (by omega) u)⟩
  | r + 1, k, h => by
    have ih := truth_all r (k + 1) (by omega)
    have u := unit (X := X) (L := L) (k := k) (by omega) (fun _ => ih.1) (fun _ => ih.2)
    exact ⟨u, truth (by omega) (both (by omega) u)⟩
end TRU
