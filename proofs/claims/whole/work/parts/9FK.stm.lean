/-! A town's draft, as both hold it between two lines. -/
def dfC (c c' : ab_S) : Prop := (∀ k, k ≠ 2 → k ≠ 3 → k ≠ 5 → k ≠ 6 → k ≠ 7 → sz c' k = sz c k) ∧ (∀ k i, 9 < k ∨ i ≠ 1 → si c' k i = si c k i) ∧ sa c' = sa c ∧ (∀ k i, 8 < k ∨ i ≠ 1 → sA c' k i = sA c k i) ∧ c'.2.2.2.2.2.2 = c.2.2.2.2.2.2
def dfM (m m' : ab_S) : Prop := (∀ k, k < 14 ∨ (19 < k ∧ k ≠ 22) → sz m' k = sz m k) ∧ (∀ k, k ≠ 9 → sa m' k = sa m k) ∧ si m' = si m ∧ m'.2.2.2.2.2 = m.2.2.2.2.2
theorem dfC_refl (c : ab_S) : dfC c c := ⟨fun _ _ _ _ _ _ => rfl, fun _ _ _ => rfl, rfl, fun _ _ _ => rfl, rfl⟩
theorem dfM_refl (c : ab_S) : dfM c c := ⟨fun _ _ => rfl, fun _ _ => rfl, rfl, rfl⟩
theorem dfC.t {a b c : ab_S} (h : dfC a b) (h' : dfC b c) : dfC a c := ⟨fun k h1 h2 h3 h4 h5 => (h'.1 k h1 h2 h3 h4 h5).trans (h.1 k h1 h2 h3 h4 h5), fun k i q => (h'.2.1 k i q).trans (h.2.1 k i q), h'.2.2.1.trans h.2.2.1, fun k i q => (h'.2.2.2.1 k i q).trans (h.2.2.2.1 k i q), h'.2.2.2.2.trans h.2.2.2.2⟩
theorem dfM.t {a b c : ab_S} (h : dfM a b) (h' : dfM b c) : dfM a c := ⟨fun k h1 => (h'.1 k h1).trans (h.1 k h1), fun k q => (h'.2.1 k q).trans (h.2.1 k q), h'.2.2.1.trans h.2.2.1, h'.2.2.2.trans h.2.2.2⟩
theorem fCL.d {c c' : ab_S} (h : fCL c c') : dfC c c' := ⟨h.1, fun k i q => h.2.1 k i (by omega), h.2.2.1, fun k i q => h.2.2.2.1 k i (by omega), h.2.2.2.2⟩
theorem fML.d {m m' : ab_S} (h : fML m m') : dfM m m' := ⟨h.1, h.2.1, h.2.2.2.1, h.2.2.2.2⟩
theorem fC.d {c c' : ab_S} (h : fC c c') : dfC c c' := h.L.d
theorem fM.d {c c' : ab_S} (h : fM c c') : dfM c c' := h.L.d
theorem dfC_wi {c : ab_S} {k : Nat} {x : Int32} (hk : k ≤ 9) : dfC c (wi c k 1 x) := ⟨fun _ _ _ _ _ _ => rfl, fun j i h => by
  by_cases q : j = k
  · subst q
    simp (disch := omega) only [E0]
  · simp (disch := omega) only [E0], rfl, fun _ _ _ => rfl, rfl⟩
theorem dfC_wA {c : ab_S} {k : Nat} {F : Nat → Int32} (hk : k ≤ 8) : dfC c (wA c k 1 F) := ⟨fun _ _ _ _ _ _ => rfl, fun _ _ _ => rfl, rfl, fun j i h => by
  by_cases q : j = k
  · subst q
    simp (disch := omega) only [E0]
  · simp (disch := omega) only [E0], rfl⟩
theorem dfM_pa {m : ab_S} {F : Nat → Int32} : dfM m (pa m 9 F) := ⟨fun _ _ => rfl, fun k hk => va_up_ne _ _ hk, rfl, rfl⟩
/-- streets; names; blind ones; rounds; people and houses; the law; lines, day, deeds -/
def DF1 (a : Int32) (g : Nat → Int32) (n : Nat) : Prop := a = nI n ∧ g 1 = nI n ∧ 1 ≤ n ∧ n ≤ 20
def DFn (A g : Nat → Int32) (n : Nat) : Prop := ∀ k, k < n → ∃ v, v < n ∧ A k = nI v ∧ g (11 + k) = nI v
def DFb (a : Int32) (g : Nat → Int32) : Prop := ∃ bm, bm < 2 ^ 20 ∧ a = nI bm ∧ g 31 = nI bm
def RO (S Z B g : Nat → Int32) (n r : Nat) : Prop := ∃ (b : Int32) (z : Nat) (f : Nat → Nat), B r = b ∧ g (7 + r) = b ∧ -100 ≤ b.toInt ∧ b.toInt ≤ 100 ∧ z ≤ 20 ∧ Z r = nI z ∧ g (32 + r) = nI z ∧ (∀ k, k < z → S (20 * r + k) = nI (f k) ∧ g (36 + 20 * r + k) = nI (f k) ∧ f k < n) ∧ (∀ a b, a < z → b < z → f a = f b → a = b)
def DFr (a : Int32) (S Z B g : Nat → Int32) (n : Nat) : Prop := ∃ nr, nr ≤ 4 ∧ a = nI nr ∧ g 2 = nI nr ∧ (∀ r, r < nr → RO S Z B g n r) ∧ (∀ r, nr ≤ r → r < 4 → g (32 + r) = nI 0)
def DFp (a h : Int32) (P Q g : Nat → Int32) (n : Nat) : Prop := ∃ np hs, np ≤ 8 ∧ hs ≤ 99 ∧ a = nI np ∧ g 3 = nI np ∧ h = nI hs ∧ g 4 = nI hs ∧ ∀ q, q < np → ∃ lo li, lo < n ∧ li ≤ hs ∧ P q = nI lo ∧ g (116 + q) = nI lo ∧ Q q = nI li ∧ g (124 + q) = nI li
def DFl (a : Int32) (A g : Nat → Int32) : Prop := ∃ ml, a = nI ml ∧ g 5 = nI ml ∧ ml ≤ 900 ∧ WL A ml ∧ LR A g ml
def DFz (a0 a4 a5 a9 : Int32) (g : Nat → Int32) : Prop := a0 = g 0 ∧ a4 = g 132 ∧ a5 = g 133 ∧ a9 = nI 0 ∧ g 6 = nI 0
def DFX (c : ab_S) (g : Nat → Int32) (n : Nat) : Prop := DF1 (si c 1 1) g n ∧ DFn (sA c 0 1) g n ∧ DFb (si c 6 1) g ∧ DFr (si c 7 1) (sA c 3 1) (sA c 4 1) (sA c 5 1) g n ∧ DFp (si c 3 1) (si c 2 1) (sA c 1 1) (sA c 2 1) g n ∧ DFl (si c 8 1) (sA c 6 1) g ∧ DFz (si c 0 1) (si c 4 1) (si c 5 1) (si c 9 1) g
section DFS
variable {g g' A S Z B P Q : Nat → Int32} {n : Nat} {a h : Int32}
theorem DF1.row (w : DF1 a g n) (e : g' 1 = g 1) : DF1 a g' n := ⟨w.1, e.trans w.2.1, w.2.2⟩
theorem DFn.row (w : DFn A g n) (hn : n ≤ 20) (e : ∀ t, 11 ≤ t → t < 31 → g' t = g t) : DFn A g' n := fun k hk => by
  obtain ⟨v, h1, h2, h3⟩ := w k hk
  exact ⟨v, h1, h2, (e _ (by omega) (by omega)).trans h3⟩
theorem DFb.row (w : DFb a g) (e : g' 31 = g 31) : DFb a g' := by
  obtain ⟨v, h1, h2, h3⟩ := w
  exact ⟨v, h1, h2, e.trans h3⟩
theorem RO.row {r : Nat} (w : RO S Z B g n r) (hr : r < 4) (e7 : g' (7 + r) = g (7 + r)) (e32 : g' (32 + r) = g (32 + r)) (e36 : ∀ k, k < 20 → g' (36 + 20 * r + k) = g (36 + 20 * r + k)) : RO S Z B g' n r := by
  obtain ⟨b, z, f, h1, h2, h3, h4, h5, h6, h7, h8, h9⟩ := w
  refine ⟨b, z, f, h1, e7.trans h2, h3, h4, h5, h6, e32.trans h7, fun k hk => ?_, h9⟩
  obtain ⟨q1, q2, q3⟩ := h8 k hk
  exact ⟨q1, (e36 k (by omega)).trans q2, q3⟩
theorem DFr.row (w : DFr a S Z B g n) (e2 : g' 2 = g 2) (e7 : ∀ t, 7 ≤ t → t < 11 → g' t = g t) (e : ∀ t, 32 ≤ t → t < 116 → g' t = g t) : DFr a S Z B g' n := by
  obtain ⟨nr, h1, h2, h3, h4, h5⟩ := w
  exact ⟨nr, h1, h2, e2.trans h3, fun r hr => (h4 r hr).row (by omega) (e7 _ (by omega) (by omega)) (e _ (by omega) (by omega)) (fun k hk => e _ (by omega) (by omega)), fun r h6 h7 => (e _ (by omega) (by omega)).trans (h5 r h6 h7)⟩
theorem DFp.row (w : DFp a h P Q g n) (e3 : g' 3 = g 3) (e4 : g' 4 = g 4) (e : ∀ t, 116 ≤ t → t < 132 → g' t = g t) : DFp a h P Q g' n := by
  obtain ⟨np, hs, h1, h2, h3, h4, h5, h6, h7⟩ := w
  refine ⟨np, hs, h1, h2, h3, e3.trans h4, h5, e4.trans h6, fun q hq => ?_⟩
  obtain ⟨lo, li, q1, q2, q3, q4, q5, q6⟩ := h7 q hq
  exact ⟨lo, li, q1, q2, q3, (e _ (by omega) (by omega)).trans q4, q5, (e _ (by omega) (by omega)).trans q6⟩
theorem DFl.row (w : DFl a A g) (e5 : g' 5 = g 5) (e : ∀ t, 1364 ≤ t → g' t = g t) : DFl a A g' := by
  obtain ⟨ml, h1, h2, h3, h4, h5⟩ := w
  refine ⟨ml, h1, e5.trans h2, h3, h4, fun k hk => ?_⟩
  obtain ⟨q1, q2, q3⟩ := h5 k hk
  exact ⟨q1, q2, (e _ (by omega)).trans q3⟩
theorem DFz.row {a0 a4 a5 a9 : Int32} (w : DFz a0 a4 a5 a9 g) (e0 : g' 0 = g 0) (e6 : g' 6 = g 6) (e2 : g' 132 = g 132) (e3 : g' 133 = g 133) : DFz a0 a4 a5 a9 g' := ⟨w.1.trans e0.symm, w.2.1.trans e2.symm, w.2.2.1.trans e3.symm, w.2.2.2.1, e6.trans w.2.2.2.2⟩
end DFS
/-- both stand ahead of a line, or of a line's end -/
def SG (L p n : Nat) (c m : ab_S) : Prop := GD L p c m ∧ DFX c (sa m 9) n ∧ sz m 22 = nI 0
def SR (L p n : Nat) (c m : ab_S) : Prop := (∃ p', p ≤ p' ∧ SG L p' n c m) ∨ BD c m
section STM
variable {X : (Nat → Int32) × Nat} {D E L p n : Nat} {c m c' m' : ab_S}
theorem SG.tok (h : SG L p n c m) {p' : Nat} (hG : GD L p' c' m') (hc : fC c c') (hm : fM m m') : SG L p' n c' m' := by
  refine ⟨hG, ?_, ?_⟩
  · have := h.2.1
    unfold DFX at this ⊢
    rw [fC_si hc, fC_sA hc, fM_sa hm]
    exact this
  · rw [hm.1 22 (by omega)]
    exact h.2.2
theorem r250b (h : ¬ sz m 18 = nI 0) (hE : 2 ≤ E) : ab_ev X E 250 [.inr (9, 0)] m = some (.inl (some (.inl (.int (nI 0)))), m) := by
  obtain ⟨e, rfl⟩ : ∃ e, E = e + 1 := ⟨E - 1, by omega⟩
  rw [b250, r243b h (by omega), e_bI]
/-- the number of a street -/
theorem GD.str (hG : GD L p c m) (h1 : si c 1 1 = nI n) (hg : sa m 9 1 = nI n) (hn : 1 ≤ n ∧ n ≤ 20) (hD : 6 ≤ D) (hE : 3 ≤ E) : ∃ (c' m' : ab_S) (r : Int32), ab_ev X D 56 [.inr (1, 0), .inl (.int (nI 0)), .inl (.int (si c 1 1 - nI 1))] c = some (.inl (some (.inl (.int r))), c') ∧ fC c c' ∧ fM m m' ∧ ((∃ v p', st c 0 = 2 ∧ p < p' ∧ v < n ∧ sz c 7 = nI v ∧ sz m 17 = nI v ∧ r = nI v ∧ ab_ev X E 250 [.inr (9, 0)] m = some (.inl (some (.inl (.int (nI v)))), m') ∧ GD L p' c' m') ∨ (BD c' m' ∧ ab_ev X E 250 [.inr (9, 0)] m = some (.inl (some (.inl (.int (nI 0)))), m'))) := by
  obtain ⟨e, rfl⟩ : ∃ e, E = e + 1 := ⟨E - 1, by omega⟩
  obtain ⟨c', m', r, g1, g2, g3, g4⟩ := hG.num (X := X) (D := D) (E := e) (lo := 0) (hi := n - 1) (by omega) (by omega) (by omega) (by omega)
  have e1 : nI n - nI 1 = nI (n - 1) := pk_sub (by omega)
  refine ⟨c', m', r, ?_, g2, g3, ?_⟩
  · rw [h1, e1]
    exact g1
  · rcases g4 with ⟨v, p', q1, q2, q3, q4, q5, q6, q7, q8, q9⟩ | ⟨q1, q2⟩
    · exact Or.inl ⟨v, p', q1, q2, by omega, q5, q6, q7, by rw [b250, hg, e1, q8, e_bI], q9⟩
    · exact Or.inr ⟨q1, by rw [b250, hg, e1, q2, e_bI]⟩
theorem r244b (h : ¬ sz m 18 = nI 0) (hE : 2 ≤ E) : ab_ev X E 244 [.inr (9, 0)] m = some (.inl none, m) := by
  obtain ⟨e, rfl⟩ : ∃ e, E = e + 1 := ⟨E - 1, by omega⟩
  rw [b244, r245b h (by omega), e_bU, if_neg h]
/-- a line's end -/
theorem SR.stop (h : SR L p n c m) (hD : 7 ≤ D) (hE : 3 ≤ E) : ∃ c' m' : ab_S, ab_ev X D 59 [.inr (1, 0), .inr (2, 1)] c = some (.inl none, c') ∧ ab_ev X E 244 [.inr (9, 0)] m = some (.inl none, m') ∧ dfC c c' ∧ dfM m m' ∧ ((∃ p', p < p' ∧ SG L p' n c' m') ∨ BD c' m') := by
  obtain ⟨d, rfl⟩ : ∃ d, D = d + 1 := ⟨D - 1, by omega⟩
  obtain ⟨e, rfl⟩ : ∃ e, E = e + 1 := ⟨E - 1, by omega⟩
  rcases h with ⟨p', hp, hS⟩ | hb
  · obtain ⟨c1, m1, g1, g2, g3, g4, g5⟩ := hS.1.take (X := X) (D := d) (E := e) (i := 13) (x := nI 59) (by decide) (by decide) (by decide) (by decide) (by omega) (by omega)
    rcases g5 with ⟨-, p2, q1, q2⟩ | q
    · have hS1 := hS.tok q2 g3 g4
      obtain ⟨hG, ⟨d1, d2, d3, d4, d5, d6, d7⟩, h22⟩ := hS1
      refine ⟨wi c1 0 1 (si c1 0 1 + nI 1), pa m1 9 (va_up (sa m1 9) 0 (sa m1 9 0 + nI 1)), ?_, ?_, g3.d.t (dfC_wi (by omega)), g4.d.t dfM_pa, Or.inl ⟨p2, by omega, hG.of rfl rfl rfl (fun _ _ _ => rfl) rfl, ?_, h22⟩⟩
      · rw [b59, g1, e_bU]
      · rw [b244, g2, e_bU, if_pos hG.2.2.2.1]
      · have hn := d1.2.2.2
        unfold DFX
        simp (disch := omega) only [E0]
        refine ⟨d1.row (va_up_ne _ _ (by omega)), d2.row hn (fun t a b => va_up_ne _ _ (by omega)), d3.row (va_up_ne _ _ (by omega)), d4.row (va_up_ne _ _ (by omega)) (fun t a b => va_up_ne _ _ (by omega)) (fun t a b => va_up_ne _ _ (by omega)), d5.row (va_up_ne _ _ (by omega)) (va_up_ne _ _ (by omega)) (fun t a b => va_up_ne _ _ (by omega)), d6.row (va_up_ne _ _ (by omega)) (fun t a => va_up_ne _ _ (by omega)), ?_, ?_, ?_, d7.2.2.2.1, ?_⟩
        · rw [va_up_self, d7.1]
        · rw [va_up_ne _ _ (by omega)]
          exact d7.2.1
        · rw [va_up_ne _ _ (by omega)]
          exact d7.2.2.1
        · rw [va_up_ne _ _ (by omega)]
          exact d7.2.2.2.2
    · refine ⟨wi c1 0 1 (si c1 0 1 + nI 1), m1, ?_, ?_, g3.d.t (dfC_wi (by omega)), g4.d, Or.inr (q.of rfl rfl rfl rfl)⟩
      · rw [b59, g1, e_bU]
      · rw [b244, g2, e_bU, if_neg q.nm]
  · refine ⟨wi c 0 1 (si c 0 1 + nI 1), m, ?_, r244b hb.nm (by omega), dfC_wi (by omega), dfM_refl m, Or.inr (hb.of rfl rfl rfl rfl)⟩
    rw [b59, c54b hb.nc (by omega), e_bU]
theorem bit_lt {b v : Nat} (hb : b < 2 ^ 20) (hv : v < 20) : b ||| 2 ^ v < 2 ^ 20 := Nat.or_lt_two_pow hb (Nat.pow_lt_pow_right (by decide) hv)
/-- a blind alley -/
theorem SG.blind (h : SG L p n c m) (q8 : st c 0 = 8) (hD : 6 ≤ D) (hE : 5 ≤ E) : ∃ (c1 c2 m1 m2 : ab_S) (r r' : Int32), ab_ev X D 43 [.inr (1, 0)] c = some (.inl none, c1) ∧ ab_ev X D 56 [.inr (1, 0), .inl (.int (nI 0)), .inl (.int (si c1 1 1 - nI 1))] c1 = some (.inl (some (.inl (.int r))), c2) ∧ ab_ev X (E + 1) 240 [.inr (9, 0), .inr (11, 5)] m = some (.inl (some (.inl (.int (nI 1)))), m1) ∧ ab_ev X (E + 1) 250 [.inr (9, 0)] m1 = some (.inl (some (.inl (.int r'))), m2) ∧ dfC c (wi c2 6 1 (si c2 6 1 ||| (nI 1 <<< (r &&& 31)))) ∧ dfM m (pa m2 9 (va_up (sa m2 9) 31 (sa m1 9 31 ||| (nI 1 <<< (r' &&& 31))))) ∧ SR L p n (wi c2 6 1 (si c2 6 1 ||| (nI 1 <<< (r &&& 31)))) (pa m2 9 (va_up (sa m2 9) 31 (sa m1 9 31 ||| (nI 1 <<< (r' &&& 31))))) := by
  obtain ⟨c1, m1, p1, a1, a2, a3, a4, a5, a6⟩ := h.1.adv (X := X) (D := D) (E := E) (by omega) (by omega) (by omega)
  have hS := h.tok a4 a5 a6
  have d1 := hS.2.1.1
  obtain ⟨c2, m2, r, b1, b2, b3, b4⟩ := hS.1.str (X := X) (D := D) (E := E + 1) d1.1 d1.2.1 d1.2.2 (by omega) (by omega)
  have t5 : ab_ev X (E + 1) 240 [.inr (9, 0), .inr (11, 5)] m = some (.inl (some (.inl (.int (nI 1)))), m1) := h.1.tky (i := 8) (by decide) (by decide) (by decide) (by omega) q8 a3
  rcases b4 with ⟨v, p2, e1, e2, e3, e4, e5, e6, e7, e8⟩ | ⟨e1, e2⟩
  · have hS2 := hS.tok e8 b2 b3
    obtain ⟨hG, ⟨d1, d2, d3, d4, d5, d6, d7⟩, h22⟩ := hS2
    have hn := d1.2.2.2
    refine ⟨c1, c2, m1, m2, r, nI v, a2, b1, t5, e7, (a5.d.t b2.d).t (dfC_wi (by omega)), (a6.d.t b3.d).t dfM_pa, Or.inl ⟨p2, by omega, hG.of rfl rfl rfl (fun _ _ _ => rfl) rfl, ?_, h22⟩⟩
    unfold DFX
    simp (disch := omega) only [E0]
    refine ⟨d1.row (va_up_ne _ _ (by omega)), d2.row hn (fun t a b => va_up_ne _ _ (by omega)), ?_, d4.row (va_up_ne _ _ (by omega)) (fun t a b => va_up_ne _ _ (by omega)) (fun t a b => va_up_ne _ _ (by omega)), d5.row (va_up_ne _ _ (by omega)) (va_up_ne _ _ (by omega)) (fun t a b => va_up_ne _ _ (by omega)), d6.row (va_up_ne _ _ (by omega)) (fun t a => va_up_ne _ _ (by omega)), d7.row (va_up_ne _ _ (by omega)) (va_up_ne _ _ (by omega)) (va_up_ne _ _ (by omega)) (va_up_ne _ _ (by omega))⟩
    obtain ⟨bm, k1, k2, k3⟩ := d3
    have e31 : sa m1 9 31 = nI bm := by
      rw [← k3, fM_sa b3]
    refine ⟨bm ||| 2 ^ v, bit_lt k1 (by omega), ?_, ?_⟩
    · rw [k2, e6, n_sh v (by omega), n_or]
    · rw [va_up_self, e31, n_sh v (by omega), n_or]
  · exact ⟨c1, c2, m1, m2, r, nI 0, a2, b1, t5, e2, (a5.d.t b2.d).t (dfC_wi (by omega)), (a6.d.t b3.d).t dfM_pa, Or.inr (e1.of rfl rfl rfl rfl)⟩
/-- a sign -/
theorem SG.sign (h : SG L p n c m) (q10 : st c 0 = 10) (hD : 6 ≤ D) (hE : 5 ≤ E) : ∃ (c1 c2 c3 c4 m1 m2 : ab_S) (r r' : Int32), ab_ev X D 43 [.inr (1, 0)] c = some (.inl none, c1) ∧ ab_ev X D 56 [.inr (1, 0), .inl (.int (nI 0)), .inl (.int (si c1 1 1 - nI 1))] c1 = some (.inl (some (.inl (.int r))), c2) ∧ ab_ev X D 56 [.inr (1, 0), .inl (.int (nI 0)), .inl (.int (si c2 1 1 - nI 1))] c2 = some (.inl (some (.inl (.int r'))), c3) ∧ ab_ev X D 3 [.inr (19, 1), .inl (.int r), .inl (.int r')] c3 = some (.inl none, c4) ∧ ab_ev X (E + 1) 240 [.inr (9, 0), .inr (11, 7)] m = some (.inl (some (.inl (.int (nI 1)))), m1) ∧ ab_ev X (E + 1) 252 [.inr (9, 0)] m1 = some (.inl none, m2) ∧ dfC c c4 ∧ dfM m m2 ∧ SR L p n c4 m2 := by
  obtain ⟨c1, m1, p1, a1, a2, a3, a4, a5, a6⟩ := h.1.adv (X := X) (D := D) (E := E) (by omega) (by omega) (by omega)
  have hS := h.tok a4 a5 a6
  have d1 := hS.2.1.1
  obtain ⟨c2, m2, r, b1, b2, b3, b4⟩ := hS.1.str (X := X) (D := D) (E := E) d1.1 d1.2.1 d1.2.2 (by omega) (by omega)
  have t5 : ab_ev X (E + 1) 240 [.inr (9, 0), .inr (11, 7)] m = some (.inl (some (.inl (.int (nI 1)))), m1) := h.1.tky (i := 10) (by decide) (by decide) (by decide) (by omega) q10 a3
  have put : ∀ (s : ab_S) (x y : Int32), ∃ s' : ab_S, ab_ev X D 3 [.inr (19, 1), .inl (.int x), .inl (.int y)] s = some (.inl none, s') ∧ dfC s s' ∧ sz s' = sz s := fun s x y => by
    obtain ⟨s1, h1, h2⟩ := c_putT (X := X) (d := D) (k := 19) (i := 1) (n := 20) (s := s) (x := x) (v := y) rfl rfl rfl (fun G => wA s 0 1 G) (fun G => rfl) (by decide)
    rcases h2 with rfl | ⟨G, rfl⟩
    · exact ⟨s1, h1, dfC_refl _, rfl⟩
    · exact ⟨_, h1, dfC_wA (by omega), rfl⟩
  rcases b4 with ⟨v, p2, e1, e2, e3, e4, e5, e6, e7, e8⟩ | ⟨e1, e2⟩
  · have hS2 := hS.tok e8 b2 b3
    have d2 := hS2.2.1.1
    obtain ⟨c3, m3, r', f1, f2, f3, f4⟩ := hS2.1.str (X := X) (D := D) (E := E) d2.1 d2.2.1 d2.2.2 (by omega) (by omega)
    rcases f4 with ⟨w, p3, y1, y2, y3, y4, y5, y6, y7, y8⟩ | ⟨y1, y2⟩
    · have hS3 := hS2.tok y8 f2 f3
      obtain ⟨hG, ⟨d1, d2, d3, d4, d5, d6, d7⟩, h22⟩ := hS3
      have hn := d1.2.2.2
      refine ⟨c1, c2, c3, wA c3 0 1 (va_up (sA c3 0 1) v (nI w)), m1, pa m3 9 (va_up (sa m3 9) (11 + v) (nI w)), r, r', a2, b1, f1, ?_, t5, ?_, ((a5.d.t b2.d).t f2.d).t (dfC_wA (by omega)), ((a6.d.t b3.d).t f3.d).t dfM_pa, Or.inl ⟨p3, by omega, hG.of rfl rfl rfl (fun _ _ _ => rfl) rfl, ?_, h22⟩⟩
      · rw [e6, y6]
        exact put19 (by omega)
      · rw [b252, e7, e_bI, y7, e_bI, if_pos hG.2.2.2.1, nI_add, r_in (j := 11 + v) (by omega) (by decide), nI_clamp (by omega)]
      · unfold DFX
        simp (disch := omega) only [E0]
        refine ⟨d1.row (va_up_ne _ _ (by omega)), ?_, d3.row (va_up_ne _ _ (by omega)), d4.row (va_up_ne _ _ (by omega)) (fun t a b => va_up_ne _ _ (by omega)) (fun t a b => va_up_ne _ _ (by omega)), d5.row (va_up_ne _ _ (by omega)) (va_up_ne _ _ (by omega)) (fun t a b => va_up_ne _ _ (by omega)), d6.row (va_up_ne _ _ (by omega)) (fun t a => va_up_ne _ _ (by omega)), d7.row (va_up_ne _ _ (by omega)) (va_up_ne _ _ (by omega)) (va_up_ne _ _ (by omega)) (va_up_ne _ _ (by omega))⟩
        intro k hk
        by_cases q : k = v
        · rw [q, va_up_self, va_up_self]
          exact ⟨w, y3, rfl, rfl⟩
        · rw [va_up_ne _ _ q, va_up_ne _ _ (by omega)]
          exact d2 k hk
    · obtain ⟨c4, z1, z2, z3⟩ := put c3 r r'
      refine ⟨c1, c2, c3, c4, m1, m3, r, r', a2, b1, f1, z1, t5, ?_, ((a5.d.t b2.d).t f2.d).t z2, (a6.d.t b3.d).t f3.d, Or.inr (y1.of (by rw [z3]) (by rw [z3]) rfl rfl)⟩
      rw [b252, e7, e_bI, y2, e_bI, if_neg y1.nm]
  · obtain ⟨c4, z1, z2, z3⟩ := put c2 r (sz c2 7)
    refine ⟨c1, c2, c2, c4, m1, m2, r, sz c2 7, a2, b1, c56b e1.nc (by omega), z1, t5, ?_, (a5.d.t b2.d).t z2, a6.d.t b3.d, Or.inr (e1.of (by rw [z3]) (by rw [z3]) rfl rfl)⟩
    rw [b252, e2, e_bI, r250b e1.nm (by omega), e_bI, if_neg e1.nm]
/-- houses -/
theorem SG.houses (h : SG L p n c m) (q11 : st c 0 = 11) (h0 : si c 3 1 = nI 0) (hD : 6 ≤ D) (hE : 5 ≤ E) : ∃ (c1 c2 m2 : ab_S) (r : Int32), ab_ev X D 43 [.inr (1, 0)] c = some (.inl none, c1) ∧ ab_ev X D 56 [.inr (1, 0), .inl (.int (nI 1)), .inl (.int (nI 99))] c1 = some (.inl (some (.inl (.int r))), c2) ∧ ab_ev X (E + 1) 253 [.inr (9, 0)] m = some (.inl none, m2) ∧ dfC c (wi c2 2 1 r) ∧ dfM m m2 ∧ SR L p n (wi c2 2 1 r) m2 := by
  obtain ⟨c1, m1, p1, a1, a2, a3, a4, a5, a6⟩ := h.1.adv (X := X) (D := D) (E := E) (by omega) (by omega) (by omega)
  have hS := h.tok a4 a5 a6
  obtain ⟨c2, m2, r, b1, b2, b3, b4⟩ := hS.1.num (X := X) (D := D) (E := E) (lo := 1) (hi := 99) (by omega) (by omega) (by omega) (by omega)
  have g3 : sa m 9 3 = nI 0 := by
    obtain ⟨np, hs, h1, h2, h3, h4, h5, h6, h7⟩ := h.2.1.2.2.2.2.1
    rw [h0] at h3
    rw [h4, ← h3]
  have e0 : ∀ (r : Int32) (m2 : ab_S), ab_ev X E 243 [.inr (9, 0), .inl (.int (nI 1)), .inl (.int (nI 99))] m1 = some (.inl (some (.inl (.int r))), m2) → ab_ev X (E + 1) 253 [.inr (9, 0)] m = some (.inl none, pa m2 9 (va_up (sa m2 9) 4 r)) := fun r m2 q => by
    rw [b253, g3, if_pos (nI_le (Nat.le_refl _) (by omega)), if_pos h.1.2.2.2.1, a3, e_bU, q, e_bI]
  rcases b4 with ⟨v, p2, e1, e2, e3, e4, e5, e6, e7, e8, e9⟩ | ⟨e1, e2⟩
  · have hS2 := hS.tok e9 b2 b3
    obtain ⟨hG, ⟨d1, d2, d3, d4, d5, d6, d7⟩, h22⟩ := hS2
    have hn := d1.2.2.2
    refine ⟨c1, c2, _, r, a2, b1, e0 _ _ e8, (a5.d.t b2.d).t (dfC_wi (by omega)), (a6.d.t b3.d).t dfM_pa, Or.inl ⟨p2, by omega, hG.of rfl rfl rfl (fun _ _ _ => rfl) rfl, ?_, h22⟩⟩
    unfold DFX
    simp (disch := omega) only [E0]
    refine ⟨d1.row (va_up_ne _ _ (by omega)), d2.row hn (fun t a b => va_up_ne _ _ (by omega)), d3.row (va_up_ne _ _ (by omega)), d4.row (va_up_ne _ _ (by omega)) (fun t a b => va_up_ne _ _ (by omega)) (fun t a b => va_up_ne _ _ (by omega)), ?_, d6.row (va_up_ne _ _ (by omega)) (fun t a => va_up_ne _ _ (by omega)), d7.row (va_up_ne _ _ (by omega)) (va_up_ne _ _ (by omega)) (va_up_ne _ _ (by omega)) (va_up_ne _ _ (by omega))⟩
    have h30 : si c2 3 1 = nI 0 := by
      rw [fC_si b2, fC_si a5]
      exact h0
    refine ⟨0, v, by omega, e4, h30, ?_, e7, va_up_self _ _ _, fun q hq => absurd hq (by omega)⟩
    rw [va_up_ne _ _ (by omega), fM_sa b3, fM_sa a6]
    exact g3
  · exact ⟨c1, c2, _, r, a2, b1, e0 _ _ e2, (a5.d.t b2.d).t (dfC_wi (by omega)), (a6.d.t b3.d).t dfM_pa, Or.inr (e1.of rfl rfl rfl rfl)⟩
/-- the law -/
theorem SG.rest (h : SG L p n c m) (q12 : st c 0 = 12) (hD : 31 ≤ D) (hE : 31 ≤ E) : ∃ (c1 c2 m1 m2 : ab_S), ab_ev X D 43 [.inr (1, 0)] c = some (.inl none, c1) ∧ ab_ev X D 69 [.inr (1, 0), .inr (4, 1), .inl (.int (nI 0))] (wi c1 8 1 (nI 0)) = some (.inl none, c2) ∧ ab_ev X (E + 1) 240 [.inr (9, 0), .inr (11, 9)] m = some (.inl (some (.inl (.int (nI 1)))), m1) ∧ ab_ev X (E + 1) 254 [.inr (9, 0)] (pa m1 9 (va_up (sa m1 9) 5 (nI 0))) = some (.inl none, m2) ∧ dfC c c2 ∧ dfM m m2 ∧ SR L p n c2 m2 := by
  obtain ⟨c1, m1, p1, a1, a2, a3, a4, a5, a6⟩ := h.1.adv (X := X) (D := D) (E := E) (by omega) (by omega) (by omega)
  have hS := h.tok a4 a5 a6
  have t5 : ab_ev X (E + 1) 240 [.inr (9, 0), .inr (11, 9)] m = some (.inl (some (.inl (.int (nI 1)))), m1) := h.1.tky (i := 12) (by decide) (by decide) (by decide) (by omega) q12 a3
  have hQ : QL L p1 0 (wi c1 8 1 (nI 0)) (pa m1 9 (va_up (sa m1 9) 5 (nI 0))) 0 [] := by
    refine ⟨hS.1.of rfl rfl rfl (fun _ _ _ => rfl) rfl, ⟨?_, ?_, fun k hk => absurd hk (by omega), fun k hk => ?_, rfl⟩, hS.2.2⟩
    · simp (disch := omega) only [E0]
    · simp (disch := omega) only [E0]
      exact va_up_self _ _ _
    · obtain rfl : k = 0 := by omega
      exact ⟨[], rfl, by decide⟩
  obtain ⟨c2, m2, b1, b2, b3, b4, b5⟩ := (truth_all (X := X) (L := L) 6 0 rfl).2 D (E + 1) _ _ p1 0 0 [] (by omega) (by omega) hQ (by omega) (by decide)
  refine ⟨c1, c2, m1, m2, a2, b1, t5, b2, (a5.d.t (dfC_wi (by omega))).t b3.d, (a6.d.t dfM_pa).t b4.d, ?_⟩
  rcases b5 with ⟨p2, ml, e1, e2, e3⟩ | q
  · refine Or.inl ⟨p2, by omega, e3.1, ?_, e3.2.2⟩
    obtain ⟨hG, ⟨d1, d2, d3, d4, d5, d6, d7⟩, h22⟩ := hS
    have hn := d1.2.2.2
    have hL := e3.1.1
    have hpL := e3.1.2.1
    have es : ∀ k, k ≠ 8 → si c2 k 1 = si c1 k 1 := fun k hk => by
      rw [b3.2.1 k 1 (Or.inl hk)]
      simp (disch := omega) only [E0]
    have eA : ∀ k, k ≠ 6 → sA c2 k 1 = sA c1 k 1 := fun k hk => by
      rw [b3.2.2.2.1 k 1 (Or.inl hk)]
      simp (disch := omega) only [E0]
    have eg : ∀ t, t ≠ 5 → t < 1364 → sa m2 9 t = sa m1 9 t := fun t h5 ht => by
      rw [b4.2.2.1 t h5 ht]
      simp (disch := omega) only [E0]
      exact va_up_ne _ _ h5
    unfold DFX
    rw [es 1 (by omega), es 6 (by omega), es 7 (by omega), es 3 (by omega), es 2 (by omega), es 0 (by omega), es 4 (by omega), es 5 (by omega), es 9 (by omega), eA 0 (by omega), eA 3 (by omega), eA 4 (by omega), eA 5 (by omega), eA 1 (by omega), eA 2 (by omega)]
    obtain ⟨y1, y2, y3, y4, y5⟩ := e3.2.1
    exact ⟨d1.row (eg _ (by omega) (by omega)), d2.row hn (fun t a b => eg _ (by omega) (by omega)), d3.row (eg _ (by omega) (by omega)), d4.row (eg _ (by omega) (by omega)) (fun t a b => eg _ (by omega) (by omega)) (fun t a b => eg _ (by omega) (by omega)), d5.row (eg _ (by omega) (by omega)) (eg _ (by omega) (by omega)) (fun t a b => eg _ (by omega) (by omega)), ⟨ml, y1, y2, by omega, ⟨y4, fun _ => y5⟩, y3⟩, d7.row (eg _ (by omega) (by omega)) (eg _ (by omega) (by omega)) (eg _ (by omega) (by omega)) (eg _ (by omega) (by omega))⟩
  · exact Or.inr q
end STM
