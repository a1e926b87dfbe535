/-! The town call. -/
theorem DFX.CW {c : ab_S} {g : Nat → Int32} {n : Nat} (h : DFX c g n) : ∃ (nr np hs ml : Nat) (by' : Nat → Int32) (nm z : Nat → Nat) (st : Nat → Nat → Nat) (bm : Nat) (lo li : Nat → Nat), CW c 1 g n nr np hs ml 0 by' nm z st bm lo li := by
  obtain ⟨⟨a1, a2, a3, a4⟩, b, ⟨bm, c1, c2, c3⟩, ⟨nr, d1, d2, d3, d4, d5⟩, ⟨np, hs, e1, e2, e3, e4, e5, e6, e7⟩, ⟨ml, f1, f2, f3, f4, f5⟩, f6, f7, f8, f9, f10⟩ := h
  have hN : ∀ k, ∃ v, k < n → v < n ∧ sA c 0 1 k = nI v ∧ g (11 + k) = nI v := fun k => by
    by_cases q : k < n
    · obtain ⟨v, hv⟩ := b k q
      exact ⟨v, fun _ => hv⟩
    · exact ⟨0, fun w => absurd w q⟩
  obtain ⟨nm, hnm⟩ := Classical.axiomOfChoice hN
  have hR : ∀ r, ∃ w : Int32 × Nat × (Nat → Nat), r < nr → sA c 5 1 r = w.1 ∧ g (7 + r) = w.1 ∧ -100 ≤ w.1.toInt ∧ w.1.toInt ≤ 100 ∧ w.2.1 ≤ 20 ∧ sA c 4 1 r = nI w.2.1 ∧ g (32 + r) = nI w.2.1 ∧ (∀ k, k < w.2.1 → sA c 3 1 (20 * r + k) = nI (w.2.2 k) ∧ g (36 + 20 * r + k) = nI (w.2.2 k) ∧ w.2.2 k < n) ∧ (∀ a b, a < w.2.1 → b < w.2.1 → w.2.2 a = w.2.2 b → a = b) := fun r => by
    by_cases q : r < nr
    · obtain ⟨x, z, f, hv⟩ := d4 r q
      exact ⟨(x, z, f), fun _ => hv⟩
    · exact ⟨(0, 0, fun _ => 0), fun w => absurd w q⟩
  obtain ⟨W, hW⟩ := Classical.axiomOfChoice hR
  have hP : ∀ q, ∃ w : Nat × Nat, q < np → w.1 < n ∧ w.2 ≤ hs ∧ sA c 1 1 q = nI w.1 ∧ g (116 + q) = nI w.1 ∧ sA c 2 1 q = nI w.2 ∧ g (124 + q) = nI w.2 := fun q => by
    by_cases w : q < np
    · obtain ⟨lo, li, hv⟩ := e7 q w
      exact ⟨(lo, li), fun _ => hv⟩
    · exact ⟨(0, 0), fun w2 => absurd w2 w⟩
  obtain ⟨V, hV⟩ := Classical.axiomOfChoice hP
  have s20 : st_ g 11 20 = g 31 := st_at (by omega)
  have s121 : st_ g 11 121 = g 132 := st_at (by omega)
  have s122 : st_ g 11 122 = g 133 := st_at (by omega)
  have sn : ∀ k, k < n → st_ g 11 k = g (11 + k) := fun k hk => st_at (by omega)
  have sz' : ∀ r, r < nr → st_ g 11 (21 + r) = g (32 + r) := fun r hr => by
    rw [st_at (by omega)]
    congr 1
    omega
  have ss : ∀ r k, r < nr → k < 20 → st_ g 11 (25 + 20 * r + k) = g (36 + 20 * r + k) := fun r k hr hk => by
    rw [st_at (by omega)]
    congr 1
    omega
  have sl : ∀ q, q < np → st_ g 11 (105 + q) = g (116 + q) ∧ st_ g 11 (113 + q) = g (124 + q) := fun q hq => by
    rw [st_at (by omega), st_at (by omega)]
    exact ⟨congrArg g (by omega), congrArg g (by omega)⟩
  refine ⟨nr, np, hs, ml, fun r => (W r).1, nm, fun r => (W r).2.1, fun r => (W r).2.2, bm, fun q => (V q).1, fun q => (V q).2, ⟨a1, a4, d2, d1, e3, e1, fun r hr => (hW r hr).1, fun r hr => ⟨(hW r hr).2.2.1, (hW r hr).2.2.2.1⟩⟩, ⟨a2, d3, e4, fun r hr => (hW r hr).2.1⟩, ⟨e5, e6, by omega⟩, f6, ⟨f1, f2, f3, f4, f5⟩, ⟨fun k hk => ?_, fun k hk => (hnm k hk).1, fun r hr => ?_, fun r hr => (hW r hr).2.2.2.2.1, fun r hr k hk => ?_, fun r hr k hk => ((hW r hr).2.2.2.2.2.2.2.1 k hk).2.2, fun r hr => (hW r hr).2.2.2.2.2.2.2.2, ?_, c1, fun q hq => ?_⟩, ⟨fun k hk => ?_, ?_, fun r hr => ?_, fun r hr z hz e k hk => ?_, fun q hq => ?_, ?_, ?_⟩, f9, f10, by omega, fun j hj => absurd hj (by omega)⟩
  · rw [sn k hk]
    exact (hnm k hk).2.2
  · rw [sz' r hr]
    exact (hW r hr).2.2.2.2.2.2.1
  · have h20 := (hW r hr).2.2.2.2.1
    have hk' : k < (W r).2.1 := hk
    rw [ss r k hr (by omega)]
    exact ((hW r hr).2.2.2.2.2.2.2.1 k hk).2.1
  · rw [s20]
    exact c3
  · obtain ⟨w1, w2, w3, w4, w5, w6⟩ := hV q hq
    rw [(sl q hq).1, (sl q hq).2]
    exact ⟨w4, w1, w6, w2⟩
  · show sA c 0 1 k = _
    rw [sn k hk, (hnm k hk).2.1, (hnm k hk).2.2]
  · show si c 6 1 = _
    rw [s20, c2, c3]
  · show sA c 4 1 r = _
    rw [sz' r hr, (hW r hr).2.2.2.2.2.1, (hW r hr).2.2.2.2.2.2.1]
  · show sA c 3 1 (20 * r + k) = _
    have hk' : k < z := hk
    have h20 := (hW r hr).2.2.2.2.1
    rw [sz' r hr, (hW r hr).2.2.2.2.2.2.1] at e
    have ez : (W r).2.1 = z := (nI_eq (by omega) (by omega)).mp e
    have h8 := (hW r hr).2.2.2.2.2.2.2.1 k (by omega)
    rw [ss r k hr (by omega), h8.1, h8.2.1]
  · show sA c 1 1 q = _ ∧ sA c 2 1 q = _
    obtain ⟨w1, w2, w3, w4, w5, w6⟩ := hV q hq
    rw [(sl q hq).1, (sl q hq).2, w3, w4, w5, w6]
    exact ⟨rfl, rfl⟩
  · show si c 4 1 = _
    rw [s121]
    exact f7
  · show si c 5 1 = _
    rw [s122]
    exact f8
section TEN
variable {X : (Nat → Int32) × Nat} {d E k c0 c1 : Nat} {s s2 m : ab_S}
theorem INV.town (h : INV c0 c1 k s) (a : ∀ k i, 2 ≤ i ∨ 10 ≤ k → si s2 k i = si s k i) (b : ∀ k i, 2 ≤ i → sA s2 k i = sA s k i) (c : ∀ k, k ≠ 8 → k ≠ 9 → sa s2 k = sa s k) (e1 : sb s2 2 = sb s 2) (e2 : sB s2 = sB s) (e3 : sq s2 = sq s) (e4 : sn s2 = sn s) (hC : CT s2) (z1 : sz s2 1 = nI 0) (z12 : sz s2 12 = nI 0) (z2 : sz s2 2 = sz s2 20) (z3 : sz s2 3 = sz s2 21) : INV c0 c1 (k + 6) s2 := by
  obtain ⟨g0, g1⟩ := h.room (s2 := s2) (a := 0) (b := 0) (by omega) (by omega) (by rw [e4]; omega) (by rw [e4]; omega)
  obtain ⟨-, hT, hI, -, -, -, -, -⟩ := h
  refine ⟨hC, TR_of hT (by rw [e3]) (by rw [e4]) (funext fun i => a 10 i (by omega)) (funext fun i => a 11 i (by omega)) (c 22 (by omega) (by omega)) (c 23 (by omega) (by omega)) e2 e1, hI.same (by rw [e3]) (by rw [e4]) (c 10 (by omega) (by omega)) (c 11 (by omega) (by omega)) (fun k i hi _ => a k i (by omega)) (fun k i hi _ => b k i hi), ⟨0, z1, z12, by omega, fun q hq => absurd hq (by omega)⟩, z2, z3, g0, g1⟩
/-- the model's row taken over -/
theorem l196t {x1 : Int32} : ∀ (j t : Nat) (G : Nat → Int32), t + j = 2300 → (∀ q, q < t → G q = sa m 9 q) → ∃ H : Nat → Int32, ab_at X (E + 1) 231 196 [some (.inr (9, 0)), some (.inl (.int x1)), some (.inl (.int (nI t)))] [] (pa m 8 G) = some (.inl (some (.inl (.int (H 0)))), pa m 8 H) ∧ ∀ q, q < 2300 → H q = sa m 9 q
  | 0, t, G, e, hG => by
    obtain rfl : t = 2300 := by omega
    refine ⟨G, ?_, hG⟩
    rw [b231_196, if_pos (nI_le (Nat.le_refl _) (by omega))]
    simp (disch := omega) only [E0]
  | j + 1, t, G, e, hG => by
    obtain ⟨H, g1, g2⟩ := l196t (x1 := x1) j (t + 1) (va_up G t (sa m 9 t)) (by omega) (fun q hq => by
      by_cases w : q = t
      · rw [w, va_up_self]
      · rw [va_up_ne _ _ w]
        exact hG q (by omega))
    refine ⟨H, ?_, g2⟩
    rw [← g1, b231_196, if_neg (nI_ge (by omega) (by omega)), r_in (j := t) (by omega) (by decide), r_in (j := t) (by omega) (by decide), nI_clamp (by omega), nI_add]
    simp (disch := omega) only [E0, E1]
/-- the model's town, up to its text's reading -/
theorem r231 {L τ : Nat} (h12 : sz s 12 = nI τ) (hL : L ≤ τ) (hτ : τ ≤ 900) : ab_ev X (E + 1) 231 [.inr (9, 0), .inl (.int (nI L))] s = ab_at X (E + 1) 231 52 [some (.inr (9, 0)), some (.inl (.int (nI L))), some (.inl (.int (nI 0)))] [] (pz (pz (pz (pz (pz (pz s 11 (nI 0)) 13 (nI L)) 12 (nI 0)) 14 (nI 0)) 18 (nI 0)) 22 (nI 0)) := by
  have i1 : (nI L).toInt = L := i_nI (by omega)
  have i2 : (nI τ).toInt = τ := i_nI (by omega)
  have j_0 : (lN 0).toInt = 0 := by decide
  rw [b231, r232, h12, j_of, j_of, i1, i2, j_0, if_pos (inR_iff.mpr (by omega)), e_bI, if_neg (show ¬ nI 1 = nI 0 by decide)]
theorem tfM_sA {m m' : ab_S} (h : tfM m m') : sA m' = sA m := by
  funext k
  show m'.2.2.2.2.2.1 k = m.2.2.2.2.2.1 k
  rw [h.2.2.2]
theorem tfM_sb {m m' : ab_S} (h : tfM m m') : sb m' = sb m := by
  funext k
  show m'.2.2.2.2.2.2.1 k = m.2.2.2.2.2.2.1 k
  rw [h.2.2.2]
theorem tfM_sB {m m' : ab_S} (h : tfM m m') : sB m' = sB m := by
  funext k
  show m'.2.2.2.2.2.2.2.1 k = m.2.2.2.2.2.2.2.1 k
  rw [h.2.2.2]
theorem tfM_sq {m m' : ab_S} (h : tfM m m') : sq m' = sq m := by
  funext k
  show m'.2.2.2.2.2.2.2.2.1 k = m.2.2.2.2.2.2.2.2.1 k
  rw [h.2.2.2]
theorem tfM_sn {m m' : ab_S} (h : tfM m m') : sn m' = sn m := by
  funext k
  show m'.2.2.2.2.2.2.2.2.2 k = m.2.2.2.2.2.2.2.2.2 k
  rw [h.2.2.2]
theorem tfC_sb {m m' : ab_S} (h : tfC m m') : sb m' = sb m := by
  funext k
  show m'.2.2.2.2.2.2.1 k = m.2.2.2.2.2.2.1 k
  rw [h.2.2.2.2]
theorem tfC_sB {m m' : ab_S} (h : tfC m m') : sB m' = sB m := by
  funext k
  show m'.2.2.2.2.2.2.2.1 k = m.2.2.2.2.2.2.2.1 k
  rw [h.2.2.2.2]
theorem tfC_sq {m m' : ab_S} (h : tfC m m') : sq m' = sq m := by
  funext k
  show m'.2.2.2.2.2.2.2.2.1 k = m.2.2.2.2.2.2.2.2.1 k
  rw [h.2.2.2.2]
theorem tfC_sn {m m' : ab_S} (h : tfC m m') : sn m' = sn m := by
  funext k
  show m'.2.2.2.2.2.2.2.2.2 k = m.2.2.2.2.2.2.2.2.2 k
  rw [h.2.2.2.2]
theorem twn (hX : X.2 < 2 ^ 31) : TWN X (d + 6) c0 c1 := by
  intro k u5 u6 s hk h
  obtain ⟨hC, hTR, hI, ⟨τ, t1, t12, t9, tq⟩, z2, z3, -, -⟩ := id h
  by_cases hin : 0 ≤ (X.1 (k + 1)).toInt ∧ (X.1 (k + 1)).toInt ≤ τ
  rotate_left
  · have i_t : (nI τ).toInt = τ := i_nI (by omega)
    have j_0 : (lN 0).toInt = 0 := by decide
    have cc : ab_ev X (d + 36) 38 [.inr (0, 0), .inl (.int (X.1 (k + 1))), .inr (15, 0)] s = some (.inl (some (.inl (.int (nI 1)))), ths s) := by
      rw [b38, b39, t1]
      by_cases q : X.1 (k + 1) < nI 0
      · rw [if_pos q, e_xI]
        rfl
      · have q2 : ¬ X.1 (k + 1) ≤ nI τ := fun z => by
          rw [n_len _ (by omega)] at z
          rw [n_lt0] at q
          omega
        rw [if_neg q, if_neg q2, e_xI]
        rfl
    have r : ab_ev X (d + 36) 231 [.inr (9, 0), .inl (.int (X.1 (k + 1)))] (ths s) = some (.inl (some (.inl (.int (nI 0)))), pz (ths s) 11 (nI 1)) := by
      have h12 : sz (ths s) 12 = nI τ := t12
      have hn : ¬ inR (X.1 (k + 1)).toInt 0 τ = true := fun z => hin (inR_iff.mp z)
      rw [b231, r232, h12, j_of, j_of, j_0, i_t, if_neg hn, e_bI, if_pos rfl, b233, e_bI, pz2]
    exact ⟨_, _, _, h.X (sV_pz (by omega)).X (Or.inr rfl), w333 hk hX cc r rfl (fun q => absurd q (by decide))⟩
  obtain ⟨L, hLτ, eL⟩ : ∃ L : Nat, L ≤ τ ∧ X.1 (k + 1) = nI L := by
    have e := n_rep (X.1 (k + 1)) hin.1
    have e2 : (X.1 (k + 1)).toNatClampNeg = (X.1 (k + 1)).toInt.toNat := rfl
    exact ⟨(X.1 (k + 1)).toNatClampNeg, by omega, e⟩
  have hL : L ≤ 900 := by omega
  obtain ⟨a1, mg, i1, -, i3, -, i5, -, i7⟩ := town_pair (X := X) (D := d + 34) (E := 35) hL s s (fun q hq => tq q (by omega)) (by omega) (by omega)
  have key : ∀ (r : Int32) (b1 : ab_S), ab_ev X (d + 35) 39 [.inr (0, 0), .inl (.int (nI L))] s = some (.inl (some (.inl (.int r))), b1) → sz b1 = sz a1 → (∀ k i, 2 ≤ i ∨ 10 ≤ k → si b1 k i = si a1 k i) → (∀ k i, i ≠ 0 → sA b1 k i = sA a1 k i) → sa b1 = sa a1 → sb b1 = sb a1 → sB b1 = sB a1 → sq b1 = sq a1 → sn b1 = sn a1 → (∀ (m1 : ab_S), (∃ n p', SG L p' n a1 m1 ∧ st a1 0 = 0 ∧ sz a1 3 = -nI 1) ∨ BD a1 m1 → sa m1 8 = sa s 8 → si m1 = si b1 → sA m1 = sA b1 → ∃ (b : Int32) (s2 : ab_S), ab_at X (d + 36) 231 131 [some (.inr (9, 0)), some (.inl (.int (nI L))), some (.inl (.int (nI 20)))] [] m1 = some (.inl (some (.inl (.int b))), s2) ∧ b = r ∧ CT s2 ∧ sz s2 20 = sz a1 2 ∧ sz s2 21 = sz a1 3 ∧ (∀ k, k ≠ 20 → k ≠ 21 → sz s2 k = sz m1 k) ∧ (∀ k, k ≠ 8 → sa s2 k = sa m1 k) ∧ si s2 = si m1 ∧ s2.2.2.2.2.2 = m1.2.2.2.2.2) → ∃ (s2 : ab_S) (v5 v6 : Option ab_V), INV c0 c1 (k + 6) s2 ∧ ab_at X (d + 6 + 31) 360 333 [some (.inr (14, 0)), some (.inr (0, 0)), some (.inr (9, 0)), some (.inr (15, 0)), some (.inl (.int (nI k))), u5, u6, none] [] s = ab_at X (d + 6 + 31) 360 23 [some (.inr (14, 0)), some (.inr (0, 0)), some (.inr (9, 0)), some (.inr (15, 0)), some (.inl (.int (nI (k + 6)))), v5, v6, none] [] s2 := by
    intro r b1 h39 f1 f2 f3 f4 f5 f6 f7 f8 hm
    obtain ⟨s1, hs1⟩ : ∃ s1, s1 = pb b1 3 (va_up (sb b1 3) 0 r.toInt64) := ⟨_, rfl⟩
    have cc : ab_ev X (d + 36) 38 [.inr (0, 0), .inl (.int (X.1 (k + 1))), .inr (15, 0)] s = some (.inl (some (.inl (.int (nI 0)))), s1) := by
      rw [b38, eL, h39, e_bI, hs1]
    have s1z : sz s1 = sz a1 := by
      rw [hs1]
      exact f1
    have s1a : sa s1 = sa s := by
      rw [hs1]
      exact f4.trans i3.2.2.1
    have hz12 : sz s1 12 = nI τ := by
      rw [s1z, i3.1 12 (by omega)]
      exact t12
    obtain ⟨a1', m1, j1, j2, -, j4, -, j6, j7⟩ := town_pair (X := X) (D := d + 34) (E := d + 36) hL s (pz s1 11 (nI 0)) (fun q hq => by
      show sa s 0 q = sa s1 12 q
      rw [s1a]
      exact tq q (by omega)) (by omega) (by omega)
    obtain rfl : a1' = a1 := by
      rw [i1] at j1
      have := Option.some.inj j1
      exact (congrArg Prod.snd this).symm
    have msi : si m1 = si b1 := by
      rw [j4.2.2.1, hs1]
      rfl
    have msA : sA m1 = sA b1 := by
      rw [tfM_sA j4, hs1]
      rfl
    have ms8 : sa m1 8 = sa s 8 := by
      rw [j4.2.1 8 (by omega)]
      show sa s1 8 = _
      rw [s1a]
    obtain ⟨b, s2, w1, w2, w3, w4, w5, w6, w7, w8, w9⟩ := hm m1 j7 ms8 msi msA
    have rr : ab_ev X (d + 36) 231 [.inr (9, 0), .inl (.int (X.1 (k + 1)))] s1 = some (.inl (some (.inl (.int b))), s2) := by
      rw [eL, r231 (E := d + 35) hz12 hLτ t9]
      exact j2.trans w1
    have e2A : sA s2 = sA m1 := by
      funext k
      show s2.2.2.2.2.2.1 k = m1.2.2.2.2.2.1 k
      rw [w9]
    have e2b : sb s2 = sb s1 := by
      have : sb s2 = sb m1 := by
        funext k
        show s2.2.2.2.2.2.2.1 k = m1.2.2.2.2.2.2.1 k
        rw [w9]
      rw [this, tfM_sb j4]
      rfl
    have e2B : sB s2 = sB s := by
      have : sB s2 = sB m1 := by
        funext k
        show s2.2.2.2.2.2.2.2.1 k = m1.2.2.2.2.2.2.2.1 k
        rw [w9]
      rw [this, tfM_sB j4]
      show sB s1 = _
      rw [hs1]
      exact f6.trans (tfC_sB i3)
    have e2q : sq s2 = sq s := by
      have : sq s2 = sq m1 := by
        funext k
        show s2.2.2.2.2.2.2.2.2.1 k = m1.2.2.2.2.2.2.2.2.1 k
        rw [w9]
      rw [this, tfM_sq j4]
      show sq s1 = _
      rw [hs1]
      exact f7.trans (tfC_sq i3)
    have e2n : sn s2 = sn s := by
      have : sn s2 = sn m1 := by
        funext k
        show s2.2.2.2.2.2.2.2.2.2 k = m1.2.2.2.2.2.2.2.2.2 k
        rw [w9]
      rw [this, tfM_sn j4]
      show sn s1 = _
      rw [hs1]
      exact f8.trans (tfC_sn i3)
    have zz : ∀ k, k < 11 → sz s2 k = sz a1' k := fun k hk => by
      rw [w6 k (by omega) (by omega), j4.1 k (by omega), pz_sz (by omega), s1z]
    have z11 : sz s2 11 = nI 0 := by
      rw [w6 11 (by omega) (by omega), j4.1 11 (by omega)]
      simp (disch := omega) only [E0]
    refine ⟨s2, _, _, h.town (fun k i hq => ?_) (fun k i hq => ?_) (fun k h8 h9 => ?_) ?_ e2B e2q e2n w3 ?_ ?_ ?_ ?_, w333 hk hX cc rr z11 (fun _ => ?_)⟩
    · rw [w8, msi, f2 k i hq, i3.2.1 k i (by omega)]
    · rw [e2A, msA, f3 k i (by omega), i3.2.2.2.1 k i (by omega)]
    · rw [w7 k h8, j4.2.1 k h9]
      show sa s1 k = _
      rw [s1a]
    · rw [e2b, hs1]
      simp (disch := omega) only [E0]
      rw [f5, tfC_sb i3]
    · rw [zz 1 (by omega)]
      exact i5
    · rw [w6 12 (by omega) (by omega)]
      exact j6
    · rw [zz 2 (by omega), w4]
    · rw [zz 3 (by omega), w5]
    · rw [e2b, hs1, w2]
      simp (disch := omega) only [E0]
      exact va_up_self _ _ _
  have b39' : ab_ev X (d + 35) 39 [.inr (0, 0), .inl (.int (nI L))] s = (if (sz a1 2) = (nI 0) then ab_bU (ab_ev X (d + 34) 80 [.inr (2, 0), .inr (2, 1)] a1) (fun s2 => some (.inl (some (.inl (.int ((si s2 0) 0)))), s2)) ab_px else some (.inl (some (.inl (.int ((-nI 10) - (sz a1 2))))), a1)) := by
    rw [b39, if_neg (n_nlt0 (by omega)), t1, if_pos (nI_le hLτ (by omega)), i1, e_bU]
  rcases i7 with ⟨n, p', hS, hst, h3⟩ | hb
  · obtain ⟨ml, q1, q2, q3, q4, q5⟩ := hS.2.1.2.2.2.2.2.1
    obtain ⟨b1, y1, y2, y3, y4⟩ := c_takeOver (X := X) (d := d + 31) (s := a1) (i := 0) (j := 1) (by decide) q1 q3
    obtain ⟨x1, x2, x3, x4, x5, x6, x7, x8, x9, x10, x11⟩ := y2
    have h20 := hS.1.2.2.1
    refine key (si b1 0 0) b1 ?_ x1 (fun k i hq => ?_) (fun k i hi => x11 k i hi) x4 x5 x6 x7 x8 (fun m1 hm ms8 msi msA => ?_)
    · rw [b39', if_pos h20]
      have y1' : ab_ev X (d + 34) 80 [.inr (2, 0), .inr (2, 1)] a1 = some (.inl none, b1) := y1
      rw [y1', e_bU]
    · rcases hq with hq | hq
      · exact x9 k i (by omega)
      · rw [x10 k hq]
    · rcases hm with ⟨n', p2, hS', -, h3'⟩ | hb
      · obtain ⟨nr, np, hs, ml', by', nm, z, st', bm, lo, li, hW⟩ := hS'.2.1.CW
        have h16 : sz m1 16 = nI 0 := hS'.1.no.mp hst
        have h18 : sz m1 18 = nI 0 := hS'.1.2.2.2.1
        obtain ⟨H, g1, g2⟩ := l196t (X := X) (E := d + 35) (x1 := nI L) (m := pz (pz m1 20 (nI 0)) 21 (-nI 1)) 2300 0 (sa (pz (pz m1 20 (nI 0)) 21 (-nI 1)) 8) (by omega) (fun q hq => absurd hq (by omega))
        rw [pa_id] at g1
        have g2' : ∀ q, q < 2300 → H q = sa m1 9 q := g2
        refine ⟨H 0, pa (pz (pz m1 20 (nI 0)) 21 (-nI 1)) 8 H, ?_, ?_, ?_, ?_, ?_, fun k h1 h2 => ?_, fun k hk => ?_, rfl, rfl⟩
        · rw [b231_131]
          simp only [if_pos h18, if_pos h16]
          rw [h18]
          exact g1
        · rw [g2' 0 (by omega), ← hS'.2.1.2.2.2.2.2.2.1]
          exact (y3 0 (by omega)).symm
        · have hW2 := hW.row g2'
          have hml : ml' = ml := by
            have := hW.2.2.2.2.1.1
            have h900 := hW.2.2.2.2.1.2.2.1
            exact (nI_eq (by omega) (by omega)).mp (this.symm.trans q1)
          obtain ⟨y40, y41, y42, y43, y44, y45, y46, y48⟩ := y4
          refine ⟨n', nr, np, hs, ml', 0, by', nm, z, st', bm, lo, li, ?_⟩
          have e8 : sa (pa (pz (pz m1 20 (nI 0)) 21 (-nI 1)) 8 H) 8 = H := by simp (disch := omega) only [E0]
          rw [e8]
          have hb1 : CW b1 0 H n' nr np hs ml' 0 by' nm z st' bm lo li := hW2.take y3 y40 y41 y42 y43 y44 y45 (by rw [hml]; exact y46) y48
          refine hb1.same (fun k => ?_) (fun k _ => ?_)
          · show si m1 k 0 = _
            rw [msi]
          · show sA m1 k 0 = _
            rw [msA]
        · show sz (pz (pz m1 20 (nI 0)) 21 (-nI 1)) 20 = _
          simp (disch := omega) only [E0]
          exact h20.symm
        · show sz (pz (pz m1 20 (nI 0)) 21 (-nI 1)) 21 = _
          simp (disch := omega) only [E0]
          exact h3'.symm
        · show sz (pz (pz m1 20 (nI 0)) 21 (-nI 1)) k = _
          rw [pz_sz h2, pz_sz h1]
        · show sa (pa (pz (pz m1 20 (nI 0)) 21 (-nI 1)) 8 H) k = _
          exact va_up_ne _ _ hk
      · exact absurd h20 hb.nc
  · refine key (-nI 10 - sz a1 2) a1 ?_ rfl (fun _ _ _ => rfl) (fun _ _ _ => rfl) rfl rfl rfl rfl rfl (fun m1 hm ms8 msi msA => ?_)
    · rw [b39', if_neg hb.nc]
    · rcases hm with ⟨n', p2, hS', -⟩ | hb'
      · exact absurd hS'.1.2.2.1 hb.nc
      · obtain ⟨fk, w1, w4, w2, w3, w5⟩ := id hb'
        refine ⟨-nI 10 - sz m1 18, pz (pz m1 20 (sz m1 18)) 21 (sz m1 19), ?_, ?_, ?_, ?_, ?_, fun k h1 h2 => ?_, fun k hk => rfl, rfl, rfl⟩
        · rw [b231_131]
          simp only [if_neg hb'.nm]
        · rw [w2, w3]
        · refine CT_of hC ?_ (fun k hk => ?_) (fun k hk => ?_)
          · exact ms8
          · show si m1 k 0 = _
            rw [msi, i3.2.1 k 0 (by omega)]
          · show sA m1 k 0 = _
            rw [msA, i3.2.2.2.1 k 0 (by omega)]
        · simp (disch := omega) only [E0]
          rw [w2, w3]
        · simp (disch := omega) only [E0]
          exact w5.symm
        · rw [pz_sz h2, pz_sz h1]
end TEN
