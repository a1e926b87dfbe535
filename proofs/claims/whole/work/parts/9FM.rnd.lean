/-! A round, as both read one. -/
theorem f_rI {X : (Nat → Int32) × Nat} {s : ab_S} {j : Nat} {f : Int32 → ab_R} (h : j < 2300) : ab_rI X 38 0 (nI j) s f = f (sa s 9 j) := by
  have e : ab_rI X 38 0 (nI j) s f = (if nI j < nI 0 ∨ 2300 ≤ (nI j).toNatClampNeg then none else f (sa s 9 (nI j).toNatClampNeg)) := rfl
  rw [e, r_in h (by decide), nI_clamp (by omega)]
section RDF
variable {X : (Nat → Int32) × Nat} {d n : Nat} {s : ab_S}
theorem l249f {r z : Nat} {x : Int32} (hr : r < 4) (hz : sa s 9 (32 + r) = nI z) (h20 : z ≤ 20) : ∀ (j k : Nat), k + j = z → (∀ q, q < k → (sa s 9 (36 + 20 * r + q) == x) = false) → ab_at X d 249 2 [some (.inr (38, 0)), some (.inl (.int (nI r))), some (.inl (.int x)), some (.inl (.int (nI k)))] [] s = some (.inl (some (.inl (.int (if fst (fun q => sa s 9 (36 + 20 * r + q) == x) z < z then nI (fst (fun q => sa s 9 (36 + 20 * r + q) == x) z) else -nI 1)))), s)
  | 0, k, e, h => by
    obtain rfl : k = z := by omega
    rw [b249_2, show ab_isi 38 = true from rfl, cond_true, nI_add, f_rI (by omega), hz, if_pos (nI_le (Nat.le_refl _) (by omega)), fst_eqn h, if_neg (Nat.lt_irrefl _)]
  | j + 1, k, e, h => by
    have hk : k < z := by omega
    have e5 : nI 36 + nI 20 * nI r + nI k = nI (36 + 20 * r + k) := by rw [pk_mul, nI_add, nI_add]
    rw [b249_2, show ab_isi 38 = true from rfl, cond_true, nI_add, f_rI (by omega), hz, if_neg (nI_ge hk (by omega)), cond_true, e5, f_rI (by omega)]
    by_cases q : sa s 9 (36 + 20 * r + k) = x
    · rw [if_pos q, fst_eq (P := fun q => sa s 9 (36 + 20 * r + q) == x) hk (beq_iff_eq.mpr q) h, if_pos hk]
    · rw [if_neg q, nI_add]
      exact l249f hr hz h20 j (k + 1) (by omega) (fun q2 hq => by
        by_cases e6 : q2 = k
        · rw [e6]
          exact beq_eq_false_iff_ne.mpr q
        · exact h q2 (by omega))
theorem r249f {r z : Nat} {x : Int32} (hr : r < 4) (hz : sa s 9 (32 + r) = nI z) (h20 : z ≤ 20) : ab_ev X d 249 [.inr (38, 0), .inl (.int (nI r)), .inl (.int x)] s = some (.inl (some (.inl (.int (if fst (fun q => sa s 9 (36 + 20 * r + q) == x) z < z then nI (fst (fun q => sa s 9 (36 + 20 * r + q) == x) z) else -nI 1)))), s) := by
  rw [b249]
  exact l249f hr hz h20 z 0 (by omega) (fun q hq => by omega)
end RDF
theorem pig {n k v : Nat} {f : Nat → Nat} (hf : ∀ i, i < k → f i < n) (hi : ∀ a b, a < k → b < k → f a = f b → a = b) (hv : v < n) (hne : ∀ i, i < k → f i ≠ v) : k + 1 ≤ n := by
  have h := inj_ct (m := k + 1) (N := n) (S := fun _ => true) (P := fun _ => true) (h := fun i => if i < k then f i else v) (fun i hi' _ => by
    refine ⟨?_, rfl⟩
    show (if i < k then f i else v) < n
    by_cases q : i < k
    · rw [if_pos q]
      exact hf i q
    · rw [if_neg q]
      exact hv) (fun i j h1 h2 _ _ e => by
    have e' : (if i < k then f i else v) = (if j < k then f j else v) := e
    by_cases q : i < k
    · by_cases q2 : j < k
      · rw [if_pos q, if_pos q2] at e'
        exact hi i j q q2 e'
      · rw [if_pos q, if_neg q2] at e'
        exact absurd e' (hne i q)
    · by_cases q2 : j < k
      · rw [if_neg q, if_pos q2] at e'
        exact absurd e'.symm (hne j q2)
      · omega)
  have h1 : fb_ct (fun _ => true) (k + 1) = k + 1 := fb_ct_all.mpr (fun _ _ => rfl)
  have h2 : fb_ct (fun _ => true) n = n := fb_ct_all.mpr (fun _ _ => rfl)
  rw [h1, h2] at h
  exact h
theorem RO.cl {S Z B S' Z' B' g : Nat → Int32} {n r : Nat} (w : RO S Z B g n r) (hB : B' r = B r) (hZ : Z' r = Z r) (hS : ∀ k, k < 20 → S' (20 * r + k) = S (20 * r + k)) : RO S' Z' B' g n r := by
  obtain ⟨b, z, f, h1, h2, h3, h4, h5, h6, h7, h8, h9⟩ := w
  refine ⟨b, z, f, hB.trans h1, h2, h3, h4, h5, hZ.trans h6, h7, fun k hk => ?_, h9⟩
  obtain ⟨q1, q2, q3⟩ := h8 k hk
  exact ⟨(hS k (by omega)).trans q1, q2, q3⟩
/-- a round under way -/
def RD (n nr k : Nat) (bv : Int32) (c : ab_S) (g : Nat → Int32) : Prop := (DF1 (si c 1 1) g n ∧ DFn (sA c 0 1) g n ∧ DFb (si c 6 1) g ∧ DFp (si c 3 1) (si c 2 1) (sA c 1 1) (sA c 2 1) g n ∧ DFl (si c 8 1) (sA c 6 1) g ∧ DFz (si c 0 1) (si c 4 1) (si c 5 1) (si c 9 1) g) ∧ nr < 4 ∧ si c 7 1 = nI (nr + 1) ∧ g 2 = nI nr ∧ (∀ r, r < nr → RO (sA c 3 1) (sA c 4 1) (sA c 5 1) g n r) ∧ (∀ r, nr < r → r < 4 → g (32 + r) = nI 0) ∧ sA c 5 1 nr = bv ∧ -100 ≤ bv.toInt ∧ bv.toInt ≤ 100 ∧ k ≤ 20 ∧ sA c 4 1 nr = nI k ∧ g (32 + nr) = nI k ∧ ∃ f : Nat → Nat, (∀ i, i < k → sA c 3 1 (20 * nr + i) = nI (f i) ∧ g (36 + 20 * nr + i) = nI (f i) ∧ f i < n) ∧ (∀ a b, a < k → b < k → f a = f b → a = b)
def RM (L p n nr k : Nat) (bv : Int32) (c m : ab_S) : Prop := GD L p c m ∧ sz m 22 = nI 0 ∧ RD n nr k bv c (sa m 9)
section RND
variable {X : (Nat → Int32) × Nat} {L p n nr k : Nat} {bv : Int32} {c m c' m' : ab_S}
theorem RM.tok (h : RM L p n nr k bv c m) {p' : Nat} (hG : GD L p' c' m') (hc : fC c c') (hm : fM m m') : RM L p' n nr k bv c' m' := by
  refine ⟨hG, ?_, ?_⟩
  · rw [hm.1 22 (by omega)]
    exact h.2.1
  · have := h.2.2
    unfold RD at this ⊢
    rw [fC_si hc, fC_sA hc, fM_sa hm]
    exact this
/-- one stop more -/
theorem RM.put (h : RM L p n nr k bv c m) {v : Nat} (hv : v < n) (hk : k < 20) (hne : ∀ i, i < k → ¬ sA c 3 1 (20 * nr + i) = nI v) : RM L p n nr (k + 1) bv (wA (wA c 3 1 (ins (sA c 3 1) (20 * nr) k k (nI v))) 4 1 (va_up (sA c 4 1) nr (nI (k + 1)))) (pa m 9 (va_up (va_up (sa m 9) (36 + 20 * nr + k) (nI v)) (32 + nr) (nI (k + 1)))) := by
  obtain ⟨hG, h22, ⟨d1, d2, d3, d5, d6, d7⟩, a1, a2, a3, a4, a5, a6, a7, a8, a9, a10, a11, f, a12, a13⟩ := h
  have hn := d1.2.2.2
  have o : ∀ t, t ≠ 36 + 20 * nr + k → t ≠ 32 + nr → va_up (va_up (sa m 9) (36 + 20 * nr + k) (nI v)) (32 + nr) (nI (k + 1)) t = sa m 9 t := fun t h1 h2 => by rw [va_up_ne _ _ h2, va_up_ne _ _ h1]
  refine ⟨hG.of rfl rfl rfl (fun _ _ _ => rfl) rfl, h22, ?_⟩
  unfold RD
  simp (disch := omega) only [E0]
  refine ⟨⟨d1.row (o _ (by omega) (by omega)), d2.row hn (fun t a b => o _ (by omega) (by omega)), d3.row (o _ (by omega) (by omega)), d5.row (o _ (by omega) (by omega)) (o _ (by omega) (by omega)) (fun t a b => o _ (by omega) (by omega)), d6.row (o _ (by omega) (by omega)) (fun t a => o _ (by omega) (by omega)), d7.row (o _ (by omega) (by omega)) (o _ (by omega) (by omega)) (o _ (by omega) (by omega)) (o _ (by omega) (by omega))⟩, a1, a2, ?_, fun r hr => ?_, fun r h1 h2 => ?_, a6, a7, a8, by omega, va_up_self _ _ _, va_up_self _ _ _, fun i => if i < k then f i else v, fun i hi => ?_, fun a b ha hb e => ?_⟩
  · rw [o _ (by omega) (by omega)]
    exact a3
  · exact ((a4 r hr).cl (S' := ins (sA c 3 1) (20 * nr) k k (nI v)) (Z' := va_up (sA c 4 1) nr (nI (k + 1))) (B' := sA c 5 1) rfl (va_up_ne _ _ (by omega)) (fun q hq => ins_out (by omega) (Nat.le_refl _))).row (by omega) (o _ (by omega) (by omega)) (o _ (by omega) (by omega)) (fun q hq => o _ (by omega) (by omega))
  · rw [o _ (by omega) (by omega)]
    exact a5 r h1 h2
  · show _ = nI (if i < k then f i else v) ∧ _ = nI (if i < k then f i else v) ∧ (if i < k then f i else v) < n
    by_cases q : i < k
    · obtain ⟨w1, w2, w3⟩ := a12 i q
      rw [if_pos q, ins_out (by omega) (Nat.le_refl _), o _ (by omega) (by omega)]
      exact ⟨w1, w2, w3⟩
    · obtain rfl : i = k := by omega
      rw [if_neg q, ins_at (Nat.le_refl _), if_neg (Nat.lt_irrefl _), if_pos rfl, va_up_ne _ _ (by omega), va_up_self]
      exact ⟨rfl, rfl, hv⟩
  · have hne' : ∀ i, i < k → f i ≠ v := fun i hi e => hne i hi (by rw [(a12 i hi).1, e])
    have e' : (if a < k then f a else v) = (if b < k then f b else v) := e
    by_cases q : a < k
    · by_cases q2 : b < k
      · rw [if_pos q, if_pos q2] at e'
        exact a13 a b q q2 e'
      · rw [if_pos q, if_neg q2] at e'
        exact absurd e' (hne' a q)
    · by_cases q2 : b < k
      · rw [if_neg q, if_pos q2] at e'
        exact absurd e'.symm (hne' b q2)
      · omega
/-- a round told -/
theorem RM.fin (h : RM L p n nr k bv c m) : SG L p n c (pa m 9 (va_up (va_up (sa m 9) (7 + nr) bv) 2 (nI (nr + 1)))) := by
  obtain ⟨hG, h22, ⟨d1, d2, d3, d5, d6, d7⟩, a1, a2, a3, a4, a5, a6, a7, a8, a9, a10, a11, f, a12, a13⟩ := h
  have hn := d1.2.2.2
  have o : ∀ t, t ≠ 7 + nr → t ≠ 2 → va_up (va_up (sa m 9) (7 + nr) bv) 2 (nI (nr + 1)) t = sa m 9 t := fun t h1 h2 => by rw [va_up_ne _ _ h2, va_up_ne _ _ h1]
  refine ⟨hG.of rfl rfl rfl (fun _ _ _ => rfl) rfl, ?_, h22⟩
  unfold DFX
  simp (disch := omega) only [E0]
  refine ⟨d1.row (o _ (by omega) (by omega)), d2.row hn (fun t a b => o _ (by omega) (by omega)), d3.row (o _ (by omega) (by omega)), ⟨nr + 1, by omega, a2, va_up_self _ _ _, fun r hr => ?_, fun r h1 h2 => ?_⟩, d5.row (o _ (by omega) (by omega)) (o _ (by omega) (by omega)) (fun t a b => o _ (by omega) (by omega)), d6.row (o _ (by omega) (by omega)) (fun t a => o _ (by omega) (by omega)), d7.row (o _ (by omega) (by omega)) (o _ (by omega) (by omega)) (o _ (by omega) (by omega)) (o _ (by omega) (by omega))⟩
  · by_cases q : r < nr
    · exact (a4 r q).row (by omega) (o _ (by omega) (by omega)) (o _ (by omega) (by omega)) (fun q hq => o _ (by omega) (by omega))
    · obtain rfl : r = nr := by omega
      refine ⟨bv, k, f, a6, ?_, a7, a8, a9, a10, ?_, fun i hi => ?_, a13⟩
      · rw [va_up_ne _ _ (by omega), va_up_self]
      · rw [o _ (by omega) (by omega)]
        exact a11
      · rw [o _ (by omega) (by omega)]
        exact a12 i hi
  · rw [o _ (by omega) (by omega)]
    exact a5 r (by omega) h2
theorem lp61b {D : Nat} {x2 x3 x4 x5 : Int32} (h : ¬ sz c 2 = nI 0) : ab_at X (D + 1) 61 85 [some (.inr (1, 0)), some (.inr (2, 1)), some (.inl (.int x2)), some (.inl (.int x3)), some (.inl (.int x4)), some (.inl (.int x5))] [] c = some (.inl none, c) := by
  rw [b61_85, if_neg h]
  split <;> rfl
theorem r87b {E : Nat} {x1 x2 x3 : Int32} {u4 : Option ab_V} (h : ¬ sz m 18 = nI 0) (hE : 2 ≤ E) : ab_at X (E + 1) 247 87 [some (.inr (9, 0)), some (.inl (.int x1)), some (.inl (.int x2)), some (.inl (.int x3)), u4] [] m = some (.inl none, m) := by
  rw [b247_87, r250b h hE, e_bI, if_neg h]
theorem r164 {E : Nat} {x1 x2 x3 x4 v0 : Int32} (hr : nr < 4) (h2 : sa m 9 2 = nI nr) : ab_at X (E + 1) 247 164 [some (.inr (9, 0)), some (.inl (.int x1)), some (.inl (.int x2)), some (.inl (.int x3)), some (.inl (.int x4))] [.inl (.int v0), .inl (.int (nI 7 + nI nr)), .inr (38, 0)] m = some (.inl none, pa m 9 (va_up (va_up (sa m 9) (7 + nr) v0) 2 (nI (nr + 1)))) := by
  rw [b247_164, nI_add 7 nr, r_in (j := 7 + nr) (by omega) (by decide), nI_clamp (by omega)]
  simp (disch := omega) only [E1]
  rw [va_up_ne _ _ (show 2 ≠ 7 + nr by omega), h2, nI_add]
/-- the stops of a round -/
theorem rnd_lp {bk by' : Int32} (hb : bv = if bk = nI 0 then by' else -by') : ∀ (j D E k : Nat) (x2 x3 : Int32) (u4 : Option ab_V) (c m : ab_S) (p : Nat), 8 ≤ D → 6 ≤ E → L - p < j → RM L p n nr k bv c m → (k = 0 ∨ st c 0 = 2) → ∃ c' m' : ab_S, ab_at X (D + 1) 61 85 [some (.inr (1, 0)), some (.inr (2, 1)), some (.inl (.int x2)), some (.inl (.int x3)), some (.inl (.int (nI nr))), some (.inl (.int (nI k)))] [] c = some (.inl none, c') ∧ ab_at X (E + 1) 247 51 [some (.inr (9, 0)), some (.inl (.int (nI nr))), some (.inl (.int bk)), some (.inl (.int by')), u4] [] m = some (.inl none, m') ∧ dfC c c' ∧ dfM m m' ∧ SR L p n c' m' := by
  intro j
  induction j with
  | zero =>
    intro D E k x2 x3 u4 c m p hD hE hj
    omega
  | succ j ih =>
    intro D E k x2 x3 u4 c m p hD hE hj h hk
    obtain ⟨d, rfl⟩ : ∃ d, D = d + 3 := ⟨D - 3, by omega⟩
    obtain ⟨hG, h22, hR⟩ := id h
    obtain ⟨⟨d1, d2, d3, d5, d6, d7⟩, a1, a2, a3, a4, a5, a6, a7, a8, a9, a10, a11, f, a12, a13⟩ := hR
    have hn := d1.2.2.2
    have h18 := hG.2.2.2.1
    have enter : ab_at X (d + 3 + 1) 61 85 [some (.inr (1, 0)), some (.inr (2, 1)), some (.inl (.int x2)), some (.inl (.int x3)), some (.inl (.int (nI nr))), some (.inl (.int (nI k)))] [] c = ab_bU (ab_ev X (d + 3) 63 [.inr (1, 0), .inr (2, 1), .inl (.int (nI nr)), .inl (.int (nI k))] c) (fun s1 => ab_at X (d + 3 + 1) 61 85 [some (.inr (1, 0)), some (.inr (2, 1)), some (.inl (.int x2)), some (.inl (.int x3)), some (.inl (.int (nI nr))), some (.inl (.int (nI (k + 1))))] [] s1) ab_px := by
      rw [b61_85, if_neg (nI_nlt (by omega) (by omega)), if_pos hG.2.2.1, nI_add]
      by_cases q : k = 0
      · rw [if_pos (by rw [q])]
      · rw [if_neg (fun z => q ((nI_eq (by omega) (by omega)).mp z)), if_pos (by omega)]
    rw [enter]
    obtain ⟨c1, m1, r, b1, b2, b3, b4⟩ := hG.str (X := X) (D := d + 2) (E := E) d1.1 d1.2.1 d1.2.2 (by omega) (by omega)
    by_cases q2 : st c 0 = 2
    · obtain ⟨v, hv, e7, e17⟩ := hG.v q2
      have ew : pl (sA c 3 1) (20 * nr) k (nI v) = fst (fun i => nI (f i) == nI v) k := fst_cong (fun i hi => by
        show (sA c 3 1 (20 * nr + i) == nI v) = _
        rw [(a12 i hi).1])
      have ew2 : fst (fun q => sa m 9 (36 + 20 * nr + q) == nI v) k = fst (fun i => nI (f i) == nI v) k := fst_cong (fun i hi => by
        show (sa m 9 (36 + 20 * nr + i) == nI v) = _
        rw [(a12 i hi).2.1])
      have e64 := c_placeOf (X := X) (d := d) (s := c) (i := 1) (x := nI v) (show nr < 4 by omega) a10 a9
      have e249 := r249f (X := X) (d := E) (s := m) (x := nI v) (show nr < 4 by omega) a11 a9
      rw [ew] at e64
      rw [ew2] at e249
      have hG16 := hG.nu.mp q2
      by_cases hw : fst (fun i => nI (f i) == nI v) k < k
      · rw [if_pos hw] at e64 e249
        obtain ⟨c2, m2, g1, g2, g3, g4, g5⟩ := hG.ref (X := X) (D := d + 2) (E := E) (f := 3) (by omega) (by omega)
        refine ⟨c2, m2, ?_, ?_, g4.d, g5.d, Or.inr g3⟩
        · rw [b63, if_pos q2, e7, e64, e_bI, if_neg (n_m1 _ (by omega)), g1, e_bU, e_bU, lp61b g3.nc]
        · rw [b247_51, if_pos h18, if_pos hG16, e17, e249, e_bI, if_neg (n_m1 _ (by omega)), g2, e_bU, r87b g3.nm (by omega)]
      · rw [if_neg hw] at e64 e249
        have e51 : ab_at X (E + 1) 247 51 [some (.inr (9, 0)), some (.inl (.int (nI nr))), some (.inl (.int bk)), some (.inl (.int by')), u4] [] m = ab_at X (E + 1) 247 87 [some (.inr (9, 0)), some (.inl (.int (nI nr))), some (.inl (.int bk)), some (.inl (.int by')), u4] [] m := by
          rw [b247_51, if_pos h18, if_pos hG16, e17, e249, e_bI, if_pos rfl]
        rw [e51]
        rcases b4 with ⟨v', p2, e1, e2, e3, e4, e5, e6, e7', e8⟩ | ⟨e1, e2⟩
        · obtain rfl : v' = v := (nI_eq (by omega) (by omega)).mp (e4.symm.trans e7)
          have hne : ∀ i, i < k → f i ≠ v' := fun i hi e => by
            have h1 := fst_no (fun i => nI (f i) == nI v') k i (by omega)
            have h2 : (nI (f i) == nI v') = false := h1
            rw [e] at h2
            rw [beq_self_eq_true] at h2
            cases h2
          have hkn := pig (fun i hi => (a12 i hi).2.2) a13 e3 hne
          have hR2 := (h.tok e8 b2 b3).put (v := v') e3 (by omega) (fun i hi e => by
            rw [fC_sA b2, (a12 i hi).1] at e
            have := (a12 i hi).2.2
            exact hne i hi ((nI_eq (by omega) (by omega)).mp e))
          obtain ⟨c2, hc2⟩ : ∃ c2, c2 = wA (wA c1 3 1 (ins (sA c1 3 1) (20 * nr) k k (nI v'))) 4 1 (va_up (sA c1 4 1) nr (nI (k + 1))) := ⟨_, rfl⟩
          obtain ⟨m2, hm2⟩ : ∃ m2, m2 = pa m1 9 (va_up (va_up (sa m1 9) (36 + 20 * nr + k) (nI v')) (32 + nr) (nI (k + 1))) := ⟨_, rfl⟩
          rw [← hc2, ← hm2] at hR2
          have f1 : dfC c1 c2 := by
            rw [hc2]
            exact (dfC_wA (k := 3) (by omega)).t (dfC_wA (k := 4) (by omega))
          have f2 : dfM m1 m2 := by
            rw [hm2]
            exact dfM_pa
          have z10 : sA c1 4 1 nr = nI k := by
            rw [fC_sA b2]
            exact a10
          have z11 : sa m1 9 (32 + nr) = nI k := by
            rw [fM_sa b3]
            exact a11
          have e63 : ab_ev X (d + 3) 63 [.inr (1, 0), .inr (2, 1), .inl (.int (nI nr)), .inl (.int (nI k))] c = some (.inl none, c2) := by
            rw [b63, if_pos q2, e7, e64, e_bI, if_pos rfl, b1, e_bI, if_pos e8.2.2.1, c_insert (show nr < 4 by omega) z10 (by omega) (Nat.le_refl _), e_bU, hc2]
          have e87 : ab_at X (E + 1) 247 87 [some (.inr (9, 0)), some (.inl (.int (nI nr))), some (.inl (.int bk)), some (.inl (.int by')), u4] [] m = (if (sz m1 16) = (nI 2) then ab_at X (E + 1) 247 51 [some (.inr (9, 0)), some (.inl (.int (nI nr))), some (.inl (.int bk)), some (.inl (.int by')), some (.inl (.int (nI v')))] [] m2 else (if bk = (nI 0) then ab_at X (E + 1) 247 164 [some (.inr (9, 0)), some (.inl (.int (nI nr))), some (.inl (.int bk)), some (.inl (.int by')), some (.inl (.int (nI v')))] [.inl (.int by'), .inl (.int (nI 7 + nI nr)), .inr (38, 0)] m2 else ab_at X (E + 1) 247 164 [some (.inr (9, 0)), some (.inl (.int (nI nr))), some (.inl (.int bk)), some (.inl (.int by')), some (.inl (.int (nI v')))] [.inl (.int (-by')), .inl (.int (nI 7 + nI nr)), .inr (38, 0)] m2)) := by
            rw [b247_87, e7', e_bI, if_pos e8.2.2.2.1, nI_add 32 nr, r_in (j := 32 + nr) (by omega) (by decide), nI_clamp (by omega), z11, pk_mul, nI_add 36, nI_add (36 + 20 * nr), r_in (j := 36 + 20 * nr + k) (by omega) (by decide), nI_clamp (by omega), r_inc (j := 32 + nr) (by omega) (by decide), r_inc (j := 32 + nr) (by omega) (by decide)]
            simp (disch := omega) only [E1]
            rw [va_up_ne _ _ (show 32 + nr ≠ 36 + 20 * nr + k by omega), z11, nI_add k 1, hm2]
          rw [e63, e_bU, e87]
          by_cases t : sz m1 16 = nI 2
          · have t' : st c2 0 = 2 := by
              rw [hc2]
              exact e8.nu.mpr t
            have hpL := hG.pL (by omega)
            obtain ⟨c3, m3, y1, y2, y3, y4, y5⟩ := ih (d + 3) E (k + 1) x2 x3 (some (.inl (.int (nI v')))) c2 m2 p2 hD hE (by omega) hR2 (Or.inr t')
            rw [if_pos t]
            refine ⟨c3, m3, y1, y2, (b2.d.t f1).t y3, (b3.d.t f2).t y4, ?_⟩
            rcases y5 with ⟨p5, z1, z2⟩ | y
            · exact Or.inl ⟨p5, by omega, z2⟩
            · exact Or.inr y
          · have t' : ¬ st c2 0 = 2 := by
              rw [hc2]
              exact fun z => t (e8.nu.mp z)
            have m22 : sa m2 9 2 = nI nr := hR2.2.2.2.2.2.1
            refine ⟨c2, pa m2 9 (va_up (va_up (sa m2 9) (7 + nr) bv) 2 (nI (nr + 1))), ?_, ?_, b2.d.t f1, (b3.d.t f2).t dfM_pa, Or.inl ⟨p2, by omega, hR2.fin⟩⟩
            · rw [b61_85, if_neg (nI_nlt (by omega) (by omega)), if_pos hR2.1.2.2.1, if_neg (fun z => by have := (nI_eq (by omega) (by omega)).mp z; omega), if_neg t']
            · rw [if_neg t, hb]
              by_cases q : bk = nI 0
              · rw [if_pos q, if_pos q, r164 a1 m22]
              · rw [if_neg q, if_neg q, r164 a1 m22]
        · refine ⟨c1, m1, ?_, ?_, b2.d, b3.d, Or.inr e1⟩
          · rw [b63, if_pos q2, e7, e64, e_bI, if_pos rfl, b1, e_bI, if_neg e1.nc, e_bU, lp61b e1.nc]
          · rw [b247_87, e2, e_bI, if_neg e1.nm]
    · rcases b4 with ⟨v', p2, e1, -⟩ | ⟨e1, e2⟩
      · exact absurd e1 q2
      · have hG16 : ¬ sz m 16 = nI 2 := fun z => q2 (hG.nu.mpr z)
        refine ⟨c1, m1, ?_, ?_, b2.d, b3.d, Or.inr e1⟩
        · rw [b63, if_neg q2, b1, e_bI, if_neg e1.nc, e_bU, lp61b e1.nc]
        · rw [b247_51, if_pos h18, if_neg hG16, b247_87, e2, e_bI, if_neg e1.nm]
end RND
