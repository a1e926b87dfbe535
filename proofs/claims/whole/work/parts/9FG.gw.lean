/-! Words of the model, and the law's row as both append to it. -/
section WRD
variable {X : (Nat → Int32) × Nat} {D E L n p k : Nat} {c m : ab_S}
theorem l241 {i : Nat} (hi : i < 32) (h15 : sz m 15 = nI p) (hb : p + ab_sl i ≤ 900) : ∀ (j k : Nat), k + j = ab_sl i → (∀ q, q < k → sa m 12 (p + q) = ab_sb i q) → ab_at X (E + 4) 241 39 [some (.inr (9, 0)), some (.inr (11, i)), some (.inl (.int (nI 1))), some (.inl (.int (nI k)))] [] m = some (.inl (some (.inl (.int (if eqB (sa m 12) p (p + ab_sl i) i = true then nI 1 else nI 0)))), m)
  | 0, k, e, h => by
    have hs := sl_lt i hi
    rw [b241_39, if_neg (show ¬ nI 1 = nI 0 by decide), c_46 hi, e_bI, if_pos (nI_le (by omega) (by omega)), if_neg (show ¬ nI 1 = nI 0 by decide), if_pos rfl, if_pos (eqB_iff.mpr ⟨rfl, fun q hq => h q (by omega)⟩)]
  | j + 1, k, e, h => by
    have hs := sl_lt i hi
    rw [b241_39, if_neg (show ¬ nI 1 = nI 0 by decide), c_46 hi, e_bI, if_neg (nI_ge (by omega) (by omega)), h15, nI_add, r_in (j := p + k) (by omega) (by decide), c_48 hi (by omega), e_bI, nI_clamp (by omega), nI_add]
    by_cases w : sa m 12 (p + k) = ab_sb i k
    · rw [if_pos w]
      exact l241 hi h15 hb j (k + 1) (by omega) (fun q hq => by
        by_cases u : q = k
        · rw [u]
          exact w
        · exact h q (by omega))
    · rw [if_neg w, b241_39, if_pos rfl, if_pos rfl, if_neg (fun z => w ((eqB_iff.mp z).2 k (by omega)))]
theorem GD.word (hG : GD L p c m) {i : Nat} (hi : i < 33) (h4 : 4 ≤ i) (h2 : 2 ≤ ab_sl (ab_tx i)) (hE : 4 ≤ E) : ab_ev X E 241 [.inr (9, 0), .inr (11, ab_tx i)] m = some (.inl (some (.inl (.int (if st c 0 = i then nI 1 else nI 0)))), m) := by
  obtain ⟨e, rfl⟩ : ∃ e, E = e + 4 := ⟨E - 4, by omega⟩
  obtain ⟨hL, hp, h2', h18, h4', h13, hT, h5, h15, h6, h14, ht, hk, hv⟩ := hG
  have hb := tkN_b (T := sa m 12) hp
  have hx := tx_lt i hi
  have hs := sl_lt _ hx
  rw [b241, if_pos h18]
  by_cases q : sz m 16 = nI 1
  · have hpL : p < L := by
      rcases Nat.lt_or_ge p L with z | z
      · exact z
      · rw [hk] at q
        unfold tkK at q
        rw [if_neg (by omega)] at q
        exact absurd q (by decide)
    have hw := tk_word (T := sa m 12) hpL hi h2 h4
    rw [if_pos q, c_46 hx, e_bI, h14, h15, pk_sub hb.1]
    by_cases w : tkN (sa m 12) L p - p = ab_sl (ab_tx i)
    · have hw2 : tkN (sa m 12) L p = p + ab_sl (ab_tx i) := by omega
      rw [if_pos (by rw [w]), l241 hx h15 (by omega) _ 0 (Nat.zero_add _) (fun q hq => absurd hq (by omega)), ht]
      rw [← hk, hw2] at hw
      by_cases v : tkC (sa m 12) L p = i
      · rw [if_pos v, if_pos (hw.mp v).2]
      · rw [if_neg v, if_neg (fun z => v (hw.mpr ⟨q, z⟩))]
    · rw [if_neg (fun z => w ((nI_eq (by omega) (by omega)).mp z)), b241_39, if_pos rfl, if_pos rfl, ht, if_neg]
      intro v
      have := (eqB_iff.mp (hw.mp v).2).1
      omega
  · rw [if_neg q, b241_39, if_pos rfl, if_pos rfl, ht, if_neg]
    intro v
    rcases Nat.lt_or_ge p L with z | z
    · have hw := tk_word (T := sa m 12) z hi h2 h4
      rw [hk] at q
      exact q (hw.mp v).1
    · unfold tkC at v
      rw [if_neg (by omega)] at v
      omega
theorem GD.tkn (hG : GD L p c m) {i : Nat} (hi : i < 33) (h4 : 4 ≤ i) (h2 : 2 ≤ ab_sl (ab_tx i)) (hE : 5 ≤ E) (hne : ¬ st c 0 = i) : ab_ev X E 240 [.inr (9, 0), .inr (11, ab_tx i)] m = some (.inl (some (.inl (.int (nI 0)))), m) := by
  obtain ⟨e, rfl⟩ : ∃ e, E = e + 1 := ⟨E - 1, by omega⟩
  have h := hG.word (X := X) (E := e) hi h4 h2 (by omega)
  rw [if_neg hne] at h
  exact r240n h
theorem GD.tky (hG : GD L p c m) {m' : ab_S} {i : Nat} (hi : i < 33) (h4 : 4 ≤ i) (h2 : 2 ≤ ab_sl (ab_tx i)) (hE : 4 ≤ E) (he : st c 0 = i) (hm : ab_ev X E 234 [.inr (9, 0)] m = some (.inl none, m')) : ab_ev X (E + 1) 240 [.inr (9, 0), .inr (11, ab_tx i)] m = some (.inl (some (.inl (.int (nI 1)))), m') := by
  have h := hG.word (X := X) (E := E) hi h4 h2 hE
  rw [if_pos he] at h
  exact r240y h hm
theorem r243y {m' : ab_S} {v lo hi : Nat} (h16 : sz m 16 = nI 2) (h17 : sz m 17 = nI v) (hl : lo ≤ v) (hh : v ≤ hi) (h9 : hi < 1000) (h18 : sz m 18 = nI 0) (hm : ab_ev X E 234 [.inr (9, 0)] m = some (.inl none, m')) (h18' : sz m' 18 = nI 0) : ab_ev X (E + 1) 243 [.inr (9, 0), .inl (.int (nI lo)), .inl (.int (nI hi))] m = some (.inl (some (.inl (.int (nI v)))), m') := by
  have i1 : (nI v).toInt64.toInt = v := by rw [Int32.toInt_toInt64, i_nI (by omega)]
  have i2 : (nI lo).toInt64.toInt = lo := by rw [Int32.toInt_toInt64, i_nI (by omega)]
  have i3 : (nI hi).toInt64.toInt = hi := by rw [Int32.toInt_toInt64, i_nI (by omega)]
  rw [b243, if_pos h16, h17, r232, i1, i2, i3, e_bI, if_pos (inR_iff.mpr (by omega)), if_neg (show ¬ nI 1 = nI 0 by decide), if_pos h18, hm, e_bU, if_pos h18', h17]
theorem GD.v (hG : GD L p c m) (h : st c 0 = 2) : ∃ v, v ≤ 999 ∧ sz c 7 = nI v ∧ sz m 17 = nI v := hG.2.2.2.2.2.2.2.2.2.2.2.2.2.1 (by rw [← hG.2.2.2.2.2.2.2.2.2.2.2.1]; exact h)
theorem tokW_33 {T : Nat → Int32} {p q e : Nat} (he : e < 33) : tokW T p q e < 33 := by
  unfold tokW
  split
  · assumption
  · exact he
theorem GD.lt (hG : GD L p c m) : st c 0 < 33 := by
  rw [hG.2.2.2.2.2.2.2.2.2.2.2.1]
  unfold tkC
  split
  · split
    · split
      · exact tokW_33 (by decide)
      · split <;> decide
    · exact tokW_33 (by decide)
  · decide
/-- a writing at whatever place -/
theorem c_putT {s : ab_S} {d k i n : Nat} {F : Nat → Int32} {v x : Int32} (hc : ab_isi k = true) (hn : ab_len X k i = some n) (hF : ab_ai X k i s = some F) (w : (Nat → Int32) → ab_S) (hw : ∀ G, ab_wi k i G s = some (w G)) (hN : n < 2 ^ 31) : ∃ s' : ab_S, ab_ev X d 3 [.inr (k, i), .inl (.int x), .inl (.int v)] s = some (.inl none, s') ∧ (s' = s ∨ ∃ G, s' = w G) := by
  by_cases q : x < nI 0
  · exact ⟨s, by rw [b3, if_pos q], Or.inl rfl⟩
  · have h0 : 0 ≤ x.toInt := by
      rw [n_lt0] at q
      omega
    have e := n_rep x h0
    have hj : x.toNatClampNeg < 2 ^ 31 := by
      have h1 : x.toNatClampNeg = x.toInt.toNat := rfl
      have h2 := Int32.toInt_lt x
      omega
    generalize x.toNatClampNeg = j at e hj
    rw [e] at q ⊢
    by_cases q2 : j < n
    · exact ⟨w (va_up F j v), c_put hc hn hF (hw _) q2 hN, Or.inr ⟨_, rfl⟩⟩
    · refine ⟨s, ?_, Or.inl rfl⟩
      rw [b3, if_neg q, hn]
      show (if nI n ≤ nI j then _ else _) = _
      rw [if_pos (nI_le (by omega) hj)]
end WRD
/-- what the class' law and the model's law leave alone -/
def fCL (c c' : ab_S) : Prop := (∀ k, k ≠ 2 → k ≠ 3 → k ≠ 5 → k ≠ 6 → k ≠ 7 → sz c' k = sz c k) ∧ (∀ k i, k ≠ 8 ∨ i ≠ 1 → si c' k i = si c k i) ∧ sa c' = sa c ∧ (∀ k i, k ≠ 6 ∨ i ≠ 1 → sA c' k i = sA c k i) ∧ c'.2.2.2.2.2.2 = c.2.2.2.2.2.2
def fML (m m' : ab_S) : Prop := (∀ k, k < 14 ∨ (19 < k ∧ k ≠ 22) → sz m' k = sz m k) ∧ (∀ k, k ≠ 9 → sa m' k = sa m k) ∧ (∀ t, t ≠ 5 → t < 1364 → sa m' 9 t = sa m 9 t) ∧ si m' = si m ∧ m'.2.2.2.2.2 = m.2.2.2.2.2
theorem fCL_refl (c : ab_S) : fCL c c := ⟨fun _ _ _ _ _ _ => rfl, fun _ _ _ => rfl, rfl, fun _ _ _ => rfl, rfl⟩
theorem fML_refl (c : ab_S) : fML c c := ⟨fun _ _ => rfl, fun _ _ => rfl, fun _ _ _ => rfl, rfl, rfl⟩
theorem fCL.t {a b c : ab_S} (h : fCL a b) (h' : fCL b c) : fCL a c := ⟨fun k h1 h2 h3 h4 h5 => (h'.1 k h1 h2 h3 h4 h5).trans (h.1 k h1 h2 h3 h4 h5), fun k i q => (h'.2.1 k i q).trans (h.2.1 k i q), h'.2.2.1.trans h.2.2.1, fun k i q => (h'.2.2.2.1 k i q).trans (h.2.2.2.1 k i q), h'.2.2.2.2.trans h.2.2.2.2⟩
theorem fML.t {a b c : ab_S} (h : fML a b) (h' : fML b c) : fML a c := ⟨fun k h1 => (h'.1 k h1).trans (h.1 k h1), fun k q => (h'.2.1 k q).trans (h.2.1 k q), fun t q1 q2 => (h'.2.2.1 t q1 q2).trans (h.2.2.1 t q1 q2), h'.2.2.2.1.trans h.2.2.2.1, h'.2.2.2.2.trans h.2.2.2.2⟩
theorem fC.L {c c' : ab_S} (h : fC c c') : fCL c c' := ⟨h.1, fun k i _ => by rw [fC_si h], fC_sa h, fun k i _ => by rw [fC_sA h], congrArg (fun x => x.2.2.2) h.2⟩
theorem fM.L {c c' : ab_S} (h : fM c c') : fML c c' := ⟨fun k hk => h.1 k (by omega), fun k _ => by rw [fM_sa h], fun t _ _ => by rw [fM_sa h], by
  funext k
  show c'.2.2.2.1 k = c.2.2.2.1 k
  rw [h.2], by rw [h.2]⟩
/-- the law as far as it has been read -/
def LY (a : Int32) (sg g : Nat → Int32) (ml : Nat) (σ : List Bool) : Prop := a = nI ml ∧ g 5 = nI ml ∧ LR sg g ml ∧ (∀ k, k ≤ ml → ∃ τ, trun (fun q => (sg q).toInt) k = some τ ∧ τ.length ≤ 39) ∧ trun (fun q => (sg q).toInt) ml = some σ
theorem LY_add {a x : Int32} {sg g : Nat → Int32} {ml : Nat} {σ σ' : List Bool} (h : LY a sg g ml σ) (h1 : -14 ≤ x.toInt) (h9 : x.toInt ≤ 999) (hs : tstep x.toInt σ = some σ') (h39 : σ'.length ≤ 39) : LY (nI (ml + 1)) (va_up sg ml x) (va_up (va_up g (1364 + ml) (nI (encI x.toInt).toNat)) 5 (nI (ml + 1))) (ml + 1) σ' := by
  obtain ⟨e1, e2, e3, e4, e5⟩ := h
  have ec : ∀ k, k ≤ ml → trun (fun q => (va_up sg ml x q).toInt) k = trun (fun q => (sg q).toInt) k := fun k hk => trun_cong k (fun q hq => by
    show (va_up sg ml x q).toInt = _
    rw [va_up_ne _ _ (by omega)])
  have en : trun (fun q => (va_up sg ml x q).toInt) (ml + 1) = some σ' := by
    show (trun (fun q => (va_up sg ml x q).toInt) ml).bind (tstep (va_up sg ml x ml).toInt) = _
    rw [ec ml (Nat.le_refl _), e5, va_up_self]
    exact hs
  refine ⟨rfl, va_up_self _ _ _, fun k hk => ?_, fun k hk => ?_, en⟩
  · by_cases q : k = ml
    · rw [q, va_up_self, va_up_ne _ _ (by omega), va_up_self]
      exact ⟨h1, h9, rfl⟩
    · rw [va_up_ne _ _ q, va_up_ne _ _ (by omega), va_up_ne _ _ (by omega)]
      exact e3 k (by omega)
  · by_cases q : k = ml + 1
    · rw [q]
      exact ⟨σ', en, h39⟩
    · rw [ec k (by omega)]
      exact e4 k (by omega)
/-- both stand at a token in the law, so deep -/
def QL (L p k : Nat) (c m : ab_S) (ml : Nat) (σ : List Bool) : Prop := GD L p c m ∧ LY (si c 8 1) (sA c 6 1) (sa m 9) ml σ ∧ sz m 22 = nI k
/-- both have come so far, or to a fault -/
def RL (L p k e : Nat) (c m : ab_S) (σ : List Bool) : Prop := (∃ p' ml', p ≤ p' ∧ ml' + e ≤ p' ∧ QL L p' k c m ml' σ) ∨ BD c m
section QLS
variable {X : (Nat → Int32) × Nat} {D E L p k ml e : Nat} {c m c' m' : ab_S} {σ σ' : List Bool}
theorem QL.tok (h : QL L p k c m ml σ) {p' : Nat} (hG : GD L p' c' m') (hc : fC c c') (hm : fM m m') : QL L p' k c' m' ml σ := by
  refine ⟨hG, ?_, ?_⟩
  · rw [fC_si hc, fC_sA hc, fM_sa hm]
    exact h.2.1
  · rw [hm.1 22 (by omega)]
    exact h.2.2
theorem fCL_wA {F : Nat → Int32} : fCL c (wA c 6 1 F) := ⟨fun _ _ _ _ _ _ => rfl, fun _ _ _ => rfl, rfl, fun k i h => by
  by_cases q : k = 6
  · subst q
    simp (disch := omega) only [E0]
  · simp (disch := omega) only [E0], rfl⟩
theorem fCL_wi {x : Int32} : fCL c (wi c 8 1 x) := ⟨fun _ _ _ _ _ _ => rfl, fun k i h => by
  by_cases q : k = 8
  · subst q
    simp (disch := omega) only [E0]
  · simp (disch := omega) only [E0], rfl, fun _ _ _ => rfl, rfl⟩
theorem c73t {x : Int32} (hD : 1 ≤ D) : ∃ c' : ab_S, ab_ev X D 73 [.inr (4, 1), .inl (.int x)] c = some (.inl none, c') ∧ fCL c c' ∧ sz c' = sz c ∧ st c' = st c := by
  obtain ⟨d, rfl⟩ : ∃ d, D = d + 1 := ⟨D - 1, by omega⟩
  obtain ⟨s1, h1, h2⟩ := c_putT (X := X) (d := d) (k := 25) (i := 1) (n := 900) (s := c) (x := si c 8 1) (v := x) rfl rfl rfl (fun G => wA c 6 1 G) (fun G => rfl) (by decide)
  have h3 : fCL c s1 ∧ sz s1 = sz c ∧ st s1 = st c := by
    rcases h2 with rfl | ⟨G, rfl⟩
    · exact ⟨fCL_refl _, rfl, rfl⟩
    · exact ⟨fCL_wA, rfl, rfl⟩
  obtain ⟨y, hy⟩ : ∃ y, y = (if nI 900 < si s1 8 1 + nI 1 then nI 900 else si s1 8 1 + nI 1) := ⟨_, rfl⟩
  refine ⟨wi s1 8 1 y, by rw [b73, h1, e_bU, c_min', e_bI, hy], h3.1.t fCL_wi, h3.2.1, h3.2.2⟩
theorem c73 {x : Int32} (hD : 1 ≤ D) (h8 : si c 8 1 = nI ml) (hm : ml < 900) : ab_ev X D 73 [.inr (4, 1), .inl (.int x)] c = some (.inl none, wi (wA c 6 1 (va_up (sA c 6 1) ml x)) 8 1 (nI (ml + 1))) := by
  obtain ⟨d, rfl⟩ : ∃ d, D = d + 1 := ⟨D - 1, by omega⟩
  have h9 : si (wA c 6 1 (va_up (sA c 6 1) ml x)) 8 1 = nI ml := h8
  rw [b73, h8, put25 (by omega), e_bU, h9, nI_add, c_min _ _ (by omega) (by omega), Nat.min_eq_left (by omega), e_bI]
theorem r258 {y : Int32} (h18 : sz m 18 = nI 0) (h5 : sa m 9 5 = nI ml) (hm : ml < 900) : ab_ev X E 258 [.inr (9, 0), .inl (.int y)] m = some (.inl none, pa m 9 (va_up (va_up (sa m 9) (1364 + ml) y) 5 (nI (ml + 1)))) := by
  rw [b258, if_pos h18, h5, nI_add, r_in (j := 1364 + ml) (by omega) (by decide), nI_clamp (by omega)]
  simp (disch := omega) only [E1]
  rw [va_up_ne _ _ (show 5 ≠ 1364 + ml by omega), h5, nI_add]
theorem fML_pa {F : Nat → Int32} (h : ∀ t, t ≠ 5 → t < 1364 → F t = sa m 9 t) : fML m (pa m 9 F) := ⟨fun _ _ => rfl, fun k hk => va_up_ne _ _ hk, fun t h1 h2 => by
  simp (disch := omega) only [E0]
  exact h t h1 h2, rfl, rfl⟩
theorem fML_22 {x : Int32} : fML m (pz m 22 x) := ⟨fun k hk => pz_sz (by omega), fun _ _ => rfl, fun _ _ _ => rfl, rfl, rfl⟩
/-- the class' sign and the model's step, one after the other -/
theorem QL.put (h : LY (si c 8 1) (sA c 6 1) (sa m 9) ml σ) {x y : Int32} (hy : y = nI (encI x.toInt).toNat) (h1 : -14 ≤ x.toInt) (h9 : x.toInt ≤ 999) (hs : tstep x.toInt σ = some σ') (h39 : σ'.length ≤ 39) {c2 m2 : ab_S} (hc : ∀ z, z = wi (wA c 6 1 (va_up (sA c 6 1) ml x)) 8 1 (nI (ml + 1)) → si c2 8 1 = si z 8 1 ∧ sA c2 6 1 = sA z 6 1) (hm : sa m2 9 = va_up (va_up (sa m 9) (1364 + ml) y) 5 (nI (ml + 1))) : LY (si c2 8 1) (sA c2 6 1) (sa m2 9) (ml + 1) σ' := by
  obtain ⟨g1, g2⟩ := hc _ rfl
  have e1 : si (wi (wA c 6 1 (va_up (sA c 6 1) ml x)) 8 1 (nI (ml + 1))) 8 1 = nI (ml + 1) := by simp (disch := omega) only [E0]
  have e2 : sA (wi (wA c 6 1 (va_up (sA c 6 1) ml x)) 8 1 (nI (ml + 1))) 6 1 = va_up (sA c 6 1) ml x := by simp (disch := omega) only [E0]
  rw [g1, g2, e1, e2, hm, hy]
  exact LY_add h h1 h9 hs h39
/-- an operator behind its second part -/
theorem RL.add (h : RL L p k (e + 1) c m σ) {x y : Int32} (hy : y = nI (encI x.toInt).toNat) (h1 : -14 ≤ x.toInt) (h9 : x.toInt ≤ 999) (hs : tstep x.toInt σ = some σ') (h39 : σ'.length ≤ 39) (hD : 1 ≤ D) : ∃ c' m' : ab_S, ab_ev X D 73 [.inr (4, 1), .inl (.int x)] c = some (.inl none, c') ∧ ab_ev X E 258 [.inr (9, 0), .inl (.int y)] m = some (.inl none, m') ∧ fCL c c' ∧ fML m m' ∧ RL L p k e c' m' σ' := by
  rcases h with ⟨p', ml, hp, hl, hG, hS, hk⟩ | hb
  · have hL := hG.1
    have hpL := hG.2.1
    have q1 := c73 (X := X) (D := D) (c := c) (x := x) hD hS.1 (show ml < 900 by omega)
    have q2 := r258 (X := X) (E := E) (m := m) (y := y) hG.2.2.2.1 hS.2.1 (show ml < 900 by omega)
    refine ⟨_, _, q1, q2, fCL_wA.t fCL_wi, fML_pa (fun t a b => by rw [va_up_ne _ _ a, va_up_ne _ _ (by omega)]), Or.inl ⟨p', ml + 1, hp, by omega, hG.of rfl rfl rfl (fun _ _ _ => rfl) rfl, QL.put hS hy h1 h9 hs h39 (fun z hz => by rw [hz]; exact ⟨rfl, rfl⟩) ?_, hk⟩⟩
    simp (disch := omega) only [E0]
  · obtain ⟨c', g1, g2, g3, g4⟩ := c73t (X := X) (D := D) (c := c) (x := x) hD
    exact ⟨c', m, g1, r258b hb.nm, g2, fML_refl m, Or.inr (hb.of (by rw [g3]) (by rw [g3]) rfl rfl)⟩
end QLS
