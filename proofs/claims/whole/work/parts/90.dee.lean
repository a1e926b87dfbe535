/-! Deeds one after another, in the class' town or draft and in the model's row. -/
abbrev Dd := Option (Bool × Nat × Nat)
def dok (n : Nat) (D : Dd) : Prop := match D with
  | none => True
  | some (_, v, u) => v < n ∧ u < n
/-- how many move in a night -/
def bD (sg : Nat → Int32) (ml : Nat) (g : Nat → Int32) (w : Nat) : Nat := if mH g sg ml w (g 132) (g 133) then 0 else 1
def dret (n : Nat) (sg : Nat → Int32) (ml : Nat) (D : Dd) (p : (Nat → Nat) × (Nat → Int32)) : Nat := match D with
  | none => bD sg ml p.2 (wrg p.1 n)
  | some _ => 0
def dstep (n : Nat) (gi : Nat → Nat) (sg : Nat → Int32) (ml : Nat) (D : Dd) (p : (Nat → Nat) × (Nat → Int32)) : (Nat → Nat) × (Nat → Int32) := match D with
  | none => (fun q => p.1 (it gi (bD sg ml p.2 (wrg p.1 n)) q), ntF gi n (bD sg ml p.2 (wrg p.1 n)) 1 p.2)
  | some (false, v, u) => (fun q => if q = v then u else p.1 q, va_up p.2 (11 + v) (nI u))
  | some (true, v, u) => (fun q => if q = u then p.1 v else if q = v then p.1 u else p.1 q, va_up (va_up p.2 (11 + v) (p.2 (11 + u))) (11 + u) (p.2 (11 + v)))
/-- a class' deed leaves alone -/
def DF (s s' : ab_S) (i : Nat) : Prop := sD s s' ∧ (∀ q, q ≠ i → ∀ k, si s' k q = si s k q) ∧ (∀ q, q ≠ i → ∀ k, sA s' k q = sA s k q) ∧ sA s' 6 i = sA s 6 i ∧ sa s' 8 = sa s 8 ∧ sb s' = sb s ∧ (∀ k, k ≠ 8 → k ≠ 9 → sz s' k = sz s k)
theorem DF_refl (s : ab_S) (i : Nat) : DF s s i := ⟨sD_refl s, fun _ _ _ => rfl, fun _ _ _ => rfl, rfl, rfl, rfl, fun _ _ _ => rfl⟩
theorem DF_trans {s t u : ab_S} {i : Nat} (h : DF s t i) (h' : DF t u i) : DF s u i := by
  obtain ⟨a1, a2, a3, a4, a5, a6, a7⟩ := h
  obtain ⟨b1, b2, b3, b4, b5, b6, b7⟩ := h'
  exact ⟨sD_trans a1 b1, fun q hq k => (b2 q hq k).trans (a2 q hq k), fun q hq k => (b3 q hq k).trans (a3 q hq k), b4.trans a4, b5.trans a5, b6.trans a6, fun k h8 h9 => (b7 k h8 h9).trans (a7 k h8 h9)⟩
/-- a ghost and the model's row are the same but for the pictures -/
def rEq (g h : Nat → Int32) : Prop := ∀ t, (t < 134 ∧ t ≠ 6) ∨ 1364 ≤ t → h t = g t
theorem dstep_eq {n ml : Nat} {gi : Nat → Nat} {sg g h : Nat → Int32} {nm : Nat → Nat} {D : Dd} (hn : n ≤ 20) (hg : ∀ q, q < n → gi q < n) (hD : dok n D) (e : rEq g h) : (dstep n gi sg ml D (nm, h)).1 = (dstep n gi sg ml D (nm, g)).1 ∧ dret n sg ml D (nm, h) = dret n sg ml D (nm, g) ∧ rEq (dstep n gi sg ml D (nm, g)).2 (dstep n gi sg ml D (nm, h)).2 := by
  have eb : bD sg ml h (wrg nm n) = bD sg ml g (wrg nm n) := by
    unfold bD mH
    rw [e 132 (by omega), e 133 (by omega), e 3 (by omega)]
  match D, hD with
  | none, hD =>
    refine ⟨?_, eb, fun t ht => ?_⟩
    · show (fun q => nm (it gi (bD sg ml h (wrg nm n)) q)) = _
      rw [eb]
      rfl
    · show ntF gi n (bD sg ml h (wrg nm n)) 1 h t = ntF gi n (bD sg ml g (wrg nm n)) 1 g t
      rw [eb]
      by_cases q : 11 ≤ t ∧ t < 11 + n
      · obtain ⟨j, rfl⟩ : ∃ j, t = 11 + j := ⟨t - 11, by omega⟩
        have := it_lt hg (bD sg ml g (wrg nm n)) (show j < n by omega)
        rw [nt_names (by omega), nt_names (by omega), e _ (by omega)]
      · by_cases q1 : t = 132
        · rw [q1, nt_day hn, nt_day hn, e _ (by omega)]
        · by_cases q2 : t = 133
          · rw [q2, nt_moved hn, nt_moved hn, e _ (by omega)]
          · rw [nt_out q q1 q2, nt_out q q1 q2, e t ht]
  | some (false, v, u), hD =>
    refine ⟨rfl, rfl, fun t ht => ?_⟩
    show va_up h (11 + v) (nI u) t = va_up g (11 + v) (nI u) t
    unfold va_up
    rw [e t ht]
  | some (true, v, u), hD =>
    obtain ⟨hv, hu⟩ := hD
    refine ⟨rfl, rfl, fun t ht => ?_⟩
    show va_up (va_up h (11 + v) (h (11 + u))) (11 + u) (h (11 + v)) t = va_up (va_up g (11 + v) (g (11 + u))) (11 + u) (g (11 + v)) t
    unfold va_up
    rw [e t ht, e (11 + u) (by omega), e (11 + v) (by omega)]
theorem rEq_kp {g : Nat → Int32} {m : Nat} (hm : m ≤ 10) : rEq g (kpF g m) := fun t ht => kp_old (by omega) (by omega) hm
theorem rEq_refl (g : Nat → Int32) : rEq g g := fun _ _ => rfl
theorem rEq_trans {a b c : Nat → Int32} (h : rEq a b) (h' : rEq b c) : rEq a c := fun t ht => (h' t ht).trans (h t ht)
theorem rEq_symm {a b : Nat → Int32} (h : rEq a b) : rEq b a := fun t ht => (h t ht).symm
section DEE
variable {X : (Nat → Int32) × Nat} {d k i n nr bm np hs ml m : Nat} {s : ab_S} {nm z lo li : Nat → Nat} {st : Nat → Nat → Nat} {by' sg g : Nat → Int32}
theorem KP_of (X : (Nat → Int32) × Nat) (s : ab_S) (hm : m ≤ 10) (hg : g 6 = nI m) : KP g (kpF g m) m := by
  have h := (r289e (X := X) (d := 0) (s := pa s 8 g) (m := m) (by simp (disch := omega) only [E0]; exact hg) hm).2
  have e : sa (pa s 8 g) 8 = g := by simp (disch := omega) only [E0]
  rw [e] at h
  exact h
/-- a name hung and names swapped, in the town or in the draft -/
theorem CW.chg {v u : Nat} (h : CW s i g n nr np hs ml m by' nm z st bm lo li) (hi : i ≤ 1) (hv : v < n) (hu : u < n) : ∃ s1 : ab_S, ab_ev X (d + 2) 124 [.inr (2, i), .inl (.int (nI v)), .inl (.int (nI u))] s = some (.inl (some (.inl (.int (sA s 0 i v)))), s1) ∧ DF s s1 i ∧ CW s1 i (va_up (kpF g m) (11 + v) (nI u)) n nr np hs ml (min m 9 + 1) by' (fun q => if q = v then u else nm q) z st bm lo li := by
  obtain ⟨hKC, hGC, hHS, hL0, hLW, hWS, hPE, hm, hg6, hDR⟩ := id h
  have hn := hKC.2.1
  have h10 : m ≤ 10 := hDR.1
  have h48 : nr ≤ 4 ∧ np ≤ 8 := ⟨hKC.2.2.2.1, hKC.2.2.2.2.2.1⟩
  obtain ⟨s1, hs1⟩ : ∃ s1, s1 = nt (wA s 0 i (va_up (sA s 0 i) v (nI u))) i m (nI 2) (nI v) (sA s 0 i v) (nI 0) := ⟨_, rfl⟩
  have hX : ∀ k q, k ≠ 9 → si s1 k q = si s k q := fun k q h9 => by
    rw [hs1, nt_si h9]
    rfl
  have hY : ∀ k, k ≠ 0 → k ≠ 8 → sA s1 k = sA s k := fun k h0 h8 => by
    rw [hs1, nt_sA h8]
    simp (disch := omega) only [E0]
  have hK : KP g (kpF g m) m := KP_of X s h10 hg6
  have e1 : st_ (va_up (kpF g m) (11 + v) (nI u)) 11 = va_up (st_ g 11) v (nI u) := by rw [st_up (by omega), hK.st]
  refine ⟨s1, by rw [c_hangSign hm h10 (by omega), hs1], ⟨?_, fun q hq k => ?_, fun q hq k => ?_, ?_, ?_, ?_, ?_⟩, ?_⟩
  · rw [hs1]
    exact sD_trans (sD_wA hi) (sD_nt hi)
  · by_cases e : k = 9
    · rw [e, hs1]
      unfold nt
      simp (disch := omega) only [E0]
    · exact hX k q e
  · by_cases q0 : k = 0
    · rw [q0, hs1, nt_sA (by decide)]
      simp (disch := omega) only [E0]
    · by_cases q8 : k = 8
      · rw [q8, hs1]
        unfold nt
        simp (disch := omega) only [E0]
      · rw [hY k q0 q8]
  · rw [hY 6 (by omega) (by omega)]
  · rw [hs1]
    rfl
  · rw [hs1]
    rfl
  · intro k _ _
    rw [hs1]
    rfl
  · refine h.deed (k := nI 2) (a := nI v) (b := sA s 0 i v) (c := nI 0) hK (fun q a1 a2 a3 a4 => hX q i a4) (by rw [hY 5 (by omega) (by omega)]) (by rw [hY 6 (by omega) (by omega)]) ?_ ?_ (fun q hq => va_up_ne _ _ (by omega)) ?_ ?_ ?_
    · rw [hs1, nt_si9 h10]
    · rw [hs1, nt_sA8]
      simp (disch := omega) only [E0]
    · rw [e1]
      refine hWS.names (fun q hq => ?_) (fun q hq => ?_) (fun t _ _ _ => va_up_ne _ _ (by omega)) h48
      · unfold va_up
        by_cases e : q = v
        · rw [if_pos e, if_pos e]
        · rw [if_neg e, if_neg e]
          exact hWS.1 q hq
      · show (if q = v then u else nm q) < n
        split
        · exact hu
        · exact hWS.2.1 q hq
    · rw [e1]
      refine hPE.names hn (fun q hq => ?_) (hX 6 i (by omega)) (by rw [hY 4 (by omega) (by omega)]) (by rw [hY 3 (by omega) (by omega)]) (by rw [hY 1 (by omega) (by omega)]) (by rw [hY 2 (by omega) (by omega)]) ?_ ?_ (fun t _ _ _ => va_up_ne _ _ (by omega)) h48
      · show sA s1 0 i q = _
        rw [hs1, nt_sA (by decide)]
        simp (disch := omega) only [E0]
        unfold va_up
        have p1q : sA s 0 i q = st_ g 11 q := hPE.1 q hq
        rw [p1q]
      · show si s1 4 i = _
        rw [hX 4 i (by omega), va_up_ne _ _ (by omega)]
        exact hPE.2.2.2.2.2.1
      · show si s1 5 i = _
        rw [hX 5 i (by omega), va_up_ne _ _ (by omega)]
        exact hPE.2.2.2.2.2.2
    · refine ⟨st_ g 11, Or.inr (Or.inl ⟨rfl, v, hv, rfl, ?_⟩), eqv_refl _ _ _ _⟩
      have p1v : sA s 0 i v = st_ g 11 v := hPE.1 v hv
      rw [e1, p1v, va_up_back]
theorem CW.swp {v u : Nat} (h : CW s i g n nr np hs ml m by' nm z st bm lo li) (hi : i ≤ 1) (hv : v < n) (hu : u < n) : ∃ s1 : ab_S, ab_ev X (d + 2) 128 [.inr (2, i), .inl (.int (nI v)), .inl (.int (nI u))] s = some (.inl none, s1) ∧ DF s s1 i ∧ CW s1 i (va_up (va_up (kpF g m) (11 + v) (kpF g m (11 + u))) (11 + u) (kpF g m (11 + v))) n nr np hs ml (min m 9 + 1) by' (fun q => if q = u then nm v else if q = v then nm u else nm q) z st bm lo li := by
  obtain ⟨hKC, hGC, hHS, hL0, hLW, hWS, hPE, hm, hg6, hDR⟩ := id h
  have hn := hKC.2.1
  have h10 : m ≤ 10 := hDR.1
  have h48 : nr ≤ 4 ∧ np ≤ 8 := ⟨hKC.2.2.2.1, hKC.2.2.2.2.2.1⟩
  obtain ⟨s1, hs1⟩ : ∃ s1, s1 = nt (wA s 0 i (va_up (va_up (sA s 0 i) v (sA s 0 i u)) u (sA s 0 i v))) i m (nI 3) (nI v) (nI u) (nI 0) := ⟨_, rfl⟩
  have hX : ∀ k q, k ≠ 9 → si s1 k q = si s k q := fun k q h9 => by
    rw [hs1, nt_si h9]
    rfl
  have hY : ∀ k, k ≠ 0 → k ≠ 8 → sA s1 k = sA s k := fun k h0 h8 => by
    rw [hs1, nt_sA h8]
    simp (disch := omega) only [E0]
  have hK : KP g (kpF g m) m := KP_of X s h10 hg6
  have eHv : kpF g m (11 + v) = st_ g 11 v := by rw [← hK.st, st_at (by omega)]
  have eHu : kpF g m (11 + u) = st_ g 11 u := by rw [← hK.st, st_at (by omega)]
  have e1 : st_ (va_up (va_up (kpF g m) (11 + v) (kpF g m (11 + u))) (11 + u) (kpF g m (11 + v))) 11 = va_up (va_up (st_ g 11) v (st_ g 11 u)) u (st_ g 11 v) := by rw [st_up (by omega), st_up (by omega), hK.st, eHv, eHu]
  have p1v : sA s 0 i v = st_ g 11 v := hPE.1 v hv
  have p1u : sA s 0 i u = st_ g 11 u := hPE.1 u hu
  refine ⟨s1, by rw [c_exchange hm h10 (by omega) (by omega), hs1], ⟨?_, fun q hq k => ?_, fun q hq k => ?_, ?_, ?_, ?_, ?_⟩, ?_⟩
  · rw [hs1]
    exact sD_trans (sD_wA hi) (sD_nt hi)
  · by_cases e : k = 9
    · rw [e, hs1]
      unfold nt
      simp (disch := omega) only [E0]
    · exact hX k q e
  · by_cases q0 : k = 0
    · rw [q0, hs1, nt_sA (by decide)]
      simp (disch := omega) only [E0]
    · by_cases q8 : k = 8
      · rw [q8, hs1]
        unfold nt
        simp (disch := omega) only [E0]
      · rw [hY k q0 q8]
  · rw [hY 6 (by omega) (by omega)]
  · rw [hs1]
    rfl
  · rw [hs1]
    rfl
  · intro k _ _
    rw [hs1]
    rfl
  · refine h.deed (k := nI 3) (a := nI v) (b := nI u) (c := nI 0) hK (fun q a1 a2 a3 a4 => hX q i a4) (by rw [hY 5 (by omega) (by omega)]) (by rw [hY 6 (by omega) (by omega)]) ?_ ?_ (fun q hq => by rw [va_up_ne _ _ (by omega), va_up_ne _ _ (by omega)]) ?_ ?_ ?_
    · rw [hs1, nt_si9 h10]
    · rw [hs1, nt_sA8]
      simp (disch := omega) only [E0]
    · refine hWS.names (fun q hq => ?_) (fun q hq => ?_) (fun t _ _ _ => by rw [e1, va_up_ne _ _ (by omega), va_up_ne _ _ (by omega)]) h48
      · rw [e1, hWS.1 v hv, hWS.1 u hu]
        unfold va_up
        show (if q = u then nI (nm v) else if q = v then nI (nm u) else st_ g 11 q) = nI (if q = u then nm v else if q = v then nm u else nm q)
        by_cases e : q = u
        · rw [if_pos e, if_pos e]
        · rw [if_neg e, if_neg e]
          by_cases e2 : q = v
          · rw [if_pos e2, if_pos e2]
          · rw [if_neg e2, if_neg e2]
            exact hWS.1 q hq
      · show (if q = u then nm v else if q = v then nm u else nm q) < n
        split
        · exact hWS.2.1 v hv
        · split
          · exact hWS.2.1 u hu
          · exact hWS.2.1 q hq
    · refine hPE.names hn (fun q hq => ?_) (hX 6 i (by omega)) (by rw [hY 4 (by omega) (by omega)]) (by rw [hY 3 (by omega) (by omega)]) (by rw [hY 1 (by omega) (by omega)]) (by rw [hY 2 (by omega) (by omega)]) ?_ ?_ (fun t _ _ _ => by rw [e1, va_up_ne _ _ (by omega), va_up_ne _ _ (by omega)]) h48
      · show sA s1 0 i q = _
        rw [e1, hs1, nt_sA (by decide)]
        simp (disch := omega) only [E0]
        unfold va_up
        have p1q : sA s 0 i q = st_ g 11 q := hPE.1 q hq
        rw [p1q, p1v, p1u]
      · show si s1 4 i = _
        rw [e1, hX 4 i (by omega), va_up_ne _ _ (by omega), va_up_ne _ _ (by omega)]
        exact hPE.2.2.2.2.2.1
      · show si s1 5 i = _
        rw [e1, hX 5 i (by omega), va_up_ne _ _ (by omega), va_up_ne _ _ (by omega)]
        exact hPE.2.2.2.2.2.2
    · exact ⟨st_ g 11, Or.inr (Or.inr (Or.inl ⟨rfl, v, u, hv, hu, rfl, rfl, by rw [e1, swp_back]⟩)), eqv_refl _ _ _ _⟩
theorem CW.ngt (h : CW s i g n nr np hs ml m by' nm z st bm lo li) (hi : i ≤ 1) : ∃ s1 : ab_S, ab_ev X (d + 5) 113 [.inr (2, i), .inl (.int (nI 1)), .inr (6, 0)] s = some (.inl (some (.inl (.int (nI (bD (sA s 6 i) ml (kpF g m) (wrg nm n)))))), s1) ∧ DF s s1 i ∧ CW s1 i (ntF (inv (to_ nr z st bm by') n) n (bD (sA s 6 i) ml (kpF g m) (wrg nm n)) 1 (kpF g m)) n nr np hs ml (min m 9 + 1) by' (fun q => nm (it (inv (to_ nr z st bm by') n) (bD (sA s 6 i) ml (kpF g m) (wrg nm n)) q)) z st bm lo li := by
  have h10 : m ≤ 10 := h.2.2.2.2.2.2.2.2.2.1
  obtain ⟨s1, c1, c2, c3, c4, c5, c6, c7, c8, c9⟩ := h.nights (X := X) (d := d) (N := 1) hi (by omega)
  have e : mvf (mH g (sA s 6 i) ml (wrg nm n)) (g 132) (g 133) 1 = bD (sA s 6 i) ml (kpF g m) (wrg nm n) := by
    show 0 + (if mH g (sA s 6 i) ml (wrg nm n) (g 132 + nI 0) (g 133 + nI 0) then 0 else 1) = _
    rw [show g 132 + nI 0 = g 132 from Int32.add_zero _, show g 133 + nI 0 = g 133 from Int32.add_zero _, Nat.zero_add]
    unfold bD mH
    rw [kp_old (by omega) (by omega) h10, kp_old (by omega) (by omega) h10, kp_old (by omega) (by omega) h10]
  rw [e] at c1 c9
  exact ⟨s1, c1, ⟨c2, c3, c4, c5, c6, c7, c8⟩, c9⟩
/-- the model's row behind a deed is a town's -/
theorem RW_up {s' : ab_S} {v u : Nat} (h : RW s n nm nr z st bm by') (hv : v < n) (hu : u < n) (e : sa s' 8 = va_up (sa s 8) (11 + v) (nI u)) : RW s' n (fun q => if q = v then u else nm q) nr z st bm by' := by
  obtain ⟨w1, w2, w3, w4, w5, w6, w7, w8, w9, w10, w11, w12, w13, w14, w15⟩ := h
  unfold RW
  rw [e]
  refine ⟨by rw [va_up_ne _ _ (by omega)]; exact w1, w2, fun q hq => ?_, fun q hq => ?_, by rw [va_up_ne _ _ (by omega)]; exact w5, w6, fun r hr => by rw [va_up_ne _ _ (by omega)]; exact w7 r hr, w8, fun r hr k hk => by have := w8 r hr; rw [va_up_ne _ _ (by omega)]; exact w9 r hr k hk, w10, w11, by rw [va_up_ne _ _ (by omega)]; exact w12, w13, fun r hr => by rw [va_up_ne _ _ (by omega)]; exact w14 r hr, w15⟩
  · show va_up (sa s 8) (11 + v) (nI u) (11 + q) = nI (if q = v then u else nm q)
    by_cases e : q = v
    · rw [if_pos e, e, va_up_self]
    · rw [if_neg e, va_up_ne _ _ (by omega)]
      exact w3 q hq
  · show (if q = v then u else nm q) < n
    split
    · exact hu
    · exact w4 q hq
theorem RW_dd {s' : ab_S} {D : Dd} (h : RW s n nm nr z st bm by') (hD : dok n D) (e : sa s' 8 = (dstep n (inv (to_ nr z st bm by') n) sg ml D (nm, sa s 8)).2) : RW s' n (dstep n (inv (to_ nr z st bm by') n) sg ml D (nm, sa s 8)).1 nr z st bm by' := by
  match D, hD with
  | none, hD => exact RW_nt h (fun q hq => (inv_lt h.to_lt h.to_inj hq).1) e
  | some (false, v, u), hD => exact RW_up h hD.1 hD.2 e
  | some (true, v, u), hD =>
    obtain ⟨hv, hu⟩ := hD
    have h1 : RW (pa s 8 (va_up (sa s 8) (11 + v) (nI (nm u)))) n (fun q => if q = v then nm u else nm q) nr z st bm by' := RW_up h hv (h.2.2.2.1 u hu) (by simp (disch := omega) only [E0])
    have e1 : sa (pa s 8 (va_up (sa s 8) (11 + v) (nI (nm u)))) 8 = va_up (sa s 8) (11 + v) (nI (nm u)) := by simp (disch := omega) only [E0]
    have h2 := RW_up (s' := s') (v := u) (u := nm v) h1 hu (h.2.2.2.1 v hv) (by
      rw [e1, e]
      show va_up (va_up (sa s 8) (11 + v) (sa s 8 (11 + u))) (11 + u) (sa s 8 (11 + v)) = _
      rw [h.2.2.1 u hu, h.2.2.1 v hv])
    exact h2
theorem RW_kp {s' : ab_S} (h : RW s n nm nr z st bm by') (h10 : m ≤ 10) (e : sa s' 8 = kpF (sa s 8) m) : RW s' n nm nr z st bm by' := by
  obtain ⟨w1, w2, w3, w4, w5, w6, w7, w8, w9, w10, w11, w12, w13, w14, w15⟩ := h
  unfold RW
  rw [e]
  refine ⟨by rw [kp_old (by omega) (by omega) h10]; exact w1, w2, fun q hq => by rw [kp_old (by omega) (by omega) h10]; exact w3 q hq, w4, by rw [kp_old (by omega) (by omega) h10]; exact w5, w6, fun q hq => by rw [kp_old (by omega) (by omega) h10]; exact w7 q hq, w8, fun q hq y hy => by have := w8 q hq; rw [kp_old (by omega) (by omega) h10]; exact w9 q hq y hy, w10, w11, by rw [kp_old (by omega) (by omega) h10]; exact w12, w13, fun q hq => by rw [kp_old (by omega) (by omega) h10]; exact w14 q hq, w15⟩
/-- the code of a deed -/
def dcode (D : Dd) : Int32 := match D with
  | none => -nI 1
  | some (false, v, u) => nI (v + 20 * u)
  | some (true, v, u) => nI (v + 20 * u + 400)
theorem dst_out {D : Dd} {t : Nat} {p : (Nat → Nat) × (Nat → Int32)} {gi : Nat → Nat} (hn : n ≤ 20) (hD : dok n D) (h : t < 11 ∨ 134 ≤ t) : (dstep n gi sg ml D p).2 t = p.2 t := by
  match D, hD with
  | none, hD => exact nt_out (by omega) (by omega) (by omega)
  | some (false, v, u), hD =>
    have := hD.1
    exact va_up_ne _ _ (by omega)
  | some (true, v, u), hD =>
    have := hD.1
    have := hD.2
    show va_up (va_up p.2 (11 + v) (p.2 (11 + u))) (11 + u) (p.2 (11 + v)) t = _
    rw [va_up_ne _ _ (by omega), va_up_ne _ _ (by omega)]
theorem r314 {D : Dd} (h : RW s n nm nr z st bm by') (hm : sa s 8 5 = nI ml) (h900 : ml ≤ 900) (hw : WL sg ml) (hl : LR sg (sa s 8) ml) (hD : dok n D) : ∃ s' : ab_S, ab_ev X (d + 6) 314 [.inr (9, 0), .inl (.int (dcode D))] s = some (.inl (some (.inl (.int (nI (dret n sg ml D (nm, sa s 8)))))), s') ∧ sE s s' ∧ sa s' 8 = (dstep n (inv (to_ nr z st bm by') n) sg ml D (nm, sa s 8)).2 ∧ sz s' 11 = sz s 11 ∧ sz s' 23 = sz s 23 := by
  have hn := h.2.1
  match D, hD with
  | none, hD =>
    obtain ⟨s', g1, g2, g3, g4, g5⟩ := r290 (X := X) (d := d) h hm h900 hw hl
    refine ⟨s', ?_, g2, g3, g4, g5⟩
    rw [b314, show dcode none = -nI 1 from rfl, if_pos rfl, g1, e_bI]
    rfl
  | some (false, v, u), hD =>
    obtain ⟨hv, hu⟩ := hD
    refine ⟨pa s 8 (va_up (sa s 8) (11 + v) (nI u)), ?_, sE_pa8, by simp (disch := omega) only [E0]; rfl, rfl, rfl⟩
    rw [b314, show dcode (some (false, v, u)) = nI (v + 20 * u) from rfl, if_neg (n_m1 _ (by omega)), if_neg (nI_ge (by omega) (by omega)), n_rem (by omega) (by omega) (by omega), n_div (by omega) (by omega), nI_add, show (v + 20 * u) % 20 = v by omega, show (v + 20 * u) / 20 = u by omega, r_in (j := 11 + v) (by omega) (by decide), nI_clamp (by omega)]
    rfl
  | some (true, v, u), hD =>
    obtain ⟨hv, hu⟩ := hD
    refine ⟨pa s 8 (va_up (va_up (sa s 8) (11 + v) (sa s 8 (11 + u))) (11 + u) (sa s 8 (11 + v))), ?_, sE_pa8, by simp (disch := omega) only [E0]; rfl, rfl, rfl⟩
    rw [b314, show dcode (some (true, v, u)) = nI (v + 20 * u + 400) from rfl, if_neg (n_m1 _ (by omega)), if_pos (nI_le (by omega) (by omega)), n_rem (by omega) (by omega) (by omega), n_rem (by omega) (by omega) (by omega), n_div (by omega) (by omega), show (v + 20 * u + 400) % 20 = v by omega, show (v + 20 * u + 400) % 400 / 20 = u by omega, r303 (by omega) (by omega), e_bU]
    rfl
end DEE
