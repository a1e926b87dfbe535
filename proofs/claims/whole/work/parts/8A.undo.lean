/-! A whole call: undo. -/
theorem UG.D {s s' : ab_S} {i : Nat} (hi : i ≤ 1) (h : UG s s' i) : sD s s' := by
  obtain ⟨a1, a2, a3, a4, a5, a6, a7, a8, a9, a10⟩ := h
  exact ⟨fun k _ h1 h2 _ _ _ => a1 k h1 h2, a3, fun k q _ => a4 k q (by omega), fun k hk => a5 k (by omega), fun k q _ => a6 k q (by omega), by rw [a7], a8, a9, a10⟩
/-- the changing part behind so many undone -/
def cu_ (g : Nat → Int32) (m c : Nat) : Nat → Int32 := if c = 0 then st_ g 11 else st_ g (134 + 123 * (m - c))
/-- the model's row behind so many undone -/
def unF (g : Nat → Int32) (m i : Nat) : Nat → Int32 := fun t => if 11 ≤ t ∧ t < 134 then g (134 + 123 * (m - i) + (t - 11)) else if t = 6 then nI (m - i) else g t
section UNDO
variable {X : (Nat → Int32) × Nat} {d k n nr bm np hs ml m : Nat} {u5 u6 : Option ab_V} {s : ab_S} {nm z f gi lo li : Nat → Nat} {st : Nat → Nat → Nat} {by' g : Nat → Int32}
theorem l144 {i : Nat} (hK : KC s 0 n nr np by') (hD : DR n nr np hs by' (sA s 8 0) g m) (him : i ≤ m) : ∀ (j c : Nat) (s1 : ab_S), c + j = i → UG s s1 0 → si s1 9 0 = nI (m - c) → PE n nr np (fun q => si s1 q 0) (fun q => sA s1 q 0) (cu_ g m c) → ∃ s' : ab_S, ab_at X (d + 7) 144 18 [some (.inr (0, 0)), some (.inl (.int (nI i))), some (.inl (.int (nI c)))] [] s1 = some (.inl (some (.inl (.int (nI (m - i))))), s') ∧ UG s s' 0 ∧ si s' 9 0 = nI (m - i) ∧ PE n nr np (fun q => si s' q 0) (fun q => sA s' q 0) (cu_ g m i)
  | 0, c, s1, e, h1, h9, hp => by
    obtain rfl : c = i := by omega
    have h10 := hD.1
    refine ⟨s1, ?_, h1, h9, hp⟩
    rw [b144_18, if_pos (nI_le (Nat.le_refl _) (by omega)), h9]
  | j + 1, c, s1, e, h1, h9, hp => by
    have h10 := hD.1
    obtain ⟨w1, w2, τ, hU, he⟩ := hD.2 (m - c - 1) (by omega)
    have eσ : (if m - c - 1 + 1 < m then st_ g (134 + 123 * (m - c - 1 + 1)) else st_ g 11) = cu_ g m c := by
      unfold cu_
      by_cases q : c = 0
      · rw [if_pos q, if_neg (by omega)]
      · rw [if_neg q, if_pos (by omega), show m - c - 1 + 1 = m - c by omega]
    rw [eσ] at hU
    have e8 : sA s1 8 0 = sA s 8 0 := h1.2.2.2.2.2.1 8 0 (by omega)
    obtain ⟨s2, g1, g2, g3, g4⟩ := c_undl (X := X) (d := d) (s := s1) (i := 0) (m := m - c) (hK.UG h1) hp h9 (by omega) (by omega) rfl rfl rfl rfl (by rw [e8]; exact hU)
    have e2 : cu_ g m (c + 1) = st_ g (134 + 123 * (m - c - 1)) := by
      unfold cu_
      rw [if_neg (by omega), show m - (c + 1) = m - c - 1 by omega]
    obtain ⟨s3, i1, i2⟩ := l144 (i := i) hK hD him j (c + 1) s2 (by omega) (UG_trans h1 g2) (by rw [g3, show m - c - 1 = m - (c + 1) by omega]) (by rw [e2]; exact g4.eqv he)
    refine ⟨s3, ?_, i2⟩
    rw [← i1, b144_18, if_neg (nI_ge (by omega) (by omega)), g1, e_bU, nI_add]
theorem l308 {i : Nat} (him : i ≤ m) (h1 : 1 ≤ i) (h10 : m ≤ 10) : ∀ (j c : Nat) (G : Nat → Int32), c + j = 123 → (∀ t, G t = if 11 ≤ t ∧ t < 11 + c then g (134 + 123 * (m - i) + (t - 11)) else if t = 6 then nI (m - i) else g t) → ab_at X (d + 1) 308 47 [some (.inr (9, 0)), some (.inl (.int (nI i))), some (.inl (.int (nI c)))] [] (pa s 8 G) = some (.inl (some (.inl (.int (nI (m - i))))), pa s 8 (unF g m i))
  | 0, c, G, e, hG => by
    obtain rfl : c = 123 := by omega
    have e6 : G 6 = nI (m - i) := by rw [hG 6, if_neg (by omega), if_pos rfl]
    have eG : G = unF g m i := funext fun t => by
      rw [hG t]
      unfold unF
      rfl
    rw [b308_47]
    simp (disch := omega) only [E0]
    rw [if_pos (nI_le (Nat.le_refl _) (by omega)), e6, eG]
  | j + 1, c, G, e, hG => by
    have e6 : G 6 = nI (m - i) := by rw [hG 6, if_neg (by omega), if_pos rfl]
    have eG : G (134 + 123 * (m - i) + c) = g (134 + 123 * (m - i) + c) := by rw [hG, if_neg (by omega), if_neg (by omega)]
    rw [b308_47]
    simp (disch := omega) only [E0]
    rw [if_neg (nI_ge (by omega) (by omega)), e6, nI_add, pk_mul, nI_add, nI_add, r_in (j := 134 + 123 * (m - i) + c) (by omega) (by decide), r_in (j := 11 + c) (by omega) (by decide), nI_clamp (by omega), nI_clamp (by omega), nI_add, eG]
    simp (disch := omega) only [E1]
    refine l308 him h1 h10 j (c + 1) _ (by omega) (fun t => ?_)
    by_cases e1 : t = 11 + c
    · rw [e1, va_up_self, if_pos (by omega), Nat.add_sub_cancel_left]
    · rw [va_up_ne _ _ e1, hG t]
      by_cases e2 : 11 ≤ t ∧ t < 11 + c
      · rw [if_pos e2, if_pos (by omega)]
      · have e4 : ¬ (11 ≤ t ∧ t < 11 + (c + 1)) := by omega
        rw [if_neg e2, if_neg e4]
theorem un_old {i t : Nat} (h : t < 11 ∨ 134 ≤ t) (h6 : t ≠ 6) : unF g m i t = g t := by
  unfold unF
  rw [if_neg (by omega), if_neg h6]
theorem un_st {i : Nat} : st_ (unF g m i) 11 = st_ g (134 + 123 * (m - i)) := st_cong (fun t ht => by
  unfold unF
  rw [if_pos (by omega), Nat.add_sub_cancel_left])
theorem un_DR {i : Nat} {D : Nat → Int32} (h : DR n nr np hs by' D g m) (h1 : 1 ≤ i) (him : i ≤ m) : DR n nr np hs by' D (unF g m i) (m - i) := by
  obtain ⟨h10, h⟩ := h
  refine ⟨by omega, fun j hj => ?_⟩
  have a := h j (by omega)
  have e : ∀ q, q < 10 → st_ (unF g m i) (134 + 123 * q) = st_ g (134 + 123 * q) := fun q hq => st_cong (fun t ht => un_old (by omega) (by omega))
  rw [if_pos (by omega)] at a
  rw [e j (by omega)]
  by_cases q : j + 1 < m - i
  · rw [if_pos q, e (j + 1) (by omega)]
    exact a
  · rw [if_neg q, un_st, show m - i = j + 1 by omega]
    exact a
theorem o143 (h : CW s 0 (sa s 8) n nr np hs ml m by' nm z st bm lo li) (hk : k + 5 < X.2) (hX : X.2 < 2 ^ 31) : ∃ (s2 : ab_S) (v5 v6 : Option ab_V), sZ s s2 ∧ ab_at X (d + 31) 360 1479 [some (.inr (14, 0)), some (.inr (0, 0)), some (.inr (9, 0)), some (.inr (15, 0)), some (.inl (.int (nI k))), u5, u6, none] [] s = ab_at X (d + 31) 360 23 [some (.inr (14, 0)), some (.inr (0, 0)), some (.inr (9, 0)), some (.inr (15, 0)), some (.inl (.int (nI (k + 6)))), v5, v6, none] [] s2 := by
  obtain ⟨hKC, hGC, hHS, hL0, hLW, hWS, hPE, hm, hg6, hDR⟩ := id h
  have h10 : m ≤ 10 := hDR.1
  have i_1 : (nI 1).toInt = 1 := by decide
  have j_1 : (lN 1).toInt = 1 := by decide
  have j_10 : (lN 10).toInt = 10 := by decide
  have i_m : (nI m).toInt = m := nI_toInt (by omega)
  by_cases h1 : inR (X.1 (k + 1)).toInt 1 m = true
  rotate_left
  · have cc : ab_ev X (d + 30) 143 [.inr (0, 0), .inl (.int (X.1 (k + 1))), .inr (15, 0)] s = some (.inl (some (.inl (.int (nI 1)))), ths s) := by
      rw [b143, b144, c_n103, hm, i_1, i_m, if_neg h1, e_xU, e_px, e_xI]
      rfl
    have r : ab_ev X (d + 30) 308 [.inr (9, 0), .inl (.int (X.1 (k + 1)))] (ths s) = some (.inl (some (.inl (.int (nI 0)))), pz (ths s) 11 (nI 1)) := by
      rw [b308, r232, j_of, j_1, j_10]
      by_cases h2 : inR (X.1 (k + 1)).toInt 1 10 = true
      · have e6 : sa (pz (ths s) 11 (nI 0)) 8 6 = nI m := hg6
        rw [if_pos h2, e_bI, if_neg (show ¬ nI 1 = nI 0 by decide), e6, if_neg (fun q => by
          have q1 := Int32.le_iff_toInt_le.mp q
          rw [i_m] at q1
          have q2 := inR_iff.mp h2
          exact h1 (inR_iff.mpr ⟨q2.1, q1⟩)), b233, e_bI, pz2]
      · rw [if_neg h2, e_bI, if_pos rfl, b233, e_bI, pz2]
    exact ⟨_, _, _, Or.inl (Or.inr (sV_pz (by omega)).X), w1479 hk hX cc r rfl (fun q => absurd q (by decide))⟩
  obtain ⟨i, hi, ev⟩ := inS_rep (x := X.1 (k + 1)) (n := m + 1) (inS_def.mpr (by have := inR_iff.mp h1; omega))
  have h1i : 1 ≤ i := by
    have := (inR_iff.mp h1).1
    rw [ev, nI_toInt (by omega)] at this
    omega
  obtain ⟨s1, c1, c2, c3, c4⟩ := l144 (X := X) (d := d + 22) (i := i) (g := sa s 8) hKC hDR (by omega) i 0 s (by omega) (UG_refl _ _) hm hPE
  have cc : ab_ev X (d + 30) 143 [.inr (0, 0), .inl (.int (X.1 (k + 1))), .inr (15, 0)] s = some (.inl (some (.inl (.int (nI 0)))), pb s1 3 (va_up (sb s1 3) 0 (nI (m - i)).toInt64)) := by
    have c1' : ab_at X (d + 29) 144 18 [some (.inr (0, 0)), some (.inl (.int (nI i))), some (.inl (.int (nI 0)))] [] s = _ := c1
    rw [b143, b144, c_n103, hm, i_1, i_m, if_pos h1, e_bU, ev, c1', e_bI]
  obtain ⟨sM, hsM⟩ : ∃ sM, sM = pz (pb s1 3 (va_up (sb s1 3) 0 (nI (m - i)).toInt64)) 11 (nI 0) := ⟨_, rfl⟩
  have e8 : sa sM 8 = sa s 8 := by rw [hsM]; exact c2.2.2.2.2.1 8 (by omega)
  have r : ab_ev X (d + 30) 308 [.inr (9, 0), .inl (.int (X.1 (k + 1)))] (pb s1 3 (va_up (sb s1 3) 0 (nI (m - i)).toInt64)) = some (.inl (some (.inl (.int (nI (m - i))))), pa sM 8 (unF (sa s 8) m i)) := by
    have h2 : inR (X.1 (k + 1)).toInt 1 10 = true := inR_iff.mpr (by have := inR_iff.mp h1; omega)
    rw [b308, ← hsM, r232, j_of, j_1, j_10, if_pos h2, e_bI, if_neg (show ¬ nI 1 = nI 0 by decide), e8, hg6, ev, if_pos (nI_le (by omega) (by omega)), pk_sub (by omega)]
    exact l308 (d := d + 29) (by omega) h1i h10 123 0 _ (by omega) (fun t => by
      rw [if_neg (by omega)]
      rfl)
  obtain ⟨t, ht⟩ : ∃ t, t = pa sM 8 (unF (sa s 8) m i) := ⟨_, rfl⟩
  have eT : si t = si s1 ∧ sA t = sA s1 ∧ sa t 8 = unF (sa s 8) m i := by
    rw [ht]
    refine ⟨?_, ?_, by simp (disch := omega) only [E0]⟩
    · show si sM = _
      rw [hsM]
      rfl
    · show sA sM = _
      rw [hsM]
      rfl
  have eC : cu_ (sa s 8) m i = st_ (unF (sa s 8) m i) 11 := by
    unfold cu_
    rw [if_neg (by omega), un_st]
  obtain ⟨-, hW2, -⟩ := hDR.2 (m - i) (by omega)
  obtain ⟨nm', z', st', bm', lo', li', hW'⟩ := hW2
  rw [← un_st (g := sa s 8) (m := m) (i := i)] at hW'
  have hU : ∀ k, ¬ (k = 4 ∨ k = 5 ∨ k = 6 ∨ k = 9) → si t k 0 = si s k 0 := fun k hk => by rw [eT.1]; exact c2.2.2.2.1 k 0 (fun q => hk q.2)
  have hV : ∀ k, 4 < k → sA t k 0 = sA s k 0 := fun k hk => by rw [eT.2.1]; exact c2.2.2.2.2.2.1 k 0 (by omega)
  have hC : CW t 0 (sa t 8) n nr np hs ml (m - i) by' nm' z' st' bm' lo' li' := by
    rw [eT.2.2]
    obtain ⟨u1, u2, u3, u4⟩ := hGC
    obtain ⟨x1, x2, x3, x4, x5⟩ := hLW
    refine ⟨?_, ⟨(un_old (by omega) (by omega)).trans u1, (un_old (by omega) (by omega)).trans u2, (un_old (by omega) (by omega)).trans u3, fun r hr => ?_⟩, ⟨(hU 2 (by omega)).trans hHS.1, (un_old (by omega) (by omega)).trans hHS.2.1, hHS.2.2⟩, ?_, ⟨(hU 8 (by omega)).trans x1, (un_old (by omega) (by omega)).trans x2, x3, ?_, ?_⟩, hW', ?_, ?_, ?_, ?_⟩
    · have := hKC.UG c2
      unfold KC at this ⊢
      rw [eT.1, eT.2.1]
      exact this
    · have := hKC.2.2.2.1
      rw [un_old (by omega) (by omega)]
      exact u4 r hr
    · rw [hU 0 (by omega), un_old (by omega) (by omega)]
      exact hL0
    · rw [hV 6 (by omega)]
      exact x4
    · rw [hV 6 (by omega)]
      exact fun q hq => by
        rw [un_old (by omega) (by omega)]
        exact x5 q hq
    · rw [eT.1, eT.2.1, ← eC]
      exact c4
    · rw [eT.1]
      exact c3
    · unfold unF
      rw [if_neg (by omega), if_pos rfl]
    · rw [hV 8 (by omega)]
      exact un_DR hDR h1i (by omega)
  have e9 : sz t 11 = nI 0 := by
    rw [ht]
    show sz sM 11 = _
    rw [hsM]
    simp (disch := omega) only [E0]
  have e10 : sb t 3 0 = (nI (m - i)).toInt64 := by
    rw [ht]
    show sb sM 3 0 = _
    rw [hsM]
    simp (disch := omega) only [E0]
    rw [va_up_self]
  have d1 : sD s t := by
    rw [ht, hsM]
    exact sD_trans (c2.D (by omega)) (sD_trans sV_pb.D (sD_trans (sV_pz (by omega)).D sD_pa8))
  rw [← ht] at r
  exact ⟨t, _, _, Or.inr ⟨d1, _, _, _, _, _, _, _, _, _, _, _, _, _, hC⟩, w1479 hk hX cc r e9 (fun _ => e10)⟩
end UNDO
