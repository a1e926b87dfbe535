/-! A town as both hold it, with its deeds; the model keeps its changing part. -/
theorem KP.st {g h : Nat → Int32} {m : Nat} (hK : KP g h m) : st_ h 11 = st_ g 11 := st_cong (fun t ht => hK.1 _ (by omega) (by omega))
section KEP
variable {X : (Nat → Int32) × Nat} {d : Nat} {s : ab_S} {g : Nat → Int32} {m : Nat}
theorem l289a (h6 : g 6 = nI 10) : ∀ (j t : Nat) (G : Nat → Int32), t + j = 1241 → 134 ≤ t → (∀ q, G q = if 134 ≤ q ∧ q < t then g (q + 123) else g q) → ∃ H : Nat → Int32, ab_at X d 289 16 [some (.inr (9, 0)), some (.inl (.int (nI t)))] [] (pa s 8 G) = ab_at X d 289 57 [some (.inr (9, 0)), some (.inl (.int (nI 0)))] [] (pa s 8 (va_up H 6 (nI 9))) ∧ ∀ q, H q = if 134 ≤ q ∧ q < 1241 then g (q + 123) else g q
  | 0, t, G, e, ht, hG => by
    obtain rfl : t = 1241 := by omega
    refine ⟨G, ?_, hG⟩
    have e6 : G 6 = nI 10 := by rw [hG 6, if_neg (by omega), h6]
    rw [b289_16]
    simp (disch := omega) only [E0]
    rw [if_pos (nI_le (Nat.le_refl _) (by omega)), e6]
    simp (disch := omega) only [E1]
    rw [pk_sub (by omega)]
  | j + 1, t, G, e, ht, hG => by
    obtain ⟨H, g1, g2⟩ := l289a h6 j (t + 1) (va_up G t (g (t + 123))) (by omega) (by omega) (fun q => by
      by_cases e1 : q = t
      · rw [e1, va_up_self, if_pos (by omega)]
      · rw [va_up_ne _ _ e1, hG q]
        by_cases e2 : 134 ≤ q ∧ q < t
        · rw [if_pos e2, if_pos (by omega)]
        · rw [if_neg e2, if_neg (by omega)])
    refine ⟨H, ?_, g2⟩
    have eG : G (t + 123) = g (t + 123) := by rw [hG, if_neg (by omega)]
    rw [← g1, b289_16]
    simp (disch := omega) only [E0]
    rw [if_neg (nI_ge (by omega) (by omega)), nI_add, r_in (j := t + 123) (by omega) (by decide), r_in (j := t) (by omega) (by decide), nI_clamp (by omega), nI_clamp (by omega), nI_add, eG]
    simp (disch := omega) only [E1]
theorem l289b {k : Nat} (hk : k ≤ 9) (h6 : g 6 = nI k) : ∀ (j t : Nat) (G : Nat → Int32), t + j = 123 → (∀ q, G q = if 134 + 123 * k ≤ q ∧ q < 134 + 123 * k + t then g (q - (134 + 123 * k) + 11) else g q) → ∃ H : Nat → Int32, ab_at X d 289 57 [some (.inr (9, 0)), some (.inl (.int (nI t)))] [] (pa s 8 G) = some (.inl none, pa s 8 (va_up H 6 (nI (k + 1)))) ∧ ∀ q, H q = if 134 + 123 * k ≤ q ∧ q < 134 + 123 * k + 123 then g (q - (134 + 123 * k) + 11) else g q
  | 0, t, G, e, hG => by
    obtain rfl : t = 123 := by omega
    refine ⟨G, ?_, hG⟩
    have e6 : G 6 = nI k := by rw [hG 6, if_neg (by omega), h6]
    rw [b289_57]
    simp (disch := omega) only [E0]
    rw [if_pos (nI_le (Nat.le_refl _) (by omega)), e6, nI_add]
    simp (disch := omega) only [E1]
  | j + 1, t, G, e, hG => by
    obtain ⟨H, g1, g2⟩ := l289b hk h6 j (t + 1) (va_up G (134 + 123 * k + t) (g (11 + t))) (by omega) (fun q => by
      by_cases e1 : q = 134 + 123 * k + t
      · rw [e1, va_up_self, if_pos (by omega)]
        congr 1
        omega
      · rw [va_up_ne _ _ e1, hG q]
        by_cases e2 : 134 + 123 * k ≤ q ∧ q < 134 + 123 * k + t
        · rw [if_pos e2, if_pos (by omega)]
        · rw [if_neg e2, if_neg (by omega)])
    refine ⟨H, ?_, g2⟩
    have e6 : G 6 = nI k := by rw [hG 6, if_neg (by omega), h6]
    have eG : G (11 + t) = g (11 + t) := by rw [hG, if_neg (by omega)]
    rw [← g1, b289_57]
    simp (disch := omega) only [E0]
    rw [if_neg (nI_ge (by omega) (by omega)), e6, nI_add, r_in (j := 11 + t) (by omega) (by decide), pk_mul, nI_add, nI_add, r_in (j := 134 + 123 * k + t) (by omega) (by decide), nI_clamp (by omega), nI_clamp (by omega), nI_add, eG]
    simp (disch := omega) only [E1]
theorem r289 (h6 : sa s 8 6 = nI m) (hm : m ≤ 10) : ∃ H : Nat → Int32, ab_ev X d 289 [.inr (9, 0)] s = some (.inl none, pa s 8 H) ∧ KP (sa s 8) H m := by
  by_cases q : m < 10
  · obtain ⟨H, g1, g2⟩ := l289b (X := X) (d := d) (s := s) (k := m) (by omega) h6 123 0 (sa s 8) (by omega) (fun q => by rw [if_neg (by omega)])
    rw [pa_id] at g1
    refine ⟨va_up H 6 (nI (m + 1)), ?_, ?_⟩
    · rw [b289, h6, if_neg (fun z => by have := (nI_eq (by omega) (by omega)).mp z; omega)]
      exact g1
    · have em : min m 9 = m := by omega
      refine ⟨fun t ht h6 => ?_, ?_, fun t ht => ?_, ?_, fun j hj => ?_⟩
      · rw [va_up_ne _ _ h6, g2, if_neg (by omega)]
      · rw [va_up_self, em]
      · rw [va_up_ne _ _ (by omega), g2, if_neg (by omega)]
      · rw [em]
        exact st_cong (fun t ht => by
          rw [va_up_ne _ _ (by omega), g2, if_pos (by omega)]
          exact congrArg (sa s 8) (by omega))
      · rw [if_pos q]
        exact st_cong (fun t ht => by
          rw [va_up_ne _ _ (by omega), g2, if_neg (by omega)])
  · obtain rfl : m = 10 := by omega
    obtain ⟨H, g1, g2⟩ := l289a (X := X) (d := d) (s := s) h6 1107 134 (sa s 8) (by omega) (by omega) (fun q => by rw [if_neg (by omega)])
    rw [pa_id] at g1
    obtain ⟨H2, g3, g4⟩ := l289b (X := X) (d := d) (s := s) (g := va_up H 6 (nI 9)) (k := 9) (by omega) (va_up_self _ _ _) 123 0 (va_up H 6 (nI 9)) (by omega) (fun q => by rw [if_neg (by omega)])
    refine ⟨va_up H2 6 (nI (9 + 1)), ?_, ?_⟩
    · rw [b289, h6, if_pos rfl, g1]
      exact g3
    · refine ⟨fun t ht h6 => ?_, ?_, fun t ht => ?_, ?_, fun j hj => ?_⟩
      · rw [va_up_ne _ _ h6, g4, if_neg (by omega), va_up_ne _ _ h6, g2, if_neg (by omega)]
      · rw [va_up_self]
        rfl
      · rw [va_up_ne _ _ (by omega), g4, if_neg (by omega), va_up_ne _ _ (by omega), g2, if_neg (by omega)]
      · exact st_cong (fun t ht => by
          rw [va_up_ne _ _ (by omega), g4, if_pos (by omega), va_up_ne _ _ (by omega), g2, if_neg (by omega)]
          exact congrArg (sa s 8) (by omega))
      · have hj9 : j < 9 := by omega
        rw [if_neg (by omega)]
        exact st_cong (fun t ht => by
          rw [va_up_ne _ _ (by omega), g4, if_neg (by omega), va_up_ne _ _ (by omega), g2, if_pos (by omega)]
          exact congrArg (sa s 8) (by omega))
end KEP
/-- the model's row: the same counts -/
def GC (g : Nat → Int32) (n nr np : Nat) (by' : Nat → Int32) : Prop := g 1 = nI n ∧ g 2 = nI nr ∧ g 3 = nI np ∧ ∀ r, r < nr → g (7 + r) = by' r
/-- a town of the class and a row of the model are one town -/
def CW (s : ab_S) (i : Nat) (g : Nat → Int32) (n nr np hs ml m : Nat) (by' : Nat → Int32) (nm z : Nat → Nat) (st : Nat → Nat → Nat) (bm : Nat) (lo li : Nat → Nat) : Prop :=
  KC s i n nr np by' ∧ GC g n nr np by' ∧ (si s 2 i = nI hs ∧ g 4 = nI hs ∧ hs < 2 ^ 20) ∧ si s 0 i = g 0 ∧ (si s 8 i = nI ml ∧ g 5 = nI ml ∧ ml ≤ 900 ∧ WL (sA s 6 i) ml ∧ LR (sA s 6 i) g ml) ∧ WSp n nr np hs (st_ g 11) nm z st bm lo li ∧ PE n nr np (fun q => si s q i) (fun q => sA s q i) (st_ g 11) ∧ si s 9 i = nI m ∧ g 6 = nI m ∧ DR n nr np hs by' (sA s 8 i) g m
/-- the town itself -/
def CT (s : ab_S) : Prop := ∃ (n nr np hs ml m : Nat) (by' : Nat → Int32) (nm z : Nat → Nat) (st : Nat → Nat → Nat) (bm : Nat) (lo li : Nat → Nat), CW s 0 (sa s 8) n nr np hs ml m by' nm z st bm lo li
/-- but for the town, for the draft and for what both only work with two stores are one -/
def sD (s s' : ab_S) : Prop := (∀ k, k ≠ 0 → k ≠ 8 → k ≠ 9 → k ≠ 10 → k ≠ 11 → k ≠ 23 → sz s' k = sz s k) ∧ st s' = st s ∧ (∀ k i, 1 < i ∨ 9 < k → si s' k i = si s k i) ∧ (∀ k, k = 0 ∨ (8 < k ∧ k < 13) ∨ 21 < k → sa s' k = sa s k) ∧ (∀ k i, 1 < i → sA s' k i = sA s k i) ∧ sb s' 2 = sb s 2 ∧ sB s' = sB s ∧ sq s' = sq s ∧ sn s' = sn s
theorem sD_refl (s : ab_S) : sD s s := ⟨fun _ _ _ _ _ _ _ => rfl, rfl, fun _ _ _ => rfl, fun _ _ => rfl, fun _ _ _ => rfl, rfl, rfl, rfl, rfl⟩
theorem sD_trans {s t u : ab_S} (h : sD s t) (h' : sD t u) : sD s u := by
  obtain ⟨a1, a2, a3, a4, a5, a6, a7, a8, a9⟩ := h
  obtain ⟨b1, b2, b3, b4, b5, b6, b7, b8, b9⟩ := h'
  exact ⟨fun k h1 h2 h3 h4 h5 h6 => (b1 k h1 h2 h3 h4 h5 h6).trans (a1 k h1 h2 h3 h4 h5 h6), b2.trans a2, fun k i h => (b3 k i h).trans (a3 k i h), fun k h => (b4 k h).trans (a4 k h), fun k i h1 => (b5 k i h1).trans (a5 k i h1), b6.trans a6, b7.trans a7, b8.trans a8, b9.trans a9⟩
theorem sV.D {s s' : ab_S} (h : sV s s') : sD s s' := by
  obtain ⟨a1, a2, a3, a4, a5, a6, a7, a8, a9, a10⟩ := h
  exact ⟨fun k _ h1 h2 _ h3 h4 => a1 k h1 h2 h3 h4, a3, fun k i _ => by rw [a4], fun k hk => a5 k (by omega), fun k i _ => by rw [a6], a7 2 (by decide), a8, a9, a10⟩
theorem sD_wi {s : ab_S} {i k : Nat} {v : Int32} (h : i ≤ 1) (hk : k ≤ 9) : sD s (wi s k i v) := ⟨fun _ _ _ _ _ _ _ => rfl, rfl, fun j q hq => by
  by_cases e : j = k
  · subst e
    rcases hq with h1 | h1
    · simp (disch := omega) only [E0]
    · omega
  · simp (disch := omega) only [E0], fun _ _ => rfl, fun _ _ _ => rfl, rfl, rfl, rfl, rfl⟩
theorem sD_wA {s : ab_S} {i k : Nat} {F : Nat → Int32} (h : i ≤ 1) : sD s (wA s k i F) := ⟨fun _ _ _ _ _ _ _ => rfl, rfl, fun _ _ _ => rfl, fun _ _ => rfl, fun j q hq => by
  by_cases e : j = k
  · subst e
    simp (disch := omega) only [E0]
  · simp (disch := omega) only [E0], rfl, rfl, rfl, rfl⟩
theorem sD_pa8 {s : ab_S} {F : Nat → Int32} : sD s (pa s 8 F) := ⟨fun _ _ _ _ _ _ _ => rfl, rfl, fun _ _ _ => rfl, fun q hq => va_up_ne _ _ (by omega), fun _ _ _ => rfl, rfl, rfl, rfl, rfl⟩
theorem sD_nt {s : ab_S} {i m : Nat} {a b c e : Int32} (h : i ≤ 1) : sD s (nt s i m a b c e) := sD_trans (sD_wA h) (sD_wi h (by omega))
/-- one call's doing: nothing, or a town that both hold -/
def sZ (s s' : ab_S) : Prop := sY s s' ∨ (sD s s' ∧ CT s')
section CWS
variable {s s' : ab_S} {i n nr np hs ml m bm : Nat} {by' : Nat → Int32} {g : Nat → Int32} {nm z lo li : Nat → Nat} {st : Nat → Nat → Nat}
theorem CW.TW (h : CW s i g n nr np hs ml m by' nm z st bm lo li) : TW s i n nm nr z st bm by' := TW_of h.1 h.2.2.2.2.2.1 h.2.2.2.2.2.2.1
theorem CW.PW (h : CW s 0 (sa s 8) n nr np hs ml m by' nm z st bm lo li) : PW s n nm nr z st bm by' np hs lo li := by
  obtain ⟨⟨k1, k2, k3, k4, k5, k6, k7, k8⟩, ⟨g1, g2, g3, g4⟩, ⟨b1, b2, b3⟩, c, ⟨l1, l2, l3, l4, l5⟩, w, p, d1, d2, d3⟩ := id h
  obtain ⟨w1, w2, w3, w4, w5, w6, w7, w8, w9, w10⟩ := id w
  obtain ⟨p1, p2, p3, p4, p5, p6, p7⟩ := id p
  refine ⟨⟨h.TW, g1, k2, fun k hk => ?_, w2, g2, k4, fun r hr => ?_, w4, fun r hr k hk => ?_, w6, w7, w8, w9, g4, k8⟩, k5, g3, k6, b1, b2, b3, fun q hq => ?_⟩
  · have e := w1 k hk
    rw [st_at (by omega)] at e
    exact e
  · have e := w3 r hr
    rw [st_at (by omega)] at e
    rw [show 32 + r = 11 + (21 + r) by omega]
    exact e
  · have e := w5 r hr k hk
    have := w4 r hr
    rw [st_at (by omega)] at e
    rw [show 36 + 20 * r + k = 11 + (25 + 20 * r + k) by omega]
    exact e
  · obtain ⟨v1, v2, v3, v4⟩ := w10 q hq
    obtain ⟨u1, u2⟩ := p5 q hq
    have e1 := v1
    have e3 := v3
    rw [st_at (by omega)] at e1 e3
    refine ⟨u1.trans v1, ?_, v2, u2.trans v3, ?_, v4⟩
    · rw [show 116 + q = 11 + (105 + q) by omega]
      exact e1
    · rw [show 124 + q = 11 + (113 + q) by omega]
      exact e3
theorem CW.LW (h : CW s 0 (sa s 8) n nr np hs ml m by' nm z st bm lo li) : LW s ml := h.2.2.2.2.1
theorem CW.day (h : CW s i g n nr np hs ml m by' nm z st bm lo li) : si s 4 i = g 132 ∧ si s 5 i = g 133 := by
  obtain ⟨-, -, -, -, -, -, p, -⟩ := h
  obtain ⟨p1, p2, p3, p4, p5, p6, p7⟩ := p
  have p6 : si s 4 i = st_ g 11 121 := p6
  have p7 : si s 5 i = st_ g 11 122 := p7
  rw [st_at (by omega)] at p6 p7
  exact ⟨p6, p7⟩
theorem CW.NW (h : CW s 0 (sa s 8) n nr np hs ml m by' nm z st bm lo li) (ht : sz s 1 = sz s 12) : NW s := ⟨h.2.2.2.1, h.day.1, h.day.2, h.2.2.2.2.2.2.2.1.trans h.2.2.2.2.2.2.2.2.1.symm, ht⟩
theorem CT.sameX (h : CT s) (h1 : sX s s') : CT s' := by
  obtain ⟨n, nr, np, hs, ml, m, by', nm, z, st, bm, lo, li, h⟩ := h
  refine ⟨n, nr, np, hs, ml, m, by', nm, z, st, bm, lo, li, ?_⟩
  obtain ⟨a1, a2, a3, a4, a5, a6, a7, a8, a9⟩ := h1
  have e1 : ∀ k, si s' k 0 = si s k 0 := fun k => a3 k 0 (Or.inl (by decide))
  have e2 : ∀ k, k ≠ 7 → sA s' k 0 = sA s k 0 := fun k hk => a5 k 0 (by decide) hk
  unfold CW KC PE at h ⊢
  simp only [e1, a4 8 (by omega), e2 0 (by decide), e2 1 (by decide), e2 2 (by decide), e2 3 (by decide), e2 4 (by decide), e2 5 (by decide), e2 6 (by decide), e2 8 (by decide)]
  exact h
/-- a deed done -/
theorem CW.deed {t : ab_S} {g2 H : Nat → Int32} {nm' z' lo' li' : Nat → Nat} {st' : Nat → Nat → Nat} {bm' : Nat} {k a b c : Int32} (h : CW s i g n nr np hs ml m by' nm z st bm lo li) (hK : KP g H m) (hi : ∀ q, q ≠ 4 → q ≠ 5 → q ≠ 6 → q ≠ 9 → si t q i = si s q i) (h5 : sA t 5 i = sA s 5 i) (h6 : sA t 6 i = sA s 6 i) (h9 : si t 9 i = nI (min m 9 + 1)) (h8 : sA t 8 i = dn (sA s 8 i) m k a b c) (hg : ∀ q, q < 11 ∨ 134 ≤ q → g2 q = H q) (hw : WSp n nr np hs (st_ g2 11) nm' z' st' bm' lo' li') (hp : PE n nr np (fun q => si t q i) (fun q => sA t q i) (st_ g2 11)) (hU : ∃ τ, UF n nr np hs by' k a b c (st_ g2 11) τ ∧ eqv n nr np (st_ g 11) τ) : CW t i g2 n nr np hs ml (min m 9 + 1) by' nm' z' st' bm' lo' li' := by
  obtain ⟨⟨k1, k2, k3, k4, k5, k6, k7, k8⟩, ⟨g1, g2', g3, g4⟩, ⟨b1, b2, b3⟩, c', ⟨l1, l2, l3, l4, l5⟩, w, p, d1, d2, d3⟩ := id h
  have e : ∀ q, q < 11 → q ≠ 6 → g2 q = g q := fun q h1 h2 => (hg q (Or.inl h1)).trans (hK.1 q (by omega) h2)
  refine ⟨⟨(hi 1 (by omega) (by omega) (by omega) (by omega)).trans k1, k2, (hi 7 (by omega) (by omega) (by omega) (by omega)).trans k3, k4, (hi 3 (by omega) (by omega) (by omega) (by omega)).trans k5, k6, fun r hr => by rw [h5]; exact k7 r hr, k8⟩, ⟨(e 1 (by omega) (by omega)).trans g1, (e 2 (by omega) (by omega)).trans g2', (e 3 (by omega) (by omega)).trans g3, fun r hr => (e (7 + r) (by omega) (by omega)).trans (g4 r hr)⟩, ⟨(hi 2 (by omega) (by omega) (by omega) (by omega)).trans b1, (e 4 (by omega) (by omega)).trans b2, b3⟩, (hi 0 (by omega) (by omega) (by omega) (by omega)).trans (c'.trans (e 0 (by omega) (by omega)).symm), ⟨(hi 8 (by omega) (by omega) (by omega) (by omega)).trans l1, (e 5 (by omega) (by omega)).trans l2, l3, by rw [h6]; exact l4, by
    rw [h6]
    exact fun q hq => by
      rw [hg _ (Or.inr (by omega)), hK.2.2.1 _ (by omega)]
      exact l5 q hq⟩, hw, hp, h9, (hg 6 (Or.inl (by omega))).trans hK.2.1, ?_⟩
  rw [h8]
  obtain ⟨τ, u1, u2⟩ := hU
  exact deed_step d3 hK (fun q h1 _ => hg q (Or.inr h1)) ⟨⟨nm', z', st', bm', lo', li', hw⟩, ⟨nm, z, st, bm, lo, li, w⟩, τ, u1, u2⟩
theorem PE.names {I I' : Nat → Int32} {A A' : Nat → Nat → Int32} {σ σ' : Nat → Int32} (h : PE n nr np I A σ) (hn : n ≤ 20) (h1 : ∀ k, k < n → A' 0 k = σ' k) (h2 : I' 6 = I 6) (h3 : A' 4 = A 4) (h4 : A' 3 = A 3) (h5 : A' 1 = A 1) (h6 : A' 2 = A 2) (h7 : I' 4 = σ' 121) (h8 : I' 5 = σ' 122) (e : ∀ t, 20 ≤ t → t ≠ 121 → t ≠ 122 → σ' t = σ t) (h48 : nr ≤ 4 ∧ np ≤ 8) : PE n nr np I' A' σ' := by
  obtain ⟨p1, p2, p3, p4, p5, p6, p7⟩ := h
  refine ⟨h1, ?_, fun r hr => ?_, fun r hr z hz ez k hk => ?_, fun q hq => ?_, h7, h8⟩
  · rw [h2, e 20 (by omega) (by omega) (by omega), p2]
  · rw [h3, e _ (by omega) (by omega) (by omega), p3 r hr]
  · rw [e _ (by omega) (by omega) (by omega)] at ez
    rw [h4, e _ (by omega) (by omega) (by omega), p4 r hr z hz ez k hk]
  · rw [h5, h6, e _ (by omega) (by omega) (by omega), e _ (by omega) (by omega) (by omega)]
    exact p5 q hq
theorem WSp.names {σ σ' : Nat → Int32} {nm' : Nat → Nat} (h : WSp n nr np hs σ nm z st bm lo li) (h1 : ∀ k, k < n → σ' k = nI (nm' k)) (h2 : ∀ k, k < n → nm' k < n) (e : ∀ t, 20 ≤ t → t ≠ 121 → t ≠ 122 → σ' t = σ t) (h48 : nr ≤ 4 ∧ np ≤ 8) : WSp n nr np hs σ' nm' z st bm lo li := by
  obtain ⟨w1, w2, w3, w4, w5, w6, w7, w8, w9, w10⟩ := h
  exact ⟨h1, h2, fun r hr => by rw [e _ (by omega) (by omega) (by omega)]; exact w3 r hr, w4, fun r hr k hk => by have := w4 r hr; rw [e _ (by omega) (by omega) (by omega)]; exact w5 r hr k hk, w6, w7, by rw [e _ (by omega) (by omega) (by omega)]; exact w8, w9, fun q hq => by rw [e _ (by omega) (by omega) (by omega), e _ (by omega) (by omega) (by omega)]; exact w10 q hq⟩
theorem va_up_back {σ : Nat → Int32} {a : Nat} {x : Int32} : va_up (va_up σ a x) a (σ a) = σ := funext fun t => by
  unfold va_up
  by_cases q : t = a
  · rw [if_pos q, q]
  · rw [if_neg q, if_neg q]
theorem swp_back {σ : Nat → Int32} {a b : Nat} : va_up (va_up (va_up (va_up σ a (σ b)) b (σ a)) a (va_up (va_up σ a (σ b)) b (σ a) b)) b (va_up (va_up σ a (σ b)) b (σ a) a) = σ := funext fun t => by
  unfold va_up
  by_cases q : t = b
  · rw [if_pos q]
    by_cases q2 : a = b
    · rw [if_pos q2, q, q2]
    · rw [if_neg q2, if_pos rfl, q]
  · rw [if_neg q]
    by_cases q2 : t = a
    · rw [if_pos q2, if_pos rfl, q2]
    · rw [if_neg q2, if_neg q, if_neg q2]
end CWS
