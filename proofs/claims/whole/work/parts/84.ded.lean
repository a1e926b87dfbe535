/-! A town's changing part, as a row: names 0, blind 20, sizes 21, stops 25, people's streets 105, houses 113, day 121, moved 122; deeds undone in it. -/
/-- the changing part that lies at b in the model's row -/
def st_ (g : Nat → Int32) (b : Nat) : Nat → Int32 := fun t => if t < 123 then g (b + t) else 0
theorem st_at {g : Nat → Int32} {b t : Nat} (h : t < 123) : st_ g b t = g (b + t) := if_pos h
theorem st_cong {g g' : Nat → Int32} {b b' : Nat} (h : ∀ t, t < 123 → g (b + t) = g' (b' + t)) : st_ g b = st_ g' b' := funext fun t => by
  unfold st_
  by_cases q : t < 123
  · rw [if_pos q, if_pos q, h t q]
  · rw [if_neg q, if_neg q]
theorem st_up {g : Nat → Int32} {b j : Nat} {v : Int32} (h : j < 123) : st_ (va_up g (b + j) v) b = va_up (st_ g b) j v := funext fun t => by
  unfold st_ va_up
  by_cases q : t < 123
  · rw [if_pos q]
    by_cases q2 : t = j
    · rw [if_pos (by omega), if_pos q2]
    · rw [if_neg (by omega), if_neg q2]
      show _ = if t < 123 then g (b + t) else 0
      rw [if_pos q]
  · rw [if_neg q, if_neg (by omega)]
    show _ = if t < 123 then g (b + t) else 0
    rw [if_neg q]
theorem st_out {g : Nat → Int32} {b j : Nat} {v : Int32} (h : j < b ∨ b + 123 ≤ j) : st_ (va_up g j v) b = st_ g b := st_cong (fun t ht => va_up_ne _ _ (by omega))
/-- a changing part is one -/
def WSp (n nr np hs : Nat) (σ : Nat → Int32) (nm z : Nat → Nat) (st : Nat → Nat → Nat) (bm : Nat) (lo li : Nat → Nat) : Prop :=
  (∀ k, k < n → σ k = nI (nm k)) ∧ (∀ k, k < n → nm k < n) ∧ (∀ r, r < nr → σ (21 + r) = nI (z r)) ∧ (∀ r, r < nr → z r ≤ 20) ∧ (∀ r, r < nr → ∀ k, k < z r → σ (25 + 20 * r + k) = nI (st r k)) ∧ (∀ r, r < nr → ∀ k, k < z r → st r k < n) ∧ (∀ r, r < nr → ∀ a b, a < z r → b < z r → st r a = st r b → a = b) ∧ σ 20 = nI bm ∧ bm < 2 ^ 20 ∧ (∀ q, q < np → σ (105 + q) = nI (lo q) ∧ lo q < n ∧ σ (113 + q) = nI (li q) ∧ li q ≤ hs)
def WS (n nr np hs : Nat) (σ : Nat → Int32) : Prop := ∃ (nm z : Nat → Nat) (st : Nat → Nat → Nat) (bm : Nat) (lo li : Nat → Nat), WSp n nr np hs σ nm z st bm lo li
/-- two changing parts are alike where it counts -/
def eqv (n nr np : Nat) (σ τ : Nat → Int32) : Prop :=
  (∀ k, k < n → σ k = τ k) ∧ σ 20 = τ 20 ∧ (∀ r, r < nr → σ (21 + r) = τ (21 + r)) ∧ (∀ r, r < nr → ∀ z, z ≤ 20 → σ (21 + r) = nI z → ∀ k, k < z → σ (25 + 20 * r + k) = τ (25 + 20 * r + k)) ∧ (∀ q, q < np → σ (105 + q) = τ (105 + q) ∧ σ (113 + q) = τ (113 + q)) ∧ σ 121 = τ 121 ∧ σ 122 = τ 122
theorem eqv_refl (n nr np : Nat) (σ : Nat → Int32) : eqv n nr np σ σ := ⟨fun _ _ => rfl, rfl, fun _ _ => rfl, fun _ _ _ _ _ _ _ => rfl, fun _ _ => ⟨rfl, rfl⟩, rfl, rfl⟩
/-- what the class holds of a changing part -/
def PE (n nr np : Nat) (I : Nat → Int32) (A : Nat → Nat → Int32) (σ : Nat → Int32) : Prop :=
  (∀ k, k < n → A 0 k = σ k) ∧ I 6 = σ 20 ∧ (∀ r, r < nr → A 4 r = σ (21 + r)) ∧ (∀ r, r < nr → ∀ z, z ≤ 20 → σ (21 + r) = nI z → ∀ k, k < z → A 3 (20 * r + k) = σ (25 + 20 * r + k)) ∧ (∀ q, q < np → A 1 q = σ (105 + q) ∧ A 2 q = σ (113 + q)) ∧ I 4 = σ 121 ∧ I 5 = σ 122
theorem PE.eqv {n nr np : Nat} {I : Nat → Int32} {A : Nat → Nat → Int32} {σ τ : Nat → Int32} (h : PE n nr np I A τ) (e : eqv n nr np σ τ) : PE n nr np I A σ := by
  obtain ⟨a1, a2, a3, a4, a5, a6, a7⟩ := h
  obtain ⟨e1, e2, e3, e4, e5, e6, e7⟩ := e
  exact ⟨fun k hk => (a1 k hk).trans (e1 k hk).symm, a2.trans e2.symm, fun r hr => (a3 r hr).trans (e3 r hr).symm, fun r hr z hz e k hk => (a4 r hr z hz ((e3 r hr).symm.trans e) k hk).trans (e4 r hr z hz e k hk).symm, fun q hq => ⟨(a5 q hq).1.trans (e5 q hq).1.symm, (a5 q hq).2.trans (e5 q hq).2.symm⟩, a6.trans e6.symm, a7.trans e7.symm⟩
/-- a deed's undoing, of what a changing part makes what -/
def UF (n nr np hs : Nat) (by' : Nat → Int32) (k a b c : Int32) (σ τ : Nat → Int32) : Prop :=
  (k = nI 1 ∧ ∃ (nm z : Nat → Nat) (st : Nat → Nat → Nat) (bm : Nat) (lo li : Nat → Nat), WSp n nr np hs σ nm z st bm lo li ∧ τ = fun t => if t < n then nI (nm (ah (to_ nr z st bm by') n t b.toInt)) else if t = 121 then σ 121 - a else if t = 122 then σ 122 - b else σ t) ∨
  (k = nI 2 ∧ ∃ u : Nat, u < n ∧ a = nI u ∧ τ = va_up σ u b) ∨
  (k = nI 3 ∧ ∃ u v : Nat, u < n ∧ v < n ∧ a = nI u ∧ b = nI v ∧ τ = va_up (va_up σ u (σ v)) v (σ u)) ∨
  (k = nI 4 ∧ ∃ r p z : Nat, r < nr ∧ b = nI r ∧ c = nI p ∧ σ (21 + r) = nI z ∧ z ≤ 20 ∧ p < z ∧ τ = va_up (del σ (25 + 20 * r) z p) (21 + r) (nI (z - 1))) ∨
  (k = nI 5 ∧ ∃ r p z : Nat, r < nr ∧ b = nI r ∧ c = nI p ∧ σ (21 + r) = nI z ∧ z < 20 ∧ p ≤ z ∧ τ = va_up (ins σ (25 + 20 * r) z p a) (21 + r) (nI (z + 1))) ∨
  (k = nI 6 ∧ ∃ u bm : Nat, u < n ∧ a = nI u ∧ σ 20 = nI bm ∧ bm < 2 ^ 20 ∧ τ = va_up σ 20 (nI (bm ^^^ 2 ^ u))) ∨
  (k = nI 7 ∧ ∃ u : Nat, u < np ∧ a = nI u ∧ τ = va_up (va_up σ (105 + u) b) (113 + u) c)
/-- a deed from σ to σ', as it is kept to be undone -/
def UD (n nr np hs : Nat) (by' : Nat → Int32) (k a b c : Int32) (σ' σ : Nat → Int32) : Prop := WS n nr np hs σ' ∧ WS n nr np hs σ ∧ ∃ τ : Nat → Int32, UF n nr np hs by' k a b c σ' τ ∧ eqv n nr np σ τ
/-- the deeds that can be undone, with the model's pictures -/
def DR (n nr np hs : Nat) (by' : Nat → Int32) (D g : Nat → Int32) (m : Nat) : Prop := m ≤ 10 ∧ ∀ j, j < m → UD n nr np hs by' (D (4 * j)) (D (4 * j + 1)) (D (4 * j + 2)) (D (4 * j + 3)) (if j + 1 < m then st_ g (134 + 123 * (j + 1)) else st_ g 11) (st_ g (134 + 123 * j))
/-- the row behind the model's keeping -/
def KP (g h : Nat → Int32) (m : Nat) : Prop := (∀ t, t < 134 → t ≠ 6 → h t = g t) ∧ h 6 = nI (min m 9 + 1) ∧ (∀ t, 1364 ≤ t → h t = g t) ∧ st_ h (134 + 123 * min m 9) = st_ g 11 ∧ ∀ j, j < min m 9 → st_ h (134 + 123 * j) = st_ g (134 + 123 * (if m < 10 then j else j + 1))
theorem d4_at {P : Nat → Int32} {q j : Nat} {a b c e : Int32} (h : j < q) : d4 P q a b c e j = P j := by
  unfold d4
  rw [va_up_ne _ _ (by omega), va_up_ne _ _ (by omega), va_up_ne _ _ (by omega), va_up_ne _ _ (by omega)]
theorem d4_new (P : Nat → Int32) (q : Nat) (a b c e : Int32) : d4 P q a b c e q = a ∧ d4 P q a b c e (q + 1) = b ∧ d4 P q a b c e (q + 2) = c ∧ d4 P q a b c e (q + 3) = e := by
  unfold d4
  refine ⟨?_, ?_, ?_, va_up_self _ _ _⟩
  · rw [va_up_ne _ _ (by omega), va_up_ne _ _ (by omega), va_up_ne _ _ (by omega), va_up_self]
  · rw [va_up_ne _ _ (by omega), va_up_ne _ _ (by omega), va_up_self]
  · rw [va_up_ne _ _ (by omega), va_up_self]
theorem dn_old {P : Nat → Int32} {m j : Nat} {a b c e : Int32} (hm : m ≤ 10) (h : j < 4 * min m 9) : dn P m a b c e j = P (if m < 10 then j else j + 4) := by
  unfold dn
  by_cases q : m < 10
  · rw [if_pos q, if_pos q]
    exact d4_at (by omega)
  · rw [if_neg q, if_neg q]
    rw [d4_at (by omega)]
    unfold va_cpy
    rw [if_pos (by omega)]
    congr 1
    omega
theorem dn_new4 {P : Nat → Int32} {m : Nat} {a b c e : Int32} (hm : m ≤ 10) : dn P m a b c e (4 * min m 9) = a ∧ dn P m a b c e (4 * min m 9 + 1) = b ∧ dn P m a b c e (4 * min m 9 + 2) = c ∧ dn P m a b c e (4 * min m 9 + 3) = e := by
  unfold dn
  by_cases q : m < 10
  · rw [if_pos q, show min m 9 = m by omega]
    exact d4_new _ _ _ _ _ _
  · rw [if_neg q, show 4 * min m 9 = 36 by omega]
    exact d4_new _ _ _ _ _ _
/-- one deed more -/
theorem deed_step {n nr np hs m : Nat} {by' D g h g2 : Nat → Int32} {k a b c : Int32} (hD : DR n nr np hs by' D g m) (hK : KP g h m) (h2 : ∀ t, 134 ≤ t → t < 1364 → g2 t = h t) (hU : UD n nr np hs by' k a b c (st_ g2 11) (st_ g 11)) : DR n nr np hs by' (dn D m k a b c) g2 (min m 9 + 1) := by
  obtain ⟨hm, hD⟩ := hD
  obtain ⟨k1, k2, k3, k4, k5⟩ := hK
  have e2 : ∀ j, j < 10 → st_ g2 (134 + 123 * j) = st_ h (134 + 123 * j) := fun j hj => st_cong (fun t ht => h2 _ (by omega) (by omega))
  refine ⟨by omega, fun j hj => ?_⟩
  by_cases q : j < min m 9
  · rw [if_pos (by omega), dn_old hm (by omega), dn_old hm (by omega), dn_old hm (by omega), dn_old hm (by omega), e2 j (by omega), e2 (j + 1) (by omega), k5 j q]
    have e3 : st_ h (134 + 123 * (j + 1)) = if (if m < 10 then j else j + 1) + 1 < m then st_ g (134 + 123 * ((if m < 10 then j else j + 1) + 1)) else st_ g 11 := by
      by_cases q2 : j + 1 < min m 9
      · rw [k5 (j + 1) q2]
        by_cases q3 : m < 10
        · rw [if_pos q3, if_pos q3, if_pos (by omega)]
        · rw [if_neg q3, if_neg q3, if_pos (by omega)]
      · have q4 : j + 1 = min m 9 := by omega
        rw [q4, k4]
        by_cases q3 : m < 10
        · rw [if_pos q3, if_neg (by omega)]
        · rw [if_neg q3, if_neg (by omega)]
    rw [e3]
    by_cases q3 : m < 10
    · simp only [if_pos q3]
      exact hD j (by omega)
    · simp only [if_neg q3]
      exact hD (j + 1) (by omega)
  · obtain rfl : j = min m 9 := by omega
    obtain ⟨n1, n2, n3, n4⟩ := dn_new4 (P := D) (m := m) (a := k) (b := a) (c := b) (e := c) hm
    rw [if_neg (by omega), n1, n2, n3, n4, e2 _ (by omega), k4]
    exact hU
theorem DR.same {n nr np hs m : Nat} {by' D g D' g' : Nat → Int32} (h : DR n nr np hs by' D g m) (hD : ∀ j, j < 4 * m → D' j = D j) (hg : ∀ t, 11 ≤ t → t < 1364 → g' t = g t) : DR n nr np hs by' D' g' m := by
  obtain ⟨h10, h⟩ := h
  refine ⟨h10, fun j hj => ?_⟩
  have e1 : ∀ i, i < 10 → st_ g' (134 + 123 * i) = st_ g (134 + 123 * i) := fun i hi => st_cong (fun t ht => hg _ (by omega) (by omega))
  have e2 : st_ g' 11 = st_ g 11 := st_cong (fun t ht => hg _ (by omega) (by omega))
  have h1 := h j hj
  rw [hD _ (by omega), hD _ (by omega), hD _ (by omega), hD _ (by omega), e1 j (by omega), e2]
  by_cases q : j + 1 < m
  · rw [if_pos q, e1 _ (by omega)]
    rw [if_pos q] at h1
    exact h1
  · rw [if_neg q]
    rw [if_neg q] at h1
    exact h1
/-- but for the outlook and town i's changing part two stores are one -/
def UG (s s' : ab_S) (i : Nat) : Prop := (∀ k, k ≠ 8 → k ≠ 9 → sz s' k = sz s k) ∧ sy s' = sy s ∧ st s' = st s ∧ (∀ k q, ¬ (q = i ∧ (k = 4 ∨ k = 5 ∨ k = 6 ∨ k = 9)) → si s' k q = si s k q) ∧ (∀ k, k = 0 ∨ 6 < k → sa s' k = sa s k) ∧ (∀ k q, ¬ (q = i ∧ k ≤ 4) → sA s' k q = sA s k q) ∧ sb s' = sb s ∧ sB s' = sB s ∧ sq s' = sq s ∧ sn s' = sn s
theorem UG_refl (s : ab_S) (i : Nat) : UG s s i := ⟨fun _ _ _ => rfl, rfl, rfl, fun _ _ _ => rfl, fun _ _ => rfl, fun _ _ _ => rfl, rfl, rfl, rfl, rfl⟩
theorem UG_trans {s t u : ab_S} {i : Nat} (h : UG s t i) (h' : UG t u i) : UG s u i := by
  obtain ⟨a1, a2, a3, a4, a5, a6, a7, a8, a9, a10⟩ := h
  obtain ⟨b1, b2, b3, b4, b5, b6, b7, b8, b9, b10⟩ := h'
  exact ⟨fun k h1 h2 => (b1 k h1 h2).trans (a1 k h1 h2), b2.trans a2, b3.trans a3, fun k q h => (b4 k q h).trans (a4 k q h), fun k h => (b5 k h).trans (a5 k h), fun k q h => (b6 k q h).trans (a6 k q h), b7.trans a7, b8.trans a8, b9.trans a9, b10.trans a10⟩
theorem sO.UG {s s' : ab_S} {i : Nat} (h : sO s s') : UG s s' i := by
  obtain ⟨a1, a2, a3, a4, a5, a6, a7, a8, a9, a10⟩ := h
  exact ⟨a1, a2, a3, fun k q _ => by rw [a4], fun k hk => a5 k (by omega), fun k q _ => by rw [a6], a7, a8, a9, a10⟩
theorem UG_wi {s : ab_S} {i k : Nat} {v : Int32} (hk : k = 4 ∨ k = 5 ∨ k = 6 ∨ k = 9) : UG s (wi s k i v) i := ⟨fun _ _ _ => rfl, rfl, rfl, fun j q h => by
  by_cases h1 : j = k
  · subst h1
    by_cases h2 : q = i
    · exact absurd ⟨h2, hk⟩ h
    · simp (disch := omega) only [E0]
  · simp (disch := omega) only [E0], fun _ _ => rfl, fun _ _ _ => rfl, rfl, rfl, rfl, rfl⟩
theorem UG_wA {s : ab_S} {i k : Nat} {F : Nat → Int32} (hk : k ≤ 4) : UG s (wA s k i F) i := ⟨fun _ _ _ => rfl, rfl, rfl, fun _ _ _ => rfl, fun _ _ => rfl, fun j q h => by
  by_cases h1 : j = k
  · subst h1
    by_cases h2 : q = i
    · exact absurd ⟨h2, hk⟩ h
    · simp (disch := omega) only [E0]
  · simp (disch := omega) only [E0], rfl, rfl, rfl, rfl⟩
/-- the class' town i: how many streets, rounds, people, by what the rounds go -/
def KC (s : ab_S) (i n nr np : Nat) (by' : Nat → Int32) : Prop := si s 1 i = nI n ∧ n ≤ 20 ∧ si s 7 i = nI nr ∧ nr ≤ 4 ∧ si s 3 i = nI np ∧ np ≤ 8 ∧ (∀ r, r < nr → sA s 5 i r = by' r) ∧ (∀ r, r < nr → -100 ≤ (by' r).toInt ∧ (by' r).toInt ≤ 100)
theorem KC.UG {s s' : ab_S} {i n nr np : Nat} {by' : Nat → Int32} (h : KC s i n nr np by') (h1 : UG s s' i) : KC s' i n nr np by' := by
  unfold KC at h ⊢
  rw [h1.2.2.2.1 1 i (by omega), h1.2.2.2.1 7 i (by omega), h1.2.2.2.1 3 i (by omega), h1.2.2.2.2.2.1 5 i (by omega)]
  exact h
section UDC
variable {X : (Nat → Int32) × Nat} {d i n nr np hs m : Nat} {s : ab_S} {nm z lo li by0 : Nat → Nat} {st : Nat → Nat → Nat} {bm : Nat} {by' σ τ : Nat → Int32}
theorem TW_of (hK : KC s i n nr np by') (hw : WSp n nr np hs σ nm z st bm lo li) (hp : PE n nr np (fun q => si s q i) (fun q => sA s q i) σ) : TW s i n nm nr z st bm by' := by
  obtain ⟨k1, k2, k3, k4, k5, k6, k7, k8⟩ := hK
  obtain ⟨w1, w2, w3, w4, w5, w6, w7, w8, w9, w10⟩ := hw
  obtain ⟨p1, p2, p3, p4, p5, p6, p7⟩ := hp
  exact ⟨k1, k2, fun k hk => (p1 k hk).trans (w1 k hk), w2, k3, k4, fun r hr => (p3 r hr).trans (w3 r hr), w4, fun r hr k hk => (p4 r hr (z r) (w4 r hr) (w3 r hr) k hk).trans (w5 r hr k hk), w6, w7, p2.trans w8, w9, k7, k8⟩
theorem c_undl {k a b c : Int32} (hK : KC s i n nr np by') (hp : PE n nr np (fun q => si s q i) (fun q => sA s q i) σ) (hm : si s 9 i = nI m) (h10 : m ≤ 10) (h0 : 0 < m) (hk : sA s 8 i (4 * (m - 1)) = k) (ha : sA s 8 i (4 * (m - 1) + 1) = a) (hb : sA s 8 i (4 * (m - 1) + 2) = b) (hc : sA s 8 i (4 * (m - 1) + 3) = c) (hU : UF n nr np hs by' k a b c σ τ) : ∃ s' : ab_S, ab_ev X (d + 6) 145 [.inr (2, i), .inr (6, 0)] s = some (.inl none, s') ∧ UG s s' i ∧ si s' 9 i = nI (m - 1) ∧ PE n nr np (fun q => si s' q i) (fun q => sA s' q i) τ := by
  obtain ⟨k1, k2, k3, k4, k5, k6, k7, k8⟩ := id hK
  obtain ⟨p1, p2, p3, p4, p5, p6, p7⟩ := id hp
  rcases hU with ⟨rfl, nm, z0, st, bm, lo, li, hw, rfl⟩ | ⟨rfl, u, hu, rfl, rfl⟩ | ⟨rfl, u, v, hu, hv, rfl, rfl, rfl⟩ | ⟨rfl, r, p, z, hr, rfl, rfl, hz, hz20, hpz, rfl⟩ | ⟨rfl, r, p, z, hr, rfl, rfl, hz, hz20, hpz, rfl⟩ | ⟨rfl, u, bm, hu, rfl, hbm, hbm2, rfl⟩ | ⟨rfl, u, hu, rfl, rfl⟩
  · obtain ⟨s1, G, g1, g2, g3, g4⟩ := c_und1 (X := X) (d := d) (a := a) (b := b) (c := c) (TW_of hK hw hp) hm h10 h0 hk ha hb hc
    have e2 : -(-b) = b := Int32.neg_neg
    rw [e2] at g3
    have q1 : si s1 = si s := g2.2.2.2.1
    have q2 : sA s1 = sA s := g2.2.2.2.2.2.1
    refine ⟨_, g1, UG_trans g2.UG (UG_trans (UG_wA (by omega)) (UG_trans (UG_wi (by omega)) (UG_trans (UG_wi (by omega)) (UG_wi (by omega))))), by simp (disch := omega) only [E0], ?_⟩
    refine ⟨fun q hq => ?_, ?_, fun r hr => ?_, fun r hr z hz e q hq => ?_, fun q hq => ?_, ?_, ?_⟩
    · simp (disch := omega) only [E0]
      rw [if_pos hq, g3 q hq]
    · simp (disch := omega) only [E0]
      rw [q1, if_neg (by omega)]
      exact p2
    · simp (disch := omega) only [E0]
      rw [q2, if_neg (by omega), if_neg (by omega), if_neg (by omega)]
      exact p3 r hr
    · simp (disch := omega) only [E0]
      have e : (if 21 + r < n then nI (nm (ah (to_ nr z0 st bm by') n (21 + r) b.toInt)) else if 21 + r = 121 then σ 121 - a else if 21 + r = 122 then σ 122 - b else σ (21 + r)) = nI z := e
      rw [if_neg (by omega), if_neg (by omega), if_neg (by omega)] at e
      rw [q2, if_neg (by omega), if_neg (by omega), if_neg (by omega)]
      exact p4 r hr z hz e q hq
    · simp (disch := omega) only [E0]
      rw [q2, if_neg (by omega), if_neg (by omega), if_neg (by omega), if_neg (by omega), if_neg (by omega), if_neg (by omega)]
      exact p5 q hq
    · simp (disch := omega) only [E0]
      rw [if_neg (by omega), if_pos trivial]
      exact congrArg (· - a) p6
    · simp (disch := omega) only [E0]
      rw [if_neg (by omega), if_neg (by omega), if_pos trivial]
      exact congrArg (· - b) p7
  · refine ⟨_, c_und2 (X := X) (d := d) hm h10 h0 hk ha hb hc (by omega), UG_trans (UG_wA (by omega)) (UG_wi (by omega)), by simp (disch := omega) only [E0], ?_⟩
    refine ⟨fun q hq => ?_, ?_, fun r hr => ?_, fun r hr z hz e q hq => ?_, fun q hq => ?_, ?_, ?_⟩
    · simp (disch := omega) only [E0]
      unfold va_up
      have p1q : sA s 0 i q = σ q := p1 q hq
      rw [p1q]
    · simp (disch := omega) only [E0]
      rw [va_up_ne _ _ (by omega)]
      exact p2
    · simp (disch := omega) only [E0]
      rw [va_up_ne _ _ (by omega)]
      exact p3 r hr
    · simp (disch := omega) only [E0]
      rw [va_up_ne _ _ (by omega)] at e
      rw [va_up_ne _ _ (by omega)]
      exact p4 r hr z hz e q hq
    · simp (disch := omega) only [E0]
      rw [va_up_ne _ _ (by omega), va_up_ne _ _ (by omega)]
      exact p5 q hq
    · simp (disch := omega) only [E0]
      rw [va_up_ne _ _ (by omega)]
      exact p6
    · simp (disch := omega) only [E0]
      rw [va_up_ne _ _ (by omega)]
      exact p7
  · refine ⟨_, c_und3 (X := X) (d := d) hm h10 h0 hk ha hb hc (by omega) (by omega), UG_trans (UG_wA (by omega)) (UG_wi (by omega)), by simp (disch := omega) only [E0], ?_⟩
    refine ⟨fun q hq => ?_, ?_, fun r hr => ?_, fun r hr z hz e q hq => ?_, fun q hq => ?_, ?_, ?_⟩
    · simp (disch := omega) only [E0]
      unfold va_up
      have p1q : sA s 0 i q = σ q := p1 q hq
      have p1u : sA s 0 i u = σ u := p1 u hu
      have p1v : sA s 0 i v = σ v := p1 v hv
      rw [p1q, p1u, p1v]
    · simp (disch := omega) only [E0]
      rw [va_up_ne _ _ (by omega), va_up_ne _ _ (by omega)]
      exact p2
    · simp (disch := omega) only [E0]
      rw [va_up_ne _ _ (by omega), va_up_ne _ _ (by omega)]
      exact p3 r hr
    · simp (disch := omega) only [E0]
      rw [va_up_ne _ _ (by omega), va_up_ne _ _ (by omega)] at e
      rw [va_up_ne _ _ (by omega), va_up_ne _ _ (by omega)]
      exact p4 r hr z hz e q hq
    · simp (disch := omega) only [E0]
      rw [va_up_ne _ _ (by omega), va_up_ne _ _ (by omega), va_up_ne _ _ (by omega), va_up_ne _ _ (by omega)]
      exact p5 q hq
    · simp (disch := omega) only [E0]
      rw [va_up_ne _ _ (by omega), va_up_ne _ _ (by omega)]
      exact p6
    · simp (disch := omega) only [E0]
      rw [va_up_ne _ _ (by omega), va_up_ne _ _ (by omega)]
      exact p7
  · have hz' : sA s 4 i r = nI z := (p3 r hr).trans hz
    have dO : ∀ q, q < 25 + 20 * r ∨ 25 + 20 * r + z ≤ q → del σ (25 + 20 * r) z p q = σ q := fun q hq => if_neg (by omega)
    refine ⟨_, c_und4 (X := X) (d := d) hm h10 h0 hk ha hb hc (by omega) hz' hz20 hpz, UG_trans (UG_wA (by omega)) (UG_trans (UG_wA (by omega)) (UG_wi (by omega))), by simp (disch := omega) only [E0], ?_⟩
    refine ⟨fun q hq => ?_, ?_, fun r1 hr1 => ?_, fun r1 hr1 z1 hz1 e q hq => ?_, fun q hq => ?_, ?_, ?_⟩
    · simp (disch := omega) only [E0]
      rw [va_up_ne _ _ (by omega), dO _ (by omega)]
      exact p1 q hq
    · simp (disch := omega) only [E0]
      rw [va_up_ne _ _ (by omega), dO _ (by omega)]
      exact p2
    · simp (disch := omega) only [E0]
      by_cases e1 : r1 = r
      · rw [e1, va_up_self, va_up_self]
      · rw [va_up_ne _ _ e1, va_up_ne _ _ (by omega), dO _ (by omega)]
        exact p3 r1 hr1
    · simp (disch := omega) only [E0]
      by_cases e1 : r1 = r
      · subst e1
        rw [va_up_self] at e
        have ez : z - 1 = z1 := (nI_eq (by omega) (by omega)).mp e
        rw [va_up_ne _ _ (by omega)]
        unfold del
        by_cases e3 : p ≤ q
        · rw [if_pos (by omega), if_pos (by omega)]
          have := p4 r1 hr z hz20 hz (q + 1) (by omega)
          rw [show 20 * r1 + (q + 1) = 20 * r1 + q + 1 by omega, show 25 + 20 * r1 + (q + 1) = 25 + 20 * r1 + q + 1 by omega] at this
          exact this
        · rw [if_neg (by omega), if_neg (by omega)]
          exact p4 r1 hr z hz20 hz q (by omega)
      · rw [va_up_ne _ _ (by omega), dO _ (by omega)] at e
        rw [va_up_ne _ _ (by omega), dO _ (by omega)]
        have := p4 r1 hr1 z1 hz1 e q hq
        unfold del
        rw [if_neg (by omega)]
        exact this
    · simp (disch := omega) only [E0]
      rw [va_up_ne _ _ (by omega), va_up_ne _ _ (by omega), dO _ (by omega), dO _ (by omega)]
      exact p5 q hq
    · simp (disch := omega) only [E0]
      rw [va_up_ne _ _ (by omega), dO _ (by omega)]
      exact p6
    · simp (disch := omega) only [E0]
      rw [va_up_ne _ _ (by omega), dO _ (by omega)]
      exact p7
  · have hz' : sA s 4 i r = nI z := (p3 r hr).trans hz
    have dO : ∀ q, q < 25 + 20 * r ∨ 25 + 20 * r + z < q → ins σ (25 + 20 * r) z p a q = σ q := fun q hq => by
      unfold ins
      rw [if_neg (by omega), if_neg (by omega)]
    refine ⟨_, c_und5 (X := X) (d := d) hm h10 h0 hk ha hb hc (by omega) hz' hz20 hpz, UG_trans (UG_wA (by omega)) (UG_trans (UG_wA (by omega)) (UG_wi (by omega))), by simp (disch := omega) only [E0], ?_⟩
    refine ⟨fun q hq => ?_, ?_, fun r1 hr1 => ?_, fun r1 hr1 z1 hz1 e q hq => ?_, fun q hq => ?_, ?_, ?_⟩
    · simp (disch := omega) only [E0]
      rw [va_up_ne _ _ (by omega), dO _ (by omega)]
      exact p1 q hq
    · simp (disch := omega) only [E0]
      rw [va_up_ne _ _ (by omega), dO _ (by omega)]
      exact p2
    · simp (disch := omega) only [E0]
      by_cases e1 : r1 = r
      · rw [e1, va_up_self, va_up_self]
      · rw [va_up_ne _ _ e1, va_up_ne _ _ (by omega), dO _ (by omega)]
        exact p3 r1 hr1
    · simp (disch := omega) only [E0]
      by_cases e1 : r1 = r
      · subst e1
        rw [va_up_self] at e
        have ez : z + 1 = z1 := (nI_eq (by omega) (by omega)).mp e
        rw [va_up_ne _ _ (by omega)]
        unfold ins
        by_cases e3 : p < q
        · rw [if_pos (by omega), if_pos (by omega)]
          have := p4 r1 hr z (by omega) hz (q - 1) (by omega)
          rw [show 20 * r1 + (q - 1) = 20 * r1 + q - 1 by omega, show 25 + 20 * r1 + (q - 1) = 25 + 20 * r1 + q - 1 by omega] at this
          exact this
        · by_cases e4 : q = p
          · rw [if_neg (by omega), if_pos (by omega), if_neg (by omega), if_pos (by omega)]
          · rw [if_neg (by omega), if_neg (by omega), if_neg (by omega), if_neg (by omega)]
            exact p4 r1 hr z (by omega) hz q (by omega)
      · rw [va_up_ne _ _ (by omega), dO _ (by omega)] at e
        have := p4 r1 hr1 z1 hz1 e q hq
        rw [va_up_ne _ _ (by omega)]
        unfold ins
        rw [if_neg (by omega), if_neg (by omega), if_neg (by omega), if_neg (by omega)]
        exact this
    · simp (disch := omega) only [E0]
      rw [va_up_ne _ _ (by omega), va_up_ne _ _ (by omega), dO _ (by omega), dO _ (by omega)]
      exact p5 q hq
    · simp (disch := omega) only [E0]
      rw [va_up_ne _ _ (by omega), dO _ (by omega)]
      exact p6
    · simp (disch := omega) only [E0]
      rw [va_up_ne _ _ (by omega), dO _ (by omega)]
      exact p7
  · refine ⟨_, c_und6 (X := X) (d := d) hm h10 h0 hk ha hb hc (by omega) (p2.trans hbm), UG_trans (UG_wi (by omega)) (UG_wi (by omega)), by simp (disch := omega) only [E0], ?_⟩
    refine ⟨fun q hq => ?_, ?_, fun r hr => ?_, fun r hr z hz e q hq => ?_, fun q hq => ?_, ?_, ?_⟩
    · simp (disch := omega) only [E0]
      rw [va_up_ne _ _ (by omega)]
      exact p1 q hq
    · simp (disch := omega) only [E0]
      rw [va_up_self]
    · simp (disch := omega) only [E0]
      rw [va_up_ne _ _ (by omega)]
      exact p3 r hr
    · simp (disch := omega) only [E0]
      rw [va_up_ne _ _ (by omega)] at e
      rw [va_up_ne _ _ (by omega)]
      exact p4 r hr z hz e q hq
    · simp (disch := omega) only [E0]
      rw [va_up_ne _ _ (by omega), va_up_ne _ _ (by omega)]
      exact p5 q hq
    · simp (disch := omega) only [E0]
      rw [va_up_ne _ _ (by omega)]
      exact p6
    · simp (disch := omega) only [E0]
      rw [va_up_ne _ _ (by omega)]
      exact p7
  · refine ⟨_, c_und7 (X := X) (d := d) hm h10 h0 hk ha hb hc (by omega), UG_trans (UG_wA (by omega)) (UG_trans (UG_wA (by omega)) (UG_wi (by omega))), by simp (disch := omega) only [E0], ?_⟩
    refine ⟨fun q hq => ?_, ?_, fun r hr => ?_, fun r hr z hz e q hq => ?_, fun q hq => ?_, ?_, ?_⟩
    · simp (disch := omega) only [E0]
      rw [va_up_ne _ _ (by omega), va_up_ne _ _ (by omega)]
      exact p1 q hq
    · simp (disch := omega) only [E0]
      rw [va_up_ne _ _ (by omega), va_up_ne _ _ (by omega)]
      exact p2
    · simp (disch := omega) only [E0]
      rw [va_up_ne _ _ (by omega), va_up_ne _ _ (by omega)]
      exact p3 r hr
    · simp (disch := omega) only [E0]
      rw [va_up_ne _ _ (by omega), va_up_ne _ _ (by omega)] at e
      rw [va_up_ne _ _ (by omega), va_up_ne _ _ (by omega)]
      exact p4 r hr z hz e q hq
    · simp (disch := omega) only [E0]
      constructor
      · rw [va_up_ne _ (j := 105 + q) _ (by omega)]
        by_cases e1 : q = u
        · rw [e1, va_up_self, va_up_self]
        · rw [va_up_ne _ _ e1, va_up_ne _ _ (by omega)]
          exact (p5 q hq).1
      · by_cases e1 : q = u
        · rw [e1, va_up_self, va_up_self]
        · rw [va_up_ne _ _ e1, va_up_ne _ _ (by omega), va_up_ne _ _ (by omega)]
          exact (p5 q hq).2
    · simp (disch := omega) only [E0]
      rw [va_up_ne _ _ (by omega), va_up_ne _ _ (by omega)]
      exact p6
    · simp (disch := omega) only [E0]
      rw [va_up_ne _ _ (by omega), va_up_ne _ _ (by omega)]
      exact p7
end UDC
