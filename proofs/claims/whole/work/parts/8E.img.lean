/-! Whole calls: image, restore. -/
theorem trun_cong {f g : Nat → Int} : ∀ k, (∀ q, q < k → f q = g q) → trun f k = trun g k
  | 0, _ => rfl
  | k + 1, h => by rw [trun, trun, trun_cong k (fun q hq => h q (by omega)), h k (by omega)]
theorem WL_cong {f g : Nat → Int32} {m : Nat} (h : WL f m) (e : ∀ q, q < m → g q = f q) : WL g m := by
  have c : ∀ k, k ≤ m → trun (fun q => (g q).toInt) k = trun (fun q => (f q).toInt) k := fun k hk => trun_cong k (fun q hq => by rw [e q (by omega)])
  exact ⟨fun k hk => by rw [c k hk]; exact h.1 k hk, fun h0 => by rw [c m (Nat.le_refl _)]; exact h.2 h0⟩
theorem PE_cong {n nr np : Nat} {I I' : Nat → Int32} {A A' : Nat → Nat → Int32} {σ : Nat → Int32} (h : PE n nr np I A σ) (hn : n ≤ 20) (hr : nr ≤ 4) (hp : np ≤ 8) (e : ∀ k, k < 10 → I' k = I k) (e0 : ∀ q, q < 20 → A' 0 q = A 0 q) (e1 : ∀ q, q < 8 → A' 1 q = A 1 q) (e2 : ∀ q, q < 8 → A' 2 q = A 2 q) (e3 : ∀ q, q < 80 → A' 3 q = A 3 q) (e4 : ∀ q, q < 4 → A' 4 q = A 4 q) : PE n nr np I' A' σ := by
  obtain ⟨a1, a2, a3, a4, a5, a6, a7⟩ := h
  exact ⟨fun k hk => (e0 k (by omega)).trans (a1 k hk), (e 6 (by omega)).trans a2, fun r hr => (e4 r (by omega)).trans (a3 r hr), fun r hr z hz h k hk => (e3 _ (by omega)).trans (a4 r hr z hz h k hk), fun q hq => ⟨(e1 q (by omega)).trans (a5 q hq).1, (e2 q (by omega)).trans (a5 q hq).2⟩, (e 4 (by omega)).trans a6, (e 5 (by omega)).trans a7⟩
/-- but for images two stores are one -/
def sI (s s' : ab_S) : Prop := (∀ k, k ≠ 11 → sz s' k = sz s k) ∧ st s' = st s ∧ (∀ k i, 9 < k ∨ i < 2 → si s' k i = si s k i) ∧ (∀ k, k ≠ 10 → k ≠ 11 → sa s' k = sa s k) ∧ (∀ k i, i < 2 → sA s' k i = sA s k i) ∧ sb s' = sb s ∧ sB s' = sB s ∧ sq s' 0 = sq s 0 ∧ sn s' 3 = sn s 3 ∧ sn s' 0 ≤ sn s 0 + 13 ∧ sn s' 1 ≤ sn s 1 + 1126
theorem pn_si {s : ab_S} {a t : Nat} : si (pn s a t) = si s := rfl
theorem pA_si {s : ab_S} {a : Nat} {F : Nat → Nat → Int32} : si (pA s a F) = si s := rfl
theorem pn_sA {s : ab_S} {a t : Nat} : sA (pn s a t) = sA s := rfl
theorem pi_sA {s : ab_S} {a : Nat} {F : Nat → Int32} : sA (pi s a F) = sA s := rfl
theorem pA_sn {s : ab_S} {a : Nat} {F : Nat → Nat → Int32} : sn (pA s a F) = sn s := rfl
theorem pi_sn {s : ab_S} {a : Nat} {F : Nat → Int32} : sn (pi s a F) = sn s := rfl
theorem pq_sn {s : ab_S} {a : Nat} {F : Nat → Option Nat} : sn (pq s a F) = sn s := rfl
theorem pi_far {u : ab_S} {F : Nat → Nat → Int32} {G : Nat → Int32} {t a : Nat} {v : Int32} (h : ∀ k i, i ≠ t → si u k i = F k i) (hG : G = F a) : ∀ k i, i ≠ t → si (pi u a (va_up G t v)) k i = F k i := fun k i hi => by
  show va_up (si u) a (va_up G t v) k i = F k i
  by_cases e : k = a
  · rw [e, va_up_self, va_up_ne _ _ hi, hG]
  · rw [va_up_ne _ _ e]
    exact h k i hi
theorem pA_far {u : ab_S} {F : Nat → Nat → Nat → Int32} {G : Nat → Nat → Int32} {t a : Nat} {v : Nat → Int32} (h : ∀ k i, i ≠ t → sA u k i = F k i) (hG : G = F a) : ∀ k i, i ≠ t → sA (pA u a (va_up G t v)) k i = F k i := fun k i hi => by
  show va_up (sA u) a (va_up G t v) k i = F k i
  by_cases e : k = a
  · rw [e, va_up_self, va_up_ne _ _ hi, hG]
  · rw [va_up_ne _ _ e]
    exact h k i hi
theorem pi_hi {u : ab_S} {F : Nat → Nat → Int32} {G : Nat → Int32} {a : Nat} (h : ∀ k, 9 < k → si u k = F k) (ha : a ≤ 9) : ∀ k, 9 < k → si (pi u a G) k = F k := fun k hk => by
  show va_up (si u) a G k = F k
  rw [va_up_ne _ _ (by omega)]
  exact h k hk
theorem newT_si {s : ab_S} {k i : Nat} (h : i ≠ sn s 2) : si (ab_newT s) k i = si s k i := by
  unfold ab_newT
  simp only [pn_si, pA_si]
  refine pi_far (F := si s) (t := sn s 2) ?_ rfl k i h
  refine pi_far (F := si s) (t := sn s 2) ?_ rfl
  refine pi_far (F := si s) (t := sn s 2) ?_ rfl
  refine pi_far (F := si s) (t := sn s 2) ?_ rfl
  refine pi_far (F := si s) (t := sn s 2) ?_ rfl
  refine pi_far (F := si s) (t := sn s 2) ?_ rfl
  refine pi_far (F := si s) (t := sn s 2) ?_ rfl
  refine pi_far (F := si s) (t := sn s 2) ?_ rfl
  refine pi_far (F := si s) (t := sn s 2) ?_ rfl
  refine pi_far (F := si s) (t := sn s 2) ?_ rfl
  exact fun _ _ _ => rfl
theorem newT_si9 {s : ab_S} {k : Nat} (h : 9 < k) : si (ab_newT s) k = si s k := by
  unfold ab_newT
  simp only [pn_si, pA_si]
  refine pi_hi (F := si s) ?_ (by omega) k h
  refine pi_hi (F := si s) ?_ (by omega)
  refine pi_hi (F := si s) ?_ (by omega)
  refine pi_hi (F := si s) ?_ (by omega)
  refine pi_hi (F := si s) ?_ (by omega)
  refine pi_hi (F := si s) ?_ (by omega)
  refine pi_hi (F := si s) ?_ (by omega)
  refine pi_hi (F := si s) ?_ (by omega)
  refine pi_hi (F := si s) ?_ (by omega)
  refine pi_hi (F := si s) ?_ (by omega)
  exact fun _ _ => rfl
theorem newT_sA {s : ab_S} {k i : Nat} (h : i ≠ sn s 2) : sA (ab_newT s) k i = sA s k i := by
  unfold ab_newT
  simp only [pn_sA]
  refine pA_far (F := sA s) (t := sn s 2) ?_ rfl k i h
  refine pA_far (F := sA s) (t := sn s 2) ?_ rfl
  refine pA_far (F := sA s) (t := sn s 2) ?_ rfl
  refine pA_far (F := sA s) (t := sn s 2) ?_ rfl
  refine pA_far (F := sA s) (t := sn s 2) ?_ rfl
  refine pA_far (F := sA s) (t := sn s 2) ?_ rfl
  refine pA_far (F := sA s) (t := sn s 2) ?_ rfl
  refine pA_far (F := sA s) (t := sn s 2) ?_ rfl
  refine pA_far (F := sA s) (t := sn s 2) ?_ rfl
  exact fun k i _ => by simp only [pi_sA]
theorem newT_sn {s : ab_S} : sn (ab_newT s) 0 = sn s 0 + 13 ∧ sn (ab_newT s) 1 = sn s 1 + 1126 ∧ sn (ab_newT s) 2 = sn s 2 + 1 ∧ sn (ab_newT s) 3 = sn s 3 := by
  unfold ab_newT
  refine ⟨?_, ?_, ?_, ?_⟩ <;> simp (disch := omega) only [E0, pA_sn, pi_sn]
theorem pn_sz {s : ab_S} {a t : Nat} : sz (pn s a t) = sz s := rfl
theorem pA_sz {s : ab_S} {a : Nat} {F : Nat → Nat → Int32} : sz (pA s a F) = sz s := rfl
theorem pi_sz {s : ab_S} {a : Nat} {F : Nat → Int32} : sz (pi s a F) = sz s := rfl
theorem pn_st {s : ab_S} {a t : Nat} : st (pn s a t) = st s := rfl
theorem pA_st {s : ab_S} {a : Nat} {F : Nat → Nat → Int32} : st (pA s a F) = st s := rfl
theorem pi_st {s : ab_S} {a : Nat} {F : Nat → Int32} : st (pi s a F) = st s := rfl
theorem pn_sa {s : ab_S} {a t : Nat} : sa (pn s a t) = sa s := rfl
theorem pA_sa {s : ab_S} {a : Nat} {F : Nat → Nat → Int32} : sa (pA s a F) = sa s := rfl
theorem pi_sa {s : ab_S} {a : Nat} {F : Nat → Int32} : sa (pi s a F) = sa s := rfl
theorem pn_sb {s : ab_S} {a t : Nat} : sb (pn s a t) = sb s := rfl
theorem pA_sb {s : ab_S} {a : Nat} {F : Nat → Nat → Int32} : sb (pA s a F) = sb s := rfl
theorem pi_sb {s : ab_S} {a : Nat} {F : Nat → Int32} : sb (pi s a F) = sb s := rfl
theorem pn_sB {s : ab_S} {a t : Nat} : sB (pn s a t) = sB s := rfl
theorem pA_sB {s : ab_S} {a : Nat} {F : Nat → Nat → Int32} : sB (pA s a F) = sB s := rfl
theorem pi_sB {s : ab_S} {a : Nat} {F : Nat → Int32} : sB (pi s a F) = sB s := rfl
theorem pn_sq {s : ab_S} {a t : Nat} : sq (pn s a t) = sq s := rfl
theorem pA_sq {s : ab_S} {a : Nat} {F : Nat → Nat → Int32} : sq (pA s a F) = sq s := rfl
theorem pi_sq {s : ab_S} {a : Nat} {F : Nat → Int32} : sq (pi s a F) = sq s := rfl
theorem newT_sz {s : ab_S} : sz (ab_newT s) = sz s := by
  unfold ab_newT
  simp only [pn_sz, pA_sz, pi_sz]
theorem newT_st {s : ab_S} : st (ab_newT s) = st s := by
  unfold ab_newT
  simp only [pn_st, pA_st, pi_st]
theorem newT_sa {s : ab_S} : sa (ab_newT s) = sa s := by
  unfold ab_newT
  simp only [pn_sa, pA_sa, pi_sa]
theorem newT_sb {s : ab_S} : sb (ab_newT s) = sb s := by
  unfold ab_newT
  simp only [pn_sb, pA_sb, pi_sb]
theorem newT_sB {s : ab_S} : sB (ab_newT s) = sB s := by
  unfold ab_newT
  simp only [pn_sB, pA_sB, pi_sB]
theorem newT_sq {s : ab_S} : sq (ab_newT s) = sq s := by
  unfold ab_newT
  simp only [pn_sq, pA_sq, pi_sq]
theorem pq_rest {s : ab_S} {a : Nat} {F : Nat → Option Nat} : sz (pq s a F) = sz s ∧ st (pq s a F) = st s ∧ si (pq s a F) = si s ∧ sa (pq s a F) = sa s ∧ sA (pq s a F) = sA s ∧ sb (pq s a F) = sb s ∧ sB (pq s a F) = sB s ∧ sn (pq s a F) = sn s ∧ sq (pq s a F) = va_up (sq s) a F := ⟨rfl, rfl, rfl, rfl, rfl, rfl, rfl, rfl, rfl⟩
theorem FR.D {s s' : ab_S} {i : Nat} (hi : i ≤ 1) (h : FR s s' i) : sD s s' := by
  obtain ⟨a1, a2, a3, a4, a5, a6, a7, a8, a9, b1, b2⟩ := h
  exact ⟨fun _ _ _ _ _ _ _ => by rw [a1], a3, fun k q h => by
    by_cases e : 10 ≤ k
    · rw [b1 k e]
    · exact a9 k q (by omega), fun _ _ => by rw [a4], fun k q h => b2 k q (by omega), by rw [a5], a6, a7, a8⟩
theorem pa_self {v : ab_S} {G : Nat → Int32} {k : Nat} (h : sa v k = G) : pa v k G = v := by
  rw [← h]
  exact pa_id v k
abbrev MovST (s : ab_S) : Nat → Nat := st s
section IMG
variable {X : (Nat → Int32) × Nat} {d k n nr bm np hs ml m : Nat} {u5 u6 : Option ab_V} {s s' : ab_S} {nm z lo li : Nat → Nat} {st : Nat → Nat → Nat} {by' g g' : Nat → Int32}
/-- a town taken over -/
theorem CW.take {i j : Nat} (h : CW s j g n nr np hs ml m by' nm z st bm lo li) (f : ∀ k, k < 10 → si s' k i = si s k j) (f0 : ∀ q, q < 20 → sA s' 0 i q = sA s 0 j q) (f1 : ∀ q, q < 8 → sA s' 1 i q = sA s 1 j q) (f2 : ∀ q, q < 8 → sA s' 2 i q = sA s 2 j q) (f3 : ∀ q, q < 80 → sA s' 3 i q = sA s 3 j q) (f4 : ∀ q, q < 4 → sA s' 4 i q = sA s 4 j q) (f5 : ∀ q, q < 4 → sA s' 5 i q = sA s 5 j q) (f6 : ∀ q, q < ml → sA s' 6 i q = sA s 6 j q) (f8 : ∀ q, q < 40 → sA s' 8 i q = sA s 8 j q) : CW s' i g n nr np hs ml m by' nm z st bm lo li := by
  obtain ⟨⟨k1, k2, k3, k4, k5, k6, k7, k8⟩, hGC, ⟨b1, b2, b3⟩, c, ⟨l1, l2, l3, l4, l5⟩, w, p, d1, d2, d3⟩ := h
  have h10 : m ≤ 10 := d3.1
  refine ⟨⟨(f 1 (by omega)).trans k1, k2, (f 7 (by omega)).trans k3, k4, (f 3 (by omega)).trans k5, k6, fun r hr => (f5 r (by omega)).trans (k7 r hr), k8⟩, hGC, ⟨(f 2 (by omega)).trans b1, b2, b3⟩, (f 0 (by omega)).trans c, ⟨(f 8 (by omega)).trans l1, l2, l3, WL_cong l4 f6, fun q hq => by rw [f6 q hq]; exact l5 q hq⟩, w, PE_cong p k2 k4 k6 f f0 f1 f2 f3 f4, (f 9 (by omega)).trans d1, d2, d3.same (fun q hq => f8 q (by omega)) (fun _ _ _ => rfl)⟩
/-- a row that is the same where it counts -/
theorem CW.row {i : Nat} (h : CW s i g n nr np hs ml m by' nm z st bm lo li) (e : ∀ t, t < 2300 → g' t = g t) : CW s i g' n nr np hs ml m by' nm z st bm lo li := by
  obtain ⟨k1, ⟨g1, g2, g3, g4⟩, ⟨b1, b2, b3⟩, c, ⟨l1, l2, l3, l4, l5⟩, w, p, d1, d2, d3⟩ := h
  have es : st_ g' 11 = st_ g 11 := st_cong (fun t ht => e _ (by omega))
  have h4 : nr ≤ 4 := k1.2.2.2.1
  refine ⟨k1, ⟨(e _ (by omega)).trans g1, (e _ (by omega)).trans g2, (e _ (by omega)).trans g3, fun r hr => (e _ (by omega)).trans (g4 r hr)⟩, ⟨b1, (e _ (by omega)).trans b2, b3⟩, c.trans (e _ (by omega)).symm, ⟨l1, (e _ (by omega)).trans l2, l3, l4, fun q hq => ?_⟩, by rw [es]; exact w, by rw [es]; exact p, d1, (e _ (by omega)).trans d2, d3.same (fun _ _ => rfl) (fun t h1 h2 => e _ (by omega))⟩
  obtain ⟨a1, a2, a3⟩ := l5 q hq
  exact ⟨a1, a2, (e _ (by omega)).trans a3⟩
/-- an image, as both hold it -/
def IMk (s : ab_S) (j : Nat) : Prop := (sq s 1 j = none ∧ sa s 11 j = nI 0) ∨ ∃ t, sq s 1 j = some t ∧ 2 ≤ t ∧ t < sn s 2 ∧ sa s 11 j = nI 1 ∧ ∃ (n nr np hs ml m : Nat) (by' : Nat → Int32) (nm z : Nat → Nat) (st : Nat → Nat → Nat) (bm : Nat) (lo li : Nat → Nat), CW s t (fun q => sa s 10 (2300 * j + q)) n nr np hs ml m by' nm z st bm lo li
def IM (s : ab_S) : Prop := 2 ≤ sn s 2 ∧ (∀ j, j < 3 → IMk s j) ∧ ∀ j j' t, j < 3 → j' < 3 → sq s 1 j = some t → sq s 1 j' = some t → j = j'
theorem IM.same (h : IM s) (h1 : sq s' 1 = sq s 1) (h2 : sn s' 2 = sn s 2) (h3 : sa s' 10 = sa s 10) (h4 : sa s' 11 = sa s 11) (h5 : ∀ k i, 2 ≤ i → k < 10 → si s' k i = si s k i) (h6 : ∀ k i, 2 ≤ i → k ≠ 7 → sA s' k i = sA s k i) : IM s' := by
  obtain ⟨a, b, c⟩ := h
  refine ⟨by rw [h2]; exact a, fun j hj => ?_, by rw [h1]; exact c⟩
  rcases b j hj with ⟨q1, q2⟩ | ⟨t, q1, q2, q3, q4, n, nr, np, hs, ml, m, by', nm, z, st, bm, lo, li, q5⟩
  · exact Or.inl ⟨by rw [h1]; exact q1, by rw [h4]; exact q2⟩
  · refine Or.inr ⟨t, by rw [h1]; exact q1, q2, by rw [h2]; exact q3, by rw [h4]; exact q4, n, nr, np, hs, ml, m, by', nm, z, st, bm, lo, li, ?_⟩
    rw [h3]
    have e := fun k (hk : k ≠ 7) => h6 k t q2 hk
    exact q5.take (fun k hk => h5 k t q2 hk) (fun q _ => by rw [e 0 (by omega)]) (fun q _ => by rw [e 1 (by omega)]) (fun q _ => by rw [e 2 (by omega)]) (fun q _ => by rw [e 3 (by omega)]) (fun q _ => by rw [e 4 (by omega)]) (fun q _ => by rw [e 5 (by omega)]) (fun q _ => by rw [e 6 (by omega)]) (fun q _ => by rw [e 8 (by omega)])
theorem l357 {j : Nat} (hj : j < 3) {G0 : Nat → Int32} : ∀ (i c : Nat) (G : Nat → Int32), c + i = 2300 → (∀ q, G q = if 2300 * j ≤ q ∧ q < 2300 * j + c then sa s 8 (q - 2300 * j) else G0 q) → ab_at X (d + 1) 357 38 [some (.inr (9, 0)), some (.inl (.int (nI j))), some (.inl (.int (nI c)))] [] (pa s 10 G) = some (.inl none, pa s 10 (fun q => if 2300 * j ≤ q ∧ q < 2300 * j + 2300 then sa s 8 (q - 2300 * j) else G0 q))
  | 0, c, G, e, hG => by
    obtain rfl : c = 2300 := by omega
    rw [b357_38, if_pos (nI_le (Nat.le_refl _) (by omega)), funext hG]
  | i + 1, c, G, e, hG => by
    rw [b357_38, if_neg (nI_ge (by omega) (by omega)), r_in (j := c) (by omega) (by decide), pk_mul, nI_add, r_in (j := 2300 * j + c) (by omega) (by decide), nI_clamp (by omega), nI_clamp (by omega), nI_add]
    simp (disch := omega) only [E0, E1]
    refine l357 hj i (c + 1) _ (by omega) (fun q => ?_)
    by_cases e1 : q = 2300 * j + c
    · rw [e1, va_up_self, if_pos (by omega), Nat.add_sub_cancel_left]
    · rw [va_up_ne _ _ e1, hG q]
      by_cases e2 : 2300 * j ≤ q ∧ q < 2300 * j + c
      · rw [if_pos e2, if_pos (by omega)]
      · rw [if_neg e2, if_neg (by omega)]
theorem l358 {j : Nat} (hj : j < 3) {G0 : Nat → Int32} : ∀ (i c : Nat) (G : Nat → Int32), c + i = 2300 → (∀ q, G q = if q < c then sa s 10 (2300 * j + q) else G0 q) → ab_at X (d + 1) 358 44 [some (.inr (9, 0)), some (.inl (.int (nI j))), some (.inl (.int (nI c)))] [] (pa s 8 G) = some (.inl none, pa s 8 (fun q => if q < 2300 then sa s 10 (2300 * j + q) else G0 q))
  | 0, c, G, e, hG => by
    obtain rfl : c = 2300 := by omega
    rw [b358_44, if_pos (nI_le (Nat.le_refl _) (by omega)), funext hG]
  | i + 1, c, G, e, hG => by
    rw [b358_44, if_neg (nI_ge (by omega) (by omega)), pk_mul, nI_add, r_in (j := 2300 * j + c) (by omega) (by decide), r_in (j := c) (by omega) (by decide), nI_clamp (by omega), nI_clamp (by omega), nI_add]
    simp (disch := omega) only [E0, E1]
    refine l358 hj i (c + 1) _ (by omega) (fun q => ?_)
    by_cases e1 : q = c
    · rw [e1, va_up_self, if_pos (by omega)]
    · rw [va_up_ne _ _ e1, hG q]
      by_cases e2 : q < c
      · rw [if_pos e2, if_pos (by omega)]
      · rw [if_neg e2, if_neg (by omega)]
/-- the store behind an image taken by both -/
def imS (u : ab_S) (j : Nat) : ab_S := pa (pa (pz u 11 (nI 0)) 11 (va_up (sa u 11) j (nI 1))) 10 (fun q => if 2300 * j ≤ q ∧ q < 2300 * j + 2300 then sa u 8 (q - 2300 * j) else sa u 10 q)
theorem im_end {u : ab_S} {j t : Nat} (hI : IM s) (hW : CW s 0 (sa s 8) n nr np hs ml m by' nm z st bm lo li) (hj : j < 3) (h1 : sz u = sz s) (h2 : MovST u = MovST s) (h3 : ∀ k i, i ≠ t → si u k i = si s k i) (h3' : ∀ k, 9 < k → si u k = si s k) (h4 : sa u = sa s) (h5 : ∀ k i, i ≠ t → sA u k i = sA s k i) (h6 : sb u = sb s) (h7 : sB u = sB s) (h8 : sq u 0 = sq s 0) (h9 : sq u 1 = va_up (sq s 1) j (some t)) (hA : sn u 3 = sn s 3) (hB : sn u 0 ≤ sn s 0 + 13) (hC : sn u 1 ≤ sn s 1 + 1126) (hD : t < sn u 2) (hE : sn s 2 ≤ sn u 2) (ht : 2 ≤ t) (hU : ∀ j', j' < 3 → j' ≠ j → sq s 1 j' ≠ some t) : ∃ s1 : ab_S, ab_ev X (d + 3) 80 [.inr (2, t), .inr (2, 0)] u = some (.inl none, s1) ∧ sa s1 = sa s ∧ sI s (imS s1 j) ∧ IM (imS s1 j) := by
  have hW1 : CW u 0 (sa s 8) n nr np hs ml m by' nm z st bm lo li := hW.same (fun k => h3 k 0 (by omega)) (fun k _ => h5 k 0 (by omega))
  obtain ⟨s1, g0, hF, g, f0, f1, f2, f3, f4, f5, f6, f8⟩ := c_takeOver (X := X) (d := d) (s := u) (i := t) (j := 0) (ml := ml) (by omega) hW1.2.2.2.2.1.1 hW1.2.2.2.2.1.2.2.1
  have hW2 : CW s1 t (sa s 8) n nr np hs ml m by' nm z st bm lo li := hW1.take g f0 f1 f2 f3 f4 f5 f6 f8
  obtain ⟨a1, a2, a3, a4, a5, a6, a7, a8, a9, b1, b2⟩ := hF
  refine ⟨s1, g0, a4.trans h4, ?_, ?_⟩
  · obtain ⟨w, hw⟩ : ∃ w, w = imS s1 j := ⟨_, rfl⟩
    rw [← hw]
    refine ⟨fun k hk => ?_, ?_, fun k i hki => ?_, fun k h10 h11 => ?_, fun k i hi => ?_, ?_, ?_, ?_, ?_, ?_, ?_⟩
    · rw [hw]
      unfold imS
      simp (disch := omega) only [E0]
      rw [a1, h1]
    · rw [hw]
      exact a3.trans h2
    · rw [hw]
      show si s1 k i = _
      by_cases e : 9 < k
      · rw [b1 k (by omega), h3' k e]
      · rw [a9 k i (by omega)]
        exact h3 k i (by omega)
    · rw [hw]
      unfold imS
      simp (disch := omega) only [E0]
      rw [a4, h4]
    · rw [hw]
      show sA s1 k i = _
      rw [b2 k i (by omega)]
      exact h5 k i (by omega)
    · rw [hw]
      exact a5.trans h6
    · rw [hw]
      exact a6.trans h7
    · rw [hw]
      show sq s1 0 = _
      rw [a7, h8]
    · rw [hw]
      show sn s1 3 = _
      rw [a8, hA]
    · rw [hw]
      show sn s1 0 ≤ _
      rw [a8]
      exact hB
    · rw [hw]
      show sn s1 1 ≤ _
      rw [a8]
      exact hC
  · obtain ⟨i1, i2, i3⟩ := hI
    have e10 : sa (imS s1 j) 10 = fun q => if 2300 * j ≤ q ∧ q < 2300 * j + 2300 then sa s 8 (q - 2300 * j) else sa s 10 q := by
      unfold imS
      simp (disch := omega) only [E0]
      rw [a4, h4]
    have e11 : sa (imS s1 j) 11 = va_up (sa s 11) j (nI 1) := by
      unfold imS
      simp (disch := omega) only [E0]
      rw [a4, h4]
    have eq1 : sq (imS s1 j) 1 = va_up (sq s 1) j (some t) := by
      show sq s1 1 = _
      rw [a7, h9]
    have esi : si (imS s1 j) = si s1 := rfl
    have esA : sA (imS s1 j) = sA s1 := rfl
    have en2 : sn (imS s1 j) 2 = sn u 2 := by
      show sn s1 2 = _
      rw [a8]
    refine ⟨by rw [en2]; omega, fun j' hj' => ?_, fun i i' t' hi hi' e e' => ?_⟩
    · by_cases ej : j' = j
      · rw [ej]
        refine Or.inr ⟨t, by rw [eq1, va_up_self], ht, by rw [en2]; exact hD, by rw [e11, va_up_self], n, nr, np, hs, ml, m, by', nm, z, st, bm, lo, li, ?_⟩
        rw [e10]
        have hW3 : CW (imS s1 j) t (sa s 8) n nr np hs ml m by' nm z st bm lo li := hW2.same (fun k => by rw [esi]) (fun k _ => by rw [esA])
        refine hW3.row (fun q hq => ?_)
        show (if 2300 * j ≤ 2300 * j + q ∧ 2300 * j + q < 2300 * j + 2300 then _ else _) = _
        rw [if_pos (by omega), Nat.add_sub_cancel_left]
      · rcases i2 j' hj' with ⟨q1, q2⟩ | ⟨t', q1, q2, q3, q4, n', nr', np', hs', ml', m', by2, nm', z', st', bm', lo', li', q5⟩
        · exact Or.inl ⟨by rw [eq1, va_up_ne _ _ ej]; exact q1, by rw [e11, va_up_ne _ _ ej]; exact q2⟩
        · have et : t' ≠ t := fun z => hU j' hj' ej (by rw [q1, z])
          refine Or.inr ⟨t', by rw [eq1, va_up_ne _ _ ej]; exact q1, q2, by rw [en2]; omega, by rw [e11, va_up_ne _ _ ej]; exact q4, n', nr', np', hs', ml', m', by2, nm', z', st', bm', lo', li', ?_⟩
          rw [e10]
          have hW3 : CW (imS s1 j) t' (fun q => sa s 10 (2300 * j' + q)) n' nr' np' hs' ml' m' by2 nm' z' st' bm' lo' li' := q5.same (fun k => by rw [esi, a9 k t' et]; exact h3 k t' et) (fun k _ => by rw [esA, b2 k t' et]; exact h5 k t' et)
          refine hW3.row (fun q hq => ?_)
          show (if 2300 * j ≤ 2300 * j' + q ∧ 2300 * j' + q < 2300 * j + 2300 then _ else _) = _
          rw [if_neg (by omega)]
    · rw [eq1] at e e'
      by_cases z : i = j
      · by_cases z' : i' = j
        · rw [z, z']
        · rw [z, va_up_self] at e
          rw [va_up_ne _ _ z'] at e'
          exact absurd (e'.trans e.symm) (hU i' hi' z')
      · rw [va_up_ne _ _ z] at e
        by_cases z' : i' = j
        · rw [z', va_up_self] at e'
          exact absurd (e.trans e'.symm) (hU i hi z)
        · rw [va_up_ne _ _ z'] at e'
          exact i3 i i' t' hi hi' e e'
theorem c_thr {s : ab_S} : pn (pn s 0 ((sn s 0) + 1)) 1 ((sn s 1) + 6) = ths s := rfl
theorem inS_lt {x : Int32} {N : Nat} (hN : N < 2 ^ 31) (h : ¬ inS x N = true) {A B C : ab_R} (hA : A = C) : (if x < nI 0 then A else if x < nI N then B else C) = C := by
  have i_0 : (nI 0).toInt = 0 := by decide
  by_cases q : x < nI 0
  · rw [if_pos q, hA]
  · rw [if_neg q]
    by_cases q2 : x < nI N
    · refine absurd (inS_def.mpr ⟨?_, ?_⟩) h
      · have : ¬ x.toInt < 0 := fun z => q (Int32.lt_iff_toInt_lt.mpr (by rw [i_0]; exact z))
        omega
      · have := Int32.lt_iff_toInt_lt.mp q2
        rw [nI_toInt hN] at this
        exact this
    · rw [if_neg q2]
theorem o225 (h : CW s 0 (sa s 8) n nr np hs ml m by' nm z st bm lo li) (hI : IM s) (hk : k + 5 < X.2) (hX : X.2 < 2 ^ 31) : ∃ (s2 : ab_S) (v5 v6 : Option ab_V), (sY s s2 ∨ (sI s s2 ∧ IM s2)) ∧ ab_at X (d + 31) 360 3114 [some (.inr (14, 0)), some (.inr (0, 0)), some (.inr (9, 0)), some (.inr (15, 0)), some (.inl (.int (nI k))), u5, u6, none] [] s = ab_at X (d + 31) 360 23 [some (.inr (14, 0)), some (.inr (0, 0)), some (.inr (9, 0)), some (.inr (15, 0)), some (.inl (.int (nI (k + 6)))), v5, v6, none] [] s2 := by
  have j_0 : (lN 0).toInt = 0 := by decide
  have j_2 : (lN 2).toInt = 2 := by decide
  by_cases h1 : inS (X.1 (k + 1)) 3 = true
  rotate_left
  · have cc : ab_ev X (d + 30) 225 [.inr (0, 0), .inl (.int (X.1 (k + 1)))] s = some (.inl (some (.inl (.int (nI 1)))), ths s) := by
      rw [b225, b226, c_thr, inS_lt (by omega) h1 rfl, e_xU]
      rfl
    have h1' : ¬ inR (X.1 (k + 1)).toInt 0 2 = true := fun z => h1 (inS_def.mpr (by have := inR_iff.mp z; omega))
    have r : ab_ev X (d + 30) 357 [.inr (9, 0), .inl (.int (X.1 (k + 1)))] (ths s) = some (.inl none, pz (ths s) 11 (nI 1)) := by
      rw [b357, r232, j_of, j_0, j_2, if_neg h1', e_bI, if_pos rfl]
    exact ⟨_, _, _, Or.inl (Or.inr (sV_pz (by omega)).X), w3114 hk hX cc r rfl⟩
  obtain ⟨j, hj, ej⟩ := inS_rep h1
  have h1' : inR (X.1 (k + 1)).toInt 0 2 = true := inR_iff.mpr (by have := inS_def.mp h1; omega)
  have p1 : ¬ nI j < nI 0 := n_nlt0 (by omega)
  have p2 : nI j < nI 3 := nI_lt (by omega) (by omega)
  have p4 : (nI j).toNatClampNeg = j := nI_clamp (by omega)
  have fin : ∀ s1 : ab_S, ab_ev X (d + 30) 225 [.inr (0, 0), .inl (.int (X.1 (k + 1)))] s = some (.inl (some (.inl (.int (nI 0)))), s1) → sI s (imS s1 j) ∧ IM (imS s1 j) → ∃ (s2 : ab_S) (v5 v6 : Option ab_V), (sY s s2 ∨ (sI s s2 ∧ IM s2)) ∧ ab_at X (d + 31) 360 3114 [some (.inr (14, 0)), some (.inr (0, 0)), some (.inr (9, 0)), some (.inr (15, 0)), some (.inl (.int (nI k))), u5, u6, none] [] s = ab_at X (d + 31) 360 23 [some (.inr (14, 0)), some (.inr (0, 0)), some (.inr (9, 0)), some (.inr (15, 0)), some (.inl (.int (nI (k + 6)))), v5, v6, none] [] s2 := by
    intro s1 cc hE
    have l := l357 (X := X) (d := d + 29) (s := pa (pz s1 11 (nI 0)) 11 (va_up (sa s1 11) j (nI 1))) (G0 := sa s1 10) hj 2300 0 (sa s1 10) (by omega) (fun q => by rw [if_neg (by omega)])
    rw [show pa (pa (pz s1 11 (nI 0)) 11 (va_up (sa s1 11) j (nI 1))) 10 (sa s1 10) = pa (pz s1 11 (nI 0)) 11 (va_up (sa s1 11) j (nI 1)) from pa_self rfl] at l
    have r : ab_ev X (d + 30) 357 [.inr (9, 0), .inl (.int (X.1 (k + 1)))] s1 = some (.inl none, imS s1 j) := by
      rw [b357, r232, j_of, j_0, j_2, if_pos h1', e_bI, if_neg (show ¬ nI 1 = nI 0 by decide), ej, p4, r_inc (by omega) (by decide)]
      exact l
    exact ⟨_, _, _, Or.inr hE, w3114 hk hX cc r rfl⟩
  rcases hI.2.1 j hj with ⟨q1, q2⟩ | ⟨t, q1, q2, q3, q4, -⟩
  · obtain ⟨u, hu⟩ : ∃ u, u = pq (ab_newT s) 1 (va_up (sq (ab_newT s) 1) j (some (sn s 2))) := ⟨_, rfl⟩
    obtain ⟨y1, y2, y3, y4, y5, y6, y7, y8, y9⟩ := pq_rest (s := ab_newT s) (a := 1) (F := va_up (sq (ab_newT s) 1) j (some (sn s 2)))
    rw [← hu] at y1 y2 y3 y4 y5 y6 y7 y8 y9
    obtain ⟨n0, n1, n2, n3⟩ := newT_sn (s := s)
    rw [← y8] at n0 n1 n2 n3
    obtain ⟨s1, g0, g1, g2⟩ := im_end (X := X) (d := d + 25) (u := u) (t := sn s 2) hI h hj (y1.trans newT_sz) (y2.trans newT_st) (fun k i hi => by rw [y3]; exact newT_si hi) (fun k hk => by rw [y3]; exact newT_si9 hk) (y4.trans newT_sa) (fun k i hi => by rw [y5]; exact newT_sA hi) (y6.trans newT_sb) (y7.trans newT_sB) (by rw [y9, va_up_ne _ _ (by omega), newT_sq]) (by rw [y9, va_up_self, newT_sq]) n3 (by omega) (by omega) (by omega) (by omega) hI.1 (fun j' hj' e e2 => by
      rcases hI.2.1 j' hj' with ⟨r1, r2⟩ | ⟨t, r1, r2, r3, -⟩
      · rw [r1] at e2
        cases e2
      · rw [r1] at e2
        cases e2
        omega)
    refine fin s1 ?_ g2
    rw [b225, b226, ej, if_neg p1, if_pos p2, p4, q1, e_oqN, r_inc (by omega) (by decide), r_inc (by omega) (by decide), ← hu, g0, e_bU, e_bU]
  · obtain ⟨s1, g0, g1, g2⟩ := im_end (X := X) (d := d + 25) (u := s) (t := t) hI h hj rfl rfl (fun _ _ _ => rfl) (fun _ _ => rfl) rfl (fun _ _ _ => rfl) rfl rfl rfl (funext fun q => by
      by_cases e : q = j
      · rw [e, va_up_self, q1]
      · rw [va_up_ne _ _ e]) rfl (by omega) (by omega) q3 (by omega) q2 (fun j' hj' e e2 => e (hI.2.2 j' j t hj' hj e2 q1))
    refine fin s1 ?_ g2
    rw [b225, b226, ej, if_neg p1, if_pos p2, p4, q1, e_oqS, r_inc (by omega) (by decide), g0, e_bU, e_bU]
theorem o227 (hI : IM s) (hk : k + 5 < X.2) (hX : X.2 < 2 ^ 31) : ∃ (s2 : ab_S) (v5 v6 : Option ab_V), sZ s s2 ∧ ab_at X (d + 31) 360 3150 [some (.inr (14, 0)), some (.inr (0, 0)), some (.inr (9, 0)), some (.inr (15, 0)), some (.inl (.int (nI k))), u5, u6, none] [] s = ab_at X (d + 31) 360 23 [some (.inr (14, 0)), some (.inr (0, 0)), some (.inr (9, 0)), some (.inr (15, 0)), some (.inl (.int (nI (k + 6)))), v5, v6, none] [] s2 := by
  have j_0 : (lN 0).toInt = 0 := by decide
  have j_2 : (lN 2).toInt = 2 := by decide
  by_cases h1 : inS (X.1 (k + 1)) 3 = true
  rotate_left
  · have cc : ab_ev X (d + 30) 227 [.inr (0, 0), .inl (.int (X.1 (k + 1)))] s = some (.inl (some (.inl (.int (nI 1)))), ths s) := by
      rw [b227, b228, c_thr, inS_lt (by omega) h1 rfl, e_xU]
      rfl
    have h1' : ¬ inR (X.1 (k + 1)).toInt 0 2 = true := fun z => h1 (inS_def.mpr (by have := inR_iff.mp z; omega))
    have r : ab_ev X (d + 30) 358 [.inr (9, 0), .inl (.int (X.1 (k + 1)))] (ths s) = some (.inl none, pz (ths s) 11 (nI 1)) := by
      rw [b358, r232, j_of, j_0, j_2, if_neg h1', e_bI, if_pos rfl]
    exact ⟨_, _, _, Or.inl (Or.inr (sV_pz (by omega)).X), w3150 hk hX cc r rfl⟩
  obtain ⟨j, hj, ej⟩ := inS_rep h1
  have h1' : inR (X.1 (k + 1)).toInt 0 2 = true := inR_iff.mpr (by have := inS_def.mp h1; omega)
  have p1 : ¬ nI j < nI 0 := n_nlt0 (by omega)
  have p2 : nI j < nI 3 := nI_lt (by omega) (by omega)
  have p4 : (nI j).toNatClampNeg = j := nI_clamp (by omega)
  rcases hI.2.1 j hj with ⟨q1, q2⟩ | ⟨t, q1, q2, q3, q4, n, nr, np, hs, ml, m, by', nm, z, st, bm, lo, li, q5⟩
  · have cc : ab_ev X (d + 30) 227 [.inr (0, 0), .inl (.int (X.1 (k + 1)))] s = some (.inl (some (.inl (.int (nI 2)))), ths s) := by
      rw [b227, b228, ej, if_neg p1, if_pos p2, p4, q1, e_oqN, r_inc (by omega) (by decide), c_thr, e_xU]
      rfl
    have r : ab_ev X (d + 30) 358 [.inr (9, 0), .inl (.int (X.1 (k + 1)))] (ths s) = some (.inl none, pz (ths s) 11 (nI 2)) := by
      have q2' : sa (ths s) 11 j = nI 0 := q2
      rw [b358, r232, j_of, j_0, j_2, if_pos h1', e_bI, if_neg (show ¬ nI 1 = nI 0 by decide), ej, p4, r_inc (by omega) (by decide), q2', if_pos rfl]
    exact ⟨_, _, _, Or.inl (Or.inr (sV_pz (by omega)).X), w3150 hk hX cc r rfl⟩
  · obtain ⟨s1, g0, hF, g, f0, f1, f2, f3, f4, f5, f6, f8⟩ := c_takeOver (X := X) (d := d + 25) (s := s) (i := 0) (j := t) (ml := ml) (by omega) q5.2.2.2.2.1.1 q5.2.2.2.2.1.2.2.1
    have hW2 := q5.take g f0 f1 f2 f3 f4 f5 f6 f8
    have cc : ab_ev X (d + 30) 227 [.inr (0, 0), .inl (.int (X.1 (k + 1)))] s = some (.inl (some (.inl (.int (nI 0)))), s1) := by
      rw [b227, b228, ej, if_neg p1, if_pos p2, p4, q1, e_oqS, r_inc (by omega) (by decide), g0, e_bU, e_bU]
    have a4 := hF.2.2.2.1
    obtain ⟨s2, hs2⟩ : ∃ s2, s2 = pa (pz s1 11 (nI 0)) 8 (fun q => if q < 2300 then sa (pz s1 11 (nI 0)) 10 (2300 * j + q) else sa s1 8 q) := ⟨_, rfl⟩
    have r : ab_ev X (d + 30) 358 [.inr (9, 0), .inl (.int (X.1 (k + 1)))] s1 = some (.inl none, s2) := by
      have l := l358 (X := X) (d := d + 29) (s := pz s1 11 (nI 0)) (G0 := sa s1 8) hj 2300 0 (sa s1 8) (by omega) (fun q => by rw [if_neg (by omega)])
      rw [show pa (pz s1 11 (nI 0)) 8 (sa s1 8) = pz s1 11 (nI 0) from pa_self rfl, ← hs2] at l
      have e11 : sa s1 11 j = nI 1 := by rw [a4]; exact q4
      rw [b358, r232, j_of, j_0, j_2, if_pos h1', e_bI, if_neg (show ¬ nI 1 = nI 0 by decide), ej, p4, r_inc (by omega) (by decide), e11, if_neg (show ¬ nI 1 = nI 0 by decide)]
      exact l
    have e8 : sa s2 8 = fun q => if q < 2300 then sa s 10 (2300 * j + q) else sa s 8 q := by
      rw [hs2]
      simp (disch := omega) only [E0]
      rw [a4]
    have hC : CW s2 0 (sa s2 8) n nr np hs ml m by' nm z st bm lo li := by
      rw [e8]
      refine CW.row (g := fun q => sa s 10 (2300 * j + q)) (hW2.same (fun k => by rw [hs2]; rfl) (fun k _ => by rw [hs2]; rfl)) (fun q hq => ?_)
      show (if q < 2300 then _ else _) = _
      rw [if_pos hq]
    refine ⟨s2, _, _, Or.inr ⟨?_, _, _, _, _, _, _, _, _, _, _, _, _, _, hC⟩, w3150 hk hX cc r ?_⟩
    · rw [hs2]
      exact sD_trans (hF.D (by omega)) (sD_trans (sV_pz (by omega)).D sD_pa8)
    · rw [hs2]
      simp (disch := omega) only [E0]
end IMG
