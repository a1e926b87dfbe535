/-! Whole calls: month. -/
theorem u32_ofNat (u : UInt32) : u.toInt32 = nI u.toNat := by
  apply Int32.toBitVec_inj.mp
  apply BitVec.eq_of_toNat_eq
  have := u.toNat_lt
  show u.toBitVec.toNat = (BitVec.ofNat 32 u.toNat).toNat
  rw [BitVec.toNat_ofNat]
  exact (Nat.mod_eq_of_lt this).symm
/-- the next seed, and what is drawn from a seed -/
def drw (x : Int32) : Int32 := nI 1103515245 * x + nI 12345
def dv (x : Int32) : Nat := (x.toUInt32 >>> 16).toNat
theorem dv_lt (x : Int32) : dv x < 65536 := by
  unfold dv
  rw [UInt32.toNat_shiftRight]
  simp
  have := x.toUInt32.toNat_lt
  omega
theorem dv_eq (x : Int32) : (x.toUInt32 >>> ((nI 16).toUInt32 &&& Int32.toUInt32 31)).toInt32 = nI (dv x) := by
  rw [show ((nI 16).toUInt32 &&& Int32.toUInt32 31) = 16 by decide, u32_ofNat]
  rfl
def mnx (x : Int32) : Int32 := if dv (drw x) % 4 < 2 then drw x else drw (drw (drw x))
def mdd (n : Nat) (x : Int32) : Option Dd := if dv (drw x) % 4 < 2 then some none else if dv (drw x) % 4 = 2 then some (some (false, dv (drw (drw x)) % n, dv (drw (drw (drw x))) % n)) else if dv (drw (drw x)) % n = dv (drw (drw (drw x))) % n then none else some (some (true, dv (drw (drw x)) % n, dv (drw (drw (drw x))) % n))
/-- drawn deeds: seed, names, row, how many kept, how many done -/
def mst (n : Nat) (gi : Nat → Nat) (sg : Nat → Int32) (ml : Nat) (p : Int32 × (Nat → Nat) × (Nat → Int32) × Nat × Nat) : Int32 × (Nat → Nat) × (Nat → Int32) × Nat × Nat := match mdd n p.1 with
  | none => (mnx p.1, p.2)
  | some D => (mnx p.1, (dstep n gi sg ml D (p.2.1, kpF p.2.2.1 p.2.2.2.1)).1, (dstep n gi sg ml D (p.2.1, kpF p.2.2.1 p.2.2.2.1)).2, min p.2.2.2.1 9 + 1, p.2.2.2.2 + 1)
def msq (n : Nat) (gi : Nat → Nat) (sg : Nat → Int32) (ml : Nat) (p : Int32 × (Nat → Nat) × (Nat → Int32) × Nat × Nat) : Nat → Int32 × (Nat → Nat) × (Nat → Int32) × Nat × Nat
  | 0 => p
  | k + 1 => mst n gi sg ml (msq n gi sg ml p k)
theorem mst_none {n ml : Nat} {gi : Nat → Nat} {sg : Nat → Int32} {p : Int32 × (Nat → Nat) × (Nat → Int32) × Nat × Nat} (h : mdd n p.1 = none) : mst n gi sg ml p = (mnx p.1, p.2) := by
  unfold mst
  rw [h]
theorem mst_some {n ml : Nat} {gi : Nat → Nat} {sg : Nat → Int32} {D : Dd} {p : Int32 × (Nat → Nat) × (Nat → Int32) × Nat × Nat} (h : mdd n p.1 = some D) : mst n gi sg ml p = (mnx p.1, (dstep n gi sg ml D (p.2.1, kpF p.2.2.1 p.2.2.2.1)).1, (dstep n gi sg ml D (p.2.1, kpF p.2.2.1 p.2.2.2.1)).2, min p.2.2.2.1 9 + 1, p.2.2.2.2 + 1) := by
  unfold mst
  rw [h]
theorem mdd_ok {n : Nat} (h0 : 0 < n) {x : Int32} {D : Dd} (h : mdd n x = some D) : dok n D := by
  have a := Nat.mod_lt (dv (drw (drw x))) h0
  have b := Nat.mod_lt (dv (drw (drw (drw x)))) h0
  unfold mdd at h
  split at h
  · cases h
    trivial
  · split at h
    · cases h
      exact ⟨a, b⟩
    · split at h
      · cases h
      · cases h
        exact ⟨a, b⟩
theorem msq_m {n ml : Nat} {gi : Nat → Nat} {sg : Nat → Int32} {p : Int32 × (Nat → Nat) × (Nat → Int32) × Nat × Nat} (hm : p.2.2.2.1 ≤ 10) : ∀ k, (msq n gi sg ml p k).2.2.2.1 ≤ 10
  | 0 => hm
  | k + 1 => by
    have ih := msq_m (n := n) (ml := ml) (gi := gi) (sg := sg) hm k
    show (mst n gi sg ml (msq n gi sg ml p k)).2.2.2.1 ≤ 10
    cases e : mdd n (msq n gi sg ml p k).1 with
    | none =>
      rw [mst_none e]
      exact ih
    | some D =>
      rw [mst_some e]
      show min (msq n gi sg ml p k).2.2.2.1 9 + 1 ≤ 10
      omega
/-- what a month of the class leaves alone -/
def DM (s s' : ab_S) : Prop := sD s s' ∧ sA s' 6 0 = sA s 6 0 ∧ sa s' 8 = sa s 8
theorem DM_trans {s t u : ab_S} (h : DM s t) (h' : DM t u) : DM s u := ⟨sD_trans h.1 h'.1, h'.2.1.trans h.2.1, h'.2.2.trans h.2.2⟩
theorem DF.M {s s' : ab_S} (h : DF s s' 0) : DM s s' := ⟨h.1, h.2.2.2.1, h.2.2.2.2.1⟩
theorem DM_pz {s : ab_S} {v : Int32} : DM s (pz s 0 v) := ⟨⟨fun k h0 _ _ _ _ _ => va_up_ne _ _ h0, rfl, fun _ _ _ => rfl, fun _ _ => rfl, fun _ _ _ => rfl, rfl, rfl, rfl, rfl⟩, rfl, rfl⟩
theorem trb_code {n a b : Nat} (hn : n ≤ 20) (ha : a < n) (hb : b < n) : trb n (nI (a + 20 * b)).toInt64 = 0 ∧ trb n (nI (a + 20 * b + 400)).toInt64 = if a = b then 2 else 0 := by
  have e : ∀ v, v < 800 → (nI v).toInt64.toInt = v := fun v hv => by rw [j_of, nI_toInt (by omega)]
  constructor
  · unfold trb
    rw [e _ (by omega), Int.toNat_natCast, if_neg (by omega), if_neg (by omega), if_neg (by omega), if_neg (by omega)]
  · have e1 : (a + 20 * b + 400) % 400 % 20 = a := by omega
    have e2 : (a + 20 * b + 400) % 400 / 20 = b := by omega
    unfold trb
    rw [e _ (by omega), Int.toNat_natCast, if_neg (by omega), if_neg (by omega), e1, e2, if_neg (by omega)]
    by_cases q : a = b
    · rw [if_pos q, if_pos ⟨by omega, q⟩]
    · rw [if_neg q, if_neg (fun z => q z.2)]
section MON
variable {X : (Nat → Int32) × Nat} {d k i n nr bm np hs ml m : Nat} {u5 u6 : Option ab_V} {s : ab_S} {nm z lo li : Nat → Nat} {st : Nat → Nat → Nat} {by' sg g : Nat → Int32}
theorem c_160 {K : Nat} (h0 : 0 < K) (hK : K < 2 ^ 31) : ab_ev X d 160 [.inr (0, 0), .inl (.int (nI K))] s = some (.inl (some (.inl (.int (nI (dv (drw (sz s 0)) % K))))), pz s 0 (drw (sz s 0))) := by
  have hd := dv_lt (drw (sz s 0))
  rw [b160, if_neg (fun q => by
    have := Int32.le_iff_toInt_le.mp q
    rw [nI_toInt (by omega), nI_toInt (by omega)] at this
    omega), if_neg (fun q => by have := (nI_eq (by omega) (by omega)).mp q; omega)]
  show (some (.inl (some (.inl (.int (((drw (sz s 0)).toUInt32 >>> ((nI 16).toUInt32 &&& Int32.toUInt32 31)).toInt32 - ((drw (sz s 0)).toUInt32 >>> ((nI 16).toUInt32 &&& Int32.toUInt32 31)).toInt32 / nI K * nI K)))), pz s 0 (drw (sz s 0))) : ab_R) = _
  rw [dv_eq, n_rem (by omega) h0 hK]
theorem r318 {K : Nat} (h0 : 0 < K) (hK : K < 2 ^ 31) : ab_ev X d 318 [.inr (9, 0), .inl (.int (nI K))] s = some (.inl (some (.inl (.int (nI (dv (drw (sz s 23)) % K))))), pz s 23 (drw (sz s 23))) := by
  have hd := dv_lt (drw (sz s 23))
  rw [b318, if_neg (fun q => by have := (nI_eq (by omega) (by omega)).mp q; omega)]
  show (some (.inl (some (.inl (.int (((drw (sz s 23)).toUInt32 >>> ((nI 16).toUInt32 &&& Int32.toUInt32 31)).toInt32 - ((drw (sz s 23)).toUInt32 >>> ((nI 16).toUInt32 &&& Int32.toUInt32 31)).toInt32 / nI K * nI K)))), pz s 23 (drw (sz s 23))) : ab_R) = _
  rw [dv_eq, n_rem (by omega) h0 hK]
theorem c_159 (h : CW s 0 g n nr np hs ml m by' nm z st bm lo li) (h0 : 0 < n) : (mdd n (sz s 0) = none ∧ ab_ev X (d + 6) 159 [.inr (0, 0)] s = some (.inl (some (.inl (.int (nI 0)))), pz s 0 (mnx (sz s 0)))) ∨ ∃ (D : Dd) (s2 : ab_S), mdd n (sz s 0) = some D ∧ ab_ev X (d + 6) 159 [.inr (0, 0)] s = some (.inl (some (.inl (.int (nI 1)))), s2) ∧ DM s s2 ∧ sz s2 0 = mnx (sz s 0) ∧ CW s2 0 (dstep n (inv (to_ nr z st bm by') n) (sA s 6 0) ml D (nm, kpF g m)).2 n nr np hs ml (min m 9 + 1) by' (dstep n (inv (to_ nr z st bm by') n) (sA s 6 0) ml D (nm, kpF g m)).1 z st bm lo li := by
  have hn := h.1.2.1
  have e1 : ∀ v, si (pz s 0 v) 1 0 = nI n := fun _ => h.1.1
  obtain ⟨K, hK⟩ : ∃ K, K = dv (drw (sz s 0)) % 4 := ⟨_, rfl⟩
  have hK4 : K < 4 := by rw [hK]; exact Nat.mod_lt _ (by omega)
  have c4 : ab_ev X (d + 5) 160 [.inr (0, 0), .inl (.int (nI 4))] s = some (.inl (some (.inl (.int (nI K)))), pz s 0 (drw (sz s 0))) := by
    rw [c_160 (by omega) (by omega), hK]
  by_cases q : K < 2
  · have e2 : mdd n (sz s 0) = some none := by
      unfold mdd
      rw [← hK, if_pos q]
    have e3 : mnx (sz s 0) = drw (sz s 0) := by
      unfold mnx
      rw [← hK, if_pos q]
    have h' : CW (pz s 0 (drw (sz s 0))) 0 g n nr np hs ml m by' nm z st bm lo li := h.same (fun _ => rfl) (fun _ _ => rfl)
    obtain ⟨s2, g1, g2, g3⟩ := h'.ngt (X := X) (d := d) (by omega)
    refine Or.inr ⟨none, s2, e2, ?_, DM_trans DM_pz g2.M, ?_, g3⟩
    · rw [b159, c4, e_bI, if_neg (nI_ge q (by omega)), g1, e_bI]
    · rw [g2.2.2.2.2.2.2 0 (by omega) (by omega), e3]
      simp (disch := omega) only [E0]
  · have e3 : mnx (sz s 0) = drw (drw (drw (sz s 0))) := by
      unfold mnx
      rw [← hK, if_neg q]
    obtain ⟨a, ha⟩ : ∃ a, a = dv (drw (drw (sz s 0))) % n := ⟨_, rfl⟩
    obtain ⟨b, hb⟩ : ∃ b, b = dv (drw (drw (drw (sz s 0)))) % n := ⟨_, rfl⟩
    have ha' : a < n := by rw [ha]; exact Nat.mod_lt _ h0
    have hb' : b < n := by rw [hb]; exact Nat.mod_lt _ h0
    have c5 : ab_ev X (d + 5) 160 [.inr (0, 0), .inl (.int (nI n))] (pz s 0 (drw (sz s 0))) = some (.inl (some (.inl (.int (nI a)))), pz s 0 (drw (drw (sz s 0)))) := by
      rw [c_160 h0 (by omega), pz2]
      simp (disch := omega) only [E0]
      rw [ha]
    have c6 : ab_ev X (d + 5) 160 [.inr (0, 0), .inl (.int (nI n))] (pz s 0 (drw (drw (sz s 0)))) = some (.inl (some (.inl (.int (nI b)))), pz s 0 (drw (drw (drw (sz s 0))))) := by
      rw [c_160 h0 (by omega), pz2]
      simp (disch := omega) only [E0]
      rw [hb]
    have h' : CW (pz s 0 (drw (drw (drw (sz s 0))))) 0 g n nr np hs ml m by' nm z st bm lo li := h.same (fun _ => rfl) (fun _ _ => rfl)
    have pre : ab_ev X (d + 6) 159 [.inr (0, 0)] s = (if nI K = nI 2 then ab_bI (ab_ev X (d + 5) 124 [.inr (2, 0), .inl (.int (nI a)), .inl (.int (nI b))] (pz s 0 (drw (drw (drw (sz s 0)))))) (fun r8 s7 => some (.inl (some (.inl (.int (nI 1)))), s7)) ab_px else (if nI a = nI b then some (.inl (some (.inl (.int (nI 0)))), pz s 0 (drw (drw (drw (sz s 0))))) else ab_bU (ab_ev X (d + 5) 128 [.inr (2, 0), .inl (.int (nI a)), .inl (.int (nI b))] (pz s 0 (drw (drw (drw (sz s 0)))))) (fun s9 => some (.inl (some (.inl (.int (nI 1)))), s9)) ab_px)) := by
      rw [b159, c4, e_bI, if_pos (nI_le (by omega) (by omega)), e1, c5, e_bI, e1, c6, e_bI]
    by_cases q2 : K = 2
    · have e2 : mdd n (sz s 0) = some (some (false, a, b)) := by
        unfold mdd
        rw [← hK, if_neg q, if_pos q2, ha, hb]
      obtain ⟨s2, g1, g2, g3⟩ := h'.chg (X := X) (d := d + 3) (v := a) (u := b) (by omega) ha' hb'
      refine Or.inr ⟨some (false, a, b), s2, e2, ?_, DM_trans DM_pz g2.M, ?_, g3⟩
      · rw [pre, if_pos (by rw [q2]), g1, e_bI]
      · rw [g2.2.2.2.2.2.2 0 (by omega) (by omega), e3]
        simp (disch := omega) only [E0]
    · by_cases q3 : a = b
      · have e2 : mdd n (sz s 0) = none := by
          unfold mdd
          rw [← hK, if_neg q, if_neg q2, if_pos (by rw [← ha, ← hb]; exact q3)]
        refine Or.inl ⟨e2, ?_⟩
        rw [pre, if_neg (fun z => q2 ((nI_eq (by omega) (by omega)).mp z)), if_pos (by rw [q3]), e3]
      · have e2 : mdd n (sz s 0) = some (some (true, a, b)) := by
          unfold mdd
          rw [← hK, if_neg q, if_neg q2, if_neg (by rw [← ha, ← hb]; exact q3), ha, hb]
        obtain ⟨s2, g1, g2, g3⟩ := h'.swp (X := X) (d := d + 3) (v := a) (u := b) (by omega) ha' hb'
        refine Or.inr ⟨some (true, a, b), s2, e2, ?_, DM_trans DM_pz g2.M, ?_, g3⟩
        · rw [pre, if_neg (fun z => q2 ((nI_eq (by omega) (by omega)).mp z)), if_neg (fun z => q3 ((nI_eq (by omega) (by omega)).mp z)), g1, e_bU]
        · rw [g2.2.2.2.2.2.2 0 (by omega) (by omega), e3]
          simp (disch := omega) only [E0]
theorem l158 {x1 : Int32} {N : Nat} {p : Int32 × (Nat → Nat) × (Nat → Int32) × Nat × Nat} (h0 : 0 < n) (hN : N ≤ 30) : ∀ (j c : Nat) (s1 : ab_S), c + j = N → DM s s1 → sz s1 0 = (msq n (inv (to_ nr z st bm by') n) (sA s 6 0) ml p c).1 → CW s1 0 (msq n (inv (to_ nr z st bm by') n) (sA s 6 0) ml p c).2.2.1 n nr np hs ml (msq n (inv (to_ nr z st bm by') n) (sA s 6 0) ml p c).2.2.2.1 by' (msq n (inv (to_ nr z st bm by') n) (sA s 6 0) ml p c).2.1 z st bm lo li → ∃ s' : ab_S, ab_at X (d + 7) 158 39 [some (.inr (0, 0)), some (.inl (.int x1)), some (.inl (.int (nI N))), some (.inl (.int (nI (msq n (inv (to_ nr z st bm by') n) (sA s 6 0) ml p c).2.2.2.2))), some (.inl (.int (nI c)))] [] s1 = some (.inl (some (.inl (.int (nI (msq n (inv (to_ nr z st bm by') n) (sA s 6 0) ml p N).2.2.2.2)))), s') ∧ DM s s' ∧ CW s' 0 (msq n (inv (to_ nr z st bm by') n) (sA s 6 0) ml p N).2.2.1 n nr np hs ml (msq n (inv (to_ nr z st bm by') n) (sA s 6 0) ml p N).2.2.2.1 by' (msq n (inv (to_ nr z st bm by') n) (sA s 6 0) ml p N).2.1 z st bm lo li
  | 0, c, s1, e, h1, hz, h2 => by
    obtain rfl : c = N := by omega
    exact ⟨s1, by rw [b158_39, if_pos (nI_le (Nat.le_refl _) (by omega))], h1, h2⟩
  | j + 1, c, s1, e, h1, hz, h2 => by
    have ih := fun (s2 : ab_S) (a : DM s s2) b e => l158 (x1 := x1) (p := p) h0 hN j (c + 1) s2 (by omega) a b e
    obtain ⟨P, hP⟩ : ∃ P, P = msq n (inv (to_ nr z st bm by') n) (sA s 6 0) ml p c := ⟨_, rfl⟩
    have eQ : msq n (inv (to_ nr z st bm by') n) (sA s 6 0) ml p (c + 1) = mst n (inv (to_ nr z st bm by') n) (sA s 6 0) ml P := by rw [hP]; rfl
    rw [eQ] at ih
    rw [← hP] at hz h2 ⊢
    have e6 : sA s1 6 0 = sA s 6 0 := h1.2.1
    rcases c_159 (X := X) (d := d) h2 h0 with ⟨g1, g2⟩ | ⟨D, s2, g1, g2, g3, g4, g5⟩
    · rw [hz] at g1 g2
      rw [mst_none g1] at ih
      rw [b158_39, if_neg (nI_ge (by omega) (by omega)), g2, e_bI, if_pos rfl, nI_add]
      exact ih _ (DM_trans h1 DM_pz) (by simp (disch := omega) only [E0]) (h2.same (fun _ => rfl) (fun _ _ => rfl))
    · rw [hz] at g1 g4
      rw [mst_some g1] at ih
      rw [e6] at g5
      rw [b158_39, if_neg (nI_ge (by omega) (by omega)), g2, e_bI, if_neg (show ¬ nI 1 = nI 0 by decide), nI_add, nI_add]
      exact ih _ (DM_trans h1 g3) g4 g5
end MON
