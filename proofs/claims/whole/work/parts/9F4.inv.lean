/-! What holds before and after every call of the law. -/
theorem CT_of {s s' : ab_S} (h : CT s) (h8 : sa s' 8 = sa s 8) (h1 : ∀ k, k < 10 → si s' k 0 = si s k 0) (h2 : ∀ k, k ≠ 7 → sA s' k 0 = sA s k 0) : CT s' := by
  obtain ⟨n, nr, np, hs, ml, m, by', nm, z, st, bm, lo, li, h⟩ := h
  refine ⟨n, nr, np, hs, ml, m, by', nm, z, st, bm, lo, li, ?_⟩
  rw [h8]
  exact h.take h1 (fun q _ => by rw [h2 0 (by omega)]) (fun q _ => by rw [h2 1 (by omega)]) (fun q _ => by rw [h2 2 (by omega)]) (fun q _ => by rw [h2 3 (by omega)]) (fun q _ => by rw [h2 4 (by omega)]) (fun q _ => by rw [h2 5 (by omega)]) (fun q _ => by rw [h2 6 (by omega)]) (fun q _ => by rw [h2 8 (by omega)])
theorem TR_of {s s' : ab_S} (h : TR s) (h1 : sq s' 0 = sq s 0) (h2 : sn s' 3 = sn s 3) (h3 : si s' 10 = si s 10) (h4 : si s' 11 = si s 11) (h5 : sa s' 22 = sa s 22) (h6 : sa s' 23 = sa s 23) (h7 : sB s' = sB s) (h8 : sb s' 2 = sb s 2) : TR s' := by
  unfold TR TRk at h ⊢
  rw [h1, h2, h3, h4, h5, h6, h7, h8]
  exact h
theorem TP_of {s s' : ab_S} {τ : Nat} (h : TP s τ) (h1 : sz s' 1 = sz s 1) (h2 : sz s' 12 = sz s 12) (h3 : sa s' 0 = sa s 0) (h4 : sa s' 12 = sa s 12) : TP s' τ := by
  unfold TP at h ⊢
  rw [h1, h2, h3, h4]
  exact h
/-- what holds between the calls, when k numbers of the script are done -/
def INV (c0 c1 k : Nat) (s : ab_S) : Prop := CT s ∧ TR s ∧ IM s ∧ (∃ τ, TP s τ) ∧ sz s 2 = sz s 20 ∧ sz s 3 = sz s 21 ∧ sn s 0 ≤ c0 + 13 * (k / 6) ∧ sn s 1 ≤ c1 + 1126 * (k / 6)
section INVS
variable {c0 c1 k : Nat} {s s2 : ab_S}
theorem six (k : Nat) : (k + 6) / 6 = k / 6 + 1 := by omega
theorem INV.room {a b : Nat} (h : INV c0 c1 k s) (ha : a ≤ 13) (hb : b ≤ 1126) (h0 : sn s2 0 ≤ sn s 0 + a) (h1 : sn s2 1 ≤ sn s 1 + b) : sn s2 0 ≤ c0 + 13 * ((k + 6) / 6) ∧ sn s2 1 ≤ c1 + 1126 * ((k + 6) / 6) := by
  obtain ⟨-, -, -, -, -, -, g0, g1⟩ := h
  rw [six]
  omega
theorem INV.X {t : ab_S} (h : INV c0 c1 k s) (hX : sX t s2) (ht : t = s ∨ t = ths s) : INV c0 c1 (k + 6) s2 := by
  have hf : sz t = sz s ∧ si t = si s ∧ sa t = sa s ∧ sA t = sA s ∧ sb t = sb s ∧ sB t = sB s ∧ sq t = sq s ∧ sn t 2 = sn s 2 ∧ sn t 3 = sn s 3 ∧ sn t 0 ≤ sn s 0 + 1 ∧ sn t 1 ≤ sn s 1 + 6 := by
    rcases ht with rfl | rfl
    · exact ⟨rfl, rfl, rfl, rfl, rfl, rfl, rfl, rfl, rfl, by omega, by omega⟩
    · exact ⟨rfl, rfl, rfl, rfl, rfl, rfl, rfl, rfl, rfl, Nat.le_refl _, Nat.le_refl _⟩
  obtain ⟨f1, f2, f3, f4, f5, f6, f7, f8, f9, f10, f11⟩ := hf
  obtain ⟨a1, a2, a3, a4, a5, a6, a7, a8, a9⟩ := hX
  rw [f1] at a1
  rw [f2] at a3
  rw [f3] at a4
  rw [f4] at a5
  rw [f5] at a6
  rw [f6] at a7
  rw [f7] at a8
  obtain ⟨g0, g1⟩ := h.room (s2 := s2) (a := 1) (b := 6) (by omega) (by omega) (by rw [a9]; exact f10) (by rw [a9]; exact f11)
  obtain ⟨hC, hT, hI, ⟨τ, hP⟩, e2, e3, -, -⟩ := h
  refine ⟨CT_of hC (a4 8 (by omega)) (fun k _ => a3 k 0 (by omega)) (fun k hk => a5 k 0 (by omega) hk), TR_of hT (by rw [a8]) (by rw [a9, f9]) (funext fun i => a3 10 i (by omega)) (funext fun i => a3 11 i (by omega)) (a4 22 (by omega)) (a4 23 (by omega)) a7 a6, hI.same (by rw [a8]) (by rw [a9, f8]) (a4 10 (by omega)) (a4 11 (by omega)) (fun k i hi _ => a3 k i (by omega)) (fun k i hi hk => a5 k i (by omega) hk), ⟨τ, TP_of hP (a1 1 (by omega) (by omega) (by omega) (by omega) (by omega) (by omega)) (a1 12 (by omega) (by omega) (by omega) (by omega) (by omega) (by omega)) (a4 0 (by omega)) (a4 12 (by omega))⟩, ?_, ?_, g0, g1⟩
  · rw [a1 2 (by omega) (by omega) (by omega) (by omega) (by omega) (by omega), a1 20 (by omega) (by omega) (by omega) (by omega) (by omega) (by omega)]
    exact e2
  · rw [a1 3 (by omega) (by omega) (by omega) (by omega) (by omega) (by omega), a1 21 (by omega) (by omega) (by omega) (by omega) (by omega) (by omega)]
    exact e3
theorem INV.Y (h : INV c0 c1 k s) (hY : sY s s2) : INV c0 c1 (k + 6) s2 := by
  rcases hY with hY | hY
  · exact h.X hY (Or.inl rfl)
  · exact h.X hY (Or.inr rfl)
theorem INV.W (h : INV c0 c1 k s) (hW : sW s s2) : INV c0 c1 (k + 6) s2 := by
  rcases hW with hW | hW
  · exact h.X hW.X (Or.inl rfl)
  · exact h.X hW.X (Or.inr rfl)
theorem INV.D (h : INV c0 c1 k s) (hD : sD s s2) (hC' : CT s2) : INV c0 c1 (k + 6) s2 := by
  obtain ⟨a1, a2, a3, a4, a5, a6, a7, a8, a9⟩ := hD
  obtain ⟨g0, g1⟩ := h.room (s2 := s2) (a := 0) (b := 0) (by omega) (by omega) (by rw [a9]; omega) (by rw [a9]; omega)
  obtain ⟨hC, hT, hI, ⟨τ, hP⟩, e2, e3, -, -⟩ := h
  refine ⟨hC', TR_of hT (by rw [a8]) (by rw [a9]) (funext fun i => a3 10 i (by omega)) (funext fun i => a3 11 i (by omega)) (a4 22 (by omega)) (a4 23 (by omega)) a7 a6, hI.same (by rw [a8]) (by rw [a9]) (a4 10 (by omega)) (a4 11 (by omega)) (fun k i hi _ => a3 k i (by omega)) (fun k i hi hk => a5 k i (by omega)), ⟨τ, TP_of hP (a1 1 (by omega) (by omega) (by omega) (by omega) (by omega) (by omega)) (a1 12 (by omega) (by omega) (by omega) (by omega) (by omega) (by omega)) (a4 0 (by omega)) (a4 12 (by omega))⟩, ?_, ?_, g0, g1⟩
  · rw [a1 2 (by omega) (by omega) (by omega) (by omega) (by omega) (by omega), a1 20 (by omega) (by omega) (by omega) (by omega) (by omega) (by omega)]
    exact e2
  · rw [a1 3 (by omega) (by omega) (by omega) (by omega) (by omega) (by omega), a1 21 (by omega) (by omega) (by omega) (by omega) (by omega) (by omega)]
    exact e3
theorem INV.Z (h : INV c0 c1 k s) (hZ : sZ s s2) : INV c0 c1 (k + 6) s2 := by
  rcases hZ with hZ | ⟨hZ, hC⟩
  · exact h.Y hZ
  · exact h.D hZ hC
theorem INV.K (h : INV c0 c1 k s) (hK : sK s s2) (hT' : TR s2) : INV c0 c1 (k + 6) s2 := by
  obtain ⟨a1, a2, a3, a4, a5, a6, a7, a8, a9⟩ := hK
  obtain ⟨g0, g1⟩ := h.room (s2 := s2) (a := 2) (b := 33) (by omega) (by omega) a8 a9
  obtain ⟨hC, hT, hI, ⟨τ, hP⟩, e2, e3, -, -⟩ := h
  refine ⟨CT_of hC (a4 8 (by omega)) (fun k hk => by rw [a3 k hk]) (fun k _ => by rw [a5]), hT', hI.same a6 a7 (a4 10 (by omega)) (a4 11 (by omega)) (fun k i _ hk => by rw [a3 k hk]) (fun k i _ _ => by rw [a5]), ⟨τ, TP_of hP (a1 1 (by omega) (by omega) (by omega) (by omega)) (a1 12 (by omega) (by omega) (by omega) (by omega)) (a4 0 (by omega)) (a4 12 (by omega))⟩, ?_, ?_, g0, g1⟩
  · rw [a1 2 (by omega) (by omega) (by omega) (by omega), a1 20 (by omega) (by omega) (by omega) (by omega)]
    exact e2
  · rw [a1 3 (by omega) (by omega) (by omega) (by omega), a1 21 (by omega) (by omega) (by omega) (by omega)]
    exact e3
theorem INV.I (h : INV c0 c1 k s) (hI' : sI s s2) (hM : IM s2) : INV c0 c1 (k + 6) s2 := by
  obtain ⟨a1, a2, a3, a4, a5, a6, a7, a8, a9, a10, a11⟩ := hI'
  obtain ⟨g0, g1⟩ := h.room (s2 := s2) (a := 13) (b := 1126) (by omega) (by omega) a10 a11
  obtain ⟨hC, hT, hI, ⟨τ, hP⟩, e2, e3, -, -⟩ := h
  refine ⟨CT_of hC (a4 8 (by omega) (by omega)) (fun k _ => a3 k 0 (by omega)) (fun k _ => a5 k 0 (by omega)), TR_of hT a8 a9 (funext fun i => a3 10 i (by omega)) (funext fun i => a3 11 i (by omega)) (a4 22 (by omega) (by omega)) (a4 23 (by omega) (by omega)) a7 (by rw [a6]), hM, ⟨τ, TP_of hP (a1 1 (by omega)) (a1 12 (by omega)) (a4 0 (by omega) (by omega)) (a4 12 (by omega) (by omega))⟩, ?_, ?_, g0, g1⟩
  · rw [a1 2 (by omega), a1 20 (by omega)]
    exact e2
  · rw [a1 3 (by omega), a1 21 (by omega)]
    exact e3
theorem INV.F (h : INV c0 c1 k s) (hF : sF s s2) (hP' : ∃ τ, TP s2 τ) : INV c0 c1 (k + 6) s2 := by
  obtain ⟨a1, a2, a3, a4, a5, a6, a7, a8, a9, a10⟩ := hF
  obtain ⟨g0, g1⟩ := h.room (s2 := s2) (a := 0) (b := 0) (by omega) (by omega) (by rw [a10]; omega) (by rw [a10]; omega)
  obtain ⟨hC, hT, hI, -, e2, e3, -, -⟩ := h
  refine ⟨CT_of hC (a5 8 (by omega) (by omega)) (fun k _ => by rw [a4]) (fun k _ => by rw [a6]), TR_of hT (by rw [a9]) (by rw [a10]) (by rw [a4]) (by rw [a4]) (a5 22 (by omega) (by omega)) (a5 23 (by omega) (by omega)) a8 (by rw [a7]), hI.same (by rw [a9]) (by rw [a10]) (a5 10 (by omega) (by omega)) (a5 11 (by omega) (by omega)) (fun k i _ _ => by rw [a4]) (fun k i _ _ => by rw [a6]), hP', ?_, ?_, g0, g1⟩
  · rw [a1 2 (by omega) (by omega) (by omega), a1 20 (by omega) (by omega) (by omega)]
    exact e2
  · rw [a1 3 (by omega) (by omega) (by omega), a1 21 (by omega) (by omega) (by omega)]
    exact e3
end INVS
