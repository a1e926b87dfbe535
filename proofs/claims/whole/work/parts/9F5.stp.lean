/-! One call of the law, whatever it is. -/
section STP
variable {X : (Nat → Int32) × Nat} {d k c0 c1 : Nat} {u5 u6 : Option ab_V} {s : ab_S}
/-- what the town call has to give -/
def TWN (X : (Nat → Int32) × Nat) (d c0 c1 : Nat) : Prop := ∀ (k : Nat) (u5 u6 : Option ab_V) (s : ab_S), k + 5 < X.2 → INV c0 c1 k s → ∃ (s2 : ab_S) (v5 v6 : Option ab_V), INV c0 c1 (k + 6) s2 ∧ ab_at X (d + 31) 360 333 [some (.inr (14, 0)), some (.inr (0, 0)), some (.inr (9, 0)), some (.inr (15, 0)), some (.inl (.int (nI k))), u5, u6, none] [] s = ab_at X (d + 31) 360 23 [some (.inr (14, 0)), some (.inr (0, 0)), some (.inr (9, 0)), some (.inr (15, 0)), some (.inl (.int (nI (k + 6)))), v5, v6, none] [] s2
theorem p0 (h : INV c0 c1 k s) (hk : k + 5 < X.2) (hX : X.2 < 2 ^ 31) : ∃ (s2 : ab_S) (v5 v6 : Option ab_V), INV c0 c1 (k + 6) s2 ∧ ab_at X (d + 31) 360 260 [some (.inr (14, 0)), some (.inr (0, 0)), some (.inr (9, 0)), some (.inr (15, 0)), some (.inl (.int (nI k))), u5, u6, none] [] s = ab_at X (d + 31) 360 23 [some (.inr (14, 0)), some (.inr (0, 0)), some (.inr (9, 0)), some (.inr (15, 0)), some (.inl (.int (nI (k + 6)))), v5, v6, none] [] s2 := by
  obtain ⟨hC, hT, hI, ⟨τ, hP⟩, e2, e3, -, -⟩ := id h
  obtain ⟨s2, v5, v6, r, e⟩ := o0 (X := X) (d := d) (k := k) (u5 := u5) (u6 := u6) (s := s) hP hk hX
  exact ⟨s2, v5, v6, h.F r.1 r.2, e⟩
theorem p2 (h : INV c0 c1 k s) (hk : k + 5 < X.2) (hX : X.2 < 2 ^ 31) : ∃ (s2 : ab_S) (v5 v6 : Option ab_V), INV c0 c1 (k + 6) s2 ∧ ab_at X (d + 31) 360 389 [some (.inr (14, 0)), some (.inr (0, 0)), some (.inr (9, 0)), some (.inr (15, 0)), some (.inl (.int (nI k))), u5, u6, none] [] s = ab_at X (d + 31) 360 23 [some (.inr (14, 0)), some (.inr (0, 0)), some (.inr (9, 0)), some (.inr (15, 0)), some (.inl (.int (nI (k + 6)))), v5, v6, none] [] s2 := by
  obtain ⟨hC, hT, hI, ⟨τ, hP⟩, e2, e3, -, -⟩ := id h
  obtain ⟨s2, v5, v6, r, e⟩ := o4 (X := X) (d := d) (k := k) (u5 := u5) (u6 := u6) (s := s) e2 e3 hk hX
  exact ⟨s2, v5, v6, h.X r (Or.inl rfl), e⟩
theorem p3 (h : INV c0 c1 k s) (hk : k + 5 < X.2) (hX : X.2 < 2 ^ 31) : ∃ (s2 : ab_S) (v5 v6 : Option ab_V), INV c0 c1 (k + 6) s2 ∧ ab_at X (d + 31) 360 414 [some (.inr (14, 0)), some (.inr (0, 0)), some (.inr (9, 0)), some (.inr (15, 0)), some (.inl (.int (nI k))), u5, u6, none] [] s = ab_at X (d + 31) 360 23 [some (.inr (14, 0)), some (.inr (0, 0)), some (.inr (9, 0)), some (.inr (15, 0)), some (.inl (.int (nI (k + 6)))), v5, v6, none] [] s2 := by
  obtain ⟨hC, hT, hI, ⟨τ, hP⟩, e2, e3, -, -⟩ := id h
  obtain ⟨n, nr, np, hs, ml, m, by', nm, z, st, bm, lo, li, hW⟩ := hC
  obtain ⟨s2, v5, v6, r, e⟩ := o84 (X := X) (d := d) (k := k) (u5 := u5) (u6 := u6) (s := s) hW.PW hk hX
  exact ⟨s2, v5, v6, h.W r, e⟩
theorem p4 (h : INV c0 c1 k s) (hk : k + 5 < X.2) (hX : X.2 < 2 ^ 31) : ∃ (s2 : ab_S) (v5 v6 : Option ab_V), INV c0 c1 (k + 6) s2 ∧ ab_at X (d + 31) 360 482 [some (.inr (14, 0)), some (.inr (0, 0)), some (.inr (9, 0)), some (.inr (15, 0)), some (.inl (.int (nI k))), u5, u6, none] [] s = ab_at X (d + 31) 360 23 [some (.inr (14, 0)), some (.inr (0, 0)), some (.inr (9, 0)), some (.inr (15, 0)), some (.inl (.int (nI (k + 6)))), v5, v6, none] [] s2 := by
  obtain ⟨hC, hT, hI, ⟨τ, hP⟩, e2, e3, -, -⟩ := id h
  obtain ⟨n, nr, np, hs, ml, m, by', nm, z, st, bm, lo, li, hW⟩ := hC
  obtain ⟨s2, v5, v6, r, e⟩ := o89 (X := X) (d := d) (k := k) (u5 := u5) (u6 := u6) (s := s) hW.PW.1 hk hX
  exact ⟨s2, v5, v6, h.W r, e⟩
theorem p5 (h : INV c0 c1 k s) (hk : k + 5 < X.2) (hX : X.2 < 2 ^ 31) : ∃ (s2 : ab_S) (v5 v6 : Option ab_V), INV c0 c1 (k + 6) s2 ∧ ab_at X (d + 31) 360 550 [some (.inr (14, 0)), some (.inr (0, 0)), some (.inr (9, 0)), some (.inr (15, 0)), some (.inl (.int (nI k))), u5, u6, none] [] s = ab_at X (d + 31) 360 23 [some (.inr (14, 0)), some (.inr (0, 0)), some (.inr (9, 0)), some (.inr (15, 0)), some (.inl (.int (nI (k + 6)))), v5, v6, none] [] s2 := by
  obtain ⟨hC, hT, hI, ⟨τ, hP⟩, e2, e3, -, -⟩ := id h
  obtain ⟨n, nr, np, hs, ml, m, by', nm, z, st, bm, lo, li, hW⟩ := hC
  obtain ⟨s2, v5, v6, r, e⟩ := o93 (X := X) (d := d) (k := k) (u5 := u5) (u6 := u6) (s := s) hW.PW hk hX
  exact ⟨s2, v5, v6, h.W r, e⟩
theorem p6 (h : INV c0 c1 k s) (hk : k + 5 < X.2) (hX : X.2 < 2 ^ 31) : ∃ (s2 : ab_S) (v5 v6 : Option ab_V), INV c0 c1 (k + 6) s2 ∧ ab_at X (d + 31) 360 618 [some (.inr (14, 0)), some (.inr (0, 0)), some (.inr (9, 0)), some (.inr (15, 0)), some (.inl (.int (nI k))), u5, u6, none] [] s = ab_at X (d + 31) 360 23 [some (.inr (14, 0)), some (.inr (0, 0)), some (.inr (9, 0)), some (.inr (15, 0)), some (.inl (.int (nI (k + 6)))), v5, v6, none] [] s2 := by
  obtain ⟨hC, hT, hI, ⟨τ, hP⟩, e2, e3, -, -⟩ := id h
  obtain ⟨n, nr, np, hs, ml, m, by', nm, z, st, bm, lo, li, hW⟩ := hC
  obtain ⟨s2, v5, v6, r, e⟩ := o96 (X := X) (d := d) (k := k) (u5 := u5) (u6 := u6) (s := s) hW.PW.1 hk hX
  exact ⟨s2, v5, v6, h.W r, e⟩
theorem p7 (h : INV c0 c1 k s) (hk : k + 5 < X.2) (hX : X.2 < 2 ^ 31) : ∃ (s2 : ab_S) (v5 v6 : Option ab_V), INV c0 c1 (k + 6) s2 ∧ ab_at X (d + 31) 360 674 [some (.inr (14, 0)), some (.inr (0, 0)), some (.inr (9, 0)), some (.inr (15, 0)), some (.inl (.int (nI k))), u5, u6, none] [] s = ab_at X (d + 31) 360 23 [some (.inr (14, 0)), some (.inr (0, 0)), some (.inr (9, 0)), some (.inr (15, 0)), some (.inl (.int (nI (k + 6)))), v5, v6, none] [] s2 := by
  obtain ⟨hC, hT, hI, ⟨τ, hP⟩, e2, e3, -, -⟩ := id h
  obtain ⟨n, nr, np, hs, ml, m, by', nm, z, st, bm, lo, li, hW⟩ := hC
  obtain ⟨s2, v5, v6, r, e⟩ := o100 (X := X) (d := d) (k := k) (u5 := u5) (u6 := u6) (s := s) hW.PW hk hX
  exact ⟨s2, v5, v6, h.W r, e⟩
theorem p8 (h : INV c0 c1 k s) (hk : k + 5 < X.2) (hX : X.2 < 2 ^ 31) : ∃ (s2 : ab_S) (v5 v6 : Option ab_V), INV c0 c1 (k + 6) s2 ∧ ab_at X (d + 31) 360 742 [some (.inr (14, 0)), some (.inr (0, 0)), some (.inr (9, 0)), some (.inr (15, 0)), some (.inl (.int (nI k))), u5, u6, none] [] s = ab_at X (d + 31) 360 23 [some (.inr (14, 0)), some (.inr (0, 0)), some (.inr (9, 0)), some (.inr (15, 0)), some (.inl (.int (nI (k + 6)))), v5, v6, none] [] s2 := by
  obtain ⟨hC, hT, hI, ⟨τ, hP⟩, e2, e3, -, -⟩ := id h
  obtain ⟨n, nr, np, hs, ml, m, by', nm, z, st, bm, lo, li, hW⟩ := hC
  obtain ⟨s2, v5, v6, r, e⟩ := o105 (X := X) (d := d) (k := k) (u5 := u5) (u6 := u6) (s := s) hW.PW.1 hk hX
  exact ⟨s2, v5, v6, h.W r, e⟩
theorem p9 (h : INV c0 c1 k s) (hk : k + 5 < X.2) (hX : X.2 < 2 ^ 31) : ∃ (s2 : ab_S) (v5 v6 : Option ab_V), INV c0 c1 (k + 6) s2 ∧ ab_at X (d + 31) 360 810 [some (.inr (14, 0)), some (.inr (0, 0)), some (.inr (9, 0)), some (.inr (15, 0)), some (.inl (.int (nI k))), u5, u6, none] [] s = ab_at X (d + 31) 360 23 [some (.inr (14, 0)), some (.inr (0, 0)), some (.inr (9, 0)), some (.inr (15, 0)), some (.inl (.int (nI (k + 6)))), v5, v6, none] [] s2 := by
  obtain ⟨hC, hT, hI, ⟨τ, hP⟩, e2, e3, -, -⟩ := id h
  obtain ⟨n, nr, np, hs, ml, m, by', nm, z, st, bm, lo, li, hW⟩ := hC
  obtain ⟨s2, v5, v6, r, e⟩ := o109 (X := X) (d := d) (k := k) (u5 := u5) (u6 := u6) (s := s) hW.PW.1 hk hX
  exact ⟨s2, v5, v6, h.W r, e⟩
theorem p10 (h : INV c0 c1 k s) (hk : k + 5 < X.2) (hX : X.2 < 2 ^ 31) : ∃ (s2 : ab_S) (v5 v6 : Option ab_V), INV c0 c1 (k + 6) s2 ∧ ab_at X (d + 31) 360 878 [some (.inr (14, 0)), some (.inr (0, 0)), some (.inr (9, 0)), some (.inr (15, 0)), some (.inl (.int (nI k))), u5, u6, none] [] s = ab_at X (d + 31) 360 23 [some (.inr (14, 0)), some (.inr (0, 0)), some (.inr (9, 0)), some (.inr (15, 0)), some (.inl (.int (nI (k + 6)))), v5, v6, none] [] s2 := by
  obtain ⟨hC, hT, hI, ⟨τ, hP⟩, e2, e3, -, -⟩ := id h
  obtain ⟨n, nr, np, hs, ml, m, by', nm, z, st, bm, lo, li, hW⟩ := hC
  obtain ⟨s2, v5, v6, r, e⟩ := o111 (X := X) (d := d) (k := k) (u5 := u5) (u6 := u6) (s := s) hW hk hX
  exact ⟨s2, v5, v6, h.Z r, e⟩
theorem p11 (h : INV c0 c1 k s) (hk : k + 5 < X.2) (hX : X.2 < 2 ^ 31) : ∃ (s2 : ab_S) (v5 v6 : Option ab_V), INV c0 c1 (k + 6) s2 ∧ ab_at X (d + 31) 360 934 [some (.inr (14, 0)), some (.inr (0, 0)), some (.inr (9, 0)), some (.inr (15, 0)), some (.inl (.int (nI k))), u5, u6, none] [] s = ab_at X (d + 31) 360 23 [some (.inr (14, 0)), some (.inr (0, 0)), some (.inr (9, 0)), some (.inr (15, 0)), some (.inl (.int (nI (k + 6)))), v5, v6, none] [] s2 := by
  obtain ⟨hC, hT, hI, ⟨τ, hP⟩, e2, e3, -, -⟩ := id h
  obtain ⟨n, nr, np, hs, ml, m, by', nm, z, st, bm, lo, li, hW⟩ := hC
  obtain ⟨s2, v5, v6, r, e⟩ := o5 (X := X) (d := d) (k := k) (u5 := u5) (u6 := u6) (s := s) hW.PW hW.LW (hW.NW (hP.1.trans hP.2.1.symm)) hk hX
  exact ⟨s2, v5, v6, h.Y r, e⟩
theorem p12 (h : INV c0 c1 k s) (hk : k + 5 < X.2) (hX : X.2 < 2 ^ 31) : ∃ (s2 : ab_S) (v5 v6 : Option ab_V), INV c0 c1 (k + 6) s2 ∧ ab_at X (d + 31) 360 947 [some (.inr (14, 0)), some (.inr (0, 0)), some (.inr (9, 0)), some (.inr (15, 0)), some (.inl (.int (nI k))), u5, u6, none] [] s = ab_at X (d + 31) 360 23 [some (.inr (14, 0)), some (.inr (0, 0)), some (.inr (9, 0)), some (.inr (15, 0)), some (.inl (.int (nI (k + 6)))), v5, v6, none] [] s2 := by
  obtain ⟨hC, hT, hI, ⟨τ, hP⟩, e2, e3, -, -⟩ := id h
  obtain ⟨n, nr, np, hs, ml, m, by', nm, z, st, bm, lo, li, hW⟩ := hC
  obtain ⟨s2, v5, v6, r, e⟩ := o117 (X := X) (d := d) (k := k) (u5 := u5) (u6 := u6) (s := s) hW.PW hW.LW (hW.NW (hP.1.trans hP.2.1.symm)) hk hX
  exact ⟨s2, v5, v6, h.Y r, e⟩
theorem p13 (h : INV c0 c1 k s) (hk : k + 5 < X.2) (hX : X.2 < 2 ^ 31) : ∃ (s2 : ab_S) (v5 v6 : Option ab_V), INV c0 c1 (k + 6) s2 ∧ ab_at X (d + 31) 360 1003 [some (.inr (14, 0)), some (.inr (0, 0)), some (.inr (9, 0)), some (.inr (15, 0)), some (.inl (.int (nI k))), u5, u6, none] [] s = ab_at X (d + 31) 360 23 [some (.inr (14, 0)), some (.inr (0, 0)), some (.inr (9, 0)), some (.inr (15, 0)), some (.inl (.int (nI (k + 6)))), v5, v6, none] [] s2 := by
  obtain ⟨hC, hT, hI, ⟨τ, hP⟩, e2, e3, -, -⟩ := id h
  obtain ⟨n, nr, np, hs, ml, m, by', nm, z, st, bm, lo, li, hW⟩ := hC
  obtain ⟨s2, v5, v6, r, e⟩ := o119 (X := X) (d := d) (k := k) (u5 := u5) (u6 := u6) (s := s) hW.PW hW.LW (hW.NW (hP.1.trans hP.2.1.symm)) hk hX
  exact ⟨s2, v5, v6, h.Y r, e⟩
theorem p14 (h : INV c0 c1 k s) (hk : k + 5 < X.2) (hX : X.2 < 2 ^ 31) : ∃ (s2 : ab_S) (v5 v6 : Option ab_V), INV c0 c1 (k + 6) s2 ∧ ab_at X (d + 31) 360 1059 [some (.inr (14, 0)), some (.inr (0, 0)), some (.inr (9, 0)), some (.inr (15, 0)), some (.inl (.int (nI k))), u5, u6, none] [] s = ab_at X (d + 31) 360 23 [some (.inr (14, 0)), some (.inr (0, 0)), some (.inr (9, 0)), some (.inr (15, 0)), some (.inl (.int (nI (k + 6)))), v5, v6, none] [] s2 := by
  obtain ⟨hC, hT, hI, ⟨τ, hP⟩, e2, e3, -, -⟩ := id h
  obtain ⟨n, nr, np, hs, ml, m, by', nm, z, st, bm, lo, li, hW⟩ := hC
  obtain ⟨s2, v5, v6, r, e⟩ := o122 (X := X) (d := d) (k := k) (u5 := u5) (u6 := u6) (s := s) hW hk hX
  exact ⟨s2, v5, v6, h.Z r, e⟩
theorem p15 (h : INV c0 c1 k s) (hk : k + 5 < X.2) (hX : X.2 < 2 ^ 31) : ∃ (s2 : ab_S) (v5 v6 : Option ab_V), INV c0 c1 (k + 6) s2 ∧ ab_at X (d + 31) 360 1127 [some (.inr (14, 0)), some (.inr (0, 0)), some (.inr (9, 0)), some (.inr (15, 0)), some (.inl (.int (nI k))), u5, u6, none] [] s = ab_at X (d + 31) 360 23 [some (.inr (14, 0)), some (.inr (0, 0)), some (.inr (9, 0)), some (.inr (15, 0)), some (.inl (.int (nI (k + 6)))), v5, v6, none] [] s2 := by
  obtain ⟨hC, hT, hI, ⟨τ, hP⟩, e2, e3, -, -⟩ := id h
  obtain ⟨n, nr, np, hs, ml, m, by', nm, z, st, bm, lo, li, hW⟩ := hC
  obtain ⟨s2, v5, v6, r, e⟩ := o125 (X := X) (d := d) (k := k) (u5 := u5) (u6 := u6) (s := s) hW hk hX
  exact ⟨s2, v5, v6, h.Z r, e⟩
theorem p16 (h : INV c0 c1 k s) (hk : k + 5 < X.2) (hX : X.2 < 2 ^ 31) : ∃ (s2 : ab_S) (v5 v6 : Option ab_V), INV c0 c1 (k + 6) s2 ∧ ab_at X (d + 31) 360 1195 [some (.inr (14, 0)), some (.inr (0, 0)), some (.inr (9, 0)), some (.inr (15, 0)), some (.inl (.int (nI k))), u5, u6, none] [] s = ab_at X (d + 31) 360 23 [some (.inr (14, 0)), some (.inr (0, 0)), some (.inr (9, 0)), some (.inr (15, 0)), some (.inl (.int (nI (k + 6)))), v5, v6, none] [] s2 := by
  obtain ⟨hC, hT, hI, ⟨τ, hP⟩, e2, e3, -, -⟩ := id h
  obtain ⟨n, nr, np, hs, ml, m, by', nm, z, st, bm, lo, li, hW⟩ := hC
  obtain ⟨s2, v5, v6, r, e⟩ := o130 (X := X) (d := d) (k := k) (u5 := u5) (u6 := u6) (s := s) hW hk hX
  exact ⟨s2, v5, v6, h.Z r, e⟩
theorem p17 (h : INV c0 c1 k s) (hk : k + 5 < X.2) (hX : X.2 < 2 ^ 31) : ∃ (s2 : ab_S) (v5 v6 : Option ab_V), INV c0 c1 (k + 6) s2 ∧ ab_at X (d + 31) 360 1275 [some (.inr (14, 0)), some (.inr (0, 0)), some (.inr (9, 0)), some (.inr (15, 0)), some (.inl (.int (nI k))), u5, u6, none] [] s = ab_at X (d + 31) 360 23 [some (.inr (14, 0)), some (.inr (0, 0)), some (.inr (9, 0)), some (.inr (15, 0)), some (.inl (.int (nI (k + 6)))), v5, v6, none] [] s2 := by
  obtain ⟨hC, hT, hI, ⟨τ, hP⟩, e2, e3, -, -⟩ := id h
  obtain ⟨n, nr, np, hs, ml, m, by', nm, z, st, bm, lo, li, hW⟩ := hC
  obtain ⟨s2, v5, v6, r, e⟩ := o133 (X := X) (d := d) (k := k) (u5 := u5) (u6 := u6) (s := s) hW hk hX
  exact ⟨s2, v5, v6, h.Z r, e⟩
theorem p18 (h : INV c0 c1 k s) (hk : k + 5 < X.2) (hX : X.2 < 2 ^ 31) : ∃ (s2 : ab_S) (v5 v6 : Option ab_V), INV c0 c1 (k + 6) s2 ∧ ab_at X (d + 31) 360 1343 [some (.inr (14, 0)), some (.inr (0, 0)), some (.inr (9, 0)), some (.inr (15, 0)), some (.inl (.int (nI k))), u5, u6, none] [] s = ab_at X (d + 31) 360 23 [some (.inr (14, 0)), some (.inr (0, 0)), some (.inr (9, 0)), some (.inr (15, 0)), some (.inl (.int (nI (k + 6)))), v5, v6, none] [] s2 := by
  obtain ⟨hC, hT, hI, ⟨τ, hP⟩, e2, e3, -, -⟩ := id h
  obtain ⟨n, nr, np, hs, ml, m, by', nm, z, st, bm, lo, li, hW⟩ := hC
  obtain ⟨s2, v5, v6, r, e⟩ := o137 (X := X) (d := d) (k := k) (u5 := u5) (u6 := u6) (s := s) hW hk hX
  exact ⟨s2, v5, v6, h.Z r, e⟩
theorem p19 (h : INV c0 c1 k s) (hk : k + 5 < X.2) (hX : X.2 < 2 ^ 31) : ∃ (s2 : ab_S) (v5 v6 : Option ab_V), INV c0 c1 (k + 6) s2 ∧ ab_at X (d + 31) 360 1399 [some (.inr (14, 0)), some (.inr (0, 0)), some (.inr (9, 0)), some (.inr (15, 0)), some (.inl (.int (nI k))), u5, u6, none] [] s = ab_at X (d + 31) 360 23 [some (.inr (14, 0)), some (.inr (0, 0)), some (.inr (9, 0)), some (.inr (15, 0)), some (.inl (.int (nI (k + 6)))), v5, v6, none] [] s2 := by
  obtain ⟨hC, hT, hI, ⟨τ, hP⟩, e2, e3, -, -⟩ := id h
  obtain ⟨n, nr, np, hs, ml, m, by', nm, z, st, bm, lo, li, hW⟩ := hC
  obtain ⟨s2, v5, v6, r, e⟩ := o140 (X := X) (d := d) (k := k) (u5 := u5) (u6 := u6) (s := s) hW hk hX
  exact ⟨s2, v5, v6, h.Z r, e⟩
theorem p20 (h : INV c0 c1 k s) (hk : k + 5 < X.2) (hX : X.2 < 2 ^ 31) : ∃ (s2 : ab_S) (v5 v6 : Option ab_V), INV c0 c1 (k + 6) s2 ∧ ab_at X (d + 31) 360 1479 [some (.inr (14, 0)), some (.inr (0, 0)), some (.inr (9, 0)), some (.inr (15, 0)), some (.inl (.int (nI k))), u5, u6, none] [] s = ab_at X (d + 31) 360 23 [some (.inr (14, 0)), some (.inr (0, 0)), some (.inr (9, 0)), some (.inr (15, 0)), some (.inl (.int (nI (k + 6)))), v5, v6, none] [] s2 := by
  obtain ⟨hC, hT, hI, ⟨τ, hP⟩, e2, e3, -, -⟩ := id h
  obtain ⟨n, nr, np, hs, ml, m, by', nm, z, st, bm, lo, li, hW⟩ := hC
  obtain ⟨s2, v5, v6, r, e⟩ := o143 (X := X) (d := d) (k := k) (u5 := u5) (u6 := u6) (s := s) hW hk hX
  exact ⟨s2, v5, v6, h.Z r, e⟩
theorem p21 (h : INV c0 c1 k s) (hk : k + 5 < X.2) (hX : X.2 < 2 ^ 31) : ∃ (s2 : ab_S) (v5 v6 : Option ab_V), INV c0 c1 (k + 6) s2 ∧ ab_at X (d + 31) 360 1535 [some (.inr (14, 0)), some (.inr (0, 0)), some (.inr (9, 0)), some (.inr (15, 0)), some (.inl (.int (nI k))), u5, u6, none] [] s = ab_at X (d + 31) 360 23 [some (.inr (14, 0)), some (.inr (0, 0)), some (.inr (9, 0)), some (.inr (15, 0)), some (.inl (.int (nI (k + 6)))), v5, v6, none] [] s2 := by
  obtain ⟨hC, hT, hI, ⟨τ, hP⟩, e2, e3, -, -⟩ := id h
  obtain ⟨n, nr, np, hs, ml, m, by', nm, z, st, bm, lo, li, hW⟩ := hC
  obtain ⟨s2, v5, v6, r, e⟩ := o148 (X := X) (d := d) (k := k) (u5 := u5) (u6 := u6) (s := s) hW hT hk hX
  exact ⟨s2, v5, v6, h.Y r, e⟩
theorem p22 (h : INV c0 c1 k s) (hk : k + 5 < X.2) (hX : X.2 < 2 ^ 31) : ∃ (s2 : ab_S) (v5 v6 : Option ab_V), INV c0 c1 (k + 6) s2 ∧ ab_at X (d + 31) 360 1603 [some (.inr (14, 0)), some (.inr (0, 0)), some (.inr (9, 0)), some (.inr (15, 0)), some (.inl (.int (nI k))), u5, u6, none] [] s = ab_at X (d + 31) 360 23 [some (.inr (14, 0)), some (.inr (0, 0)), some (.inr (9, 0)), some (.inr (15, 0)), some (.inl (.int (nI (k + 6)))), v5, v6, none] [] s2 := by
  obtain ⟨hC, hT, hI, ⟨τ, hP⟩, e2, e3, -, -⟩ := id h
  obtain ⟨n, nr, np, hs, ml, m, by', nm, z, st, bm, lo, li, hW⟩ := hC
  obtain ⟨s2, v5, v6, r, e⟩ := o155 (X := X) (d := d) (k := k) (u5 := u5) (u6 := u6) (s := s) hW hT hk hX
  exact ⟨s2, v5, v6, h.Z r, e⟩
theorem p23 (h : INV c0 c1 k s) (hk : k + 5 < X.2) (hX : X.2 < 2 ^ 31) : ∃ (s2 : ab_S) (v5 v6 : Option ab_V), INV c0 c1 (k + 6) s2 ∧ ab_at X (d + 31) 360 1659 [some (.inr (14, 0)), some (.inr (0, 0)), some (.inr (9, 0)), some (.inr (15, 0)), some (.inl (.int (nI k))), u5, u6, none] [] s = ab_at X (d + 31) 360 23 [some (.inr (14, 0)), some (.inr (0, 0)), some (.inr (9, 0)), some (.inr (15, 0)), some (.inl (.int (nI (k + 6)))), v5, v6, none] [] s2 := by
  obtain ⟨hC, hT, hI, ⟨τ, hP⟩, e2, e3, -, -⟩ := id h
  obtain ⟨n, nr, np, hs, ml, m, by', nm, z, st, bm, lo, li, hW⟩ := hC
  obtain ⟨s2, v5, v6, r, e⟩ := o157 (X := X) (d := d) (k := k) (u5 := u5) (u6 := u6) (s := s) hW hk hX
  exact ⟨s2, v5, v6, h.Z r, e⟩
theorem p24 (h : INV c0 c1 k s) (hk : k + 5 < X.2) (hX : X.2 < 2 ^ 31) : ∃ (s2 : ab_S) (v5 v6 : Option ab_V), INV c0 c1 (k + 6) s2 ∧ ab_at X (d + 31) 360 1727 [some (.inr (14, 0)), some (.inr (0, 0)), some (.inr (9, 0)), some (.inr (15, 0)), some (.inl (.int (nI k))), u5, u6, none] [] s = ab_at X (d + 31) 360 23 [some (.inr (14, 0)), some (.inr (0, 0)), some (.inr (9, 0)), some (.inr (15, 0)), some (.inl (.int (nI (k + 6)))), v5, v6, none] [] s2 := by
  obtain ⟨hC, hT, hI, ⟨τ, hP⟩, e2, e3, -, -⟩ := id h
  obtain ⟨n, nr, np, hs, ml, m, by', nm, z, st, bm, lo, li, hW⟩ := hC
  obtain ⟨s2, v5, v6, r, e⟩ := o16 (X := X) (d := d) (k := k) (u5 := u5) (u6 := u6) (s := s) hW.PW.1 hk hX
  exact ⟨s2, v5, v6, h.W r, e⟩
theorem p25 (h : INV c0 c1 k s) (hk : k + 5 < X.2) (hX : X.2 < 2 ^ 31) : ∃ (s2 : ab_S) (v5 v6 : Option ab_V), INV c0 c1 (k + 6) s2 ∧ ab_at X (d + 31) 360 1741 [some (.inr (14, 0)), some (.inr (0, 0)), some (.inr (9, 0)), some (.inr (15, 0)), some (.inl (.int (nI k))), u5, u6, none] [] s = ab_at X (d + 31) 360 23 [some (.inr (14, 0)), some (.inr (0, 0)), some (.inr (9, 0)), some (.inr (15, 0)), some (.inl (.int (nI (k + 6)))), v5, v6, none] [] s2 := by
  obtain ⟨hC, hT, hI, ⟨τ, hP⟩, e2, e3, -, -⟩ := id h
  obtain ⟨n, nr, np, hs, ml, m, by', nm, z, st, bm, lo, li, hW⟩ := hC
  obtain ⟨s2, v5, v6, r, e⟩ := o29 (X := X) (d := d) (k := k) (u5 := u5) (u6 := u6) (s := s) hW.PW.1 hk hX
  exact ⟨s2, v5, v6, h.W r, e⟩
theorem p26 (h : INV c0 c1 k s) (hk : k + 5 < X.2) (hX : X.2 < 2 ^ 31) : ∃ (s2 : ab_S) (v5 v6 : Option ab_V), INV c0 c1 (k + 6) s2 ∧ ab_at X (d + 31) 360 1755 [some (.inr (14, 0)), some (.inr (0, 0)), some (.inr (9, 0)), some (.inr (15, 0)), some (.inl (.int (nI k))), u5, u6, none] [] s = ab_at X (d + 31) 360 23 [some (.inr (14, 0)), some (.inr (0, 0)), some (.inr (9, 0)), some (.inr (15, 0)), some (.inl (.int (nI (k + 6)))), v5, v6, none] [] s2 := by
  obtain ⟨hC, hT, hI, ⟨τ, hP⟩, e2, e3, -, -⟩ := id h
  obtain ⟨n, nr, np, hs, ml, m, by', nm, z, st, bm, lo, li, hW⟩ := hC
  obtain ⟨s2, v5, v6, r, e⟩ := o161 (X := X) (d := d) (k := k) (u5 := u5) (u6 := u6) (s := s) hW.PW.1 hT hk hX
  exact ⟨s2, v5, v6, h.W r, e⟩
theorem p27 (h : INV c0 c1 k s) (hk : k + 5 < X.2) (hX : X.2 < 2 ^ 31) : ∃ (s2 : ab_S) (v5 v6 : Option ab_V), INV c0 c1 (k + 6) s2 ∧ ab_at X (d + 31) 360 1810 [some (.inr (14, 0)), some (.inr (0, 0)), some (.inr (9, 0)), some (.inr (15, 0)), some (.inl (.int (nI k))), u5, u6, none] [] s = ab_at X (d + 31) 360 23 [some (.inr (14, 0)), some (.inr (0, 0)), some (.inr (9, 0)), some (.inr (15, 0)), some (.inl (.int (nI (k + 6)))), v5, v6, none] [] s2 := by
  obtain ⟨hC, hT, hI, ⟨τ, hP⟩, e2, e3, -, -⟩ := id h
  obtain ⟨n, nr, np, hs, ml, m, by', nm, z, st, bm, lo, li, hW⟩ := hC
  obtain ⟨s2, v5, v6, r, e⟩ := o165 (X := X) (d := d) (k := k) (u5 := u5) (u6 := u6) (s := s) hW.PW.1 hk hX
  exact ⟨s2, v5, v6, h.W r, e⟩
theorem p28 (h : INV c0 c1 k s) (hk : k + 5 < X.2) (hX : X.2 < 2 ^ 31) : ∃ (s2 : ab_S) (v5 v6 : Option ab_V), INV c0 c1 (k + 6) s2 ∧ ab_at X (d + 31) 360 1877 [some (.inr (14, 0)), some (.inr (0, 0)), some (.inr (9, 0)), some (.inr (15, 0)), some (.inl (.int (nI k))), u5, u6, none] [] s = ab_at X (d + 31) 360 23 [some (.inr (14, 0)), some (.inr (0, 0)), some (.inr (9, 0)), some (.inr (15, 0)), some (.inl (.int (nI (k + 6)))), v5, v6, none] [] s2 := by
  obtain ⟨hC, hT, hI, ⟨τ, hP⟩, e2, e3, -, -⟩ := id h
  obtain ⟨n, nr, np, hs, ml, m, by', nm, z, st, bm, lo, li, hW⟩ := hC
  obtain ⟨s2, v5, v6, r, e⟩ := o167 (X := X) (d := d) (k := k) (u5 := u5) (u6 := u6) (s := s) hW.PW.1 hk hX
  exact ⟨s2, v5, v6, h.W r, e⟩
theorem p29 (h : INV c0 c1 k s) (hk : k + 5 < X.2) (hX : X.2 < 2 ^ 31) : ∃ (s2 : ab_S) (v5 v6 : Option ab_V), INV c0 c1 (k + 6) s2 ∧ ab_at X (d + 31) 360 1933 [some (.inr (14, 0)), some (.inr (0, 0)), some (.inr (9, 0)), some (.inr (15, 0)), some (.inl (.int (nI k))), u5, u6, none] [] s = ab_at X (d + 31) 360 23 [some (.inr (14, 0)), some (.inr (0, 0)), some (.inr (9, 0)), some (.inr (15, 0)), some (.inl (.int (nI (k + 6)))), v5, v6, none] [] s2 := by
  obtain ⟨hC, hT, hI, ⟨τ, hP⟩, e2, e3, -, -⟩ := id h
  obtain ⟨n, nr, np, hs, ml, m, by', nm, z, st, bm, lo, li, hW⟩ := hC
  obtain ⟨s2, v5, v6, r, e⟩ := o169 (X := X) (d := d) (k := k) (u5 := u5) (u6 := u6) (s := s) hW.PW.1 hk hX
  exact ⟨s2, v5, v6, h.W r, e⟩
theorem p30 (h : INV c0 c1 k s) (hk : k + 5 < X.2) (hX : X.2 < 2 ^ 31) : ∃ (s2 : ab_S) (v5 v6 : Option ab_V), INV c0 c1 (k + 6) s2 ∧ ab_at X (d + 31) 360 2001 [some (.inr (14, 0)), some (.inr (0, 0)), some (.inr (9, 0)), some (.inr (15, 0)), some (.inl (.int (nI k))), u5, u6, none] [] s = ab_at X (d + 31) 360 23 [some (.inr (14, 0)), some (.inr (0, 0)), some (.inr (9, 0)), some (.inr (15, 0)), some (.inl (.int (nI (k + 6)))), v5, v6, none] [] s2 := by
  obtain ⟨hC, hT, hI, ⟨τ, hP⟩, e2, e3, -, -⟩ := id h
  obtain ⟨n, nr, np, hs, ml, m, by', nm, z, st, bm, lo, li, hW⟩ := hC
  obtain ⟨s2, v5, v6, r, e⟩ := o171 (X := X) (d := d) (k := k) (u5 := u5) (u6 := u6) (s := s) hW.PW.1 hk hX
  exact ⟨s2, v5, v6, h.W r, e⟩
theorem p31 (h : INV c0 c1 k s) (hk : k + 5 < X.2) (hX : X.2 < 2 ^ 31) : ∃ (s2 : ab_S) (v5 v6 : Option ab_V), INV c0 c1 (k + 6) s2 ∧ ab_at X (d + 31) 360 2069 [some (.inr (14, 0)), some (.inr (0, 0)), some (.inr (9, 0)), some (.inr (15, 0)), some (.inl (.int (nI k))), u5, u6, none] [] s = ab_at X (d + 31) 360 23 [some (.inr (14, 0)), some (.inr (0, 0)), some (.inr (9, 0)), some (.inr (15, 0)), some (.inl (.int (nI (k + 6)))), v5, v6, none] [] s2 := by
  obtain ⟨hC, hT, hI, ⟨τ, hP⟩, e2, e3, -, -⟩ := id h
  obtain ⟨n, nr, np, hs, ml, m, by', nm, z, st, bm, lo, li, hW⟩ := hC
  obtain ⟨s2, v5, v6, r, e⟩ := o174 (X := X) (d := d) (k := k) (u5 := u5) (u6 := u6) (s := s) hW.PW hk hX
  exact ⟨s2, v5, v6, h.W r, e⟩
theorem p32 (h : INV c0 c1 k s) (hk : k + 5 < X.2) (hX : X.2 < 2 ^ 31) : ∃ (s2 : ab_S) (v5 v6 : Option ab_V), INV c0 c1 (k + 6) s2 ∧ ab_at X (d + 31) 360 2137 [some (.inr (14, 0)), some (.inr (0, 0)), some (.inr (9, 0)), some (.inr (15, 0)), some (.inl (.int (nI k))), u5, u6, none] [] s = ab_at X (d + 31) 360 23 [some (.inr (14, 0)), some (.inr (0, 0)), some (.inr (9, 0)), some (.inr (15, 0)), some (.inl (.int (nI (k + 6)))), v5, v6, none] [] s2 := by
  obtain ⟨hC, hT, hI, ⟨τ, hP⟩, e2, e3, -, -⟩ := id h
  obtain ⟨n, nr, np, hs, ml, m, by', nm, z, st, bm, lo, li, hW⟩ := hC
  obtain ⟨s2, v5, v6, r, e⟩ := o177 (X := X) (d := d) (k := k) (u5 := u5) (u6 := u6) (s := s) hW.PW.1 hT hk hX
  exact ⟨s2, v5, v6, h.Y r, e⟩
theorem p33 (h : INV c0 c1 k s) (hk : k + 5 < X.2) (hX : X.2 < 2 ^ 31) : ∃ (s2 : ab_S) (v5 v6 : Option ab_V), INV c0 c1 (k + 6) s2 ∧ ab_at X (d + 31) 360 2205 [some (.inr (14, 0)), some (.inr (0, 0)), some (.inr (9, 0)), some (.inr (15, 0)), some (.inl (.int (nI k))), u5, u6, none] [] s = ab_at X (d + 31) 360 23 [some (.inr (14, 0)), some (.inr (0, 0)), some (.inr (9, 0)), some (.inr (15, 0)), some (.inl (.int (nI (k + 6)))), v5, v6, none] [] s2 := by
  obtain ⟨hC, hT, hI, ⟨τ, hP⟩, e2, e3, -, -⟩ := id h
  obtain ⟨n, nr, np, hs, ml, m, by', nm, z, st, bm, lo, li, hW⟩ := hC
  obtain ⟨s2, v5, v6, r, e⟩ := o190 (X := X) (d := d) (k := k) (u5 := u5) (u6 := u6) (s := s) hW.PW.1 hk hX
  exact ⟨s2, v5, v6, h.W r, e⟩
theorem p34 (h : INV c0 c1 k s) (hk : k + 5 < X.2) (hX : X.2 < 2 ^ 31) : ∃ (s2 : ab_S) (v5 v6 : Option ab_V), INV c0 c1 (k + 6) s2 ∧ ab_at X (d + 31) 360 2285 [some (.inr (14, 0)), some (.inr (0, 0)), some (.inr (9, 0)), some (.inr (15, 0)), some (.inl (.int (nI k))), u5, u6, none] [] s = ab_at X (d + 31) 360 23 [some (.inr (14, 0)), some (.inr (0, 0)), some (.inr (9, 0)), some (.inr (15, 0)), some (.inl (.int (nI (k + 6)))), v5, v6, none] [] s2 := by
  obtain ⟨hC, hT, hI, ⟨τ, hP⟩, e2, e3, -, -⟩ := id h
  obtain ⟨n, nr, np, hs, ml, m, by', nm, z, st, bm, lo, li, hW⟩ := hC
  obtain ⟨s2, v5, v6, r, e⟩ := o192 (X := X) (d := d) (k := k) (u5 := u5) (u6 := u6) (s := s) hW.PW hk hX
  exact ⟨s2, v5, v6, h.W r, e⟩
theorem p35 (h : INV c0 c1 k s) (hk : k + 5 < X.2) (hX : X.2 < 2 ^ 31) : ∃ (s2 : ab_S) (v5 v6 : Option ab_V), INV c0 c1 (k + 6) s2 ∧ ab_at X (d + 31) 360 2365 [some (.inr (14, 0)), some (.inr (0, 0)), some (.inr (9, 0)), some (.inr (15, 0)), some (.inl (.int (nI k))), u5, u6, none] [] s = ab_at X (d + 31) 360 23 [some (.inr (14, 0)), some (.inr (0, 0)), some (.inr (9, 0)), some (.inr (15, 0)), some (.inl (.int (nI (k + 6)))), v5, v6, none] [] s2 := by
  obtain ⟨hC, hT, hI, ⟨τ, hP⟩, e2, e3, -, -⟩ := id h
  obtain ⟨n, nr, np, hs, ml, m, by', nm, z, st, bm, lo, li, hW⟩ := hC
  obtain ⟨s2, v5, v6, r, e⟩ := o194 (X := X) (d := d) (k := k) (u5 := u5) (u6 := u6) (s := s) hW.PW hk hX
  exact ⟨s2, v5, v6, h.W r, e⟩
theorem p36 (h : INV c0 c1 k s) (hk : k + 5 < X.2) (hX : X.2 < 2 ^ 31) : ∃ (s2 : ab_S) (v5 v6 : Option ab_V), INV c0 c1 (k + 6) s2 ∧ ab_at X (d + 31) 360 2445 [some (.inr (14, 0)), some (.inr (0, 0)), some (.inr (9, 0)), some (.inr (15, 0)), some (.inl (.int (nI k))), u5, u6, none] [] s = ab_at X (d + 31) 360 23 [some (.inr (14, 0)), some (.inr (0, 0)), some (.inr (9, 0)), some (.inr (15, 0)), some (.inl (.int (nI (k + 6)))), v5, v6, none] [] s2 := by
  obtain ⟨hC, hT, hI, ⟨τ, hP⟩, e2, e3, -, -⟩ := id h
  obtain ⟨n, nr, np, hs, ml, m, by', nm, z, st, bm, lo, li, hW⟩ := hC
  obtain ⟨s2, v5, v6, r, e⟩ := o197 (X := X) (d := d) (k := k) (u5 := u5) (u6 := u6) (s := s) hW.PW.1 hk hX
  exact ⟨s2, v5, v6, h.W r, e⟩
theorem p37 (h : INV c0 c1 k s) (hk : k + 5 < X.2) (hX : X.2 < 2 ^ 31) : ∃ (s2 : ab_S) (v5 v6 : Option ab_V), INV c0 c1 (k + 6) s2 ∧ ab_at X (d + 31) 360 2501 [some (.inr (14, 0)), some (.inr (0, 0)), some (.inr (9, 0)), some (.inr (15, 0)), some (.inl (.int (nI k))), u5, u6, none] [] s = ab_at X (d + 31) 360 23 [some (.inr (14, 0)), some (.inr (0, 0)), some (.inr (9, 0)), some (.inr (15, 0)), some (.inl (.int (nI (k + 6)))), v5, v6, none] [] s2 := by
  obtain ⟨hC, hT, hI, ⟨τ, hP⟩, e2, e3, -, -⟩ := id h
  obtain ⟨n, nr, np, hs, ml, m, by', nm, z, st, bm, lo, li, hW⟩ := hC
  obtain ⟨s2, v5, v6, r, e⟩ := o199 (X := X) (d := d) (k := k) (u5 := u5) (u6 := u6) (s := s) hW.PW.1 hk hX
  exact ⟨s2, v5, v6, h.W r, e⟩
theorem p38 (h : INV c0 c1 k s) (hk : k + 5 < X.2) (hX : X.2 < 2 ^ 31) : ∃ (s2 : ab_S) (v5 v6 : Option ab_V), INV c0 c1 (k + 6) s2 ∧ ab_at X (d + 31) 360 2569 [some (.inr (14, 0)), some (.inr (0, 0)), some (.inr (9, 0)), some (.inr (15, 0)), some (.inl (.int (nI k))), u5, u6, none] [] s = ab_at X (d + 31) 360 23 [some (.inr (14, 0)), some (.inr (0, 0)), some (.inr (9, 0)), some (.inr (15, 0)), some (.inl (.int (nI (k + 6)))), v5, v6, none] [] s2 := by
  obtain ⟨hC, hT, hI, ⟨τ, hP⟩, e2, e3, -, -⟩ := id h
  obtain ⟨n, nr, np, hs, ml, m, by', nm, z, st, bm, lo, li, hW⟩ := hC
  obtain ⟨s2, v5, v6, r, e⟩ := o201 (X := X) (d := d) (k := k) (u5 := u5) (u6 := u6) (s := s) hW.PW.1 hk hX
  exact ⟨s2, v5, v6, h.W r, e⟩
theorem p39 (h : INV c0 c1 k s) (hk : k + 5 < X.2) (hX : X.2 < 2 ^ 31) : ∃ (s2 : ab_S) (v5 v6 : Option ab_V), INV c0 c1 (k + 6) s2 ∧ ab_at X (d + 31) 360 2625 [some (.inr (14, 0)), some (.inr (0, 0)), some (.inr (9, 0)), some (.inr (15, 0)), some (.inl (.int (nI k))), u5, u6, none] [] s = ab_at X (d + 31) 360 23 [some (.inr (14, 0)), some (.inr (0, 0)), some (.inr (9, 0)), some (.inr (15, 0)), some (.inl (.int (nI (k + 6)))), v5, v6, none] [] s2 := by
  obtain ⟨hC, hT, hI, ⟨τ, hP⟩, e2, e3, -, -⟩ := id h
  obtain ⟨n, nr, np, hs, ml, m, by', nm, z, st, bm, lo, li, hW⟩ := hC
  obtain ⟨s2, v5, v6, r, e⟩ := o204 (X := X) (d := d) (k := k) (u5 := u5) (u6 := u6) (s := s) hW.PW.1 hk hX
  exact ⟨s2, v5, v6, h.W r, e⟩
theorem p40 (h : INV c0 c1 k s) (hk : k + 5 < X.2) (hX : X.2 < 2 ^ 31) : ∃ (s2 : ab_S) (v5 v6 : Option ab_V), INV c0 c1 (k + 6) s2 ∧ ab_at X (d + 31) 360 2681 [some (.inr (14, 0)), some (.inr (0, 0)), some (.inr (9, 0)), some (.inr (15, 0)), some (.inl (.int (nI k))), u5, u6, none] [] s = ab_at X (d + 31) 360 23 [some (.inr (14, 0)), some (.inr (0, 0)), some (.inr (9, 0)), some (.inr (15, 0)), some (.inl (.int (nI (k + 6)))), v5, v6, none] [] s2 := by
  obtain ⟨hC, hT, hI, ⟨τ, hP⟩, e2, e3, -, -⟩ := id h
  obtain ⟨n, nr, np, hs, ml, m, by', nm, z, st, bm, lo, li, hW⟩ := hC
  obtain ⟨s2, v5, v6, r, e⟩ := o206 (X := X) (d := d) (k := k) (u5 := u5) (u6 := u6) (s := s) hW.PW.1 hT hk hX
  exact ⟨s2, v5, v6, h.W r, e⟩
theorem p41 (h : INV c0 c1 k s) (hk : k + 5 < X.2) (hX : X.2 < 2 ^ 31) : ∃ (s2 : ab_S) (v5 v6 : Option ab_V), INV c0 c1 (k + 6) s2 ∧ ab_at X (d + 31) 360 2749 [some (.inr (14, 0)), some (.inr (0, 0)), some (.inr (9, 0)), some (.inr (15, 0)), some (.inl (.int (nI k))), u5, u6, none] [] s = ab_at X (d + 31) 360 23 [some (.inr (14, 0)), some (.inr (0, 0)), some (.inr (9, 0)), some (.inr (15, 0)), some (.inl (.int (nI (k + 6)))), v5, v6, none] [] s2 := by
  obtain ⟨hC, hT, hI, ⟨τ, hP⟩, e2, e3, -, -⟩ := id h
  obtain ⟨n, nr, np, hs, ml, m, by', nm, z, st, bm, lo, li, hW⟩ := hC
  obtain ⟨s2, v5, v6, r, e⟩ := o210 (X := X) (d := d) (k := k) (u5 := u5) (u6 := u6) (s := s) hW.PW.1 hT hk hX
  exact ⟨s2, v5, v6, h.W r, e⟩
theorem p42 (h : INV c0 c1 k s) (hk : k + 5 < X.2) (hX : X.2 < 2 ^ 31) : ∃ (s2 : ab_S) (v5 v6 : Option ab_V), INV c0 c1 (k + 6) s2 ∧ ab_at X (d + 31) 360 2805 [some (.inr (14, 0)), some (.inr (0, 0)), some (.inr (9, 0)), some (.inr (15, 0)), some (.inl (.int (nI k))), u5, u6, none] [] s = ab_at X (d + 31) 360 23 [some (.inr (14, 0)), some (.inr (0, 0)), some (.inr (9, 0)), some (.inr (15, 0)), some (.inl (.int (nI (k + 6)))), v5, v6, none] [] s2 := by
  obtain ⟨hC, hT, hI, ⟨τ, hP⟩, e2, e3, -, -⟩ := id h
  obtain ⟨n, nr, np, hs, ml, m, by', nm, z, st, bm, lo, li, hW⟩ := hC
  obtain ⟨s2, v5, v6, r, e⟩ := o212 (X := X) (d := d) (k := k) (u5 := u5) (u6 := u6) (s := s) hW.PW.1 hT hk hX
  exact ⟨s2, v5, v6, h.W r, e⟩
theorem p43 (h : INV c0 c1 k s) (hk : k + 5 < X.2) (hX : X.2 < 2 ^ 31) : ∃ (s2 : ab_S) (v5 v6 : Option ab_V), INV c0 c1 (k + 6) s2 ∧ ab_at X (d + 31) 360 2861 [some (.inr (14, 0)), some (.inr (0, 0)), some (.inr (9, 0)), some (.inr (15, 0)), some (.inl (.int (nI k))), u5, u6, none] [] s = ab_at X (d + 31) 360 23 [some (.inr (14, 0)), some (.inr (0, 0)), some (.inr (9, 0)), some (.inr (15, 0)), some (.inl (.int (nI (k + 6)))), v5, v6, none] [] s2 := by
  obtain ⟨hC, hT, hI, ⟨τ, hP⟩, e2, e3, -, -⟩ := id h
  obtain ⟨n, nr, np, hs, ml, m, by', nm, z, st, bm, lo, li, hW⟩ := hC
  obtain ⟨s2, v5, v6, r, e⟩ := o33 (X := X) (d := d) (k := k) (u5 := u5) (u6 := u6) (s := s) hW.PW.1 hk hX
  exact ⟨s2, v5, v6, h.W r, e⟩
theorem p44 (h : INV c0 c1 k s) (hk : k + 5 < X.2) (hX : X.2 < 2 ^ 31) : ∃ (s2 : ab_S) (v5 v6 : Option ab_V), INV c0 c1 (k + 6) s2 ∧ ab_at X (d + 31) 360 2874 [some (.inr (14, 0)), some (.inr (0, 0)), some (.inr (9, 0)), some (.inr (15, 0)), some (.inl (.int (nI k))), u5, u6, none] [] s = ab_at X (d + 31) 360 23 [some (.inr (14, 0)), some (.inr (0, 0)), some (.inr (9, 0)), some (.inr (15, 0)), some (.inl (.int (nI (k + 6)))), v5, v6, none] [] s2 := by
  obtain ⟨hC, hT, hI, ⟨τ, hP⟩, e2, e3, -, -⟩ := id h
  obtain ⟨n, nr, np, hs, ml, m, by', nm, z, st, bm, lo, li, hW⟩ := hC
  obtain ⟨s2, v5, v6, r, e⟩ := o34 (X := X) (d := d) (k := k) (u5 := u5) (u6 := u6) (s := s) hW.PW.1 hk hX
  exact ⟨s2, v5, v6, h.W r, e⟩
theorem p45 (h : INV c0 c1 k s) (hk : k + 5 < X.2) (hX : X.2 < 2 ^ 31) : ∃ (s2 : ab_S) (v5 v6 : Option ab_V), INV c0 c1 (k + 6) s2 ∧ ab_at X (d + 31) 360 2887 [some (.inr (14, 0)), some (.inr (0, 0)), some (.inr (9, 0)), some (.inr (15, 0)), some (.inl (.int (nI k))), u5, u6, none] [] s = ab_at X (d + 31) 360 23 [some (.inr (14, 0)), some (.inr (0, 0)), some (.inr (9, 0)), some (.inr (15, 0)), some (.inl (.int (nI (k + 6)))), v5, v6, none] [] s2 := by
  obtain ⟨hC, hT, hI, ⟨τ, hP⟩, e2, e3, -, -⟩ := id h
  obtain ⟨s2, v5, v6, r, e⟩ := o216 (X := X) (d := d) (k := k) (u5 := u5) (u6 := u6) (s := s) hT hk hX
  exact ⟨s2, v5, v6, r.elim (fun r => h.Y r) (fun r => h.K r.1 r.2), e⟩
theorem p46 (h : INV c0 c1 k s) (hk : k + 5 < X.2) (hX : X.2 < 2 ^ 31) : ∃ (s2 : ab_S) (v5 v6 : Option ab_V), INV c0 c1 (k + 6) s2 ∧ ab_at X (d + 31) 360 2947 [some (.inr (14, 0)), some (.inr (0, 0)), some (.inr (9, 0)), some (.inr (15, 0)), some (.inl (.int (nI k))), u5, u6, none] [] s = ab_at X (d + 31) 360 23 [some (.inr (14, 0)), some (.inr (0, 0)), some (.inr (9, 0)), some (.inr (15, 0)), some (.inl (.int (nI (k + 6)))), v5, v6, none] [] s2 := by
  obtain ⟨hC, hT, hI, ⟨τ, hP⟩, e2, e3, -, -⟩ := id h
  obtain ⟨s2, v5, v6, r, e⟩ := o219 (X := X) (d := d) (k := k) (u5 := u5) (u6 := u6) (s := s) hT hk hX
  exact ⟨s2, v5, v6, r.elim (fun r => h.Y r) (fun r => h.K r.1 r.2), e⟩
theorem p47 (h : INV c0 c1 k s) (hk : k + 5 < X.2) (hX : X.2 < 2 ^ 31) : ∃ (s2 : ab_S) (v5 v6 : Option ab_V), INV c0 c1 (k + 6) s2 ∧ ab_at X (d + 31) 360 3058 [some (.inr (14, 0)), some (.inr (0, 0)), some (.inr (9, 0)), some (.inr (15, 0)), some (.inl (.int (nI k))), u5, u6, none] [] s = ab_at X (d + 31) 360 23 [some (.inr (14, 0)), some (.inr (0, 0)), some (.inr (9, 0)), some (.inr (15, 0)), some (.inl (.int (nI (k + 6)))), v5, v6, none] [] s2 := by
  obtain ⟨hC, hT, hI, ⟨τ, hP⟩, e2, e3, -, -⟩ := id h
  obtain ⟨n, nr, np, hs, ml, m, by', nm, z, st, bm, lo, li, hW⟩ := hC
  obtain ⟨s2, v5, v6, r, e⟩ := o223 (X := X) (d := d) (k := k) (u5 := u5) (u6 := u6) (s := s) hW.PW.1 hT hk hX
  exact ⟨s2, v5, v6, r.elim (fun r => h.Y r) (fun r => h.K r.1 r.2), e⟩
theorem p48 (h : INV c0 c1 k s) (hk : k + 5 < X.2) (hX : X.2 < 2 ^ 31) : ∃ (s2 : ab_S) (v5 v6 : Option ab_V), INV c0 c1 (k + 6) s2 ∧ ab_at X (d + 31) 360 3114 [some (.inr (14, 0)), some (.inr (0, 0)), some (.inr (9, 0)), some (.inr (15, 0)), some (.inl (.int (nI k))), u5, u6, none] [] s = ab_at X (d + 31) 360 23 [some (.inr (14, 0)), some (.inr (0, 0)), some (.inr (9, 0)), some (.inr (15, 0)), some (.inl (.int (nI (k + 6)))), v5, v6, none] [] s2 := by
  obtain ⟨hC, hT, hI, ⟨τ, hP⟩, e2, e3, -, -⟩ := id h
  obtain ⟨n, nr, np, hs, ml, m, by', nm, z, st, bm, lo, li, hW⟩ := hC
  obtain ⟨s2, v5, v6, r, e⟩ := o225 (X := X) (d := d) (k := k) (u5 := u5) (u6 := u6) (s := s) hW hI hk hX
  exact ⟨s2, v5, v6, r.elim (fun r => h.Y r) (fun r => h.I r.1 r.2), e⟩
theorem p49 (h : INV c0 c1 k s) (hk : k + 5 < X.2) (hX : X.2 < 2 ^ 31) : ∃ (s2 : ab_S) (v5 v6 : Option ab_V), INV c0 c1 (k + 6) s2 ∧ ab_at X (d + 31) 360 3150 [some (.inr (14, 0)), some (.inr (0, 0)), some (.inr (9, 0)), some (.inr (15, 0)), some (.inl (.int (nI k))), u5, u6, none] [] s = ab_at X (d + 31) 360 23 [some (.inr (14, 0)), some (.inr (0, 0)), some (.inr (9, 0)), some (.inr (15, 0)), some (.inl (.int (nI (k + 6)))), v5, v6, none] [] s2 := by
  obtain ⟨hC, hT, hI, ⟨τ, hP⟩, e2, e3, -, -⟩ := id h
  obtain ⟨s2, v5, v6, r, e⟩ := o227 (X := X) (d := d) (k := k) (u5 := u5) (u6 := u6) (s := s) hI hk hX
  exact ⟨s2, v5, v6, h.Z r, e⟩
theorem p50 (h : INV c0 c1 k s) (hk : k + 5 < X.2) (hX : X.2 < 2 ^ 31) : ∃ (s2 : ab_S) (v5 v6 : Option ab_V), INV c0 c1 (k + 6) s2 ∧ ab_at X (d + 31) 360 3186 [some (.inr (14, 0)), some (.inr (0, 0)), some (.inr (9, 0)), some (.inr (15, 0)), some (.inl (.int (nI k))), u5, u6, none] [] s = ab_at X (d + 31) 360 23 [some (.inr (14, 0)), some (.inr (0, 0)), some (.inr (9, 0)), some (.inr (15, 0)), some (.inl (.int (nI (k + 6)))), v5, v6, none] [] s2 := by
  obtain ⟨hC, hT, hI, ⟨τ, hP⟩, e2, e3, -, -⟩ := id h
  obtain ⟨n, nr, np, hs, ml, m, by', nm, z, st, bm, lo, li, hW⟩ := hC
  obtain ⟨s2, v5, v6, r, e⟩ := o36 (X := X) (d := d) (k := k) (u5 := u5) (u6 := u6) (s := s) hW.PW (hW.NW (hP.1.trans hP.2.1.symm)) hk hX
  exact ⟨s2, v5, v6, h.Y r, e⟩
theorem law_step (hT : TWN X d c0 c1) (hX : X.2 < 2 ^ 31) (hk : k + 5 < X.2) (h : INV c0 c1 k s) {v : Int32} : ∃ (s2 : ab_S) (v5 v6 : Option ab_V), INV c0 c1 (k + 6) s2 ∧ ab_at X (d + 31) 360 40 [some (.inr (14, 0)), some (.inr (0, 0)), some (.inr (9, 0)), some (.inr (15, 0)), some (.inl (.int (nI k))), u5, u6, none] [.inl (.int v)] s = ab_at X (d + 31) 360 23 [some (.inr (14, 0)), some (.inr (0, 0)), some (.inr (9, 0)), some (.inr (15, 0)), some (.inl (.int (nI (k + 6)))), v5, v6, none] [] s2 := by
  by_cases q0 : v = nI 0
  · rw [q0, sw0 (d := d + 30)]
    exact p0 h hk hX
  by_cases q1 : v = nI 1
  · rw [q1, sw1 (d := d + 30)]
    exact hT k u5 u6 s hk h
  by_cases q2 : v = nI 2
  · rw [q2, sw2 (d := d + 30)]
    exact p2 h hk hX
  by_cases q3 : v = nI 3
  · rw [q3, sw3 (d := d + 30)]
    exact p3 h hk hX
  by_cases q4 : v = nI 4
  · rw [q4, sw4 (d := d + 30)]
    exact p4 h hk hX
  by_cases q5 : v = nI 5
  · rw [q5, sw5 (d := d + 30)]
    exact p5 h hk hX
  by_cases q6 : v = nI 6
  · rw [q6, sw6 (d := d + 30)]
    exact p6 h hk hX
  by_cases q7 : v = nI 7
  · rw [q7, sw7 (d := d + 30)]
    exact p7 h hk hX
  by_cases q8 : v = nI 8
  · rw [q8, sw8 (d := d + 30)]
    exact p8 h hk hX
  by_cases q9 : v = nI 9
  · rw [q9, sw9 (d := d + 30)]
    exact p9 h hk hX
  by_cases q10 : v = nI 10
  · rw [q10, sw10 (d := d + 30)]
    exact p10 h hk hX
  by_cases q11 : v = nI 11
  · rw [q11, sw11 (d := d + 30)]
    exact p11 h hk hX
  by_cases q12 : v = nI 12
  · rw [q12, sw12 (d := d + 30)]
    exact p12 h hk hX
  by_cases q13 : v = nI 13
  · rw [q13, sw13 (d := d + 30)]
    exact p13 h hk hX
  by_cases q14 : v = nI 14
  · rw [q14, sw14 (d := d + 30)]
    exact p14 h hk hX
  by_cases q15 : v = nI 15
  · rw [q15, sw15 (d := d + 30)]
    exact p15 h hk hX
  by_cases q16 : v = nI 16
  · rw [q16, sw16 (d := d + 30)]
    exact p16 h hk hX
  by_cases q17 : v = nI 17
  · rw [q17, sw17 (d := d + 30)]
    exact p17 h hk hX
  by_cases q18 : v = nI 18
  · rw [q18, sw18 (d := d + 30)]
    exact p18 h hk hX
  by_cases q19 : v = nI 19
  · rw [q19, sw19 (d := d + 30)]
    exact p19 h hk hX
  by_cases q20 : v = nI 20
  · rw [q20, sw20 (d := d + 30)]
    exact p20 h hk hX
  by_cases q21 : v = nI 21
  · rw [q21, sw21 (d := d + 30)]
    exact p21 h hk hX
  by_cases q22 : v = nI 22
  · rw [q22, sw22 (d := d + 30)]
    exact p22 h hk hX
  by_cases q23 : v = nI 23
  · rw [q23, sw23 (d := d + 30)]
    exact p23 h hk hX
  by_cases q24 : v = nI 24
  · rw [q24, sw24 (d := d + 30)]
    exact p24 h hk hX
  by_cases q25 : v = nI 25
  · rw [q25, sw25 (d := d + 30)]
    exact p25 h hk hX
  by_cases q26 : v = nI 26
  · rw [q26, sw26 (d := d + 30)]
    exact p26 h hk hX
  by_cases q27 : v = nI 27
  · rw [q27, sw27 (d := d + 30)]
    exact p27 h hk hX
  by_cases q28 : v = nI 28
  · rw [q28, sw28 (d := d + 30)]
    exact p28 h hk hX
  by_cases q29 : v = nI 29
  · rw [q29, sw29 (d := d + 30)]
    exact p29 h hk hX
  by_cases q30 : v = nI 30
  · rw [q30, sw30 (d := d + 30)]
    exact p30 h hk hX
  by_cases q31 : v = nI 31
  · rw [q31, sw31 (d := d + 30)]
    exact p31 h hk hX
  by_cases q32 : v = nI 32
  · rw [q32, sw32 (d := d + 30)]
    exact p32 h hk hX
  by_cases q33 : v = nI 33
  · rw [q33, sw33 (d := d + 30)]
    exact p33 h hk hX
  by_cases q34 : v = nI 34
  · rw [q34, sw34 (d := d + 30)]
    exact p34 h hk hX
  by_cases q35 : v = nI 35
  · rw [q35, sw35 (d := d + 30)]
    exact p35 h hk hX
  by_cases q36 : v = nI 36
  · rw [q36, sw36 (d := d + 30)]
    exact p36 h hk hX
  by_cases q37 : v = nI 37
  · rw [q37, sw37 (d := d + 30)]
    exact p37 h hk hX
  by_cases q38 : v = nI 38
  · rw [q38, sw38 (d := d + 30)]
    exact p38 h hk hX
  by_cases q39 : v = nI 39
  · rw [q39, sw39 (d := d + 30)]
    exact p39 h hk hX
  by_cases q40 : v = nI 40
  · rw [q40, sw40 (d := d + 30)]
    exact p40 h hk hX
  by_cases q41 : v = nI 41
  · rw [q41, sw41 (d := d + 30)]
    exact p41 h hk hX
  by_cases q42 : v = nI 42
  · rw [q42, sw42 (d := d + 30)]
    exact p42 h hk hX
  by_cases q43 : v = nI 43
  · rw [q43, sw43 (d := d + 30)]
    exact p43 h hk hX
  by_cases q44 : v = nI 44
  · rw [q44, sw44 (d := d + 30)]
    exact p44 h hk hX
  by_cases q45 : v = nI 45
  · rw [q45, sw45 (d := d + 30)]
    exact p45 h hk hX
  by_cases q46 : v = nI 46
  · rw [q46, sw46 (d := d + 30)]
    exact p46 h hk hX
  by_cases q47 : v = nI 47
  · rw [q47, sw47 (d := d + 30)]
    exact p47 h hk hX
  by_cases q48 : v = nI 48
  · rw [q48, sw48 (d := d + 30)]
    exact p48 h hk hX
  by_cases q49 : v = nI 49
  · rw [q49, sw49 (d := d + 30)]
    exact p49 h hk hX
  by_cases q50 : v = nI 50
  · rw [q50, sw50 (d := d + 30)]
    exact p50 h hk hX
  refine ⟨s, _, _, ?_, sw_no (d := d + 30) (fun j hj e => ?_)⟩
  · exact h.X (sX_refl s) (Or.inl rfl)
  · have : j = 0 ∨ j = 1 ∨ j = 2 ∨ j = 3 ∨ j = 4 ∨ j = 5 ∨ j = 6 ∨ j = 7 ∨ j = 8 ∨ j = 9 ∨ j = 10 ∨ j = 11 ∨ j = 12 ∨ j = 13 ∨ j = 14 ∨ j = 15 ∨ j = 16 ∨ j = 17 ∨ j = 18 ∨ j = 19 ∨ j = 20 ∨ j = 21 ∨ j = 22 ∨ j = 23 ∨ j = 24 ∨ j = 25 ∨ j = 26 ∨ j = 27 ∨ j = 28 ∨ j = 29 ∨ j = 30 ∨ j = 31 ∨ j = 32 ∨ j = 33 ∨ j = 34 ∨ j = 35 ∨ j = 36 ∨ j = 37 ∨ j = 38 ∨ j = 39 ∨ j = 40 ∨ j = 41 ∨ j = 42 ∨ j = 43 ∨ j = 44 ∨ j = 45 ∨ j = 46 ∨ j = 47 ∨ j = 48 ∨ j = 49 ∨ j = 50 := by omega
    rcases this with rfl | rfl | rfl | rfl | rfl | rfl | rfl | rfl | rfl | rfl | rfl | rfl | rfl | rfl | rfl | rfl | rfl | rfl | rfl | rfl | rfl | rfl | rfl | rfl | rfl | rfl | rfl | rfl | rfl | rfl | rfl | rfl | rfl | rfl | rfl | rfl | rfl | rfl | rfl | rfl | rfl | rfl | rfl | rfl | rfl | rfl | rfl | rfl | rfl | rfl | rfl
    · exact q0 e
    · exact q1 e
    · exact q2 e
    · exact q3 e
    · exact q4 e
    · exact q5 e
    · exact q6 e
    · exact q7 e
    · exact q8 e
    · exact q9 e
    · exact q10 e
    · exact q11 e
    · exact q12 e
    · exact q13 e
    · exact q14 e
    · exact q15 e
    · exact q16 e
    · exact q17 e
    · exact q18 e
    · exact q19 e
    · exact q20 e
    · exact q21 e
    · exact q22 e
    · exact q23 e
    · exact q24 e
    · exact q25 e
    · exact q26 e
    · exact q27 e
    · exact q28 e
    · exact q29 e
    · exact q30 e
    · exact q31 e
    · exact q32 e
    · exact q33 e
    · exact q34 e
    · exact q35 e
    · exact q36 e
    · exact q37 e
    · exact q38 e
    · exact q39 e
    · exact q40 e
    · exact q41 e
    · exact q42 e
    · exact q43 e
    · exact q44 e
    · exact q45 e
    · exact q46 e
    · exact q47 e
    · exact q48 e
    · exact q49 e
    · exact q50 e
/-- the law over a script, when a town is read alike by both -/
theorem law_all (hT : TWN X d c0 c1) (hX : X.2 < 2 ^ 20) (h : INV c0 c1 k s) (hk : k ≤ X.2) : ∃ (k' : Nat) (s' : ab_S), k' ≤ X.2 ∧ INV c0 c1 k' s' ∧ ab_at X (d + 31) 360 23 [some (.inr (14, 0)), some (.inr (0, 0)), some (.inr (9, 0)), some (.inr (15, 0)), some (.inl (.int (nI k))), u5, u6, none] [] s = some (.inl (some (.inl (.int (nI 1)))), s') := law_loop (d := d + 30) (P := fun k s => INV c0 c1 k s) hX (fun k u5 u6 s hk h => law_step hT (Nat.lt_trans hX (by decide)) hk h) X.2 k u5 u6 s (by omega) hk h
end STP
