/-! Whole calls: class and model answer alike. -/
/-- but for what both only work with two stores are one -/
def sV (s s' : ab_S) : Prop := (∀ k, k ≠ 8 → k ≠ 9 → k ≠ 11 → k ≠ 23 → sz s' k = sz s k) ∧ sy s' = sy s ∧ st s' = st s ∧ si s' = si s ∧ (∀ k, k = 0 ∨ (6 < k ∧ k < 13) ∨ 21 < k → sa s' k = sa s k) ∧ sA s' = sA s ∧ (∀ k, k ≠ 3 → sb s' k = sb s k) ∧ sB s' = sB s ∧ sq s' = sq s ∧ sn s' = sn s
theorem sV_refl (s : ab_S) : sV s s := ⟨fun _ _ _ _ _ => rfl, rfl, rfl, rfl, fun _ _ => rfl, rfl, fun _ _ => rfl, rfl, rfl, rfl⟩
theorem sV_trans {s t u : ab_S} (h : sV s t) (h' : sV t u) : sV s u := by
  obtain ⟨a1, a2, a3, a4, a5, a6, a7, a8, a9, a10⟩ := h
  obtain ⟨b1, b2, b3, b4, b5, b6, b7, b8, b9, b10⟩ := h'
  exact ⟨fun k h1 h2 h3 h4 => (b1 k h1 h2 h3 h4).trans (a1 k h1 h2 h3 h4), b2.trans a2, b3.trans a3, b4.trans a4, fun k hk => (b5 k hk).trans (a5 k hk), b6.trans a6, fun k hk => (b7 k hk).trans (a7 k hk), b8.trans a8, b9.trans a9, b10.trans a10⟩
theorem sO.V {s s' : ab_S} (h : sO s s') : sV s s' := by
  obtain ⟨a1, a2, a3, a4, a5, a6, a7, a8, a9, a10⟩ := h
  exact ⟨fun k h1 h2 _ _ => a1 k h1 h2, a2, a3, a4, fun k hk => a5 k (by omega), a6, fun k _ => by rw [a7], a8, a9, a10⟩
theorem sR.V {s s' : ab_S} (h : sR s s') : sV s s' := by
  obtain ⟨a1, a2, a3, a4, a5, a6, a7, a8, a9, a10⟩ := h
  exact ⟨fun k _ _ h3 h4 => a1 k h3 h4, a2, a3, a4, fun k hk => a5 k (by omega), a6, fun k _ => by rw [a7], a8, a9, a10⟩
theorem sV_pz {s : ab_S} {k : Nat} {v : Int32} (h : k = 8 ∨ k = 9 ∨ k = 11 ∨ k = 23) : sV s (pz s k v) := ⟨fun j h1 h2 h3 h4 => va_up_ne _ _ (by omega), rfl, rfl, rfl, fun _ _ => rfl, rfl, fun _ _ => rfl, rfl, rfl, rfl⟩
theorem sV_pb {s : ab_S} {F : Nat → Int64} : sV s (pb s 3 F) := ⟨fun _ _ _ _ _ => rfl, rfl, rfl, rfl, fun _ _ => rfl, rfl, fun j hj => va_up_ne _ _ hj, rfl, rfl, rfl⟩
/-- one call's doing where nothing is changed -/
def sW (s s' : ab_S) : Prop := sV s s' ∨ sV (ths s) s'
/-- a town as the class and as the model hold it -/
def BW (s : ab_S) (n : Nat) (nm : Nat → Nat) (nr : Nat) (z : Nat → Nat) (st : Nat → Nat → Nat) (bm : Nat) (by' : Nat → Int32) : Prop := TW s 0 n nm nr z st bm by' ∧ RW s n nm nr z st bm by'
theorem BW.same {s s' : ab_S} {n : Nat} {nm : Nat → Nat} {nr : Nat} {z : Nat → Nat} {st : Nat → Nat → Nat} {bm : Nat} {by' : Nat → Int32} (h : BW s n nm nr z st bm by') (h1 : sV s s') : BW s' n nm nr z st bm by' := ⟨h.1.same h1.2.2.2.1 h1.2.2.2.2.2.1, h.2.same (h1.2.2.2.2.1 8 (by omega))⟩
section OPS
variable {X : (Nat → Int32) × Nat} {d k n nr bm : Nat} {u5 u6 : Option ab_V} {s : ab_S} {nm z : Nat → Nat} {st : Nat → Nat → Nat} {by' : Nat → Int32}
/-- the period -/
theorem o16 (h : BW s n nm nr z st bm by') (hk : k + 5 < X.2) (hX : X.2 < 2 ^ 31) : ∃ (s2 : ab_S) (v5 v6 : Option ab_V), sW s s2 ∧ ab_at X (d + 31) 360 1727 [some (.inr (14, 0)), some (.inr (0, 0)), some (.inr (9, 0)), some (.inr (15, 0)), some (.inl (.int (nI k))), u5, u6, none] [] s = ab_at X (d + 31) 360 23 [some (.inr (14, 0)), some (.inr (0, 0)), some (.inr (9, 0)), some (.inr (15, 0)), some (.inl (.int (nI (k + 6)))), v5, v6, none] [] s2 := by
  obtain ⟨s1, a1, a2, a3⟩ := c_look (X := X) (d := d + 26) h.1
  have hn := h.1.2.1
  have c : ab_ev X (d + 30) 16 [.inr (0, 0)] s = some (.inl (some (.inl (.long (nI (pr (to_ nr z st bm by') n n)).toInt64))), s1) := by
    rw [b16, a1, e_bU, c_period (s := s1) a3.1 hn a3.2.2.2.1 h.1.to_lt h.1.to_inj, e_bI]
  have hb := (h.same a2.V).2
  obtain ⟨s2, r1, r2, -, -, -⟩ := r320 (X := X) (d := d + 6) (s := pz s1 11 (nI 0)) (hb.same rfl)
  have r : ab_ev X (d + 30) 319 [.inr (9, 0)] s1 = some (.inl (some (.inl (.long (nI (pr (to_ nr z st bm by') n n)).toInt64))), s2) := by
    rw [b319, r1, e_bI]
  exact ⟨s2, u5, u6, Or.inl (sV_trans a2.V (sV_trans (sV_pz (by omega)) r2.V)), w1727 hk hX c r rfl⟩
/-- names that hang twice and more -/
theorem o33 (h : BW s n nm nr z st bm by') (hk : k + 5 < X.2) (hX : X.2 < 2 ^ 31) : ∃ (s2 : ab_S) (v5 v6 : Option ab_V), sW s s2 ∧ ab_at X (d + 31) 360 2861 [some (.inr (14, 0)), some (.inr (0, 0)), some (.inr (9, 0)), some (.inr (15, 0)), some (.inl (.int (nI k))), u5, u6, none] [] s = ab_at X (d + 31) 360 23 [some (.inr (14, 0)), some (.inr (0, 0)), some (.inr (9, 0)), some (.inr (15, 0)), some (.inl (.int (nI (k + 6)))), v5, v6, none] [] s2 := by
  obtain ⟨t1, t2, t3, t4, -⟩ := id h.1
  have c : ab_ev X (d + 30) 33 [.inr (0, 0)] s = some (.inl (some (.inl (.int (nI (shd nm n))))), s) := by
    rw [b33, c_shared t1 t2 t3 t4, e_bI, sh_s_eq t4]
  exact ⟨pz s 11 (nI 0), u5, u6, Or.inl (sV_pz (by omega)), w2861 hk hX c (r350 (d := d + 26) h.2) rfl⟩
/-- names that hang nowhere -/
theorem o34 (h : BW s n nm nr z st bm by') (hk : k + 5 < X.2) (hX : X.2 < 2 ^ 31) : ∃ (s2 : ab_S) (v5 v6 : Option ab_V), sW s s2 ∧ ab_at X (d + 31) 360 2874 [some (.inr (14, 0)), some (.inr (0, 0)), some (.inr (9, 0)), some (.inr (15, 0)), some (.inl (.int (nI k))), u5, u6, none] [] s = ab_at X (d + 31) 360 23 [some (.inr (14, 0)), some (.inr (0, 0)), some (.inr (9, 0)), some (.inr (15, 0)), some (.inl (.int (nI (k + 6)))), v5, v6, none] [] s2 := by
  obtain ⟨t1, t2, t3, t4, -⟩ := id h.1
  have c : ab_ev X (d + 30) 34 [.inr (0, 0)] s = some (.inl (some (.inl (.int (nI (lst nm n))))), s) := by
    rw [b34, c_lost t1 t2 t3 t4, e_bI]
  exact ⟨pz s 11 (nI 0), u5, u6, Or.inl (sV_pz (by omega)), w2874 hk hX c (r352 (d := d + 26) h.2) rfl⟩
end OPS
