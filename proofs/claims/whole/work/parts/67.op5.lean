/-! Whole calls: where names hang, when a name is back. -/
/-- when the same name hangs again -/
def agn (nm g : Nat → Nat) (v : Nat) : Nat := 1 + fst (fun q => nm (it g (q + 1) v) == nm v) 19
section OP5
variable {X : (Nat → Int32) × Nat} {d k n nr bm : Nat} {u5 u6 : Option ab_V} {s : ab_S} {nm z f g : Nat → Nat} {st : Nat → Nat → Nat} {by' : Nat → Int32}
theorem o96 (h : BW s n nm nr z st bm by') (hk : k + 5 < X.2) (hX : X.2 < 2 ^ 31) : ∃ (s2 : ab_S) (v5 v6 : Option ab_V), sW s s2 ∧ ab_at X (d + 31) 360 618 [some (.inr (14, 0)), some (.inr (0, 0)), some (.inr (9, 0)), some (.inr (15, 0)), some (.inl (.int (nI k))), u5, u6, none] [] s = ab_at X (d + 31) 360 23 [some (.inr (14, 0)), some (.inr (0, 0)), some (.inr (9, 0)), some (.inr (15, 0)), some (.inl (.int (nI (k + 6)))), v5, v6, none] [] s2 := by
  have hn := h.1.2.1
  obtain ⟨t1, t2, t3, t4, -⟩ := id h.1
  by_cases h1 : inS (X.1 (k + 1)) n = true
  · obtain ⟨v, hv, ev⟩ := inS_rep h1
    obtain ⟨w, hw⟩ : ∃ w, w = nI (bs (fun q => nm q == v) n) := ⟨_, rfl⟩
    have c : ab_ev X (d + 30) 96 [.inr (0, 0), .inl (.int (X.1 (k + 1))), .inr (15, 0)] s = some (.inl (some (.inl (.int (nI 0)))), pb s 3 (va_up (sb s 3) 0 w.toInt64)) := by
      rw [b96, b97, c_n98 h.1.1 (by omega), if_pos h1, e_bU, ev, c_streetsOf t1 t2 t3 t4 (by omega), e_bI, e_bI, hw]
    have hV : sV s (pz (pb s 3 (va_up (sb s 3) 0 w.toInt64)) 11 (nI 0)) := sV_trans sV_pb (sV_pz (by omega))
    have hb := h.same hV
    have r : ab_ev X (d + 30) 277 [.inr (9, 0), .inl (.int (X.1 (k + 1)))] (pb s 3 (va_up (sb s 3) 0 w.toInt64)) = some (.inl (some (.inl (.int w))), pz (pb s 3 (va_up (sb s 3) 0 w.toInt64)) 11 (nI 0)) := by
      rw [b277, r266 (n := n) hb.2.1 (by omega), if_pos h1, e_bI, if_neg (show ¬ nI 1 = nI 0 by decide), r278 hb.2, e_bI, hw, ev]
      congr 6
      refine congrArg nI (bs_cong (fun q hq => ?_))
      have := t4 q hq
      rw [Bool.eq_iff_iff, decide_eq_true_iff, beq_iff_eq]
      exact nI_eq (by omega) (by omega)
    exact ⟨_, _, _, Or.inl hV, w618 hk hX c r rfl (fun _ => rfl)⟩
  · have c : ab_ev X (d + 30) 96 [.inr (0, 0), .inl (.int (X.1 (k + 1))), .inr (15, 0)] s = some (.inl (some (.inl (.int (nI 1)))), ths s) := by
      rw [b96, b97, c_n98 h.1.1 (by omega), if_neg h1, e_xU, e_px, e_xI]
      rfl
    have hr : sa (pz (ths s) 11 (nI 0)) 8 1 = nI n := h.2.1
    have r : ab_ev X (d + 30) 277 [.inr (9, 0), .inl (.int (X.1 (k + 1)))] (ths s) = some (.inl (some (.inl (.int (nI 0)))), pz (ths s) 11 (nI 1)) := by
      rw [b277, r266 (n := n) hr (by omega), if_neg h1, e_bI, if_pos rfl, b233, e_bI, pz2]
    exact ⟨_, _, _, Or.inr (sV_pz (by omega)), w618 hk hX c r rfl (fun q => absurd q (by decide))⟩
theorem l168 {v : Nat} {x1 : Int32} (hn : n ≤ 20) (h1 : ∀ k, k < n → sa s 1 k = nI (nm k)) (hnm : ∀ k, k < n → nm k < n) (h3 : ∀ k, k < n → sa s 3 k = nI (g k)) (hg : ∀ k, k < n → g k < n) (hv : v < n) : ∀ (i j : Nat), j + i = 19 → (∀ q, q < j → (nm (it g (q + 1) v) == nm v) = false) → ab_at X (d + 1) 168 43 [some (.inr (0, 0)), some (.inl (.int x1)), some (.inl (.int (nI (nm v)))), some (.inl (.int (nI (it g (j + 1) v)))), some (.inl (.int (nI (j + 1))))] [] s = some (.inl (some (.inl (.int (nI (agn nm g v))))), s)
  | 0, j, e, hr => by
    obtain rfl : j = 19 := by omega
    rw [b168_43, if_pos (nI_le (by omega) (by omega))]
    unfold agn
    rw [fst_eqn hr]
  | i + 1, j, e, hr => by
    have c0 := it_lt hg (j + 1) hv
    have c1 := hnm _ c0
    have c2 := hnm _ hv
    rw [b168_43, if_neg (nI_ge (show j + 1 < 20 by omega) (by omega)), at28 (by omega), h1 _ c0, e_bI]
    by_cases q : nm (it g (j + 1) v) = nm v
    · rw [if_pos (show nI _ = nI _ by rw [q])]
      unfold agn
      rw [fst_eq (P := fun q => nm (it g (q + 1) v) == nm v) (show j < 19 by omega) (beq_iff_eq.mpr q) hr, Nat.add_comm 1 j]
    · rw [if_neg (fun q2 => q ((nI_eq (by omega) (by omega)).mp q2)), at30 (by omega), h3 _ c0, e_bI, nI_add]
      exact l168 hn h1 hnm h3 hg hv i (j + 1) (by omega) (fun q2 hq => by
        by_cases e6 : q2 = j
        · rw [e6]
          exact beq_eq_false_iff_ne.mpr q
        · exact hr q2 (by omega))
theorem l328 {v : Nat} (h : RW s n nm nr z st bm by') (h2 : ∀ k, k < n → sa s 13 k = nI (f k)) (hf : ∀ k, k < n → f k < n) (hi : ∀ a b, a < n → b < n → f a = f b → a = b) (hg : ∀ q, q < n → g q < n) (hgi : ∀ a b, a < n → b < n → g a = g b → a = b) (hgf : ∀ q, q < n → g (f q) = q) (hv : v < n) : ∀ (i j : Nat), j + i = 19 → (∀ q, q < j → (nm (it g (q + 1) v) == nm v) = false) → ab_at X (d + 3) 328 26 [some (.inr (9, 0)), some (.inl (.int (nI v))), some (.inl (.int (nI (j + 1))))] [] s = some (.inl (some (.inl (.int (nI (agn nm g v))))), s)
  | 0, j, e, hr => by
    have hn := h.2.1
    obtain rfl : j = 19 := by omega
    have d1 := cyc_le hg hgi hv
    have d2 := cyc_pos g n v
    have d3 := cyc_it hg hgi hv
    have d4 : cyc g n v = 20 := by
      by_cases q : cyc g n v < 20
      · have d5 := hr (cyc g n v - 1) (by omega)
        rw [show cyc g n v - 1 + 1 = cyc g n v by omega, d3] at d5
        exact absurd rfl (beq_eq_false_iff_ne.mp d5)
      · omega
    rw [d4] at d3
    have e1 : ah f n v (-nI 20).toInt = v := by
      have q : (-nI 20).toInt = -((20 : Nat) : Int) := n_negi (by omega)
      rw [q, ah_neg hf hi hgf hv, d3]
    have w : agn nm g v = 20 := by
      unfold agn
      rw [fst_eqn hr]
    rw [b328_26, r284 (d := d) h h2 hf hi hv, e_bI, nI_add, r_in (by omega) (by decide), nI_clamp (by omega), h.2.2.1 _ hv, e1, if_pos rfl, w]
  | i + 1, j, e, hr => by
    have hn := h.2.1
    have c0 := it_lt hg (j + 1) hv
    have c1 := h.2.2.2.1 _ c0
    have c2 := h.2.2.2.1 _ hv
    have e1 : ah f n v (-nI (j + 1)).toInt = it g (j + 1) v := by rw [n_negi (by omega), ah_neg hf hi hgf hv]
    rw [b328_26, r284 (d := d) h h2 hf hi hv, e_bI, nI_add, r_in (by omega) (by decide), nI_clamp (by omega), h.2.2.1 _ hv, e1]
    by_cases q : nm (it g (j + 1) v) = nm v
    · rw [if_pos (show nI _ = nI _ by rw [q])]
      unfold agn
      rw [fst_eq (P := fun q => nm (it g (q + 1) v) == nm v) (show j < 19 by omega) (beq_iff_eq.mpr q) hr, Nat.add_comm 1 j]
    · rw [if_neg (fun q2 => q ((nI_eq (by omega) (by omega)).mp q2)), nI_add]
      exact l328 h h2 hf hi hg hgi hgf hv i (j + 1) (by omega) (fun q2 hq => by
        by_cases e6 : q2 = j
        · rw [e6]
          exact beq_eq_false_iff_ne.mpr q
        · exact hr q2 (by omega))
/-- again -/
theorem o167 (h : BW s n nm nr z st bm by') (hk : k + 5 < X.2) (hX : X.2 < 2 ^ 31) : ∃ (s2 : ab_S) (v5 v6 : Option ab_V), sW s s2 ∧ ab_at X (d + 31) 360 1877 [some (.inr (14, 0)), some (.inr (0, 0)), some (.inr (9, 0)), some (.inr (15, 0)), some (.inl (.int (nI k))), u5, u6, none] [] s = ab_at X (d + 31) 360 23 [some (.inr (14, 0)), some (.inr (0, 0)), some (.inr (9, 0)), some (.inr (15, 0)), some (.inl (.int (nI (k + 6)))), v5, v6, none] [] s2 := by
  have hn := h.1.2.1
  by_cases h1 : inS (X.1 (k + 1)) n = true
  · obtain ⟨v, hv, ev⟩ := inS_rep h1
    obtain ⟨s1, a1, a2, a3⟩ := c_look (X := X) (d := d + 25) h.1
    obtain ⟨o1, o2, o3, o4, o5, o6⟩ := id a3
    have hg : ∀ q, q < n → inv (to_ nr z st bm by') n q < n := fun q hq => (inv_lt h.1.to_lt h.1.to_inj hq).1
    have hgi : ∀ a b, a < n → b < n → inv (to_ nr z st bm by') n a = inv (to_ nr z st bm by') n b → a = b := fun a b ha hb e => by
      have q1 := (inv_lt h.1.to_lt h.1.to_inj ha).2
      have q2 := (inv_lt h.1.to_lt h.1.to_inj hb).2
      rw [← q1, ← q2, e]
    obtain ⟨w, hw⟩ : ∃ w, w = nI (agn nm (inv (to_ nr z st bm by') n) v) := ⟨_, rfl⟩
    have l1 := l168 (X := X) (d := d + 28) (x1 := nI v) (s := s1) hn o3 h.1.2.2.2.1 o5 hg hv 19 0 (by omega) (fun q hq => by omega)
    have c : ab_ev X (d + 30) 167 [.inr (0, 0), .inl (.int (X.1 (k + 1))), .inr (15, 0)] s = some (.inl (some (.inl (.int (nI 0)))), pb s1 3 (va_up (sb s1 3) 0 w.toInt64)) := by
      rw [b167, b168, c_n86 h.1.1 (by omega), if_pos h1, e_bU, a1, e_bU, ev, at28 (s := s1) (by omega), o3 _ hv, e_bI, at30 (s := s1) (by omega), o5 _ hv, e_bI, hw]
      have l1' : ab_at X (d + 29) 168 43 [some (.inr (0, 0)), some (.inl (.int (nI v))), some (.inl (.int (nI (nm v)))), some (.inl (.int (nI (inv (to_ nr z st bm by') n v)))), some (.inl (.int (nI 1)))] [] s1 = _ := l1
      rw [l1', e_bI]
    have hV : sV s (pz (pb s1 3 (va_up (sb s1 3) 0 w.toInt64)) 11 (nI 0)) := sV_trans a2.V (sV_trans sV_pb (sV_pz (by omega)))
    have hb := h.same hV
    obtain ⟨s2, r1, r2, r3, -, r5⟩ := r268 (X := X) (d := d + 27) hb.2
    have r : ab_ev X (d + 30) 328 [.inr (9, 0), .inl (.int (X.1 (k + 1)))] (pb s1 3 (va_up (sb s1 3) 0 w.toInt64)) = some (.inl (some (.inl (.int w))), s2) := by
      rw [b328, r266 (n := n) hb.2.1 (by omega), if_pos h1, e_bI, if_neg (show ¬ nI 1 = nI 0 by decide), r1, e_bU, ev, hw]
      exact l328 (d := d + 27) (hb.same r2.V).2 r5 h.1.to_lt h.1.to_inj hg hgi (fun q hq => inv_f h.1.to_inj hq) hv 19 0 (by omega) (fun q hq => by omega)
    refine ⟨s2, _, _, Or.inl (sV_trans hV r2.V), w1877 hk hX c r r3 (fun _ => ?_)⟩
    rw [r2.2.2.2.2.2.2.1]
    rfl
  · have c : ab_ev X (d + 30) 167 [.inr (0, 0), .inl (.int (X.1 (k + 1))), .inr (15, 0)] s = some (.inl (some (.inl (.int (nI 1)))), ths s) := by
      rw [b167, b168, c_n86 h.1.1 (by omega), if_neg h1, e_xU, e_px, e_xI]
      rfl
    have hr : sa (pz (ths s) 11 (nI 0)) 8 1 = nI n := h.2.1
    have r : ab_ev X (d + 30) 328 [.inr (9, 0), .inl (.int (X.1 (k + 1)))] (ths s) = some (.inl (some (.inl (.int (nI 0)))), pz (ths s) 11 (nI 1)) := by
      rw [b328, r266 (n := n) hr (by omega), if_neg h1, e_bI, if_pos rfl, b233, e_bI, pz2]
    exact ⟨_, _, _, Or.inr (sV_pz (by omega)), w1877 hk hX c r rfl (fun q => absurd q (by decide))⟩
end OP5
