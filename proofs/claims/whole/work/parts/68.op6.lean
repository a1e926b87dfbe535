/-! A whole call: what follows what. -/
section OP6
variable {X : (Nat → Int32) × Nat} {d k n nr bm : Nat} {u5 u6 : Option ab_V} {s : ab_S} {nm z f g : Nat → Nat} {st : Nat → Nat → Nat} {by' : Nat → Int32}
theorem l327 {v u P : Nat} (hP : P < 2 ^ 30) (hn : n ≤ 20) (h2 : ∀ k, k < n → sa s 13 k = nI (f k)) (hf : ∀ k, k < n → f k < n) (hi : ∀ a b, a < n → b < n → f a = f b → a = b) (hv : v < n) (hu : u < n) (hne : ¬ f u = v) : ∀ (i j : Nat), j + i = P → ab_at X (d + 3) 327 53 [some (.inr (9, 0)), some (.inl (.int (nI v))), some (.inl (.int (nI u))), some (.inl (.int (nI P))), some (.inl (.int (nI j)))] [] s = some (.inl (some (.inl (.long (-lN 1)))), s)
  | 0, j, e => by
    obtain rfl : j = P := by omega
    rw [b327_53, if_pos (nI_le (Nat.le_refl _) (by omega))]
  | i + 1, j, e => by
    have c0 := it_lt hf j hv
    have c1 := it_lt hf (j + 1) hu
    have e1 : ah f n v (nI j).toInt = it f j v := by rw [nI_toInt (by omega), ah_nat hf hi hv]
    have e2 : ah f n u (nI (j + 1)).toInt = it f (j + 1) u := by rw [nI_toInt (by omega), ah_nat hf hi hu]
    have e3 : ¬ it f j v = it f (j + 1) u := fun q => by
      have e4 : it f (j + 1) u = it f j (f u) := (it_f f j u).symm
      rw [e4] at q
      exact hne (it_inj hf hi j hv (hf u hu) q).symm
    rw [b327_53, if_neg (nI_ge (show j < P by omega) (by omega)), r285 (d := d + 1) hn h2 hf hi hv, e_bI, nI_add, r285 (d := d + 1) hn h2 hf hi hu, e_bI, e1, e2, if_neg (fun q => e3 ((nI_eq (by omega) (by omega)).mp q))]
    exact l327 hP hn h2 hf hi hv hu hne i (j + 1) (by omega)
theorem o165 (h : BW s n nm nr z st bm by') (hk : k + 5 < X.2) (hX : X.2 < 2 ^ 31) : ∃ (s2 : ab_S) (v5 v6 : Option ab_V), sW s s2 ∧ ab_at X (d + 31) 360 1810 [some (.inr (14, 0)), some (.inr (0, 0)), some (.inr (9, 0)), some (.inr (15, 0)), some (.inl (.int (nI k))), u5, u6, none] [] s = ab_at X (d + 31) 360 23 [some (.inr (14, 0)), some (.inr (0, 0)), some (.inr (9, 0)), some (.inr (15, 0)), some (.inl (.int (nI (k + 6)))), v5, v6, none] [] s2 := by
  have hn := h.1.2.1
  have hr : sa (ths s) 8 1 = nI n := h.2.1
  by_cases h1 : inS (X.1 (k + 1)) n = true
  · by_cases h2 : inS (X.1 (k + 2)) n = true
    · by_cases h3 : X.1 (k + 1) = X.1 (k + 2)
      · have c : ab_ev X (d + 30) 165 [.inr (0, 0), .inl (.int (X.1 (k + 1))), .inl (.int (X.1 (k + 2))), .inr (15, 0)] s = some (.inl (some (.inl (.int (nI 2)))), ths s) := by
          rw [b165, b166, c_n127 h.1.1 (by omega), if_pos ⟨h1, h2⟩, if_pos h3, e_xU, e_px, e_xJ]
          rfl
        have r : ab_ev X (d + 30) 327 [.inr (9, 0), .inl (.int (X.1 (k + 1))), .inl (.int (X.1 (k + 2)))] (ths s) = some (.inl (some (.inl (.long (lN 0)))), pz (ths s) 11 (nI 2)) := by
          rw [b327, r266 (n := n) hr (by omega), if_pos h1, e_bI, if_neg (show ¬ nI 1 = nI 0 by decide), r266 (n := n) hr (by omega), if_pos h2, e_bI, if_neg (show ¬ nI 1 = nI 0 by decide), if_pos h3]
        exact ⟨_, _, _, Or.inr (sV_pz (by omega)), w1810 hk hX c r rfl (fun q => absurd q (by decide))⟩
      · obtain ⟨v, hv, ev⟩ := inS_rep h1
        obtain ⟨u, hu, eu⟩ := inS_rep h2
        obtain ⟨s1, a1, a2, a3⟩ := c_look (X := X) (d := d + 25) h.1
        obtain ⟨o1, o2, o3, o4, o5, o6⟩ := id a3
        have f1 := h.1.to_lt u hu
        have e1 : ah (to_ nr z st bm by') n u (nI 1).toInt = to_ nr z st bm by' u := by
          have q : (nI 1).toInt = ((1 : Nat) : Int) := nI_toInt (by decide)
          rw [q, ah_nat h.1.to_lt h.1.to_inj hu]
          rfl
        have e0 : ah (to_ nr z st bm by') n v (nI 0).toInt = v := by
          have q : (nI 0).toInt = ((0 : Nat) : Int) := nI_toInt (by decide)
          rw [q, ah_nat h.1.to_lt h.1.to_inj hv]
          rfl
        obtain ⟨w, hw⟩ : ∃ w, w = (if to_ nr z st bm by' u = v then lN 0 else -lN 1) := ⟨_, rfl⟩
        have c : ab_ev X (d + 30) 165 [.inr (0, 0), .inl (.int (X.1 (k + 1))), .inl (.int (X.1 (k + 2))), .inr (15, 0)] s = some (.inl (some (.inl (.int (nI 0)))), pb s1 3 (va_up (sb s1 3) 0 w)) := by
          rw [b165, b166, c_n127 h.1.1 (by omega), if_pos ⟨h1, h2⟩, if_neg h3, e_bU, a1, e_bU, ev, eu, c_ahead (s := s1) hn o4 h.1.to_lt h.1.to_inj hu, e_bI, e1, hw]
          by_cases q : to_ nr z st bm by' u = v
          · rw [if_pos (show nI _ = nI _ by rw [q]), if_pos q, e_bJ]
          · rw [if_neg (fun q2 => q ((nI_eq (by omega) (by omega)).mp q2)), if_neg q, e_bJ]
        have hV : sV s (pz (pb s1 3 (va_up (sb s1 3) 0 w)) 11 (nI 0)) := sV_trans a2.V (sV_trans sV_pb (sV_pz (by omega)))
        have hb := h.same hV
        obtain ⟨s2, r1, r2, r3, -, r5⟩ := r320 (X := X) (d := d + 6) hb.2
        obtain ⟨b1, b2⟩ := pr_L hn h.1.to_lt h.1.to_inj n (Nat.le_refl n)
        have b3 := Nat.le_of_dvd (by omega) b1
        have r : ab_ev X (d + 30) 327 [.inr (9, 0), .inl (.int (X.1 (k + 1))), .inl (.int (X.1 (k + 2)))] (pb s1 3 (va_up (sb s1 3) 0 w)) = some (.inl (some (.inl (.long w))), s2) := by
          have hr' : sa (pb s1 3 (va_up (sb s1 3) 0 w)) 8 1 = nI n := hb.2.1
          rw [b327, r266 (n := n) hr' (by omega), if_pos h1, e_bI, if_neg (show ¬ nI 1 = nI 0 by decide), r266 (n := n) hr' (by omega), if_pos h2, e_bI, if_neg (show ¬ nI 1 = nI 0 by decide), if_neg h3, r1, e_bI, ev, eu, hw]
          by_cases q : to_ nr z st bm by' u = v
          · rw [if_pos q, b327_53, if_neg (nI_ge b2 (by omega)), r285 (d := d + 28) hn r5 h.1.to_lt h.1.to_inj hv, e_bI, nI_add, r285 (d := d + 28) hn r5 h.1.to_lt h.1.to_inj hu, e_bI, e0, e1, if_pos (show nI _ = nI _ by rw [q])]
            rfl
          · rw [if_neg q]
            exact l327 (d := d + 27) (by omega) hn r5 h.1.to_lt h.1.to_inj hv hu q _ 0 (Nat.zero_add _)
        refine ⟨s2, _, _, Or.inl (sV_trans hV r2.V), w1810 hk hX c r r3 (fun _ => ?_)⟩
        rw [r2.2.2.2.2.2.2.1]
        rfl
    · have c : ab_ev X (d + 30) 165 [.inr (0, 0), .inl (.int (X.1 (k + 1))), .inl (.int (X.1 (k + 2))), .inr (15, 0)] s = some (.inl (some (.inl (.int (nI 1)))), ths s) := by
        rw [b165, b166, c_n127 h.1.1 (by omega), if_neg (fun q => h2 q.2), e_xU, e_px, e_xJ]
        rfl
      have r : ab_ev X (d + 30) 327 [.inr (9, 0), .inl (.int (X.1 (k + 1))), .inl (.int (X.1 (k + 2)))] (ths s) = some (.inl (some (.inl (.long (lN 0)))), pz (ths s) 11 (nI 1)) := by
        rw [b327, r266 (n := n) hr (by omega), if_pos h1, e_bI, if_neg (show ¬ nI 1 = nI 0 by decide), r266 (n := n) hr (by omega), if_neg h2, e_bI, if_pos rfl]
      exact ⟨_, _, _, Or.inr (sV_pz (by omega)), w1810 hk hX c r rfl (fun q => absurd q (by decide))⟩
  · have c : ab_ev X (d + 30) 165 [.inr (0, 0), .inl (.int (X.1 (k + 1))), .inl (.int (X.1 (k + 2))), .inr (15, 0)] s = some (.inl (some (.inl (.int (nI 1)))), ths s) := by
      rw [b165, b166, c_n127 h.1.1 (by omega), if_neg (fun q => h1 q.1), e_xU, e_px, e_xJ]
      rfl
    have r : ab_ev X (d + 30) 327 [.inr (9, 0), .inl (.int (X.1 (k + 1))), .inl (.int (X.1 (k + 2)))] (ths s) = some (.inl (some (.inl (.long (lN 0)))), pz (ths s) 11 (nI 1)) := by
      rw [b327, r266 (n := n) hr (by omega), if_neg h1, e_bI, if_pos rfl]
    exact ⟨_, _, _, Or.inr (sV_pz (by omega)), w1810 hk hX c r rfl (fun q => absurd q (by decide))⟩
end OP6
