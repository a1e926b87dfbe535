/-! Whole calls: as now, where names hang. -/
/-- all as now after j nights -/
def asR (nm g : Nat → Nat) (n j : Nat) : Bool := fb_ct (fun q => nm (it g j q) == nm q) n == n
theorem n_negi {m : Nat} (h : m < 2 ^ 31) : (-nI m).toInt = -(m : Int) := by
  rw [Int32.toInt_neg, nI_toInt h]
  exact Int.bmod_eq_of_le (by omega) (by omega)
section OP3
variable {X : (Nat → Int32) × Nat} {d k n nr bm : Nat} {u5 u6 : Option ab_V} {s : ab_S} {nm z f g : Nat → Nat} {st : Nat → Nat → Nat} {by' : Nat → Int32}
theorem l29 {P : Nat} (hP0 : 0 < P) (hP : P < 2 ^ 30) (h8 : sz s 8 = nI n) (hn : n ≤ 20) (h1 : ∀ k, k < n → sa s 1 k = nI (nm k)) (hnm : ∀ k, k < n → nm k < n) (h3 : ∀ k, k < n → sa s 3 k = nI (g k)) (hg : ∀ k, k < n → g k < n) (hn1 : si s 1 0 = nI n) : ∀ (i j : Nat) (G : Nat → Int32), j + i = P - 1 → (∀ q, q < n → G q = nI (it g j q)) → (∀ q, q < j → asR nm g n (q + 1) = false) → ∃ G' : Nat → Int32, ab_at X (d + 3) 29 21 [some (.inr (0, 0)), some (.inl (.int (nI P))), some (.inl (.int (nI (j + 1))))] [] (pa s 4 G) = some (.inl (some (.inl (.long (nI (1 + fst (fun q => asR nm g n (q + 1)) (P - 1))).toInt64))), pa s 4 G')
  | 0, j, G, e, hG, hr => by
    refine ⟨G, ?_⟩
    obtain rfl : j = P - 1 := by omega
    rw [b29_21, if_pos (nI_le (by omega) (by omega)), fst_eqn hr, show 1 + (P - 1) = P by omega]
  | i + 1, j, G, e, hG, hr => by
    have hlt : ∀ q, q < n → it g j q < n := fun q hq => it_lt hg j hq
    obtain ⟨G', g1, g2⟩ := c_step (X := X) (d := d + 1) (s := pa s 4 G) (n := n) (g := g) (src := fun q => it g j q) h8 hn (fun q hq => by simp (disch := omega) only [E0]; exact h3 q hq) (fun q hq => by simp (disch := omega) only [E0]; exact hG q hq) hlt
    have e4 : pa (pa s 4 G) 4 G' = pa s 4 G' := by simp (disch := omega) only [E1]
    rw [e4] at g1
    have hG' : ∀ q, q < n → G' q = nI (it g (j + 1) q) := g2
    have e5 : ab_ev X (d + 2) 31 [.inr (6, 0)] (pa s 4 G') = _ := c_rightStreets (s := pa s 4 G') (nm := nm) (src := fun q => it g (j + 1) q) h8 hn (fun q hq => by simp (disch := omega) only [E0]; exact h1 q hq) hnm (fun q hq => by simp (disch := omega) only [E0]; exact hG' q hq) (fun q hq => it_lt hg (j + 1) hq)
    have c0 := fb_ct_le (fun q => nm (it g (j + 1) q) == nm q) n
    have hsi : si (pa s 4 G') 1 0 = nI n := hn1
    have w : ab_at X (d + 3) 29 21 [some (.inr (0, 0)), some (.inl (.int (nI P))), some (.inl (.int (nI (j + 1))))] [] (pa s 4 G) = (if nI (fb_ct (fun q => nm (it g (j + 1) q) == nm q) n) = nI n then some (.inl (some (.inl (.long (nI (j + 1)).toInt64))), pa s 4 G') else ab_at X (d + 3) 29 21 [some (.inr (0, 0)), some (.inl (.int (nI P))), some (.inl (.int (nI (j + 1 + 1))))] [] (pa s 4 G')) := by
      rw [b29_21, if_neg (nI_ge (show j + 1 < P by omega) (by omega)), g1, e_bU, e5, e_bI, hsi, nI_add]
    by_cases hq : fb_ct (fun q => nm (it g (j + 1) q) == nm q) n = n
    · have ha : asR nm g n (j + 1) = true := by
        unfold asR
        rw [beq_iff_eq]
        exact hq
      refine ⟨G', ?_⟩
      rw [w, if_pos (by rw [hq]), fst_eq (P := fun q => asR nm g n (q + 1)) (show j < P - 1 by omega) ha hr, Nat.add_comm j 1]
    · have ha : asR nm g n (j + 1) = false := by
        unfold asR
        rw [beq_eq_false_iff_ne]
        exact hq
      obtain ⟨G2, i1⟩ := l29 hP0 hP h8 hn h1 hnm h3 hg hn1 i (j + 1) G' (by omega) hG' (fun q hq2 => by
        by_cases e6 : q = j
        · rw [e6]
          exact ha
        · exact hr q (by omega))
      refine ⟨G2, ?_⟩
      rw [w, if_neg (fun q => hq ((nI_eq (by omega) (by omega)).mp q)), i1]
theorem l322 {P : Nat} (hP0 : 0 < P) (hP : P < 2 ^ 30) (h : RW s n nm nr z st bm by') (h2 : ∀ k, k < n → sa s 13 k = nI (f k)) (hf : ∀ k, k < n → f k < n) (hi : ∀ a b, a < n → b < n → f a = f b → a = b) (hgf : ∀ q, q < n → g (f q) = q) : ∀ (i j : Nat), j + i = P - 1 → (∀ q, q < j → asR nm g n (q + 1) = false) → ab_at X (d + 4) 322 12 [some (.inr (9, 0)), some (.inl (.int (nI P))), some (.inl (.int (nI (j + 1))))] [] s = some (.inl (some (.inl (.long (nI (1 + fst (fun q => asR nm g n (q + 1)) (P - 1))).toInt64))), s)
  | 0, j, e, hr => by
    obtain rfl : j = P - 1 := by omega
    rw [b322_12, if_pos (nI_le (by omega) (by omega)), fst_eqn hr, show P - 1 + 1 = 1 + (P - 1) by omega]
  | i + 1, j, e, hr => by
    have hn := h.2.1
    have c0 := fb_ct_le (fun q => nm (it g (j + 1) q) == nm q) n
    have e1 : fb_ct (fun q => nm (ah f n q (-nI (j + 1)).toInt) == nm q) n = fb_ct (fun q => nm (it g (j + 1) q) == nm q) n := fb_ct_cong (fun q hq => by rw [n_negi (by omega), ah_neg hf hi hgf hq])
    rw [b322_12, if_neg (nI_ge (show j + 1 < P by omega) (by omega)), r323 (d := d) h h2 hf hi, e_bI, r267 h.1, e_bI, e1, nI_add]
    by_cases hq : fb_ct (fun q => nm (it g (j + 1) q) == nm q) n = n
    · have ha : asR nm g n (j + 1) = true := by
        unfold asR
        rw [beq_iff_eq]
        exact hq
      rw [if_pos (nI_le (by omega) (by omega)), fst_eq (P := fun q => asR nm g n (q + 1)) (show j < P - 1 by omega) ha hr, Nat.add_comm j 1]
    · have ha : asR nm g n (j + 1) = false := by
        unfold asR
        rw [beq_eq_false_iff_ne]
        exact hq
      rw [if_neg (nI_ge (by omega) (by omega))]
      exact l322 hP0 hP h h2 hf hi hgf i (j + 1) (by omega) (fun q hq2 => by
        by_cases e6 : q = j
        · rw [e6]
          exact ha
        · exact hr q (by omega))
/-- as now -/
theorem o29 (h : BW s n nm nr z st bm by') (hk : k + 5 < X.2) (hX : X.2 < 2 ^ 31) : ∃ (s2 : ab_S) (v5 v6 : Option ab_V), sW s s2 ∧ ab_at X (d + 31) 360 1741 [some (.inr (14, 0)), some (.inr (0, 0)), some (.inr (9, 0)), some (.inr (15, 0)), some (.inl (.int (nI k))), u5, u6, none] [] s = ab_at X (d + 31) 360 23 [some (.inr (14, 0)), some (.inr (0, 0)), some (.inr (9, 0)), some (.inr (15, 0)), some (.inl (.int (nI (k + 6)))), v5, v6, none] [] s2 := by
  have hn := h.1.2.1
  obtain ⟨s1, a1, a2, a3⟩ := c_look (X := X) (d := d + 26) h.1
  obtain ⟨o1, o2, o3, o4, o5, o6⟩ := id a3
  obtain ⟨b1, b2⟩ := pr_L hn h.1.to_lt h.1.to_inj n (Nat.le_refl n)
  have b3 := Nat.le_of_dvd (by omega) b1
  have hg : ∀ q, q < n → inv (to_ nr z st bm by') n q < n := fun q hq => (inv_lt h.1.to_lt h.1.to_inj hq).1
  obtain ⟨G, g1⟩ := l29 (X := X) (d := d + 27) (s := s1) (P := pr (to_ nr z st bm by') n n) b2 (by omega) o1 hn o3 h.1.2.2.2.1 o5 hg (h.same a2.V).1.1 (pr (to_ nr z st bm by') n n - 1) 0 (sa s1 4) (by omega) o6 (fun q hq => by omega)
  rw [pa_id] at g1
  have c : ab_ev X (d + 30) 29 [.inr (0, 0)] s = some (.inl (some (.inl (.long (nI (1 + fst (fun q => asR nm (inv (to_ nr z st bm by') n) n (q + 1)) (pr (to_ nr z st bm by') n n - 1))).toInt64))), pa s1 4 G) := by
    rw [b29, a1, e_bU, c_period (s := s1) o1 hn o4 h.1.to_lt h.1.to_inj, e_bI]
    exact g1
  have hV : sV s (pz (pa s1 4 G) 11 (nI 0)) := sV_trans a2.V (sV_trans (sO_pa (by omega) (by omega)).V (sV_pz (by omega)))
  obtain ⟨s2, r1, r2, -, -, r5⟩ := r320 (X := X) (d := d + 6) (h.same hV).2
  have r : ab_ev X (d + 30) 322 [.inr (9, 0)] (pa s1 4 G) = some (.inl (some (.inl (.long (nI (1 + fst (fun q => asR nm (inv (to_ nr z st bm by') n) n (q + 1)) (pr (to_ nr z st bm by') n n - 1))).toInt64))), s2) := by
    rw [b322, r1, e_bI]
    exact l322 (d := d + 26) b2 (by omega) ((h.same hV).same r2.V).2 r5 h.1.to_lt h.1.to_inj (fun q hq => inv_f h.1.to_inj hq) (pr (to_ nr z st bm by') n n - 1) 0 (by omega) (fun q hq => by omega)
  exact ⟨s2, u5, u6, Or.inl (sV_trans hV r2.V), w1741 hk hX c r rfl⟩
end OP3
