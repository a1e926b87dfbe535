/-! Whole calls: right days, where names hang. -/
theorem n_lt {a b : Nat} (h : a < b) (hb : b < 2 ^ 31) : nI a < nI b := Int32.lt_iff_toInt_lt.mpr (by rw [nI_toInt hb, nI_toInt (by omega)]; omega)
/-- as many right after j + 1 nights -/
def rdB (nm g : Nat → Nat) (n : Nat) (x : Int32) (j : Nat) : Bool := !decide (nI (fb_ct (fun q => nm (it g (j + 1) q) == nm q) n) < x)
theorem rdB_t {nm g : Nat → Nat} {n j : Nat} {x : Int32} (h : ¬ nI (fb_ct (fun q => nm (it g (j + 1) q) == nm q) n) < x) : rdB nm g n x j = true := by
  unfold rdB
  rw [decide_eq_false h]
  rfl
theorem rdB_f {nm g : Nat → Nat} {n j : Nat} {x : Int32} (h : nI (fb_ct (fun q => nm (it g (j + 1) q) == nm q) n) < x) : rdB nm g n x j = false := by
  unfold rdB
  rw [decide_eq_true h]
  rfl
section OP4
variable {X : (Nat → Int32) × Nat} {d k n nr bm : Nat} {u5 u6 : Option ab_V} {s : ab_S} {nm z f g : Nat → Nat} {st : Nat → Nat → Nat} {by' : Nat → Int32}
theorem l200 {N : Nat} {x : Int32} (hN : N < 2 ^ 30) (h8 : sz s 8 = nI n) (hn : n ≤ 20) (h1 : ∀ k, k < n → sa s 1 k = nI (nm k)) (hnm : ∀ k, k < n → nm k < n) (h3 : ∀ k, k < n → sa s 3 k = nI (g k)) (hg : ∀ k, k < n → g k < n) : ∀ (i j : Nat) (G : Nat → Int32), j + i = N → (∀ q, q < n → G q = nI (it g j q)) → ∃ G' : Nat → Int32, ab_at X (d + 3) 200 40 [some (.inr (0, 0)), some (.inl (.int x)), some (.inl (.int (nI N))), some (.inl (.int (nI (fb_ct (rdB nm g n x) j)))), some (.inl (.int (nI j)))] [] (pa s 4 G) = some (.inl (some (.inl (.int (nI (fb_ct (rdB nm g n x) N))))), pa s 4 G')
  | 0, j, G, e, hG => by
    refine ⟨G, ?_⟩
    obtain rfl : j = N := by omega
    rw [b200_40, if_pos (nI_le (by omega) (by omega))]
  | i + 1, j, G, e, hG => by
    have hlt : ∀ q, q < n → it g j q < n := fun q hq => it_lt hg j hq
    obtain ⟨G', g1, g2⟩ := c_step (X := X) (d := d + 1) (s := pa s 4 G) (n := n) (g := g) (src := fun q => it g j q) h8 hn (fun q hq => by simp (disch := omega) only [E0]; exact h3 q hq) (fun q hq => by simp (disch := omega) only [E0]; exact hG q hq) hlt
    have e4 : pa (pa s 4 G) 4 G' = pa s 4 G' := by simp (disch := omega) only [E1]
    rw [e4] at g1
    have hG' : ∀ q, q < n → G' q = nI (it g (j + 1) q) := g2
    have e5 : ab_ev X (d + 2) 31 [.inr (6, 0)] (pa s 4 G') = _ := c_rightStreets (s := pa s 4 G') (nm := nm) (src := fun q => it g (j + 1) q) h8 hn (fun q hq => by simp (disch := omega) only [E0]; exact h1 q hq) hnm (fun q hq => by simp (disch := omega) only [E0]; exact hG' q hq) (fun q hq => it_lt hg (j + 1) hq)
    obtain ⟨G2, i1⟩ := l200 (x := x) hN h8 hn h1 hnm h3 hg i (j + 1) G' (by omega) hG'
    rw [fb_ct_succ] at i1
    refine ⟨G2, ?_⟩
    rw [b200_40, if_neg (nI_ge (show j < N by omega) (by omega)), g1, e_bU, e5, e_bI, nI_add, nI_add, ← i1]
    by_cases q : nI (fb_ct (fun q => nm (it g (j + 1) q) == nm q) n) < x
    · rw [if_pos q, rdB_f q, if_neg (show ¬ false = true by decide)]
      rfl
    · rw [if_neg q, rdB_t q, if_pos rfl]
theorem l339 {N : Nat} {x : Int32} (hN : N < 2 ^ 30) (h : RW s n nm nr z st bm by') (h2 : ∀ k, k < n → sa s 13 k = nI (f k)) (hf : ∀ k, k < n → f k < n) (hi : ∀ a b, a < n → b < n → f a = f b → a = b) (hgf : ∀ q, q < n → g (f q) = q) : ∀ (i j : Nat), j + i = N → ab_at X (d + 4) 339 36 [some (.inr (9, 0)), some (.inl (.int x)), some (.inl (.int (nI N))), some (.inl (.int (nI (fb_ct (rdB nm g n x) j)))), some (.inl (.int (nI (j + 1))))] [] s = some (.inl (some (.inl (.int (nI (fb_ct (rdB nm g n x) N))))), s)
  | 0, j, e => by
    obtain rfl : j = N := by omega
    rw [b339_36, if_pos (n_lt (by omega) (by omega))]
  | i + 1, j, e => by
    have hn := h.2.1
    have e1 : fb_ct (fun q => nm (ah f n q (-nI (j + 1)).toInt) == nm q) n = fb_ct (fun q => nm (it g (j + 1) q) == nm q) n := fb_ct_cong (fun q hq => by rw [n_negi (by omega), ah_neg hf hi hgf hq])
    have i1 := l339 (x := x) hN h h2 hf hi hgf i (j + 1) (by omega)
    rw [fb_ct_succ] at i1
    rw [b339_36, if_neg (nI_nlt (show j + 1 ≤ N by omega) (by omega)), r323 (d := d) h h2 hf hi, e_bI, e1, nI_add, nI_add, nI_add, ← i1]
    by_cases q : nI (fb_ct (fun q => nm (it g (j + 1) q) == nm q) n) < x
    · rw [if_pos q, rdB_f q, if_neg (show ¬ false = true by decide)]
    · rw [if_neg q, rdB_t q, if_pos rfl]
/-- right days -/
theorem o199 (h : BW s n nm nr z st bm by') (hk : k + 5 < X.2) (hX : X.2 < 2 ^ 31) : ∃ (s2 : ab_S) (v5 v6 : Option ab_V), sW s s2 ∧ ab_at X (d + 31) 360 2501 [some (.inr (14, 0)), some (.inr (0, 0)), some (.inr (9, 0)), some (.inr (15, 0)), some (.inl (.int (nI k))), u5, u6, none] [] s = ab_at X (d + 31) 360 23 [some (.inr (14, 0)), some (.inr (0, 0)), some (.inr (9, 0)), some (.inr (15, 0)), some (.inl (.int (nI (k + 6)))), v5, v6, none] [] s2 := by
  have hn := h.1.2.1
  have i0 : (nI 0).toInt = 0 := by decide
  have i9 : (nI 999).toInt = 999 := by decide
  have j0 : (lN 0).toInt = 0 := by decide
  have j9 : (lN 999).toInt = 999 := by decide
  by_cases h2 : inR (X.1 (k + 2)).toInt 0 999 = true
  · by_cases h3 : nI 0 ≤ X.1 (k + 1)
    · obtain ⟨v, hv, ev⟩ := inS_rep (x := X.1 (k + 2)) (n := 1000) (inS_def.mpr (by have := inR_iff.mp h2; omega))
      obtain ⟨s1, a1, a2, a3⟩ := c_look (X := X) (d := d + 25) h.1
      obtain ⟨o1, o2, o3, o4, o5, o6⟩ := id a3
      have hg : ∀ q, q < n → inv (to_ nr z st bm by') n q < n := fun q hq => (inv_lt h.1.to_lt h.1.to_inj hq).1
      obtain ⟨G, g1⟩ := l200 (X := X) (d := d + 26) (s := s1) (N := v) (x := X.1 (k + 1)) (by omega) o1 hn o3 h.1.2.2.2.1 o5 hg v 0 (sa s1 4) (by omega) o6
      rw [pa_id] at g1
      obtain ⟨w, hw⟩ : ∃ w, w = nI (fb_ct (rdB nm (inv (to_ nr z st bm by') n) n (X.1 (k + 1))) v) := ⟨_, rfl⟩
      have c : ab_ev X (d + 30) 199 [.inr (0, 0), .inl (.int (X.1 (k + 1))), .inl (.int (X.1 (k + 2))), .inr (15, 0)] s = some (.inl (some (.inl (.int (nI 0)))), pb (pa s1 4 G) 3 (va_up (sb (pa s1 4 G) 3) 0 w.toInt64)) := by
        have g1' : ab_at X (d + 29) 200 40 [some (.inr (0, 0)), some (.inl (.int (X.1 (k + 1)))), some (.inl (.int (nI v))), some (.inl (.int (nI 0))), some (.inl (.int (nI 0)))] [] s1 = _ := g1
        rw [b199, b200, c_n103, i0, i9, if_pos h2, e_bU, if_pos h3, a1, e_bU, ev, g1', e_bI, hw]
      have hV : sV s (pz (pb (pa s1 4 G) 3 (va_up (sb (pa s1 4 G) 3) 0 w.toInt64)) 11 (nI 0)) := sV_trans a2.V (sV_trans (sO_pa (by omega) (by omega)).V (sV_trans sV_pb (sV_pz (by omega))))
      have hb := h.same hV
      obtain ⟨s2, r1, r2, r3, -, r5⟩ := r268 (X := X) (d := d + 27) hb.2
      have r : ab_ev X (d + 30) 339 [.inr (9, 0), .inl (.int (X.1 (k + 1))), .inl (.int (X.1 (k + 2)))] (pb (pa s1 4 G) 3 (va_up (sb (pa s1 4 G) 3) 0 w.toInt64)) = some (.inl (some (.inl (.int w))), s2) := by
        have l1 := l339 (X := X) (d := d + 26) (N := v) (x := X.1 (k + 1)) (by omega) (hb.same r2.V).2 r5 h.1.to_lt h.1.to_inj (fun q hq => inv_f h.1.to_inj hq) v 0 (by omega)
        rw [b339, r232, j_of, j0, j9, if_pos h2, e_bI, if_neg (show ¬ nI 1 = nI 0 by decide), if_pos h3, r1, e_bU, ev, hw]
        exact l1
      refine ⟨s2, _, _, Or.inl (sV_trans hV r2.V), w2501 hk hX c r r3 (fun _ => ?_)⟩
      rw [r2.2.2.2.2.2.2.1]
      rfl
    · have c : ab_ev X (d + 30) 199 [.inr (0, 0), .inl (.int (X.1 (k + 1))), .inl (.int (X.1 (k + 2))), .inr (15, 0)] s = some (.inl (some (.inl (.int (nI 1)))), ths s) := by
        rw [b199, b200, c_n103, i0, i9, if_pos h2, e_bU, if_neg h3, e_xI]
        rfl
      have r : ab_ev X (d + 30) 339 [.inr (9, 0), .inl (.int (X.1 (k + 1))), .inl (.int (X.1 (k + 2)))] (ths s) = some (.inl (some (.inl (.int (nI 0)))), pz (ths s) 11 (nI 1)) := by
        rw [b339, r232, j_of, j0, j9, if_pos h2, e_bI, if_neg (show ¬ nI 1 = nI 0 by decide), if_neg h3, b233, e_bI, pz2]
      exact ⟨_, _, _, Or.inr (sV_pz (by omega)), w2501 hk hX c r rfl (fun q => absurd q (by decide))⟩
  · have c : ab_ev X (d + 30) 199 [.inr (0, 0), .inl (.int (X.1 (k + 1))), .inl (.int (X.1 (k + 2))), .inr (15, 0)] s = some (.inl (some (.inl (.int (nI 1)))), ths s) := by
      rw [b199, b200, c_n103, i0, i9, if_neg h2, e_xU, e_px, e_xI]
      rfl
    have r : ab_ev X (d + 30) 339 [.inr (9, 0), .inl (.int (X.1 (k + 1))), .inl (.int (X.1 (k + 2)))] (ths s) = some (.inl (some (.inl (.int (nI 0)))), pz (ths s) 11 (nI 1)) := by
      rw [b339, r232, j_of, j0, j9, if_neg h2, e_bI, if_pos rfl, b233, e_bI, pz2]
    exact ⟨_, _, _, Or.inr (sV_pz (by omega)), w2501 hk hX c r rfl (fun q => absurd q (by decide))⟩
end OP4
