/-! Makings of towns and trays. -/
theorem pi_hit {u : ab_S} {a t : Nat} {G : Nat → Int32} {v : Int32} : si (pi u a (va_up G t v)) a t = v := by
  show va_up (si u) a (va_up G t v) a t = v
  rw [va_up_self, va_up_self]
theorem pi_off {u : ab_S} {a k : Nat} {F : Nat → Int32} (h : k ≠ a) : si (pi u a F) k = si u k := va_up_ne _ _ h
theorem pA_hit {u : ab_S} {a t : Nat} {G : Nat → Nat → Int32} {v : Nat → Int32} : sA (pA u a (va_up G t v)) a t = v := by
  show va_up (sA u) a (va_up G t v) a t = v
  rw [va_up_self, va_up_self]
theorem pA_off {u : ab_S} {a k : Nat} {F : Nat → Nat → Int32} (h : k ≠ a) : sA (pA u a F) k = sA u k := va_up_ne _ _ h
theorem newT_own {s : ab_S} : si (ab_newT s) 0 (sn s 2) = 0 ∧ si (ab_newT s) 1 (sn s 2) = 0 ∧ si (ab_newT s) 2 (sn s 2) = 9 ∧ si (ab_newT s) 3 (sn s 2) = 0 ∧ si (ab_newT s) 4 (sn s 2) = 0 ∧ si (ab_newT s) 5 (sn s 2) = 0 ∧ si (ab_newT s) 6 (sn s 2) = 0 ∧ si (ab_newT s) 7 (sn s 2) = 0 ∧ si (ab_newT s) 8 (sn s 2) = 0 ∧ si (ab_newT s) 9 (sn s 2) = 0 := by
  unfold ab_newT
  simp only [pn_si, pA_si]
  refine ⟨?_, ?_, ?_, ?_, ?_, ?_, ?_, ?_, ?_, ?_⟩
  all_goals simp (disch := decide) only [pi_off, pi_hit]
theorem newT_ownA {s : ab_S} : sA (ab_newT s) 0 (sn s 2) = (fun _ => 0) ∧ sA (ab_newT s) 1 (sn s 2) = (fun _ => 0) ∧ sA (ab_newT s) 2 (sn s 2) = (fun _ => 0) ∧ sA (ab_newT s) 3 (sn s 2) = (fun _ => 0) ∧ sA (ab_newT s) 4 (sn s 2) = (fun _ => 0) ∧ sA (ab_newT s) 5 (sn s 2) = (fun _ => 0) ∧ sA (ab_newT s) 6 (sn s 2) = (fun _ => 0) ∧ sA (ab_newT s) 7 (sn s 2) = (fun _ => 0) ∧ sA (ab_newT s) 8 (sn s 2) = (fun _ => 0) := by
  unfold ab_newT
  simp only [pn_sA]
  refine ⟨?_, ?_, ?_, ?_, ?_, ?_, ?_, ?_, ?_⟩
  all_goals simp (disch := decide) only [pA_off, pA_hit]
theorem nw_mono {s : ab_S} {a b c x y z : Nat} {u : ab_S} (hu : sn u = sn s) (ha : sn s a ≤ x) (hb : sn s b ≤ y) (hc : sn s c ≤ z) : ∀ k, sn s k ≤ sn (pn (pn (pn u a x) b y) c z) k := fun k => by
  show sn s k ≤ va_up (va_up (va_up (sn u) a x) b y) c z k
  rw [hu]
  by_cases h : k = c
  · rw [h, va_up_self]
    exact hc
  · rw [va_up_ne _ _ h]
    by_cases h : k = b
    · rw [h, va_up_self]
      exact hb
    · rw [va_up_ne _ _ h]
      by_cases h : k = a
      · rw [h, va_up_self]
        exact ha
      · rw [va_up_ne _ _ h]
        exact Nat.le_refl _
theorem newT_mono {s : ab_S} : ∀ k, sn s k ≤ sn (ab_newT s) k := by
  unfold ab_newT
  exact nw_mono (by simp only [pA_sn, pi_sn]) (Nat.le_add_right _ _) (Nat.le_add_right _ _) (Nat.le_add_right _ _)
theorem newR_mono {s : ab_S} : ∀ k, sn s k ≤ sn (ab_newR s) k := by
  unfold ab_newR
  exact nw_mono rfl (Nat.le_add_right _ _) (Nat.le_add_right _ _) (Nat.le_add_right _ _)
theorem pn_sy {s : ab_S} {a t : Nat} : sy (pn s a t) = sy s := rfl
theorem pA_sy {s : ab_S} {a : Nat} {F : Nat → Nat → Int32} : sy (pA s a F) = sy s := rfl
theorem pi_sy {s : ab_S} {a : Nat} {F : Nat → Int32} : sy (pi s a F) = sy s := rfl
theorem newT_sy {s : ab_S} : sy (ab_newT s) = sy s := by
  unfold ab_newT
  simp only [pn_sy, pA_sy, pi_sy]
theorem newR_sn {s : ab_S} : sn (ab_newR s) 0 = sn s 0 + 2 ∧ sn (ab_newR s) 1 = sn s 1 + 33 ∧ sn (ab_newR s) 2 = sn s 2 ∧ sn (ab_newR s) 3 = sn s 3 + 1 := by
  refine ⟨rfl, rfl, rfl, rfl⟩
theorem newR_own {s : ab_S} : si (ab_newR s) 10 (sn s 3) = 0 ∧ si (ab_newR s) 11 (sn s 3) = 0 ∧ sB (ab_newR s) 0 (sn s 3) = (fun _ => 0) := by
  refine ⟨?_, ?_, ?_⟩
  · show va_up (si s 10) (sn s 3) 0 (sn s 3) = 0
    rw [va_up_self]
  · show va_up (si s 11) (sn s 3) 0 (sn s 3) = 0
    rw [va_up_self]
  · show va_up (sB s 0) (sn s 3) (fun _ => 0) (sn s 3) = fun _ => 0
    rw [va_up_self]
theorem newR_si1 {s : ab_S} {k : Nat} (h : k < 10) : si (ab_newR s) k = si s k := by
  show va_up (va_up (si s) 10 _) 11 _ k = si s k
  rw [va_up_ne _ _ (by omega), va_up_ne _ _ (by omega)]
theorem newR_si2 {s : ab_S} {k i : Nat} (h : i ≠ sn s 3) : si (ab_newR s) k i = si s k i := by
  show va_up (va_up (si s) 10 (va_up (si s 10) (sn s 3) 0)) 11 (va_up (si s 11) (sn s 3) 0) k i = si s k i
  by_cases h1 : k = 11
  · rw [h1, va_up_self, va_up_ne _ _ h]
  · rw [va_up_ne _ _ h1]
    by_cases h2 : k = 10
    · rw [h2, va_up_self, va_up_ne _ _ h]
    · rw [va_up_ne _ _ h2]
theorem newR_sB {s : ab_S} {k i : Nat} (h : i ≠ sn s 3) : sB (ab_newR s) k i = sB s k i := by
  show va_up (sB s) 0 (va_up (sB s 0) (sn s 3) (fun _ => 0)) k i = sB s k i
  by_cases h1 : k = 0
  · rw [h1, va_up_self, va_up_ne _ _ h]
  · rw [va_up_ne _ _ h1]
/-- where the new things lie -/
def nw_rho (ρ : Nat → Nat → Nat) (s : ab_S) (u : va_W) (jj : Nat → Nat) (K i : Nat) : Nat := if i < ab_lim K s then ρ K i else ((u[jj K]?).map Prod.fst).getD 0
theorem nw_ad {ra ρ : Nat → Nat → Nat} {s : ab_S} {u : va_W} {jj : Nat → Nat} {K t : Nat} {x : Nat × va_E} (hd : ab_dy K = true) (h : ¬ t < ab_lim K s) (e : u[jj K]? = some x) : ab_ad ra (nw_rho ρ s u jj) K t = x.1 := by
  unfold ab_ad
  rw [hd, cond_true]
  unfold nw_rho
  rw [if_neg h, e]
  rfl
theorem nw_one {s s2 : ab_S} {K i : Nat} (hd : ab_dy K = true) (h2 : i < ab_lim K s2) (h1 : ¬ i < ab_lim K s) : (K ∈ [8, 36] ∧ i < sn s2 3 ∧ ¬ i < sn s 3) ∨ (K ∈ [2, 19, 20, 21, 3, 22, 23, 24, 4, 25, 26, 5, 27] ∧ i < sn s2 2 ∧ ¬ i < sn s 2) := by
  have hlt : K < 55 := by
    unfold ab_dy at hd
    simp only [Bool.or_eq_true, Bool.and_eq_true, Nat.blt_eq] at hd
    omega
  have q := List.all_eq_true.mp nw_grp K (List.mem_range.mpr hlt)
  rw [hd] at q
  simp only [Bool.not_true, Bool.false_or, Bool.and_eq_true, Bool.or_eq_true, Bool.not_eq_true', Nat.ble_eq] at q
  obtain ⟨⟨q2, q1⟩, q3⟩ := q
  unfold ab_lim at h2 h1
  generalize ab_grp.getD K 0 = g at q1 q2 q3 h1 h2
  rcases g with _ | _ | _ | g
  · exact absurd h2 h1
  · refine Or.inr ⟨?_, h2, h1⟩
    rcases q1 with q1 | q1
    · cases q1
    · exact List.elem_iff.mp q1
  · refine Or.inl ⟨?_, h2, h1⟩
    rcases q2 with q2 | q2
    · cases q2
    · exact List.elem_iff.mp q2
  · omega
