/-! How the abstract machine's store lies in the heap. -/
/-- kinds whose objects are made in the run -/
def ab_dk : List Nat := (List.range 10) ++ (List.range 40).map (· + 15)
def ab_dy (K : Nat) : Bool := Nat.blt K 10 || (Nat.blt 14 K && Nat.blt K 55)
theorem ab_dk_iff (K : Nat) : K ∈ ab_dk ↔ ab_dy K = true := by
  simp only [ab_dk, ab_dy, List.mem_append, List.mem_range, List.mem_map, Bool.or_eq_true, Bool.and_eq_true, Nat.blt_eq]
  constructor
  · rintro (h | ⟨a, h, rfl⟩)
    · exact Or.inl h
    · exact Or.inr ⟨by omega, by omega⟩
  · rintro (h | ⟨h, h2⟩)
    · exact Or.inl h
    · exact Or.inr ⟨K - 15, by omega, by omega⟩
def ab_ad (ra ρ : Nat → Nat → Nat) (K i : Nat) : Nat := bif ab_dy K then ρ K i else ra K i
def ab_cv (ra ρ : Nat → Nat → Nat) (v : ab_V) : Value := match v with
  | .inl x => x
  | .inr q => .ref (ab_ad ra ρ q.1 q.2)
def ab_ca (ra ρ : Nat → Nat → Nat) (dA : Nat → ClassId) (s : ab_S) (i : Nat) (e n so id : Nat) : ClassId × vp_A := match so with
  | 0 => (dA e, n, .inl (sa s id))
  | 1 => (dA e, n, .inl (sA s id i))
  | 2 => (dA 1, n, .inr (.inl (sb s id)))
  | 3 => (dA 1, n, .inr (.inl (sB s id i)))
  | _ => (dA (if e = 8 then 3 else 4), n, .inr (.inr (.inr (.inr (fun j => (sq s id j).map (ab_ad ra ρ e))))))
/-- what the object (K, i) holds -/
def ab_ct (ra ρ : Nat → Nat → Nat) (dA : Nat → ClassId) (s : ab_S) (K i : Nat) : va_E := match ab_kds[K]? with
  | some (.inl (ci, fs)) => .inr (ci, fs.map fun f => ab_cv ra ρ (ab_fv s i f))
  | some (.inr (e, n, so, id)) => .inl (ab_ca ra ρ dA s i e n so id)
  | none => .inr (0, [])
def ab_ob (s : ab_S) : List (Nat × Nat) := ab_dk.flatMap fun K => (List.range (ab_lim K s)).map fun i => (K, i)
def ab_wd (ra ρ : Nat → Nat → Nat) (dA : Nat → ClassId) (s : ab_S) : va_W := (ab_ob s).map fun q => (ab_ad ra ρ q.1 q.2, ab_ct ra ρ dA s q.1 q.2)
theorem ab_ob_mem {s : ab_S} {K i : Nat} : (K, i) ∈ ab_ob s ↔ ab_dy K = true ∧ i < ab_lim K s := by
  simp only [ab_ob, List.mem_flatMap, List.mem_map, List.mem_range, Prod.mk.injEq]
  constructor
  · rintro ⟨a, h, b, h2, rfl, rfl⟩
    exact ⟨(ab_dk_iff _).mp h, h2⟩
  · rintro ⟨h, h2⟩
    exact ⟨K, (ab_dk_iff _).mpr h, i, h2, rfl, rfl⟩
theorem ab_ob_at {s : ab_S} {K i : Nat} (h : ab_dy K = true) (hi : i < ab_lim K s) : ∃ q0 : Nat, (ab_ob s)[q0]? = some (K, i) := List.getElem?_of_mem (ab_ob_mem.mpr ⟨h, hi⟩)
theorem ab_wd_at {ra ρ : Nat → Nat → Nat} {dA : Nat → ClassId} {s : ab_S} {q0 K i : Nat} (h : (ab_ob s)[q0]? = some (K, i)) : (ab_wd ra ρ dA s)[q0]? = some (ab_ad ra ρ K i, ab_ct ra ρ dA s K i) := by
  unfold ab_wd
  rw [List.getElem?_map, h]
  rfl
/-- one object of another content: the whole world of the other store -/
theorem ab_wd_set {ra ρ : Nat → Nat → Nat} {dA : Nat → ClassId} {A : Nat → Prop} {s s' : ab_S} (hl : ab_ob s' = ab_ob s) {q0 K i : Nat} (hq : (ab_ob s)[q0]? = some (K, i)) (hD : va_D A (ab_wd ra ρ dA s))
    (hn : ∀ K' i' : Nat, ab_dy K' = true → i' < ab_lim K' s → (K', i') ≠ (K, i) → ab_ct ra ρ dA s' K' i' = ab_ct ra ρ dA s K' i') : (ab_wd ra ρ dA s).set q0 (ab_ad ra ρ K i, ab_ct ra ρ dA s' K i) = ab_wd ra ρ dA s' := by
  refine List.ext_getElem? (fun j => ?_)
  have hlt : q0 < (ab_wd ra ρ dA s).length := (List.getElem?_eq_some_iff.mp (ab_wd_at (ra := ra) (ρ := ρ) (dA := dA) hq)).1
  by_cases hj : q0 = j
  · subst hj
    rw [List.getElem?_set_self hlt]
    exact (ab_wd_at (by rw [hl]; exact hq)).symm
  · rw [List.getElem?_set_ne hj]
    unfold ab_wd
    rw [List.getElem?_map, List.getElem?_map, hl]
    cases e : (ab_ob s)[j]? with
    | none => rfl
    | some q =>
      obtain ⟨K', i'⟩ := q
      have hm := ab_ob_mem.mp (List.mem_of_getElem? e)
      have hne : (K', i') ≠ (K, i) := by
        intro h
        obtain ⟨rfl, rfl⟩ := Prod.mk.inj h
        exact hj (hD.1 q0 j _ _ (ab_wd_at hq) (ab_wd_at e) rfl)
      show some (ab_ad ra ρ K' i', ab_ct ra ρ dA s K' i') = some (ab_ad ra ρ K' i', ab_ct ra ρ dA s' K' i')
      rw [hn K' i' hm.1 hm.2 hne]
/-- every field that can be written belongs to one place -/
def ab_k1 (K : Nat) (c f : Nat) : Bool := match ab_kds[K]? with
  | some (.inl (_, fs)) => fs.any fun x => Nat.beq x.1 c && Nat.beq x.2.1 f
  | _ => false
/-- the kind that holds a variable, and its place there -/
theorem ab_uqK : (List.range 10).all (fun K => match ab_kds[K]? with
  | some (.inl (_, fs)) => fs.all fun x => Nat.ble 4 x.1 || (List.range 55).all fun K' => Nat.beq K' K || !ab_k1 K' x.1 x.2.1
  | _ => true) = true := by decide +kernel
theorem ab_uqP : (List.range 10).all (fun K => match ab_kds[K]? with
  | some (.inl (_, fs)) => (List.range fs.length).all fun p => (List.range fs.length).all fun p' => Nat.beq p p' || (match fs[p]?, fs[p']? with
    | some x, some y => Nat.ble 4 x.1 || !(Nat.beq x.1 y.1 && Nat.beq x.2.1 y.2.1)
    | _, _ => false)
  | _ => true) = true := by decide +kernel
def ab_ka (K so id : Nat) : Bool := match ab_kds[K]? with
  | some (.inr (_, _, so', id')) => Nat.beq so so' && Nat.beq id id'
  | _ => false
theorem ab_uqA : (List.range 55).all (fun K => match ab_kds[K]? with
  | some (.inr (_, _, so, id)) => Nat.ble 5 so || (List.range 55).all fun K' => Nat.beq K' K || !ab_ka K' so id
  | _ => true) = true := by decide +kernel
/-- kinds of objects are ahead of ten, of arrays behind fourteen; how many of them -/
theorem ab_kdsL : ab_kds.length = 55 := by decide +kernel
theorem ab_sing : (List.range 55).all (fun K => match ab_kds[K]? with
  | some (.inl (_, fs)) => Nat.ble 10 K || fs.all (fun x => !(Nat.ble x.1 2) || Nat.beq (ab_grp.getD K 0) 0) && fs.all (fun x => !(Nat.beq x.1 3) || !(Nat.beq (ab_grp.getD K 0) 0))
  | some (.inr (_, _, so, _)) => !(Nat.beq so 0 || Nat.beq so 2 || Nat.beq so 4) || Nat.beq (ab_grp.getD K 0) 0
  | none => false) = true := by decide +kernel
theorem ab_lt {K : Nat} {r : (Nat × List (Nat × Nat × Nat)) ⊕ (Nat × Nat × Nat × Nat)} (h : ab_kds[K]? = some r) : K < 55 := by
  have := (List.getElem?_eq_some_iff.mp h).1
  rw [ab_kdsL] at this
  exact this
theorem ab_uq1 {K K' c f p : Nat} {ci a : Nat} {fs : List (Nat × Nat × Nat)} (hk : ab_kds[K]? = some (.inl (ci, fs))) (hK : K < 10) (hp : fs[p]? = some (c, f, a)) (hc : c < 4) (hK' : K' < 55) (hne : K' ≠ K) : ab_k1 K' c f = false := by
  have h := List.all_eq_true.mp ab_uqK K (List.mem_range.mpr hK)
  rw [hk] at h
  have h2 := List.all_eq_true.mp h _ (List.mem_of_getElem? hp)
  rw [Bool.or_eq_true] at h2
  rcases h2 with h2 | h2
  · have := Nat.le_of_ble_eq_true h2
    omega
  · have h3 := List.all_eq_true.mp h2 K' (List.mem_range.mpr hK')
    rw [Bool.or_eq_true] at h3
    rcases h3 with h3 | h3
    · exact absurd (Nat.eq_of_beq_eq_true h3) hne
    · simpa using h3
theorem ab_uq2 {K c f p p' : Nat} {ci a : Nat} {fs : List (Nat × Nat × Nat)} {y : Nat × Nat × Nat} (hk : ab_kds[K]? = some (.inl (ci, fs))) (hK : K < 10) (hp : fs[p]? = some (c, f, a)) (hc : c < 4) (hp' : fs[p']? = some y) (hne : p' ≠ p) : ¬ (y.1 = c ∧ y.2.1 = f) := by
  have h := List.all_eq_true.mp ab_uqP K (List.mem_range.mpr hK)
  rw [hk] at h
  have h2 := List.all_eq_true.mp (List.all_eq_true.mp h p (List.mem_range.mpr (List.getElem?_eq_some_iff.mp hp).1)) p' (List.mem_range.mpr (List.getElem?_eq_some_iff.mp hp').1)
  rw [Bool.or_eq_true] at h2
  rcases h2 with h2 | h2
  · exact absurd (Nat.eq_of_beq_eq_true h2).symm hne
  · rw [hp, hp'] at h2
    rintro ⟨rfl, rfl⟩
    have h3 : Nat.ble 4 y.1 = false := by
      cases e : Nat.ble 4 y.1 with
      | false => rfl
      | true => have := Nat.le_of_ble_eq_true e; omega
    simp [h3] at h2
theorem ab_k1_no {K' c f ci : Nat} {fs : List (Nat × Nat × Nat)} (hk : ab_kds[K']? = some (.inl (ci, fs))) (h : ab_k1 K' c f = false) {y : Nat × Nat × Nat} (hy : y ∈ fs) : ¬ (y.1 = c ∧ y.2.1 = f) := by
  unfold ab_k1 at h
  rw [hk] at h
  rintro ⟨rfl, rfl⟩
  have := List.any_eq_false.mp h y hy
  simp at this
theorem ab_uq3 {K K' e n so id : Nat} (hk : ab_kds[K]? = some (.inr (e, n, so, id))) (hso : so < 5) {e' n' so' id' : Nat} (hk' : ab_kds[K']? = some (.inr (e', n', so', id'))) (hne : K' ≠ K) : ¬ (so' = so ∧ id' = id) := by
  have h := List.all_eq_true.mp ab_uqA K (List.mem_range.mpr (ab_lt hk))
  rw [hk] at h
  rw [Bool.or_eq_true] at h
  rcases h with h | h
  · have := Nat.le_of_ble_eq_true h
    omega
  · have h3 := List.all_eq_true.mp h K' (List.mem_range.mpr (ab_lt hk'))
    rw [Bool.or_eq_true] at h3
    rcases h3 with h3 | h3
    · exact absurd (Nat.eq_of_beq_eq_true h3) hne
    · rintro ⟨rfl, rfl⟩
      unfold ab_ka at h3
      rw [hk'] at h3
      simp at h3
/-- a field is written: the object's content, and all others' -/
theorem ab_putg {ra ρ : Nat → Nat → Nat} {dA : Nat → ClassId} {s s' : ab_S} {K i p c f ci a : Nat} {fs : List (Nat × Nat × Nat)} (hk : ab_kds[K]? = some (.inl (ci, fs))) (hK : K < 10) (hp : fs[p]? = some (c, f, a)) (hc : c < 4) {v : ab_V}
    (hfv : ∀ (i' : Nat) (y : Nat × Nat × Nat), ¬ (y.1 = c ∧ y.2.1 = f) → ab_fv s' i' y = ab_fv s i' y) (hfi : ∀ (i' : Nat) (y : Nat × Nat × Nat), i' ≠ i → i' < ab_lim K s → (y.1 = c ∧ y.2.1 = f) → ab_fv s' i' y = ab_fv s i' y) (hv : ab_fv s' i (c, f, a) = v)
    (harr : ∀ i' e n so id : Nat, ab_ca ra ρ dA s' i' e n so id = ab_ca ra ρ dA s i' e n so id) :
    ab_ct ra ρ dA s' K i = .inr (ci, (fs.map fun y => ab_cv ra ρ (ab_fv s i y)).set p (ab_cv ra ρ v)) ∧ ∀ K' i' : Nat, ab_dy K' = true → i' < ab_lim K' s → (K', i') ≠ (K, i) → ab_ct ra ρ dA s' K' i' = ab_ct ra ρ dA s K' i' := by
  constructor
  · unfold ab_ct
    rw [hk]
    show (Sum.inr _ : va_E) = _
    congr 2
    refine List.ext_getElem? (fun j => ?_)
    have hlt : p < (fs.map fun y => ab_cv ra ρ (ab_fv s i y)).length := by rw [List.length_map]; exact (List.getElem?_eq_some_iff.mp hp).1
    by_cases hj : p = j
    · subst hj
      rw [List.getElem?_set_self hlt, List.getElem?_map, hp]
      show some (ab_cv ra ρ (ab_fv s' i (c, f, a))) = some _
      rw [hv]
    · rw [List.getElem?_set_ne hj, List.getElem?_map, List.getElem?_map]
      cases e : fs[j]? with
      | none => rfl
      | some y =>
        show some (ab_cv ra ρ (ab_fv s' i y)) = some (ab_cv ra ρ (ab_fv s i y))
        rw [hfv i y (ab_uq2 hk hK hp hc e (fun h => hj h.symm))]
  · intro K' i' hd hi hne
    unfold ab_ct
    cases e : ab_kds[K']? with
    | none => rfl
    | some r =>
      cases r with
      | inr r =>
        obtain ⟨e1, n1, so1, id1⟩ := r
        show Sum.inl _ = Sum.inl _
        rw [harr]
      | inl r =>
        obtain ⟨ci', fs'⟩ := r
        show Sum.inr _ = Sum.inr _
        congr 2
        refine List.map_congr_left (fun y hy => ?_)
        by_cases hKK : K' = K
        · subst hKK
          have hii : i' ≠ i := fun h => hne (by rw [h])
          by_cases hy2 : y.1 = c ∧ y.2.1 = f
          · rw [hfi i' y hii hi hy2]
          · rw [hfv i' y hy2]
        · rw [hfv i' y (ab_k1_no e (ab_uq1 hk hK hp hc (ab_lt e) hKK) hy)]
theorem ab_arr_kinds : (List.range 55).all (fun K => match ab_kds[K]? with
  | some (.inr (e, n, so, _)) => (Nat.blt so 5 && ab_dy K && (!(ab_isi K) || (Nat.ble so 1 && Nat.beq e 0)) && (!(ab_isb K) || (Nat.beq so 0 && Nat.beq e 2)) && (!(Nat.beq so 4) || Nat.beq e 8 && Nat.beq (ab_grp.getD K 0) 0 || Nat.beq e 2 && Nat.beq (ab_grp.getD K 0) 0) && Nat.blt n 2147483648 && (Nat.blt 1 so || Nat.beq e 0 || Nat.beq e 2)) || (Nat.beq so 7 && Nat.beq K 12 && !(ab_isi K)) || (Nat.beq so 8 && Nat.beq K 13 && Nat.beq n 33 && !(ab_isi K) && !(ab_isb K)) || (Nat.beq so 6 && Nat.beq K 14 && !(ab_isb K))
  | some (.inl _) => Nat.blt K 12 && (Nat.ble 10 K || ab_dy K)
  | none => false) = true := by decide +kernel
theorem ab_arr_k {K e n so id : Nat} (hk : ab_kds[K]? = some (.inr (e, n, so, id))) : (so < 5 ∧ ab_dy K = true ∧ (ab_isi K = true → so ≤ 1 ∧ e = 0) ∧ (ab_isb K = true → so = 0 ∧ e = 2) ∧ (so = 4 → ab_grp.getD K 0 = 0 ∧ (e = 8 ∨ e = 2)) ∧ n < 2147483648 ∧ (so ≤ 1 → e = 0 ∨ e = 2)) ∨ (so = 7 ∧ K = 12 ∧ ab_isi K = false) ∨ (so = 8 ∧ K = 13 ∧ n = 33 ∧ ab_isi K = false ∧ ab_isb K = false) ∨ (so = 6 ∧ K = 14 ∧ ab_isb K = false) := by
  have h := List.all_eq_true.mp ab_arr_kinds K (List.mem_range.mpr (ab_lt hk))
  rw [hk] at h
  simp only [Bool.or_eq_true, Bool.and_eq_true, Nat.blt_eq, Nat.beq_eq, Bool.not_eq_true', Nat.ble_eq] at h
  rcases h with (((h | h) | h) | h)
  · obtain ⟨⟨⟨⟨⟨⟨h1, h2⟩, h3⟩, h4⟩, h5⟩, h6⟩, h7⟩ := h
    refine Or.inl ⟨h1, h2, fun q => ?_, fun q => ?_, fun q => ?_, h6, fun q => ?_⟩
    · rcases h3 with h3 | h3
      · rw [h3] at q; cases q
      · exact h3
    · rcases h4 with h4 | h4
      · rw [h4] at q; cases q
      · exact h4
    · rcases h5 with (h5 | h5) | h5
      · rw [q] at h5; cases h5
      · exact ⟨h5.2, Or.inl h5.1⟩
      · exact ⟨h5.2, Or.inr h5.1⟩
    · rcases h7 with (h7 | h7) | h7
      · omega
      · exact Or.inl h7
      · exact Or.inr h7
  · exact Or.inr (Or.inl ⟨h.1.1, h.1.2, h.2⟩)
  · exact Or.inr (Or.inr (Or.inl ⟨h.1.1.1.1, h.1.1.1.2, h.1.1.2, h.1.2, h.2⟩))
  · exact Or.inr (Or.inr (Or.inr ⟨h.1.1, h.1.2, h.2⟩))
/-- a row is written -/
theorem ab_arrg {ra ρ : Nat → Nat → Nat} {dA : Nat → ClassId} {s s' : ab_S} {K i e n so id : Nat} (hk : ab_kds[K]? = some (.inr (e, n, so, id))) (hso : so < 5)
    (hfv : ∀ (i' : Nat) (y : Nat × Nat × Nat), ab_fv s' i' y = ab_fv s i' y) (hca : ∀ i' e' n' so' id' : Nat, so' < 5 → ¬ (so' = so ∧ id' = id) → ab_ca ra ρ dA s' i' e' n' so' id' = ab_ca ra ρ dA s i' e' n' so' id')
    (hci : ∀ i' : Nat, i' ≠ i → i' < ab_lim K s → ab_ca ra ρ dA s' i' e n so id = ab_ca ra ρ dA s i' e n so id) :
    ∀ K' i' : Nat, ab_dy K' = true → i' < ab_lim K' s → (K', i') ≠ (K, i) → ab_ct ra ρ dA s' K' i' = ab_ct ra ρ dA s K' i' := by
  intro K' i' hd hi hne
  unfold ab_ct
  cases e0 : ab_kds[K']? with
  | none => rfl
  | some r =>
    cases r with
    | inl r =>
      obtain ⟨ci', fs'⟩ := r
      show Sum.inr _ = Sum.inr _
      congr 2
      exact List.map_congr_left (fun y hy => by rw [hfv])
    | inr r =>
      obtain ⟨e1, n1, so1, id1⟩ := r
      show Sum.inl _ = Sum.inl _
      by_cases hKK : K' = K
      · subst hKK
        rw [hk] at e0
        obtain ⟨rfl, rfl, rfl, rfl⟩ : e = e1 ∧ n = n1 ∧ so = so1 ∧ id = id1 := by
          have := Option.some.inj e0
          simpa using this
        rw [hci i' (fun h => hne (by rw [h])) hi]
      · have h5 : so1 < 5 := by
          rcases ab_arr_k e0 with ⟨h, -⟩ | ⟨-, rfl, -⟩ | ⟨-, rfl, -⟩ | ⟨-, rfl, -⟩
          · exact h
          · cases hd
          · cases hd
          · cases hd
        rw [hca _ _ _ _ _ h5 (ab_uq3 hk hso e0 hKK)]
theorem ab_one {s : ab_S} {K i i' : Nat} (h : ab_grp.getD K 0 = 0) (hi : i < ab_lim K s) (hi' : i' < ab_lim K s) : i' = i := by
  unfold ab_lim at hi hi'
  rw [h] at hi hi'
  have h1 : i < 1 := hi
  have h2 : i' < 1 := hi'
  omega
theorem ab_sing_a {K e n so id : Nat} (hk : ab_kds[K]? = some (.inr (e, n, so, id))) (h : so = 0 ∨ so = 2 ∨ so = 4) : ab_grp.getD K 0 = 0 := by
  have q := List.all_eq_true.mp ab_sing K (List.mem_range.mpr (ab_lt hk))
  rw [hk] at q
  simp only [Bool.or_eq_true, Nat.beq_eq, Bool.not_eq_true', Bool.or_eq_false_iff] at q
  rcases q with q | q
  · rcases h with rfl | rfl | rfl
    · exact absurd q.1.1 (by decide)
    · exact absurd q.1.2 (by decide)
    · exact absurd q.2 (by decide)
  · exact q
theorem ab_sing_f {K ci p : Nat} {fs : List (Nat × Nat × Nat)} {y : Nat × Nat × Nat} (hk : ab_kds[K]? = some (.inl (ci, fs))) (hK : K < 10) (hp : fs[p]? = some y) (h : y.1 ≤ 2) : ab_grp.getD K 0 = 0 := by
  have q := List.all_eq_true.mp ab_sing K (List.mem_range.mpr (ab_lt hk))
  rw [hk] at q
  rw [Bool.or_eq_true] at q
  rcases q with q | q
  · have := Nat.le_of_ble_eq_true q
    omega
  · rw [Bool.and_eq_true] at q
    have q2 := List.all_eq_true.mp q.1 y (List.mem_of_getElem? hp)
    rw [Bool.or_eq_true] at q2
    rcases q2 with q2 | q2
    · have : Nat.ble y.1 2 = true := Nat.ble_eq.mpr h
      rw [this] at q2
      cases q2
    · exact Nat.eq_of_beq_eq_true q2
theorem fv_pz {s : ab_S} {f : Nat} {x : Int32} {i : Nat} {y : Nat × Nat × Nat} (h : ¬ (y.1 = 0 ∧ y.2.1 = f)) : ab_fv (pz s f x) i y = ab_fv s i y := by
  obtain ⟨c, g, a⟩ := y
  rcases c with _ | _ | _ | _ | _ | _ | _ | _ | c
  · have hg : g ≠ f := fun e => h ⟨rfl, e⟩
    show Sum.inl (Value.int (va_up s.1 f x g)) = _
    rw [va_up_ne _ _ hg]
    rfl
  · rfl
  · rfl
  · rfl
  · rfl
  · rfl
  · rfl
  · rfl
  · rfl
theorem ca_pz {ra ρ : Nat → Nat → Nat} {dA : Nat → ClassId} {s : ab_S} {f : Nat} {x : Int32} (i e n so id : Nat) : ab_ca ra ρ dA (pz s f x) i e n so id = ab_ca ra ρ dA s i e n so id := by
  rcases so with _ | _ | _ | _ | so <;> rfl
theorem fv_py {s : ab_S} {f : Nat} {x : Int64} {i : Nat} {y : Nat × Nat × Nat} (h : ¬ (y.1 = 1 ∧ y.2.1 = f)) : ab_fv (py s f x) i y = ab_fv s i y := by
  obtain ⟨c, g, a⟩ := y
  rcases c with _ | _ | _ | _ | _ | _ | _ | _ | c
  · rfl
  · have hg : g ≠ f := fun e => h ⟨rfl, e⟩
    show Sum.inl (Value.long (va_up s.2.1 f x g)) = _
    rw [va_up_ne _ _ hg]
    rfl
  · rfl
  · rfl
  · rfl
  · rfl
  · rfl
  · rfl
  · rfl
theorem ca_py {ra ρ : Nat → Nat → Nat} {dA : Nat → ClassId} {s : ab_S} {f : Nat} {x : Int64} (i e n so id : Nat) : ab_ca ra ρ dA (py s f x) i e n so id = ab_ca ra ρ dA s i e n so id := by
  rcases so with _ | _ | _ | _ | so <;> rfl
theorem fv_pt {s : ab_S} {f : Nat} {x : Nat} {i : Nat} {y : Nat × Nat × Nat} (h : ¬ (y.1 = 2 ∧ y.2.1 = f)) : ab_fv (pt s f x) i y = ab_fv s i y := by
  obtain ⟨c, g, a⟩ := y
  rcases c with _ | _ | _ | _ | _ | _ | _ | _ | c
  · rfl
  · rfl
  · have hg : g ≠ f := fun e => h ⟨rfl, e⟩
    show Sum.inr (10, va_up s.2.2.1 f x g) = _
    rw [va_up_ne _ _ hg]
    rfl
  · rfl
  · rfl
  · rfl
  · rfl
  · rfl
  · rfl
theorem ca_pt {ra ρ : Nat → Nat → Nat} {dA : Nat → ClassId} {s : ab_S} {f : Nat} {x : Nat} (i e n so id : Nat) : ab_ca ra ρ dA (pt s f x) i e n so id = ab_ca ra ρ dA s i e n so id := by
  rcases so with _ | _ | _ | _ | so <;> rfl
theorem fv_pi {s : ab_S} {f : Nat} {x : Nat → Int32} {i : Nat} {y : Nat × Nat × Nat} (h : ¬ (y.1 = 3 ∧ y.2.1 = f)) : ab_fv (pi s f x) i y = ab_fv s i y := by
  obtain ⟨c, g, a⟩ := y
  rcases c with _ | _ | _ | _ | _ | _ | _ | _ | c
  · rfl
  · rfl
  · rfl
  · have hg : g ≠ f := fun e => h ⟨rfl, e⟩
    show Sum.inl (Value.int (va_up s.2.2.2.1 f x g i)) = _
    rw [va_up_ne _ _ hg]
    rfl
  · rfl
  · rfl
  · rfl
  · rfl
  · rfl
theorem ca_pi {ra ρ : Nat → Nat → Nat} {dA : Nat → ClassId} {s : ab_S} {f : Nat} {x : Nat → Int32} (i e n so id : Nat) : ab_ca ra ρ dA (pi s f x) i e n so id = ab_ca ra ρ dA s i e n so id := by
  rcases so with _ | _ | _ | _ | so <;> rfl
theorem fv_pa {s : ab_S} {f : Nat} {x : Nat → Int32} (i : Nat) (y : Nat × Nat × Nat) : ab_fv (pa s f x) i y = ab_fv s i y := by
  obtain ⟨c, g, a⟩ := y
  rcases c with _ | _ | _ | _ | _ | _ | _ | _ | c <;> rfl
theorem ca_pa {ra ρ : Nat → Nat → Nat} {dA : Nat → ClassId} {s : ab_S} {f : Nat} {x : Nat → Int32} (i e n so id : Nat) (hso : so < 5) (h : ¬ (so = 0 ∧ id = f)) : ab_ca ra ρ dA (pa s f x) i e n so id = ab_ca ra ρ dA s i e n so id := by
  rcases so with _ | _ | _ | _ | _ | so
  · have hg : id ≠ f := fun e => h ⟨rfl, e⟩
    show ((dA e, n, Sum.inl (va_up s.2.2.2.2.1 f x id)) : ClassId × vp_A) = _
    rw [va_up_ne _ _ hg]
    rfl
  · rfl
  · rfl
  · rfl
  · rfl
  · omega
theorem fv_pA {s : ab_S} {f : Nat} {x : Nat → Nat → Int32} (i : Nat) (y : Nat × Nat × Nat) : ab_fv (pA s f x) i y = ab_fv s i y := by
  obtain ⟨c, g, a⟩ := y
  rcases c with _ | _ | _ | _ | _ | _ | _ | _ | c <;> rfl
theorem ca_pA {ra ρ : Nat → Nat → Nat} {dA : Nat → ClassId} {s : ab_S} {f : Nat} {x : Nat → Nat → Int32} (i e n so id : Nat) (hso : so < 5) (h : ¬ (so = 1 ∧ id = f)) : ab_ca ra ρ dA (pA s f x) i e n so id = ab_ca ra ρ dA s i e n so id := by
  rcases so with _ | _ | _ | _ | _ | so
  · rfl
  · have hg : id ≠ f := fun e => h ⟨rfl, e⟩
    show ((dA e, n, Sum.inl (va_up s.2.2.2.2.2.1 f x id i)) : ClassId × vp_A) = _
    rw [va_up_ne _ _ hg]
    rfl
  · rfl
  · rfl
  · rfl
  · omega
theorem fv_pb {s : ab_S} {f : Nat} {x : Nat → Int64} (i : Nat) (y : Nat × Nat × Nat) : ab_fv (pb s f x) i y = ab_fv s i y := by
  obtain ⟨c, g, a⟩ := y
  rcases c with _ | _ | _ | _ | _ | _ | _ | _ | c <;> rfl
theorem ca_pb {ra ρ : Nat → Nat → Nat} {dA : Nat → ClassId} {s : ab_S} {f : Nat} {x : Nat → Int64} (i e n so id : Nat) (hso : so < 5) (h : ¬ (so = 2 ∧ id = f)) : ab_ca ra ρ dA (pb s f x) i e n so id = ab_ca ra ρ dA s i e n so id := by
  rcases so with _ | _ | _ | _ | _ | so
  · rfl
  · rfl
  · have hg : id ≠ f := fun e => h ⟨rfl, e⟩
    show ((dA 1, n, Sum.inr (.inl (va_up s.2.2.2.2.2.2.1 f x id))) : ClassId × vp_A) = _
    rw [va_up_ne _ _ hg]
    rfl
  · rfl
  · rfl
  · omega
theorem fv_pB {s : ab_S} {f : Nat} {x : Nat → Nat → Int64} (i : Nat) (y : Nat × Nat × Nat) : ab_fv (pB s f x) i y = ab_fv s i y := by
  obtain ⟨c, g, a⟩ := y
  rcases c with _ | _ | _ | _ | _ | _ | _ | _ | c <;> rfl
theorem ca_pB {ra ρ : Nat → Nat → Nat} {dA : Nat → ClassId} {s : ab_S} {f : Nat} {x : Nat → Nat → Int64} (i e n so id : Nat) (hso : so < 5) (h : ¬ (so = 3 ∧ id = f)) : ab_ca ra ρ dA (pB s f x) i e n so id = ab_ca ra ρ dA s i e n so id := by
  rcases so with _ | _ | _ | _ | _ | so
  · rfl
  · rfl
  · rfl
  · have hg : id ≠ f := fun e => h ⟨rfl, e⟩
    show ((dA 1, n, Sum.inr (.inl (va_up s.2.2.2.2.2.2.2.1 f x id i))) : ClassId × vp_A) = _
    rw [va_up_ne _ _ hg]
    rfl
  · rfl
  · omega
theorem fv_pq {s : ab_S} {f : Nat} {x : Nat → Option Nat} (i : Nat) (y : Nat × Nat × Nat) : ab_fv (pq s f x) i y = ab_fv s i y := by
  obtain ⟨c, g, a⟩ := y
  rcases c with _ | _ | _ | _ | _ | _ | _ | _ | c <;> rfl
theorem ca_pq {ra ρ : Nat → Nat → Nat} {dA : Nat → ClassId} {s : ab_S} {f : Nat} {x : Nat → Option Nat} (i e n so id : Nat) (hso : so < 5) (h : ¬ (so = 4 ∧ id = f)) : ab_ca ra ρ dA (pq s f x) i e n so id = ab_ca ra ρ dA s i e n so id := by
  rcases so with _ | _ | _ | _ | _ | so
  · rfl
  · rfl
  · rfl
  · rfl
  · have hg : id ≠ f := fun e => h ⟨rfl, e⟩
    show ((dA (if e = 8 then 3 else 4), n, Sum.inr (.inr (.inr (.inr (fun j => (va_up s.2.2.2.2.2.2.2.2.1 f x id j).map (ab_ad ra ρ e)))))) : ClassId × vp_A) = _
    rw [va_up_ne _ _ hg]
    rfl
  · omega
/-- what the store must hold of itself -/
def ab_wf (s : ab_S) : Prop := 2 ≤ sn s 2 ∧ (∀ k : Nat, st s k < 33) ∧ (∀ j t : Nat, sq s 0 j = some t → t < sn s 3) ∧ ∀ j t : Nat, sq s 1 j = some t → t < sn s 2
def ab_HR (ra ρ : Nat → Nat → Nat) (D : va_G) (dA : Nat → ClassId) (B0 : Nat) (s : ab_S) (H : Heap) : Prop := va_P D ab_cl (ab_wd ra ρ dA s) H ∧ va_D (fun q => B0 ≤ q) (ab_wd ra ρ dA s) ∧ ab_wf s
/-- a value of the abstract machine and one of the machine -/
def ab_vr (ra ρ : Nat → Nat → Nat) (fm : Value) (s : ab_S) (v : ab_V) (w : Value) : Prop := match v with
  | .inl x => w = x ∧ (match x with
    | .int _ => True
    | .long _ => True
    | .null => True
    | _ => False)
  | .inr q => (q.1 = 55 ∧ w = fm) ∨ (q.1 ≠ 55 ∧ q.2 < ab_lim q.1 s ∧ w = .ref (ab_ad ra ρ q.1 q.2))
def ab_sr (ra ρ : Nat → Nat → Nat) (fm : Value) (s : ab_S) : List ab_V → List Value → Prop
  | [], [] => True
  | v :: K, w :: r => ab_vr ra ρ fm s v w ∧ ab_sr ra ρ fm s K r
  | _, _ => False
def ab_lr (ra ρ : Nat → Nat → Nat) (fm : Value) (s : ab_S) (L : ab_L) (nL : Nat) (ls : Array Slot) : Prop := ls.size = nL ∧ lv_wf ls ∧ L.length = nL ∧ ∀ (i : Nat) (v : ab_V), L[i]? = some (some v) → ∃ w : Value, ls[i]? = some (.val w) ∧ ab_vr ra ρ fm s v w
theorem ab_vr_int {ra ρ : Nat → Nat → Nat} {fm : Value} {s : ab_S} {x : Int32} {w : Value} (h : ab_vr ra ρ fm s (.inl (.int x)) w) : w = .int x := h.1
theorem ab_vr_long {ra ρ : Nat → Nat → Nat} {fm : Value} {s : ab_S} {x : Int64} {w : Value} (h : ab_vr ra ρ fm s (.inl (.long x)) w) : w = .long x := h.1
theorem ab_vr_I {ra ρ : Nat → Nat → Nat} {fm : Value} {s : ab_S} (x : Int32) : ab_vr ra ρ fm s (.inl (.int x)) (.int x) := ⟨rfl, trivial⟩
theorem ab_vr_J {ra ρ : Nat → Nat → Nat} {fm : Value} {s : ab_S} (x : Int64) : ab_vr ra ρ fm s (.inl (.long x)) (.long x) := ⟨rfl, trivial⟩
theorem ab_vr_N {ra ρ : Nat → Nat → Nat} {fm : Value} {s : ab_S} : ab_vr ra ρ fm s (.inl .null) .null := ⟨rfl, trivial⟩
theorem ab_vr_R {ra ρ : Nat → Nat → Nat} {fm : Value} {s : ab_S} {K i : Nat} (h : K ≠ 55) (hi : i < ab_lim K s) : ab_vr ra ρ fm s (.inr (K, i)) (.ref (ab_ad ra ρ K i)) := Or.inr ⟨h, hi, rfl⟩
theorem ab_vr_cat {ra ρ : Nat → Nat → Nat} {fm : Value} (hfm : fm.category = 1) {s : ab_S} {v : ab_V} {w : Value} (h : ab_vr ra ρ fm s v w) : w.category = ab_cat v := by
  cases v with
  | inl x =>
    obtain ⟨rfl, h⟩ := h
    cases w <;> first | rfl | exact False.elim h
  | inr q =>
    rcases h with ⟨-, rfl⟩ | ⟨-, -, rfl⟩
    · exact hfm
    · rfl
theorem ab_sr_len {ra ρ : Nat → Nat → Nat} {fm : Value} {s : ab_S} : ∀ {K : List ab_V} {r : List Value}, ab_sr ra ρ fm s K r → K.length = r.length
  | [], [], _ => rfl
  | v :: K, w :: r, h => by
    show K.length + 1 = r.length + 1
    rw [ab_sr_len h.2]
theorem ab_sr_sum {ra ρ : Nat → Nat → Nat} {fm : Value} (hfm : fm.category = 1) {s : ab_S} : ∀ {K : List ab_V} {r : List Value}, ab_sr ra ρ fm s K r → (r.map fun v => v.category).sum = ab_sum K
  | [], [], _ => rfl
  | v :: K, w :: r, h => by
    show (w.category :: r.map fun v => v.category).sum = ab_cat v + ab_sum K
    rw [List.sum_cons, ab_vr_cat hfm h.1, ab_sr_sum hfm h.2]
def ab_k2 (i : Nat) (x : Option (Option ab_V)) (y : Option Slot) : Option (Nat × Value) := match x, y with
  | some (some _), some (.val w) => some (i, w)
  | _, _ => none
/-- the values of the variables that are known -/
def ab_kn (L : ab_L) (ls : Array Slot) : List (Nat × Value) := (List.range L.length).filterMap fun i => ab_k2 i L[i]? ls[i]?
theorem ab_kn_has {ra ρ : Nat → Nat → Nat} {fm : Value} {s : ab_S} {L : ab_L} {nL : Nat} {ls : Array Slot} (h : ab_lr ra ρ fm s L nL ls) : lv_has ls nL (ab_kn L ls) := by
  refine ⟨h.1, h.2.1, fun q hq => ?_⟩
  obtain ⟨i, -, hi⟩ := List.mem_filterMap.mp hq
  unfold ab_k2 at hi
  split at hi
  · rename_i e1 e2
    obtain rfl := Option.some.inj hi
    exact e2
  · cases hi
theorem ab_kn_mem {ra ρ : Nat → Nat → Nat} {fm : Value} {s : ab_S} {L : ab_L} {nL : Nat} {ls : Array Slot} (h : ab_lr ra ρ fm s L nL ls) {i : Nat} {v : ab_V} (hi : L[i]? = some (some v)) : ∃ w : Value, (i, w) ∈ ab_kn L ls ∧ ls[i]? = some (.val w) ∧ ab_vr ra ρ fm s v w := by
  obtain ⟨w, h1, h2⟩ := h.2.2.2 i v hi
  refine ⟨w, List.mem_filterMap.mpr ⟨i, List.mem_range.mpr (List.getElem?_eq_some_iff.mp hi).1, ?_⟩, h1, h2⟩
  rw [hi, h1]
  rfl
theorem ab_clr_len (L : ab_L) (i : Nat) : (ab_clr L i).length = L.length := by
  unfold ab_clr
  cases i with
  | zero => rfl
  | succ j =>
    show (match L[j]? with
      | some (some (.inl (.long _))) => L.set j none
      | _ => L).length = _
    split
    · exact List.length_set
    · rfl
/-- what is still known behind a write at i -/
theorem ab_clr_at {L : ab_L} {i j : Nat} {v : ab_V} (h : (ab_clr L i)[j]? = some (some v)) : L[j]? = some (some v) ∧ ¬ (j + 1 = i ∧ ab_cat v = 2 ∧ ∃ x : Int64, v = .inl (.long x)) := by
  unfold ab_clr at h
  cases i with
  | zero => exact ⟨h, fun q => by omega⟩
  | succ k =>
    have h' : (match L[k]? with
      | some (some (.inl (.long _))) => L.set k none
      | _ => L)[j]? = some (some v) := h
    split at h'
    · rename_i x e
      by_cases hj : k = j
      · subst hj
        have hlt : k < L.length := (List.getElem?_eq_some_iff.mp e).1
        rw [List.getElem?_set_self hlt] at h'
        cases h'
      · rw [List.getElem?_set_ne hj] at h'
        exact ⟨h', fun q => hj (by omega)⟩
    · rename_i e
      refine ⟨h', ?_⟩
      rintro ⟨q1, q2, x, rfl⟩
      have : j = k := by omega
      subst this
      exact e x h'
theorem ab_lr_st1 {ra ρ : Nat → Nat → Nat} {fm : Value} (hfm : fm.category = 1) {s : ab_S} {L : ab_L} {nL i : Nat} {ls ls' : Array Slot} {w : Value} (h : ab_lr ra ρ fm s L nL ls) (v : Option ab_V) (hv : ∀ x, v = some x → ab_vr ra ρ fm s x w)
    (h' : lv_has ls' nL ((i, w) :: (ab_kn L ls).filter (fun q => !(q.1 == i) && !(q.1 + 1 == i && q.2.category == 2)))) : ab_lr ra ρ fm s ((ab_clr L i).set i v) nL ls' := by
  refine ⟨h'.1, h'.2.1, by rw [List.length_set, ab_clr_len]; exact h.2.2.1, fun j x hj => ?_⟩
  by_cases e : i = j
  · subst e
    have hlt : i < (ab_clr L i).length := by
      have := (List.getElem?_eq_some_iff.mp hj).1
      rwa [List.length_set] at this
    rw [List.getElem?_set_self hlt] at hj
    exact ⟨w, h'.2.2 (i, w) List.mem_cons_self, hv x (Option.some.inj hj)⟩
  · rw [List.getElem?_set_ne e] at hj
    obtain ⟨h1, h2⟩ := ab_clr_at hj
    obtain ⟨u, m1, m2, m3⟩ := ab_kn_mem h h1
    refine ⟨u, h'.2.2 (j, u) (List.mem_cons_of_mem _ (List.mem_filter.mpr ⟨m1, ?_⟩)), m3⟩
    have hji : (j == i) = false := by simpa using fun q : j = i => e q.symm
    rw [hji]
    by_cases hj1 : j + 1 = i
    · have hc : u.category ≠ 2 := by
        intro hc
        rw [ab_vr_cat hfm m3] at hc
        refine h2 ⟨hj1, hc, ?_⟩
        cases x with
        | inr q => simp [ab_cat] at hc
        | inl y =>
          obtain ⟨-, m4⟩ := m3
          cases y <;> first | exact ⟨_, rfl⟩ | (simp [ab_cat] at hc; done) | exact False.elim m4
      simp [hc]
    · simp [hj1]
theorem ab_lr_st2 {ra ρ : Nat → Nat → Nat} {fm : Value} (hfm : fm.category = 1) {s : ab_S} {L : ab_L} {nL i : Nat} {ls ls' : Array Slot} {w : Value} (h : ab_lr ra ρ fm s L nL ls) (v : ab_V) (hv : ab_vr ra ρ fm s v w)
    (h' : lv_has ls' nL ((i, w) :: (ab_kn L ls).filter (fun q => !(q.1 == i) && (!(q.1 == i + 1) && !(q.1 + 1 == i && q.2.category == 2))))) : ab_lr ra ρ fm s (((ab_clr L i).set i (some v)).set (i + 1) none) nL ls' := by
  refine ⟨h'.1, h'.2.1, by rw [List.length_set, List.length_set, ab_clr_len]; exact h.2.2.1, fun j x hj => ?_⟩
  by_cases e1 : i + 1 = j
  · subst e1
    have hlt : i + 1 < ((ab_clr L i).set i (some v)).length := by
      have := (List.getElem?_eq_some_iff.mp hj).1
      rwa [List.length_set] at this
    rw [List.getElem?_set_self hlt] at hj
    cases hj
  · rw [List.getElem?_set_ne e1] at hj
    by_cases e : i = j
    · subst e
      have hlt : i < (ab_clr L i).length := by
        have := (List.getElem?_eq_some_iff.mp hj).1
        rwa [List.length_set] at this
      rw [List.getElem?_set_self hlt] at hj
      obtain rfl := Option.some.inj (Option.some.inj hj)
      exact ⟨w, h'.2.2 (i, w) List.mem_cons_self, hv⟩
    · rw [List.getElem?_set_ne e] at hj
      obtain ⟨h1, h2⟩ := ab_clr_at hj
      obtain ⟨u, m1, m2, m3⟩ := ab_kn_mem h h1
      refine ⟨u, h'.2.2 (j, u) (List.mem_cons_of_mem _ (List.mem_filter.mpr ⟨m1, ?_⟩)), m3⟩
      have hji : (j == i) = false := by simpa using fun q : j = i => e q.symm
      have hji1 : (j == i + 1) = false := by simpa using fun q : j = i + 1 => e1 q.symm
      rw [hji, hji1]
      by_cases hj1 : j + 1 = i
      · have hc : u.category ≠ 2 := by
          intro hc
          rw [ab_vr_cat hfm m3] at hc
          refine h2 ⟨hj1, hc, ?_⟩
          cases x with
          | inr q => simp [ab_cat] at hc
          | inl y =>
            obtain ⟨-, m4⟩ := m3
            cases y <;> first | exact ⟨_, rfl⟩ | (simp [ab_cat] at hc; done) | exact False.elim m4
        simp [hc]
      · simp [hj1]
