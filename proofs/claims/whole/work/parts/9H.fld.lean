/-! The instructions that lean on the tables: fields, statics, constants, copies. -/
noncomputable def ab_ts : List Jvm.Cond := lw_tbl.filter fun w => w.onTables
theorem ab_ts_in {w : Jvm.Cond} (h : w ∈ lw_tbl) (ho : w.onTables = true) : w ∈ ab_ts := List.mem_filter.mpr ⟨h, ho⟩
theorem ab_hts {args : Array Value} {U : State} (h : ∀ w ∈ lw_tbl, w.onTables = true → w.before args U = true) : ∀ w ∈ ab_ts, w.before args U = true := fun w hw => h w (List.mem_filter.mp hw).1 (by simpa using (List.mem_filter.mp hw).2)
theorem ab_isfl_w {o x K p : Nat} (h : ab_isfl o x K p = true) : Jvm.Cond.fieldLink (ab_cnm o) x (ab_T K p).1 (ab_T K p).2.1 (ab_T K p).2.2.1 ∈ lw_tbl := by
  obtain ⟨e, he, h⟩ := List.any_eq_true.mp h
  have q := List.all_eq_true.mp ab_fls e he
  split at h
  · simp only [Bool.and_eq_true, Nat.beq_eq] at h
    obtain ⟨⟨⟨rfl, rfl⟩, rfl⟩, rfl⟩ := h
    exact ab_has_in q
  · cases h
/-- the classes of the kinds -/
theorem ab_cls {k ci : Nat} {fs : List (Nat × Nat × Nat)} (hk : ab_kds[k]? = some (.inl (ci, fs))) (h : k < 10) : ci = k ∧ ∃ C : String, ab_cl[k]? = some (C, ab_T k, fs.length) := by
  rcases (show k = 0 ∨ k = 1 ∨ k = 2 ∨ k = 3 ∨ k = 4 ∨ k = 5 ∨ k = 6 ∨ k = 7 ∨ k = 8 ∨ k = 9 by omega) with rfl | rfl | rfl | rfl | rfl | rfl | rfl | rfl | rfl | rfl <;>
  · cases hk
    exact ⟨rfl, _, rfl⟩
def ab_isLay (w : Jvm.Cond) : Bool := lw_tbl.any fun z => decide (z = w)
theorem ab_lays0 : (List.range 10).all (fun k => match ab_cl[k]? with
  | some (C, _, N) => (List.range N).all fun j => ab_isLay (u_lay C (ab_T k) j)
  | none => false) = true := by decide +kernel
theorem ab_lays {k N : Nat} {C : String} (h : k < 10) (hc : ab_cl[k]? = some (C, ab_T k, N)) : ∀ w ∈ u_ws C (ab_T k) N, w ∈ ab_ts := by
  intro w hw
  obtain ⟨j, hj, rfl⟩ := List.mem_map.mp hw
  have q := List.all_eq_true.mp ab_lays0 k (List.mem_range.mpr h)
  rw [hc] at q
  have q2 := List.all_eq_true.mp q j hj
  obtain ⟨z, hz, e⟩ := List.any_eq_true.mp q2
  obtain rfl := of_decide_eq_true e
  refine ab_ts_in hz ?_
  unfold u_lay
  split <;> rfl
/-- what a field refers to is there -/
theorem ab_fld_ok : (List.range 12).all (fun k => match ab_kds[k]? with
  | some (.inl (_, fs)) => fs.all fun f => match f.1 with
    | 4 => Nat.beq (ab_grp.getD f.2.1 9) (ab_grp.getD k 9) && Nat.blt f.2.1 55
    | 5 => ((Nat.beq (ab_grp.getD f.2.1 9) 0 && Nat.beq f.2.2 0) || (Nat.beq (ab_grp.getD f.2.1 9) 1 && Nat.blt f.2.2 2)) && Nat.blt f.2.1 55
    | 7 => Nat.beq k 10
    | _ => true
  | _ => false) = true := by decide +kernel
theorem ab_tx_ok : (List.range 33).all (fun i => Nat.blt (ab_tx i) 30) = true := by decide +kernel
theorem ab_lim_grp {K K' : Nat} {s : ab_S} (h : ab_grp.getD K 9 = ab_grp.getD K' 9) (h1 : K < 55) (h2 : K' < 55) : ab_lim K s = ab_lim K' s := by
  have hl : ab_grp.length = 56 := by decide +kernel
  have e : ∀ {z : Nat}, z < 55 → ab_grp.getD z 0 = ab_grp.getD z 9 := by
    intro z hz
    rw [List.getD_eq_getElem?_getD, List.getD_eq_getElem?_getD, List.getElem?_eq_getElem (by rw [hl]; omega)]
    rfl
  unfold ab_lim
  rw [e h1, e h2, h]
theorem ab_fv_vr {ra ρ : Nat → Nat → Nat} {fm : Value} {s : ab_S} {k i ci p : Nat} {fs : List (Nat × Nat × Nat)} {f : Nat × Nat × Nat} (hk : ab_kds[k]? = some (.inl (ci, fs))) (hk12 : k < 12) (hp : fs[p]? = some f) (hi : i < ab_lim k s) (hw : ab_wf s) : ab_vr ra ρ fm s (ab_fv s i f) (ab_cv ra ρ (ab_fv s i f)) := by
  have q := List.all_eq_true.mp ab_fld_ok k (List.mem_range.mpr hk12)
  rw [hk] at q
  have q2 := List.all_eq_true.mp q f (List.mem_of_getElem? hp)
  obtain ⟨c, g, a⟩ := f
  rcases c with _ | _ | _ | _ | _ | _ | _ | _ | c
  · exact ab_vr_I _
  · exact ab_vr_J _
  · exact ab_vr_R (by decide) (hw.2.1 g)
  · exact ab_vr_I _
  · have q3 : (Nat.beq (ab_grp.getD g 9) (ab_grp.getD k 9) && Nat.blt g 55) = true := q2
    rw [Bool.and_eq_true] at q3
    have h55 : g < 55 := by simpa using q3.2
    exact ab_vr_R (Nat.ne_of_lt h55) (by rw [ab_lim_grp (Nat.eq_of_beq_eq_true q3.1) h55 (by omega)]; exact hi)
  · have q3 : (((Nat.beq (ab_grp.getD g 9) 0 && Nat.beq a 0) || (Nat.beq (ab_grp.getD g 9) 1 && Nat.blt a 2)) && Nat.blt g 55) = true := q2
    simp only [Bool.and_eq_true, Bool.or_eq_true, Nat.beq_eq, Nat.blt_eq] at q3
    obtain ⟨q4, h55⟩ := q3
    refine ab_vr_R (Nat.ne_of_lt h55) ?_
    rcases q4 with ⟨q5, rfl⟩ | ⟨q5, q6⟩
    · rw [ab_lim_grp (K' := 0) q5 h55 (by decide)]
      show 0 < 1
      decide
    · rw [ab_lim_grp (K' := 2) q5 h55 (by decide)]
      exact Nat.lt_of_lt_of_le q6 hw.1
  · exact ab_vr_I _
  · have q3 : Nat.beq k 10 = true := q2
    obtain rfl := Nat.eq_of_beq_eq_true q3
    have h33 : i < 33 := hi
    have q4 := List.all_eq_true.mp ab_tx_ok i (List.mem_range.mpr h33)
    exact ab_vr_R (by decide) (by show ab_tx i < 30; simpa using q4)
  · exact ab_vr_I _
theorem ab_gf_some {k i p : Nat} {s : ab_S} {v : ab_V} (h : ab_gf k i p s = some v) : ∃ (ci : Nat) (fs : List (Nat × Nat × Nat)) (f : Nat × Nat × Nat), ab_kds[k]? = some (.inl (ci, fs)) ∧ fs[p]? = some f ∧ v = ab_fv s i f := by
  unfold ab_gf at h
  split at h
  · rename_i ci fs hk
    split at h
    · rename_i f hf
      exact ⟨ci, fs, f, hk, hf, (Option.some.inj h).symm⟩
    · cases h
  · cases h
theorem ab_obj_k {k ci : Nat} {fs : List (Nat × Nat × Nat)} (hk : ab_kds[k]? = some (.inl (ci, fs))) : k < 12 ∧ (k < 10 → ab_dy k = true) := by
  have q := List.all_eq_true.mp ab_arr_kinds k (List.mem_range.mpr (ab_lt hk))
  rw [hk] at q
  have q : (Nat.blt k 12 && (Nat.ble 10 k || ab_dy k)) = true := q
  simp only [Bool.and_eq_true, Bool.or_eq_true, Nat.blt_eq, Nat.ble_eq] at q
  exact ⟨q.1, fun h => q.2.resolve_left (by omega)⟩
theorem ab_wd_obj {ra ρ : Nat → Nat → Nat} {dA : Nat → ClassId} {s : ab_S} {q0 k i ci : Nat} {fs : List (Nat × Nat × Nat)} (hk : ab_kds[k]? = some (.inl (ci, fs))) (h : (ab_ob s)[q0]? = some (k, i)) : (ab_wd ra ρ dA s)[q0]? = some (ab_ad ra ρ k i, .inr (ci, fs.map fun f => ab_cv ra ρ (ab_fv s i f))) := by
  have q := ab_wd_at (ra := ra) (ρ := ρ) (dA := dA) h
  unfold ab_ct at q
  rw [hk] at q
  exact q
section FLD
variable {X : (Nat → Int32) × Nat} {m pc : Nat} {L : ab_L} {K : List ab_V} {s : ab_S} {β : Type} {G : Nat → ab_L → List ab_V → ab_S → Option β} {y : β}
theorem ab_getf {a po x : Nat} (hd : decode (ab_by m) pc = .ok (.getfield x, 3)) (hw : ab_isfl (ab_ow m) x a po = true) (h : (ab_pR K fun k i K => bif Nat.beq k a then (match ab_gf k i po s with
    | some v => G (pc + 3) L (v :: K) s
    | none => none) else none) = some y) : ab_St X m pc L K s G y := by
  obtain ⟨k, i, K1, eq9, h9⟩ := ab_pR_some h
  clear h
  subst eq9
  have h := h9
  clear h9
  obtain ⟨hc, h9⟩ := ab_cond_some h
  clear h
  have h := h9
  clear h9
  obtain rfl := Nat.eq_of_beq_eq_true hc
  cases e : ab_gf k i po s with
  | none =>
    rw [e] at h
    cases h
  | some v =>
    rw [e] at h
    obtain ⟨ci, fs, f, hk, hf, rfl⟩ := ab_gf_some e
    refine ⟨_, _, _, _, h, fun _ => rfl, fun ra fm D dA B0 p l e R U mt args below meth c C cells slots Q P hW ρ hρ H ls r locs hL hS hH hV => ?_⟩
    obtain ⟨hx, hlt, hb, hml, hr, hlk, hown, htb, hts, hB, hKK, hSF, hCV, hfm⟩ := C
    obtain ⟨w1, r1, er, hw1, hT⟩ := ab_sr_cons hS
    clear hS
    subst er
    obtain ⟨h12, hdy⟩ := ab_obj_k hk
    obtain ⟨hi, rfl⟩ := ab_vr_get (by omega) hw1
    have hW := hW ρ hρ H ls (ab_cv ra ρ (ab_fv s i f) :: r1) locs hL ⟨ab_fv_vr hk h12 hf hi hH.2.2, hT⟩ hH hV
    have hlink := hts _ (ab_isfl_w hw) rfl
    rcases Nat.lt_or_ge k 10 with h10 | h10
    · obtain ⟨q0, hq⟩ := ab_ob_at (hdy h10) hi
      obtain ⟨rfl, Cn, hcl⟩ := ab_cls hk h10
      exact va_get hx hb (ab_hts hts) (ab_lays h10 hcl) hown hKK hH.1 q0 (ab_wd_obj hk hq) hcl _ (List.getElem?_eq_some_iff.mp hf).1 hlink (fun _ q => q) (by rw [List.getElem?_map, hf]; rfl) hd hW
    · rcases (show k = 10 ∨ k = 11 by omega) with rfl | rfl
      · have h33 : i < 33 := hi
        cases hk
        have hp2 : po < 2 := (List.getElem?_eq_some_iff.mp hf).1
        rcases (show po = 0 ∨ po = 1 by omega) with rfl | rfl
        · cases hf
          exact vk_getf hx hb (hSF.1 i h33).2.2.1 hV hown hlink (fun _ q => q) hd hW
        · cases hf
          exact vk_getf hx hb (hSF.1 i h33).2.1 hV hown hlink (fun _ q => q) hd hW
      · have h30 : i < 30 := hi
        cases hk
        have hp2 : po < 2 := (List.getElem?_eq_some_iff.mp hf).1
        rcases (show po = 0 ∨ po = 1 by omega) with rfl | rfl
        · cases hf
          exact vk_getf hx hb (hSF.2.2.2.1 i h30).2.2.1 hV hown hlink (fun _ q => q) hd hW
        · cases hf
          exact vk_getf hx hb (hSF.2.2.2.1 i h30).2.1 hV hown hlink (fun _ q => q) hd hW
theorem ab_pf_some {k i po : Nat} {v : ab_V} {s' : ab_S} (h : ab_pf k i po v s = some s') : ∃ (ci : Nat) (fs : List (Nat × Nat × Nat)) (f a : Nat), ab_kds[k]? = some (.inl (ci, fs)) ∧
    ((fs[po]? = some (0, f, a) ∧ ∃ x : Int32, v = .inl (.int x) ∧ s' = pz s f x) ∨ (fs[po]? = some (1, f, a) ∧ ∃ x : Int64, v = .inl (.long x) ∧ s' = py s f x) ∨ (fs[po]? = some (2, f, a) ∧ ∃ t : Nat, v = .inr (10, t) ∧ s' = pt s f t) ∨ (fs[po]? = some (3, f, a) ∧ ∃ x : Int32, v = .inl (.int x) ∧ s' = pi s f (va_up (si s f) i x))) := by
  unfold ab_pf at h
  split at h
  · rename_i ci fs hk
    split at h
    · rename_i f a hf
      split at h
      · exact ⟨ci, fs, f, a, hk, Or.inl ⟨hf, _, rfl, (Option.some.inj h).symm⟩⟩
      · cases h
    · rename_i f a hf
      split at h
      · exact ⟨ci, fs, f, a, hk, Or.inr (Or.inl ⟨hf, _, rfl, (Option.some.inj h).symm⟩)⟩
      · cases h
    · rename_i f a hf
      split at h
      · rename_i k' t
        obtain ⟨hc, h9⟩ := ab_cond_some h
        clear h
        have h := h9
        clear h9
        obtain rfl := Nat.eq_of_beq_eq_true hc
        exact ⟨ci, fs, f, a, hk, Or.inr (Or.inr (Or.inl ⟨hf, _, rfl, (Option.some.inj h).symm⟩))⟩
      · cases h
    · rename_i f a hf
      split at h
      · exact ⟨ci, fs, f, a, hk, Or.inr (Or.inr (Or.inr ⟨hf, _, rfl, (Option.some.inj h).symm⟩))⟩
      · cases h
    · cases h
  · cases h
theorem ab_tys : (List.range 10).all (fun k => match ab_kds[k]? with
  | some (.inl (_, fs)) => (List.range fs.length).all fun j => (parseFieldDescriptor (ab_T k j).2.2.1).isSome && ((List.range fs.length).all fun b => Nat.beq j b || !decide ((ab_T k j).2.1 = (ab_T k b).2.1)) && (match fs[j]? with
    | some (0, _, _) => decide ((ab_T k j).2.2.1 = "I")
    | some (1, _, _) => decide ((ab_T k j).2.2.1 = "J")
    | some (2, _, _) => decide ((ab_T k j).2.2.1 = "LMovingNames$Token;")
    | some (3, _, _) => decide ((ab_T k j).2.2.1 = "I")
    | _ => true)
  | _ => false) = true := by decide +kernel
theorem ab_tyk {k ci : Nat} {fs : List (Nat × Nat × Nat)} (hk : ab_kds[k]? = some (.inl (ci, fs))) (h : k < 10) : (∀ j : Nat, j < fs.length → parseFieldDescriptor (ab_T k j).2.2.1 = some ((parseFieldDescriptor (ab_T k j).2.2.1).getD .int)) ∧ (∀ a : Nat, a < fs.length → ∀ b : Nat, b < fs.length → a ≠ b → (ab_T k a).2.1 ≠ (ab_T k b).2.1) ∧ ∀ (j c f a : Nat), fs[j]? = some (c, f, a) → (c = 0 → (ab_T k j).2.2.1 = "I") ∧ (c = 1 → (ab_T k j).2.2.1 = "J") ∧ (c = 2 → (ab_T k j).2.2.1 = "LMovingNames$Token;") ∧ (c = 3 → (ab_T k j).2.2.1 = "I") := by
  have q := List.all_eq_true.mp ab_tys k (List.mem_range.mpr h)
  rw [hk] at q
  refine ⟨fun j hj => ?_, fun a ha b hb hne => ?_, fun j c f a hj => ?_⟩
  · have q2 := List.all_eq_true.mp q j (List.mem_range.mpr hj)
    rw [Bool.and_eq_true, Bool.and_eq_true] at q2
    obtain ⟨z, hz⟩ := Option.isSome_iff_exists.mp q2.1.1
    rw [hz]
    rfl
  · have q2 := List.all_eq_true.mp q a (List.mem_range.mpr ha)
    rw [Bool.and_eq_true, Bool.and_eq_true] at q2
    have q3 := List.all_eq_true.mp q2.1.2 b (List.mem_range.mpr hb)
    rw [ab_nb hne] at q3
    simpa using q3
  · have q2 := List.all_eq_true.mp q j (List.mem_range.mpr (List.getElem?_eq_some_iff.mp hj).1)
    rw [Bool.and_eq_true, hj] at q2
    refine ⟨fun e => ?_, fun e => ?_, fun e => ?_, fun e => ?_⟩ <;>
    · subst e
      exact of_decide_eq_true q2.2
/-- a field is written -/
theorem ab_putf0 {x k i po c f a ci : Nat} {fs : List (Nat × Nat × Nat)} {v : ab_V} {K2 : List ab_V} {s' : ab_S} (hd : decode (ab_by m) pc = .ok (.putfield x, 3)) (hw : ab_isfl (ab_ow m) x k po = true) (hk : ab_kds[k]? = some (.inl (ci, fs))) (h10 : k < 10) (hf : fs[po]? = some (c, f, a)) (hc : c < 4) (hfin : (ab_T k po).2.2.2 = false)
    (hob : ab_ob s' = ab_ob s) (hsn : ∀ z : Nat, sn s' z = sn s z) (hli : ∀ z : Nat, ab_lim z s ≤ ab_lim z s')
    (hfv : ∀ (i' : Nat) (z : Nat × Nat × Nat), ¬ (z.1 = c ∧ z.2.1 = f) → ab_fv s' i' z = ab_fv s i' z) (hfi : i < ab_lim k s → ∀ (i' : Nat) (z : Nat × Nat × Nat), i' ≠ i → i' < ab_lim k s → (z.1 = c ∧ z.2.1 = f) → ab_fv s' i' z = ab_fv s i' z) (hv : ab_fv s' i (c, f, a) = v)
    (harr : ∀ (ra ρ : Nat → Nat → Nat) (dA : Nat → ClassId) (i' e n so id : Nat), ab_ca ra ρ dA s' i' e n so id = ab_ca ra ρ dA s i' e n so id)
    (hwf : ∀ (ra ρ : Nat → Nat → Nat) (fm w : Value), ab_vr ra ρ fm s v w → ab_wf s → ab_wf s')
    (hty : ∀ (ra ρ : Nat → Nat → Nat) (fm w : Value), ab_vr ra ρ fm s v w → w = ab_cv ra ρ v ∧ ∃ ty : FieldType, parseFieldDescriptor (ab_T k po).2.2.1 = some ty ∧ narrow ty w = w ∧ fits ty w = true)
    (h : G (pc + 3) L K2 s' = some y) : ab_St X m pc L (v :: .inr (k, i) :: K2) s G y := by
  refine ⟨_, _, _, _, h, hsn, fun ra fm D dA B0 p l e R U mt args below meth c9 C cells slots Q P hW ρ hρ H ls r locs hL hS hH hV => ?_⟩
  obtain ⟨hx, hlt, hb, hml, hr, hlk, hown, htb, hts, hB, hKK, hSF, hCV, hfm⟩ := C
  obtain ⟨w1, r1, er, hw1, hT⟩ := ab_sr_cons hS
  clear hS
  subst er
  have hS := hT
  clear hT
  obtain ⟨w2, r2, er, hw2, hT⟩ := ab_sr_cons hS
  clear hS
  subst er
  have hS := hT
  clear hT
  obtain ⟨hi, rfl⟩ := ab_vr_get (by omega) hw2
  obtain ⟨rfl, ty, t1, t2, t3⟩ := hty ra ρ fm w1 hw1
  have hlink := hts _ (ab_isfl_w hw) rfl
  obtain ⟨q0, hq⟩ := ab_ob_at ((ab_obj_k hk).2 h10) hi
  obtain ⟨rfl, Cn, hcl⟩ := ab_cls hk h10
  obtain ⟨k1, k2, -⟩ := ab_tyk hk h10
  have hpo := (List.getElem?_eq_some_iff.mp hf).1
  refine va_put hx hb (ab_hts hts) (ab_lays h10 hcl) _ k1 k2 hown hKK hH.1 hH.2.1 hV q0 (ab_wd_obj hk hq) hcl po hpo hlink (fun _ q => q) hfin t1 t2 t3 (by rw [List.length_map]; exact hpo) hd (fun H1 locs1 g1 g2 g3 => ?_)
  obtain ⟨e1, e2⟩ := ab_putg (ra := ra) (ρ := ρ) (dA := dA) (s := s) (s' := s') (i := i) hk h10 hf hc hfv (hfi hi) hv (harr ra ρ dA)
  exact hW ρ hρ H1 ls r2 locs1 (ab_lr_mono (s := s) (s' := s') hli (fun _ _ _ _ => rfl) hL) (ab_sr_mono (s := s) (s' := s') hli (fun _ _ _ _ => rfl) hS) (ab_set_HR (s := s) (s' := s') hob hq hH.2.1 e2 (hwf ra ρ fm _ hw1 hH.2.2) e1 g1 g2) g3
theorem ab_putf {a po x : Nat} (hd : decode (ab_by m) pc = .ok (.putfield x, 3)) (hw : ab_isfl (ab_ow m) x a po = true) (ha : a < 10) (hfin : (ab_T a po).2.2.2 = false) (h : (ab_p K fun v K => ab_pR K fun k i K => bif Nat.beq k a then (match ab_pf k i po v s with
    | some s => G (pc + 3) L K s
    | none => none) else none) = some y) : ab_St X m pc L K s G y := by
  obtain ⟨v, K1, eq9, h9⟩ := ab_p_some h
  clear h
  subst eq9
  have h := h9
  clear h9
  obtain ⟨k, i, K2, eq9, h9⟩ := ab_pR_some h
  clear h
  subst eq9
  have h := h9
  clear h9
  obtain ⟨hc, h9⟩ := ab_cond_some h
  obtain rfl := Nat.eq_of_beq_eq_true hc
  cases e : ab_pf k i po v s with
  | none =>
    rw [e] at h9
    cases h9
  | some s' =>
    rw [e] at h9
    have h9 : G (pc + 3) L K2 s' = some y := h9
    obtain ⟨ci, fs, f, a, hk, q⟩ := ab_pf_some e
    have ht := (ab_tyk hk ha).2.2
    rcases q with ⟨hf, x1, rfl, rfl⟩ | ⟨hf, x1, rfl, rfl⟩ | ⟨hf, t, rfl, rfl⟩ | ⟨hf, x1, rfl, rfl⟩
    · refine ab_putf0 (s' := pz s f x1) hd hw hk ha hf (by decide) hfin rfl (fun _ => rfl) (fun _ => Nat.le_refl _) (fun i' z hz => fv_pz hz) (fun hi i' z hne hi' => absurd (ab_one (ab_sing_f hk ha hf (show (0:Nat) ≤ 2 by decide)) hi hi') hne) ?_ (fun ra ρ dA => ca_pz) (fun ra ρ fm w _ q => q) (fun ra ρ fm w q => ⟨ab_vr_int q, .int, by rw [(ht _ _ _ _ hf).1 rfl]; rfl, ?_⟩) h9
      · show Sum.inl (Value.int (va_up s.1 f x1 f)) = _
        rw [va_up_self]
      · rw [ab_vr_int q]
        exact ⟨rfl, rfl⟩
    · refine ab_putf0 (s' := py s f x1) hd hw hk ha hf (by decide) hfin rfl (fun _ => rfl) (fun _ => Nat.le_refl _) (fun i' z hz => fv_py hz) (fun hi i' z hne hi' => absurd (ab_one (ab_sing_f hk ha hf (show (1:Nat) ≤ 2 by decide)) hi hi') hne) ?_ (fun ra ρ dA => ca_py) (fun ra ρ fm w _ q => q) (fun ra ρ fm w q => ⟨ab_vr_long q, .long, by rw [(ht _ _ _ _ hf).2.1 rfl]; rfl, ?_⟩) h9
      · show Sum.inl (Value.long (va_up s.2.1 f x1 f)) = _
        rw [va_up_self]
      · rw [ab_vr_long q]
        exact ⟨rfl, rfl⟩
    · refine ab_putf0 (s' := pt s f t) hd hw hk ha hf (by decide) hfin rfl (fun _ => rfl) (fun _ => Nat.le_refl _) (fun i' z hz => fv_pt hz) (fun hi i' z hne hi' => absurd (ab_one (ab_sing_f hk ha hf (show (2:Nat) ≤ 2 by decide)) hi hi') hne) ?_ (fun ra ρ dA => ca_pt) (fun ra ρ fm w q z => ?_) (fun ra ρ fm w q => ⟨?_, .object "MovingNames$Token", by rw [(ht _ _ _ _ hf).2.2.1 rfl]; decide +kernel, ?_⟩) h9
      · show Sum.inr (10, va_up s.2.2.1 f t f) = _
        rw [va_up_self]
      · refine ⟨z.1, fun k' => ?_, z.2.2⟩
        have ht33 : t < 33 := (ab_vr_get (by decide) q).1
        show va_up s.2.2.1 f t k' < 33
        by_cases hk' : k' = f
        · subst hk'
          rw [va_up_self]
          exact ht33
        · rw [va_up_ne _ _ hk']
          exact z.2.1 k'
      · exact (ab_vr_get (by decide) q).2
      · rw [(ab_vr_get (by decide) q).2]
        exact ⟨rfl, rfl⟩
    · refine ab_putf0 (s' := pi s f (va_up (si s f) i x1)) hd hw hk ha hf (by decide) hfin rfl (fun _ => rfl) (fun _ => Nat.le_refl _) (fun i' z hz => fv_pi hz) (fun hi i' z hne hi' hz => ?_) ?_ (fun ra ρ dA => ca_pi) (fun ra ρ fm w _ q => q) (fun ra ρ fm w q => ⟨ab_vr_int q, .int, by rw [(ht _ _ _ _ hf).2.2.2 rfl]; rfl, ?_⟩) h9
      · obtain ⟨z1, z2, z3⟩ := z
        obtain ⟨rfl, rfl⟩ := hz
        show Sum.inl (Value.int (va_up s.2.2.2.1 z2 (va_up (si s z2) i x1) z2 i')) = _
        rw [va_up_self, va_up_ne _ _ hne]
        rfl
      · show Sum.inl (Value.int (va_up s.2.2.2.1 f (va_up (si s f) i x1) f i)) = _
        rw [va_up_self, va_up_self]
      · rw [ab_vr_int q]
        exact ⟨rfl, rfl⟩
end FLD
