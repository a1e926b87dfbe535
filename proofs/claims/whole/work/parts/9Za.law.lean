/-! The law from its entry to its loop. -/
theorem nd_L_0 : decode code 0 = .ok (.new 8, 3) := by decide +kernel
theorem nd_L_3 : decode code 3 = .ok (.dup, 1) := by decide +kernel
theorem nd_L_4 : decode code 4 = .ok (.invokespecial 154, 3) := by decide +kernel
theorem nd_L_7 : decode code 7 = .ok (.astore_n 1, 1) := by decide +kernel
theorem nd_L_8 : decode code 8 = .ok (.new 155, 3) := by decide +kernel
theorem nd_L_11 : decode code 11 = .ok (.dup, 1) := by decide +kernel
theorem nd_L_12 : decode code 12 = .ok (.invokespecial 157, 3) := by decide +kernel
theorem nd_L_15 : decode code 15 = .ok (.astore_n 2, 1) := by decide +kernel
theorem nd_L_16 : decode code 16 = .ok (.iconst (1), 1) := by decide +kernel
theorem nd_L_17 : decode code 17 = .ok (.newarray .long, 2) := by decide +kernel
theorem nd_L_19 : decode code 19 = .ok (.astore_n 3, 1) := by decide +kernel
theorem nd_L_20 : decode code 20 = .ok (.iconst (0), 1) := by decide +kernel
theorem nd_L_21 : decode code 21 = .ok (.istore 4, 2) := by decide +kernel
theorem nw_by : ab_by 360 = code := by rfl
theorem nw_ml : ab_ml 360 = 8 := by decide +kernel
theorem nw_fty : ab_fty 360 = ret := by decide +kernel
theorem nw_hw : ab_hw 360 = [] := by decide +kernel
theorem nw_ow : ab_cnm (ab_ow 360) = "MovingNamesLaw" := by decide +kernel
/-- nothing that was there is written -/
theorem nw_end {s : State} {o : Outcome} {t : State} {Lc : List Loc} (hF : FrameEnd s o t Lc 601024 7293034) (hfree : ∀ q ∈ Lc, ab_A s.heap.size q.base) : Framed s o t [] 601024 7293034 := by
  obtain ⟨h1, h2, c1, c2, c3, c4, c5, c6⟩ := hF
  refine ⟨h1, h2, c1, c2, c3, c4, c5, fun a c hc => ?_⟩
  obtain ⟨c', d1, d2, d3, d4⟩ := c6 a c hc
  refine ⟨c', d1, d2, d3, fun i _ => d4 i (fun hm => ?_)⟩
  have q1 : s.heap.size ≤ a := hfree _ hm
  have q2 := (Array.getElem?_eq_some_iff.mp hc).1
  omega
set_option maxHeartbeats 0 in
set_option maxRecDepth 100000 in
theorem nw_start {p : Program} {e : Env} {s : State} {m : MethodId} {below : List Frame} {meth : Method} {c : Code} (l : Launch) (hst : l.stackTraces = false) {b L : Nat} {xs : Nat → Int32} (hL : L ≤ 3072) (hx : p.tables.exec = Jvm.exec) (hb : c.code = code) (hr : meth.sig.returnType = ret) (hml : c.maxLocals = 8) (hown : s.vm.findClass "MovingNamesLaw" = some m.cls) (hts : ∀ w ∈ lw_tbl, w.before #[Value.ref b] s = true) (hX : va_X b L xs s s.heap) (hlk : meth.locks = false) (hg : (Jvm.Cond.and given_1 narrow_1).before #[Value.ref b] s = true) (het : c.exceptionTable.toList = []) : W p l e room_1 s m #[Value.ref b] below meth c s.heap [] 0 0 (fun t => ∃ o, t.status = .running ∧ Ended t below o ∧ o = .returned (some (.int 1)) ∧ Framed s o t [] 601024 7293034) (entryFrame m ([Value.ref b] : List Value).toArray 8) := by
  obtain ⟨D, dA, hK⟩ := nw_K0 hts
  obtain ⟨hA1, hA2⟩ := nw_AO0 hts
  obtain ⟨ra, fm, hSF, hCV, hfm, hr14⟩ := nw_SF0 hts hg hX (by omega)
  have wd : ∀ w ∈ lw_tbl, w.onTables = true → w.before #[Value.ref b] s = true := fun w h _ => hts w h
  have hot := ab_hts wd
  obtain ⟨s', n0, n1, hSnd⟩ := nw_law (X := (xs, L)) (by show L < 2 ^ 20; omega)
  have hsub : ∀ x, ab_A s.heap.size x → ab_A s.heap.size x := fun x h => h
  have hA : ∀ x : Nat, s.heap.size ≤ x → ab_A s.heap.size x := fun x h => h
  have hS : va_S (ab_A s.heap.size) s.heap s.heap [] := va_S.rf
  have hP : va_P D ab_cl [] s.heap := fun k q h => absurd (List.getElem?_eq_some_iff.mp h).1 (Nat.not_lt_zero _)
  have hD : va_D (ab_A s.heap.size) [] := ⟨fun i j x y h _ _ => absurd (List.getElem?_eq_some_iff.mp h).1 (Nat.not_lt_zero _), fun k q h => absurd (List.getElem?_eq_some_iff.mp h).1 (Nat.not_lt_zero _)⟩
  have hl := lv_entry ([.ref b]) (n := 8) (Nat.le_of_ble_eq_true rfl)
  rw [lg_entry_eq]
  generalize (lg_sl ([.ref b]) ++ List.replicate (8 - (lg_sl ([.ref b])).length) Slot.unset).toArray = ls at hl ⊢
  have hl : lv_has ls 8 [(0, .ref b)] := hl
  refine va_new (ci := 0) (fs := [.null, .null, .null, .null, .null, .null, .null, .int 0]) (C := "MovingNames") (T := ab_T 0) (N := 8) hx hb hot (ab_lays (k := 0) (by decide) rfl) _ (ab_tyk (k := 0) rfl (by decide)).1 hown (hts _ (ab_has_in (i := 140) (w := .classLink "MovingNamesLaw" 8 "MovingNames") (by decide +kernel))) (hts _ (ab_has_in (i := 141) (w := .instantiable "MovingNames" 8) (by decide +kernel))) (hts _ (ab_has_in (i := 113) (w := .initialized "MovingNames") (by decide +kernel))) hK hP hD hS hA rfl nw_df0 (Nat.le_of_ble_eq_true rfl) (Nat.le_of_ble_eq_true rfl) nd_L_0 (fun x0 H hP hD hS => ?_)
  refine lv_dup hx hb nd_L_3 rfl ?_
  refine nw_callM (nL := 8) (wr := []) (ev := .inr (0, [.null, .null, .null, .null, .null, .null, .null, .int 0])) (rest := [.ref x0]) hx hb hml hown wd hK hSF hCV hA1 hA2 hsub hS hA hP hD (c_new_MN (l := l) (hD.2 0 _ rfl) hS.1 (nw_P1 (hP 0 _ rfl))) (ab_has_in (i := 144) (by decide +kernel)) (ab_has_in (i := 113) (by decide +kernel)) (ab_has_in (i := 142) (by decide +kernel)) (ab_has_in (i := 143) (by decide +kernel)) (by decide) (Nat.le_of_ble_eq_true rfl) (Nat.le_of_ble_eq_true rfl) hl.1 (Nat.le_of_ble_eq_true rfl) rfl rfl (Nat.le_of_ble_eq_true rfl) (Nat.le_of_ble_eq_true rfl) nd_L_4 (fun u H locs hw hP hD hS => ?_)
  refine lv_astore_n hx hb nd_L_7 rfl hl (by decide) rfl (fun ls hl => ?_)
  have hl : lv_has ls 8 [(1, .ref x0), (0, .ref b)] := hl
  refine va_new (ci := 9) (fs := [.null, .null, .null, .null, .int 0, .null, .int 0, .int 0, .int 0, .int 0, .int 0, .int 0, .int 0, .int 0, .int 0, .int 0, .int 0, .null, .null, .null, .null, .null, .null, .null, .int 0, .null, .null, .null, .long 0, .null, .null, .null]) (C := "MovingNamesModel") (T := ab_T 9) (N := 32) hx hb hot (ab_lays (k := 9) (by decide) rfl) _ (ab_tyk (k := 9) rfl (by decide)).1 hown (hts _ (ab_has_in (i := 1538) (w := .classLink "MovingNamesLaw" 155 "MovingNamesModel") (by decide +kernel))) (hts _ (ab_has_in (i := 1539) (w := .instantiable "MovingNamesModel" 32) (by decide +kernel))) (hts _ (ab_has_in (i := 123) (w := .initialized "MovingNamesModel") (by decide +kernel))) hK hP hD hS hA rfl nw_df9 (Nat.le_of_ble_eq_true rfl) (Nat.le_of_ble_eq_true rfl) nd_L_8 (fun x41 H hP hD hS => ?_)
  refine lv_dup hx hb nd_L_11 rfl ?_
  have hat : (([] ++ u : va_W) ++ [(x41, .inr (9, [.null, .null, .null, .null, .int 0, .null, .int 0, .int 0, .int 0, .int 0, .int 0, .int 0, .int 0, .int 0, .int 0, .int 0, .int 0, .null, .null, .null, .null, .null, .null, .null, .int 0, .null, .null, .null, .long 0, .null, .null, .null]))])[([] ++ u : va_W).length]? = some (x41, .inr (9, [.null, .null, .null, .null, .int 0, .null, .int 0, .int 0, .int 0, .int 0, .int 0, .int 0, .int 0, .int 0, .int 0, .int 0, .int 0, .null, .null, .null, .null, .null, .null, .null, .int 0, .null, .null, .null, .long 0, .null, .null, .null])) := by
    rw [List.getElem?_append_right (Nat.le_refl _), Nat.sub_self]
    rfl
  refine nw_callP (nL := 8) (wr := [] ++ u) (ev := .inr (9, [.null, .null, .null, .null, .int 0, .null, .int 0, .int 0, .int 0, .int 0, .int 0, .int 0, .int 0, .int 0, .int 0, .int 0, .int 0, .null, .null, .null, .null, .null, .null, .null, .int 0, .null, .null, .null, .long 0, .null, .null, .null])) (rest := [.ref x41]) hx hb hml hown wd hK hSF hCV hsub hS hA hP hD (c_new_Mo (l := l) (hD.2 _ _ hat) hS.1 (nw_P1 (hP _ _ hat))) (ab_has_in (i := 1542) (by decide +kernel)) (ab_has_in (i := 123) (by decide +kernel)) (ab_has_in (i := 1540) (by decide +kernel)) (ab_has_in (i := 1541) (by decide +kernel)) (by decide) (Nat.le_of_ble_eq_true rfl) (Nat.le_of_ble_eq_true rfl) hl.1 (Nat.le_of_ble_eq_true rfl) rfl rfl (Nat.le_of_ble_eq_true rfl) (Nat.le_of_ble_eq_true rfl) nd_L_12 (fun v H locs hv hP hD hS => ?_)
  refine lv_astore_n hx hb nd_L_15 rfl hl (by decide) rfl (fun ls hl => ?_)
  have hl : lv_has ls 8 [(2, .ref x41), (1, .ref x0), (0, .ref b)] := hl
  refine lv_iconst (v := 1) hx hb nd_L_16 (by decide) ?_
  refine va_newa (atype := .long) hx hb (nw_arr (ty := .long) (hK.2 1 _ rfl).1 (hK.2 1 _ rfl).2) (ty := .long) rfl hK hP hD hS hA (n := 1) (N' := 1) (a0 := (1, .inr (.inl (fun _ => 0)))) (fun _ => rfl) (by decide) (by decide +kernel) (Nat.le_of_ble_eq_true rfl) (Nat.le_of_ble_eq_true rfl) (Nat.le_of_ble_eq_true rfl) nd_L_17 (fun x60 cA H hK1 hP hD hS => ?_)
  obtain rfl : cA = dA 1 := nw_dA (k := 1) hK rfl hK1
  clear hK1
  refine lv_astore_n hx hb nd_L_19 rfl hl (by decide) rfl (fun ls hl => ?_)
  have hl : lv_has ls 8 [(3, .ref x60), (2, .ref x41), (1, .ref x0), (0, .ref b)] := hl
  refine lv_iconst (v := 0) hx hb nd_L_20 (by decide) ?_
  refine lv_istore hx hb nd_L_21 hl (by decide) rfl (fun ls hl => ?_)
  have hl : lv_has ls 8 [(4, .int 0), (3, .ref x60), (2, .ref x41), (1, .ref x0), (0, .ref b)] := hl
  obtain ⟨x1, x2, x3, x4, x5, x6, x7, x8, x9, x10, x11, x12, x13, x14, x15, x16, x17, x18, x19, x20, x21, x22, x23, x24, x25, x26, x27, x28, x29, x30, x31, x32, x33, x34, x35, x36, x37, x38, x39, x40, hu⟩ := hw
  obtain ⟨x42, x43, x44, x45, x46, x47, x48, x49, x50, x51, x52, x53, x54, x55, x56, x57, x58, x59, hv⟩ := hv
  rw [hu, hv] at hP hD
  simp only [List.nil_append, List.cons_append] at hP hD
  have hHR := nw_HR0 (ra := ra) hP hD
  have CX : ab_CX ra fm D dA s.heap.size (xs, L) p l s m #[Value.ref b] meth c 360 := ⟨hx, hst, by rw [nw_by]; exact hb, by rw [nw_ml]; exact hml, by rw [nw_fty]; exact hr, hlk, by rw [nw_ow]; exact hown, by rw [nw_hw, het]; rfl, wd, Nat.le_refl _, hK, hSF, hCV, hfm⟩
  have n0 : sn s' 0 ≤ 13 * (L / 6) := n0
  have n1 : sn s' 1 ≤ 1126 * (L / 6) := n1
  have h6 : L / 6 ≤ 512 := by omega
  have hlr : ab_lr ra (nw_rh (x0 :: x1 :: x2 :: x3 :: x4 :: x5 :: x6 :: x7 :: x8 :: x9 :: x10 :: x11 :: x12 :: x13 :: x14 :: x15 :: x16 :: x17 :: x18 :: x19 :: x20 :: x21 :: x22 :: x23 :: x24 :: x25 :: x26 :: x27 :: x28 :: x29 :: x30 :: x31 :: x32 :: x33 :: x34 :: x35 :: x36 :: x37 :: x38 :: x39 :: x40 :: x41 :: x42 :: x43 :: x44 :: x45 :: x46 :: x47 :: x48 :: x49 :: x50 :: x51 :: x52 :: x53 :: x54 :: x55 :: x56 :: x57 :: x58 :: x59 :: x60 :: [])) fm nw_s0 [some (.inr (14, 0)), some (.inr (0, 0)), some (.inr (9, 0)), some (.inr (15, 0)), some (.inl (.int (nI 0))), none, none, none] (ab_ml 360) ls := by
    refine ⟨by rw [nw_ml]; exact hl.1, hl.2.1, by rw [nw_ml]; rfl, fun i v hi => ?_⟩
    match i, hi with
    | 0, hi =>
      obtain rfl := Option.some.inj (Option.some.inj hi)
      exact ⟨.ref b, lv_at hl 4 rfl, Or.inr ⟨by decide, by decide, by rw [← hr14]; rfl⟩⟩
    | 1, hi =>
      obtain rfl := Option.some.inj (Option.some.inj hi)
      exact ⟨.ref x0, lv_at hl 3 rfl, Or.inr ⟨by decide, by decide, rfl⟩⟩
    | 2, hi =>
      obtain rfl := Option.some.inj (Option.some.inj hi)
      exact ⟨.ref x41, lv_at hl 2 rfl, Or.inr ⟨by decide, by decide, rfl⟩⟩
    | 3, hi =>
      obtain rfl := Option.some.inj (Option.some.inj hi)
      exact ⟨.ref x60, lv_at hl 1 rfl, Or.inr ⟨by decide, by decide, rfl⟩⟩
    | 4, hi =>
      obtain rfl := Option.some.inj (Option.some.inj hi)
      exact ⟨.int 0, lv_at hl 0 rfl, by decide, trivial⟩
    | 5, hi => exact nomatch (Option.some.inj hi)
    | 6, hi => exact nomatch (Option.some.inj hi)
    | 7, hi => exact nomatch (Option.some.inj hi)
    | i + 8, hi => exact absurd (List.getElem?_eq_some_iff.mp hi).1 (by show ¬ i + 8 < 8; omega)
  have k := hSnd.2 ra fm D dA s.heap.size p l e room_1 s m #[Value.ref b] below meth c CX (by decide) (by decide) 601024 7293034 61 16250 (by show 61 + (sn s' 0 - sn nw_s0 0) ≤ 601024; omega) (by show 16250 + (sn s' 1 - sn nw_s0 1) ≤ 7293034; omega) (by decide) (by decide) (fun _ => True) (fun _ _ _ _ => trivial) (nw_rh (x0 :: x1 :: x2 :: x3 :: x4 :: x5 :: x6 :: x7 :: x8 :: x9 :: x10 :: x11 :: x12 :: x13 :: x14 :: x15 :: x16 :: x17 :: x18 :: x19 :: x20 :: x21 :: x22 :: x23 :: x24 :: x25 :: x26 :: x27 :: x28 :: x29 :: x30 :: x31 :: x32 :: x33 :: x34 :: x35 :: x36 :: x37 :: x38 :: x39 :: x40 :: x41 :: x42 :: x43 :: x44 :: x45 :: x46 :: x47 :: x48 :: x49 :: x50 :: x51 :: x52 :: x53 :: x54 :: x55 :: x56 :: x57 :: x58 :: x59 :: x60 :: [])) trivial H ls [] locs hlr trivial hHR hS
  intro T hT XX
  obtain ⟨t, a1, oc, b1, b2, b3⟩ := k T hT XX
  rcases b3 with ⟨⟨v9, w9, ρ9, e1, e2, -, -, -, e3⟩, Lc, hF, hfree⟩ | ⟨q9, -, E9, ce9, Lc, ⟨z9, ρ9, e1, -⟩, -⟩
  · have e1 := (Sum.inl.inj e1).symm
    subst e1
    have e4 : oc = .returned (some (.int 1)) := by
      rw [e2]
      obtain ⟨w8, rfl, e5, -⟩ := e3
      rw [e5]
      rfl
    exact ⟨t, a1, oc, b1, b2, e4, nw_end hF hfree⟩
  · cases e1
