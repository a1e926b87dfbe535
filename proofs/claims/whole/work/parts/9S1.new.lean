/-! Constructors, row by row (printed by gen_ctor.py). -/
theorem nd_De_0 : decode prog_2_method_1_code 0 = .ok (.aload_n 0, 1) := by decide +kernel
theorem nd_De_1 : decode prog_2_method_1_code 1 = .ok (.invokespecial 3, 3) := by decide +kernel
theorem nd_De_4 : decode prog_2_method_1_code 4 = .ok (.aload_n 0, 1) := by decide +kernel
theorem nd_De_5 : decode prog_2_method_1_code 5 = .ok (.bipush 40, 2) := by decide +kernel
theorem nd_De_7 : decode prog_2_method_1_code 7 = .ok (.newarray .int, 2) := by decide +kernel
theorem nd_De_9 : decode prog_2_method_1_code 9 = .ok (.putfield 11, 3) := by decide +kernel
theorem nd_De_12 : decode prog_2_method_1_code 12 = .ok (.return_, 1) := by decide +kernel
/-- what it leaves -/
def nw_sDe (ra : Nat → Nat → Nat) (dA : Nat → ClassId) (q : Nat) (u : va_W) : Prop := ∃ (a0 : Nat), u = [(q, .inr (5, [.ref a0, .int 0])), (a0, .inl (dA 0, 40, .inl (fun _ => 0)))]
set_option maxHeartbeats 4000000 in
set_option maxRecDepth 100000 in
theorem c_new_De {l : Launch} {ra : Nat → Nat → Nat} {fm : Value} {D : va_G} {dA : Nat → ClassId} {B0 : Nat} {X : (Nat → Int32) × Nat} {H : Heap} {q : Nat} (hq : B0 ≤ q) (hB : B0 ≤ H.size) (hP0 : va_P D ab_cl [(q, .inr (5, [.null, .int 0]))] H) : Met l (nw_y "MovingNames$Deeds") (ab_ws (nw_w "MovingNames$Deeds" prog_2_method_1_code)) { frames := 1, locals := 12, cells := 1, slots := 40 } (ab_Pc ra fm D dA B0 X H [.ref q]) (va_Qv (nw_sDe ra dA q) (fun (u : va_W) t => va_P D ab_cl u t.heap ∧ va_D (va_A [(q, .inr (5, [.null, .int 0]))] H.size) u) (va_A [(q, .inr (5, [.null, .int 0]))] H.size)) 1 40 (va_A [(q, .inr (5, [.null, .int 0]))] H.size) := by
  refine nw_met (by decide) (fun p e s m args below meth c C hU ha => ?_)
  obtain ⟨hx, hb, hml, hr, hlk, hown, hin, wd, hK, hSF, hCV⟩ := C
  subst ha
  subst hU
  have hts := ab_hts wd
  have hD : va_D (va_A [(q, .inr (5, [.null, .int 0]))] s.heap.size) [(q, .inr (5, [.null, .int 0]))] := nw_D1
  have hsub : ∀ x, va_A [(q, .inr (5, [.null, .int 0]))] s.heap.size x → ab_A B0 x := nw_sub hq hB
  generalize hAe : va_A [(q, .inr (5, [.null, .int 0]))] s.heap.size = A at hD hsub ⊢
  have hA : ∀ x : Nat, s.heap.size ≤ x → A x := fun x h => by rw [← hAe]; exact Or.inr h
  clear hAe
  have hS : va_S A s.heap s.heap [] := va_S.rf
  have hP := hP0
  have hl := lv_entry ([.ref q]) (n := 1) (Nat.le_of_ble_eq_true rfl)
  rw [lg_entry_eq]
  generalize (lg_sl ([.ref q]) ++ List.replicate (1 - (lg_sl ([.ref q])).length) Slot.unset).toArray = ls at hl ⊢
  have hl : lv_has ls 1 [(0, .ref q)] := hl
  refine lv_aload_n hx hb nd_De_0 rfl (lv_at hl 0 rfl) ?_
  refine W.objInit hx hb hown (wd _ (ab_has_in (i := 238) (w := .methodLink "MovingNames$Deeds" 3 Lib.objectInit) (by decide +kernel)) rfl) (wd _ (ab_has_in (i := 146) (w := .instanceMethod Lib.objectInit) (by decide +kernel)) rfl) (wd _ (ab_has_in (i := 147) (w := .code Lib.objectInit ⟨#[0xb1]⟩ 1 none) (by decide +kernel)) rfl) rfl (by rw [hml]; exact hl.1) rfl nd_De_1 (Nat.le_of_ble_eq_true rfl) (Nat.le_of_ble_eq_true rfl) ?_
  refine W.eq (g2 := F0 m 4 ls []) rfl ?_
  refine lv_aload_n hx hb nd_De_4 rfl (lv_at hl 0 rfl) ?_
  refine lv_bipush (v := 40) hx hb nd_De_5 (by decide) ?_
  refine va_newa (atype := .int) hx hb (nw_arr (ty := .int) (hK.2 0 _ rfl).1 (hK.2 0 _ rfl).2) (ty := .int) rfl hK hP hD hS hA (n := 40) (N' := 40) (a0 := (40, .inl (fun _ => 0))) (fun _ => rfl) (by decide) (by decide +kernel) (Nat.le_of_ble_eq_true rfl) (Nat.le_of_ble_eq_true rfl) (Nat.le_of_ble_eq_true rfl) nd_De_7 (fun a0 cA H hK1 hP hD hS => ?_)
  obtain rfl : cA = dA 0 := nw_dA (k := 0) hK rfl hK1
  clear hK1
  have hP : va_P D ab_cl [(q, .inr (5, [.null, .int 0])), (a0, .inl (dA 0, 40, .inl (fun _ => 0)))] H := hP
  have hD : va_D A [(q, .inr (5, [.null, .int 0])), (a0, .inl (dA 0, 40, .inl (fun _ => 0)))] := hD
  refine W.widen (k := 1) (n := 40) (Nat.le_of_ble_eq_true rfl) (Nat.le_of_ble_eq_true rfl) ?_
  refine va_putF (D := D) (ci := 5) (v := .ref a0) (ty := (.array .int)) hx hb hts (ab_lays (k := 5) (by decide) rfl) _ (ab_tyk (k := 5) rfl (by decide)).1 (ab_tyk (k := 5) rfl (by decide)).2.1 hown hK hP hD hS 0 rfl rfl 0 (by decide) (wd _ (ab_has_in (i := 239) (w := .fieldLink "MovingNames$Deeds" 11 "MovingNames$Deeds" "parts" "[I") (by decide +kernel)) rfl) (fun _ h9 => h9) rfl hin rfl (by decide +kernel) rfl rfl (Nat.le_of_ble_eq_true rfl) nd_De_9 (fun H locs hP hD hS => ?_)
  have hP : va_P D ab_cl [(q, .inr (5, [.ref a0, .int 0])), (a0, .inl (dA 0, 40, .inl (fun _ => 0)))] H := hP
  have hD : va_D A [(q, .inr (5, [.ref a0, .int 0])), (a0, .inl (dA 0, 40, .inl (fun _ => 0)))] := hD
  exact W.vret hx hb hr (fun t ht hW => ⟨⟨[(q, .inr (5, [.ref a0, .int 0])), (a0, .inl (dA 0, 40, .inl (fun _ => 0)))], rfl, ⟨a0, rfl⟩, by rw [ht]; exact hP, hD⟩, hS.F ht⟩) hS.2.2 nd_De_12
theorem nd_Lw_0 : decode prog_3_method_1_code 0 = .ok (.aload_n 0, 1) := by decide +kernel
theorem nd_Lw_1 : decode prog_3_method_1_code 1 = .ok (.invokespecial 3, 3) := by decide +kernel
theorem nd_Lw_4 : decode prog_3_method_1_code 4 = .ok (.aload_n 0, 1) := by decide +kernel
theorem nd_Lw_5 : decode prog_3_method_1_code 5 = .ok (.sipush 900, 3) := by decide +kernel
theorem nd_Lw_8 : decode prog_3_method_1_code 8 = .ok (.newarray .int, 2) := by decide +kernel
theorem nd_Lw_10 : decode prog_3_method_1_code 10 = .ok (.putfield 9, 3) := by decide +kernel
theorem nd_Lw_13 : decode prog_3_method_1_code 13 = .ok (.aload_n 0, 1) := by decide +kernel
theorem nd_Lw_14 : decode prog_3_method_1_code 14 = .ok (.bipush 40, 2) := by decide +kernel
theorem nd_Lw_16 : decode prog_3_method_1_code 16 = .ok (.newarray .int, 2) := by decide +kernel
theorem nd_Lw_18 : decode prog_3_method_1_code 18 = .ok (.putfield 15, 3) := by decide +kernel
theorem nd_Lw_21 : decode prog_3_method_1_code 21 = .ok (.return_, 1) := by decide +kernel
/-- what it leaves -/
def nw_sLw (ra : Nat → Nat → Nat) (dA : Nat → ClassId) (q : Nat) (u : va_W) : Prop := ∃ (a0 a1 : Nat), u = [(q, .inr (4, [.ref a0, .ref a1, .int 0])), (a0, .inl (dA 0, 900, .inl (fun _ => 0))), (a1, .inl (dA 0, 40, .inl (fun _ => 0)))]
set_option maxHeartbeats 4000000 in
set_option maxRecDepth 100000 in
theorem c_new_Lw {l : Launch} {ra : Nat → Nat → Nat} {fm : Value} {D : va_G} {dA : Nat → ClassId} {B0 : Nat} {X : (Nat → Int32) × Nat} {H : Heap} {q : Nat} (hq : B0 ≤ q) (hB : B0 ≤ H.size) (hP0 : va_P D ab_cl [(q, .inr (4, [.null, .null, .int 0]))] H) : Met l (nw_y "MovingNames$Law") (ab_ws (nw_w "MovingNames$Law" prog_3_method_1_code)) { frames := 1, locals := 12, cells := 2, slots := 940 } (ab_Pc ra fm D dA B0 X H [.ref q]) (va_Qv (nw_sLw ra dA q) (fun (u : va_W) t => va_P D ab_cl u t.heap ∧ va_D (va_A [(q, .inr (4, [.null, .null, .int 0]))] H.size) u) (va_A [(q, .inr (4, [.null, .null, .int 0]))] H.size)) 2 940 (va_A [(q, .inr (4, [.null, .null, .int 0]))] H.size) := by
  refine nw_met (by decide) (fun p e s m args below meth c C hU ha => ?_)
  obtain ⟨hx, hb, hml, hr, hlk, hown, hin, wd, hK, hSF, hCV⟩ := C
  subst ha
  subst hU
  have hts := ab_hts wd
  have hD : va_D (va_A [(q, .inr (4, [.null, .null, .int 0]))] s.heap.size) [(q, .inr (4, [.null, .null, .int 0]))] := nw_D1
  have hsub : ∀ x, va_A [(q, .inr (4, [.null, .null, .int 0]))] s.heap.size x → ab_A B0 x := nw_sub hq hB
  generalize hAe : va_A [(q, .inr (4, [.null, .null, .int 0]))] s.heap.size = A at hD hsub ⊢
  have hA : ∀ x : Nat, s.heap.size ≤ x → A x := fun x h => by rw [← hAe]; exact Or.inr h
  clear hAe
  have hS : va_S A s.heap s.heap [] := va_S.rf
  have hP := hP0
  have hl := lv_entry ([.ref q]) (n := 1) (Nat.le_of_ble_eq_true rfl)
  rw [lg_entry_eq]
  generalize (lg_sl ([.ref q]) ++ List.replicate (1 - (lg_sl ([.ref q])).length) Slot.unset).toArray = ls at hl ⊢
  have hl : lv_has ls 1 [(0, .ref q)] := hl
  refine lv_aload_n hx hb nd_Lw_0 rfl (lv_at hl 0 rfl) ?_
  refine W.objInit hx hb hown (wd _ (ab_has_in (i := 222) (w := .methodLink "MovingNames$Law" 3 Lib.objectInit) (by decide +kernel)) rfl) (wd _ (ab_has_in (i := 146) (w := .instanceMethod Lib.objectInit) (by decide +kernel)) rfl) (wd _ (ab_has_in (i := 147) (w := .code Lib.objectInit ⟨#[0xb1]⟩ 1 none) (by decide +kernel)) rfl) rfl (by rw [hml]; exact hl.1) rfl nd_Lw_1 (Nat.le_of_ble_eq_true rfl) (Nat.le_of_ble_eq_true rfl) ?_
  refine W.eq (g2 := F0 m 4 ls []) rfl ?_
  refine lv_aload_n hx hb nd_Lw_4 rfl (lv_at hl 0 rfl) ?_
  refine lv_sipush (v := 900) hx hb nd_Lw_5 (by decide) ?_
  refine va_newa (atype := .int) hx hb (nw_arr (ty := .int) (hK.2 0 _ rfl).1 (hK.2 0 _ rfl).2) (ty := .int) rfl hK hP hD hS hA (n := 900) (N' := 900) (a0 := (900, .inl (fun _ => 0))) (fun _ => rfl) (by decide) (by decide +kernel) (Nat.le_of_ble_eq_true rfl) (Nat.le_of_ble_eq_true rfl) (Nat.le_of_ble_eq_true rfl) nd_Lw_8 (fun a0 cA H hK1 hP hD hS => ?_)
  obtain rfl : cA = dA 0 := nw_dA (k := 0) hK rfl hK1
  clear hK1
  have hP : va_P D ab_cl [(q, .inr (4, [.null, .null, .int 0])), (a0, .inl (dA 0, 900, .inl (fun _ => 0)))] H := hP
  have hD : va_D A [(q, .inr (4, [.null, .null, .int 0])), (a0, .inl (dA 0, 900, .inl (fun _ => 0)))] := hD
  refine W.widen (k := 1) (n := 900) (Nat.le_of_ble_eq_true rfl) (Nat.le_of_ble_eq_true rfl) ?_
  refine va_putF (D := D) (ci := 4) (v := .ref a0) (ty := (.array .int)) hx hb hts (ab_lays (k := 4) (by decide) rfl) _ (ab_tyk (k := 4) rfl (by decide)).1 (ab_tyk (k := 4) rfl (by decide)).2.1 hown hK hP hD hS 0 rfl rfl 0 (by decide) (wd _ (ab_has_in (i := 223) (w := .fieldLink "MovingNames$Law" 9 "MovingNames$Law" "signs" "[I") (by decide +kernel)) rfl) (fun _ h9 => h9) rfl hin rfl (by decide +kernel) rfl rfl (Nat.le_of_ble_eq_true rfl) nd_Lw_10 (fun H locs hP hD hS => ?_)
  have hP : va_P D ab_cl [(q, .inr (4, [.ref a0, .null, .int 0])), (a0, .inl (dA 0, 900, .inl (fun _ => 0)))] H := hP
  have hD : va_D A [(q, .inr (4, [.ref a0, .null, .int 0])), (a0, .inl (dA 0, 900, .inl (fun _ => 0)))] := hD
  refine lv_aload_n hx hb nd_Lw_13 rfl (lv_at hl 0 rfl) ?_
  refine lv_bipush (v := 40) hx hb nd_Lw_14 (by decide) ?_
  refine va_newa (atype := .int) hx hb (nw_arr (ty := .int) (hK.2 0 _ rfl).1 (hK.2 0 _ rfl).2) (ty := .int) rfl hK hP hD hS hA (n := 40) (N' := 40) (a0 := (40, .inl (fun _ => 0))) (fun _ => rfl) (by decide) (by decide +kernel) (Nat.le_of_ble_eq_true rfl) (Nat.le_of_ble_eq_true rfl) (Nat.le_of_ble_eq_true rfl) nd_Lw_16 (fun a1 cA H hK1 hP hD hS => ?_)
  obtain rfl : cA = dA 0 := nw_dA (k := 0) hK rfl hK1
  clear hK1
  have hP : va_P D ab_cl [(q, .inr (4, [.ref a0, .null, .int 0])), (a0, .inl (dA 0, 900, .inl (fun _ => 0))), (a1, .inl (dA 0, 40, .inl (fun _ => 0)))] H := hP
  have hD : va_D A [(q, .inr (4, [.ref a0, .null, .int 0])), (a0, .inl (dA 0, 900, .inl (fun _ => 0))), (a1, .inl (dA 0, 40, .inl (fun _ => 0)))] := hD
  refine W.widen (k := 2) (n := 940) (Nat.le_of_ble_eq_true rfl) (Nat.le_of_ble_eq_true rfl) ?_
  refine va_putF (D := D) (ci := 4) (v := .ref a1) (ty := (.array .int)) hx hb hts (ab_lays (k := 4) (by decide) rfl) _ (ab_tyk (k := 4) rfl (by decide)).1 (ab_tyk (k := 4) rfl (by decide)).2.1 hown hK hP hD hS 0 rfl rfl 1 (by decide) (wd _ (ab_has_in (i := 224) (w := .fieldLink "MovingNames$Law" 15 "MovingNames$Law" "stack" "[I") (by decide +kernel)) rfl) (fun _ h9 => h9) rfl hin rfl (by decide +kernel) rfl rfl (Nat.le_of_ble_eq_true rfl) nd_Lw_18 (fun H locs hP hD hS => ?_)
  have hP : va_P D ab_cl [(q, .inr (4, [.ref a0, .ref a1, .int 0])), (a0, .inl (dA 0, 900, .inl (fun _ => 0))), (a1, .inl (dA 0, 40, .inl (fun _ => 0)))] H := hP
  have hD : va_D A [(q, .inr (4, [.ref a0, .ref a1, .int 0])), (a0, .inl (dA 0, 900, .inl (fun _ => 0))), (a1, .inl (dA 0, 40, .inl (fun _ => 0)))] := hD
  exact W.vret hx hb hr (fun t ht hW => ⟨⟨[(q, .inr (4, [.ref a0, .ref a1, .int 0])), (a0, .inl (dA 0, 900, .inl (fun _ => 0))), (a1, .inl (dA 0, 40, .inl (fun _ => 0)))], rfl, ⟨a0, a1, rfl⟩, by rw [ht]; exact hP, hD⟩, hS.F ht⟩) hS.2.2 nd_Lw_21
theorem nd_Ro_0 : decode prog_7_method_1_code 0 = .ok (.aload_n 0, 1) := by decide +kernel
theorem nd_Ro_1 : decode prog_7_method_1_code 1 = .ok (.invokespecial 3, 3) := by decide +kernel
theorem nd_Ro_4 : decode prog_7_method_1_code 4 = .ok (.aload_n 0, 1) := by decide +kernel
theorem nd_Ro_5 : decode prog_7_method_1_code 5 = .ok (.bipush 80, 2) := by decide +kernel
theorem nd_Ro_7 : decode prog_7_method_1_code 7 = .ok (.newarray .int, 2) := by decide +kernel
theorem nd_Ro_9 : decode prog_7_method_1_code 9 = .ok (.putfield 9, 3) := by decide +kernel
theorem nd_Ro_12 : decode prog_7_method_1_code 12 = .ok (.aload_n 0, 1) := by decide +kernel
theorem nd_Ro_13 : decode prog_7_method_1_code 13 = .ok (.iconst (4), 1) := by decide +kernel
theorem nd_Ro_14 : decode prog_7_method_1_code 14 = .ok (.newarray .int, 2) := by decide +kernel
theorem nd_Ro_16 : decode prog_7_method_1_code 16 = .ok (.putfield 15, 3) := by decide +kernel
theorem nd_Ro_19 : decode prog_7_method_1_code 19 = .ok (.aload_n 0, 1) := by decide +kernel
theorem nd_Ro_20 : decode prog_7_method_1_code 20 = .ok (.iconst (4), 1) := by decide +kernel
theorem nd_Ro_21 : decode prog_7_method_1_code 21 = .ok (.newarray .int, 2) := by decide +kernel
theorem nd_Ro_23 : decode prog_7_method_1_code 23 = .ok (.putfield 18, 3) := by decide +kernel
theorem nd_Ro_26 : decode prog_7_method_1_code 26 = .ok (.return_, 1) := by decide +kernel
/-- what it leaves -/
def nw_sRo (ra : Nat → Nat → Nat) (dA : Nat → ClassId) (q : Nat) (u : va_W) : Prop := ∃ (a0 a1 a2 : Nat), u = [(q, .inr (3, [.ref a0, .ref a1, .ref a2, .int 0])), (a0, .inl (dA 0, 80, .inl (fun _ => 0))), (a1, .inl (dA 0, 4, .inl (fun _ => 0))), (a2, .inl (dA 0, 4, .inl (fun _ => 0)))]
set_option maxHeartbeats 4000000 in
set_option maxRecDepth 100000 in
theorem c_new_Ro {l : Launch} {ra : Nat → Nat → Nat} {fm : Value} {D : va_G} {dA : Nat → ClassId} {B0 : Nat} {X : (Nat → Int32) × Nat} {H : Heap} {q : Nat} (hq : B0 ≤ q) (hB : B0 ≤ H.size) (hP0 : va_P D ab_cl [(q, .inr (3, [.null, .null, .null, .int 0]))] H) : Met l (nw_y "MovingNames$Rounds") (ab_ws (nw_w "MovingNames$Rounds" prog_7_method_1_code)) { frames := 1, locals := 12, cells := 3, slots := 88 } (ab_Pc ra fm D dA B0 X H [.ref q]) (va_Qv (nw_sRo ra dA q) (fun (u : va_W) t => va_P D ab_cl u t.heap ∧ va_D (va_A [(q, .inr (3, [.null, .null, .null, .int 0]))] H.size) u) (va_A [(q, .inr (3, [.null, .null, .null, .int 0]))] H.size)) 3 88 (va_A [(q, .inr (3, [.null, .null, .null, .int 0]))] H.size) := by
  refine nw_met (by decide) (fun p e s m args below meth c C hU ha => ?_)
  obtain ⟨hx, hb, hml, hr, hlk, hown, hin, wd, hK, hSF, hCV⟩ := C
  subst ha
  subst hU
  have hts := ab_hts wd
  have hD : va_D (va_A [(q, .inr (3, [.null, .null, .null, .int 0]))] s.heap.size) [(q, .inr (3, [.null, .null, .null, .int 0]))] := nw_D1
  have hsub : ∀ x, va_A [(q, .inr (3, [.null, .null, .null, .int 0]))] s.heap.size x → ab_A B0 x := nw_sub hq hB
  generalize hAe : va_A [(q, .inr (3, [.null, .null, .null, .int 0]))] s.heap.size = A at hD hsub ⊢
  have hA : ∀ x : Nat, s.heap.size ≤ x → A x := fun x h => by rw [← hAe]; exact Or.inr h
  clear hAe
  have hS : va_S A s.heap s.heap [] := va_S.rf
  have hP := hP0
  have hl := lv_entry ([.ref q]) (n := 1) (Nat.le_of_ble_eq_true rfl)
  rw [lg_entry_eq]
  generalize (lg_sl ([.ref q]) ++ List.replicate (1 - (lg_sl ([.ref q])).length) Slot.unset).toArray = ls at hl ⊢
  have hl : lv_has ls 1 [(0, .ref q)] := hl
  refine lv_aload_n hx hb nd_Ro_0 rfl (lv_at hl 0 rfl) ?_
  refine W.objInit hx hb hown (wd _ (ab_has_in (i := 199) (w := .methodLink "MovingNames$Rounds" 3 Lib.objectInit) (by decide +kernel)) rfl) (wd _ (ab_has_in (i := 146) (w := .instanceMethod Lib.objectInit) (by decide +kernel)) rfl) (wd _ (ab_has_in (i := 147) (w := .code Lib.objectInit ⟨#[0xb1]⟩ 1 none) (by decide +kernel)) rfl) rfl (by rw [hml]; exact hl.1) rfl nd_Ro_1 (Nat.le_of_ble_eq_true rfl) (Nat.le_of_ble_eq_true rfl) ?_
  refine W.eq (g2 := F0 m 4 ls []) rfl ?_
  refine lv_aload_n hx hb nd_Ro_4 rfl (lv_at hl 0 rfl) ?_
  refine lv_bipush (v := 80) hx hb nd_Ro_5 (by decide) ?_
  refine va_newa (atype := .int) hx hb (nw_arr (ty := .int) (hK.2 0 _ rfl).1 (hK.2 0 _ rfl).2) (ty := .int) rfl hK hP hD hS hA (n := 80) (N' := 80) (a0 := (80, .inl (fun _ => 0))) (fun _ => rfl) (by decide) (by decide +kernel) (Nat.le_of_ble_eq_true rfl) (Nat.le_of_ble_eq_true rfl) (Nat.le_of_ble_eq_true rfl) nd_Ro_7 (fun a0 cA H hK1 hP hD hS => ?_)
  obtain rfl : cA = dA 0 := nw_dA (k := 0) hK rfl hK1
  clear hK1
  have hP : va_P D ab_cl [(q, .inr (3, [.null, .null, .null, .int 0])), (a0, .inl (dA 0, 80, .inl (fun _ => 0)))] H := hP
  have hD : va_D A [(q, .inr (3, [.null, .null, .null, .int 0])), (a0, .inl (dA 0, 80, .inl (fun _ => 0)))] := hD
  refine W.widen (k := 1) (n := 80) (Nat.le_of_ble_eq_true rfl) (Nat.le_of_ble_eq_true rfl) ?_
  refine va_putF (D := D) (ci := 3) (v := .ref a0) (ty := (.array .int)) hx hb hts (ab_lays (k := 3) (by decide) rfl) _ (ab_tyk (k := 3) rfl (by decide)).1 (ab_tyk (k := 3) rfl (by decide)).2.1 hown hK hP hD hS 0 rfl rfl 0 (by decide) (wd _ (ab_has_in (i := 200) (w := .fieldLink "MovingNames$Rounds" 9 "MovingNames$Rounds" "stops" "[I") (by decide +kernel)) rfl) (fun _ h9 => h9) rfl hin rfl (by decide +kernel) rfl rfl (Nat.le_of_ble_eq_true rfl) nd_Ro_9 (fun H locs hP hD hS => ?_)
  have hP : va_P D ab_cl [(q, .inr (3, [.ref a0, .null, .null, .int 0])), (a0, .inl (dA 0, 80, .inl (fun _ => 0)))] H := hP
  have hD : va_D A [(q, .inr (3, [.ref a0, .null, .null, .int 0])), (a0, .inl (dA 0, 80, .inl (fun _ => 0)))] := hD
  refine lv_aload_n hx hb nd_Ro_12 rfl (lv_at hl 0 rfl) ?_
  refine lv_iconst (v := 4) hx hb nd_Ro_13 (by decide) ?_
  refine va_newa (atype := .int) hx hb (nw_arr (ty := .int) (hK.2 0 _ rfl).1 (hK.2 0 _ rfl).2) (ty := .int) rfl hK hP hD hS hA (n := 4) (N' := 4) (a0 := (4, .inl (fun _ => 0))) (fun _ => rfl) (by decide) (by decide +kernel) (Nat.le_of_ble_eq_true rfl) (Nat.le_of_ble_eq_true rfl) (Nat.le_of_ble_eq_true rfl) nd_Ro_14 (fun a1 cA H hK1 hP hD hS => ?_)
  obtain rfl : cA = dA 0 := nw_dA (k := 0) hK rfl hK1
  clear hK1
  have hP : va_P D ab_cl [(q, .inr (3, [.ref a0, .null, .null, .int 0])), (a0, .inl (dA 0, 80, .inl (fun _ => 0))), (a1, .inl (dA 0, 4, .inl (fun _ => 0)))] H := hP
  have hD : va_D A [(q, .inr (3, [.ref a0, .null, .null, .int 0])), (a0, .inl (dA 0, 80, .inl (fun _ => 0))), (a1, .inl (dA 0, 4, .inl (fun _ => 0)))] := hD
  refine W.widen (k := 2) (n := 84) (Nat.le_of_ble_eq_true rfl) (Nat.le_of_ble_eq_true rfl) ?_
  refine va_putF (D := D) (ci := 3) (v := .ref a1) (ty := (.array .int)) hx hb hts (ab_lays (k := 3) (by decide) rfl) _ (ab_tyk (k := 3) rfl (by decide)).1 (ab_tyk (k := 3) rfl (by decide)).2.1 hown hK hP hD hS 0 rfl rfl 1 (by decide) (wd _ (ab_has_in (i := 201) (w := .fieldLink "MovingNames$Rounds" 15 "MovingNames$Rounds" "sizes" "[I") (by decide +kernel)) rfl) (fun _ h9 => h9) rfl hin rfl (by decide +kernel) rfl rfl (Nat.le_of_ble_eq_true rfl) nd_Ro_16 (fun H locs hP hD hS => ?_)
  have hP : va_P D ab_cl [(q, .inr (3, [.ref a0, .ref a1, .null, .int 0])), (a0, .inl (dA 0, 80, .inl (fun _ => 0))), (a1, .inl (dA 0, 4, .inl (fun _ => 0)))] H := hP
  have hD : va_D A [(q, .inr (3, [.ref a0, .ref a1, .null, .int 0])), (a0, .inl (dA 0, 80, .inl (fun _ => 0))), (a1, .inl (dA 0, 4, .inl (fun _ => 0)))] := hD
  refine lv_aload_n hx hb nd_Ro_19 rfl (lv_at hl 0 rfl) ?_
  refine lv_iconst (v := 4) hx hb nd_Ro_20 (by decide) ?_
  refine va_newa (atype := .int) hx hb (nw_arr (ty := .int) (hK.2 0 _ rfl).1 (hK.2 0 _ rfl).2) (ty := .int) rfl hK hP hD hS hA (n := 4) (N' := 4) (a0 := (4, .inl (fun _ => 0))) (fun _ => rfl) (by decide) (by decide +kernel) (Nat.le_of_ble_eq_true rfl) (Nat.le_of_ble_eq_true rfl) (Nat.le_of_ble_eq_true rfl) nd_Ro_21 (fun a2 cA H hK1 hP hD hS => ?_)
  obtain rfl : cA = dA 0 := nw_dA (k := 0) hK rfl hK1
  clear hK1
  have hP : va_P D ab_cl [(q, .inr (3, [.ref a0, .ref a1, .null, .int 0])), (a0, .inl (dA 0, 80, .inl (fun _ => 0))), (a1, .inl (dA 0, 4, .inl (fun _ => 0))), (a2, .inl (dA 0, 4, .inl (fun _ => 0)))] H := hP
  have hD : va_D A [(q, .inr (3, [.ref a0, .ref a1, .null, .int 0])), (a0, .inl (dA 0, 80, .inl (fun _ => 0))), (a1, .inl (dA 0, 4, .inl (fun _ => 0))), (a2, .inl (dA 0, 4, .inl (fun _ => 0)))] := hD
  refine W.widen (k := 3) (n := 88) (Nat.le_of_ble_eq_true rfl) (Nat.le_of_ble_eq_true rfl) ?_
  refine va_putF (D := D) (ci := 3) (v := .ref a2) (ty := (.array .int)) hx hb hts (ab_lays (k := 3) (by decide) rfl) _ (ab_tyk (k := 3) rfl (by decide)).1 (ab_tyk (k := 3) rfl (by decide)).2.1 hown hK hP hD hS 0 rfl rfl 2 (by decide) (wd _ (ab_has_in (i := 202) (w := .fieldLink "MovingNames$Rounds" 18 "MovingNames$Rounds" "bys" "[I") (by decide +kernel)) rfl) (fun _ h9 => h9) rfl hin rfl (by decide +kernel) rfl rfl (Nat.le_of_ble_eq_true rfl) nd_Ro_23 (fun H locs hP hD hS => ?_)
  have hP : va_P D ab_cl [(q, .inr (3, [.ref a0, .ref a1, .ref a2, .int 0])), (a0, .inl (dA 0, 80, .inl (fun _ => 0))), (a1, .inl (dA 0, 4, .inl (fun _ => 0))), (a2, .inl (dA 0, 4, .inl (fun _ => 0)))] H := hP
  have hD : va_D A [(q, .inr (3, [.ref a0, .ref a1, .ref a2, .int 0])), (a0, .inl (dA 0, 80, .inl (fun _ => 0))), (a1, .inl (dA 0, 4, .inl (fun _ => 0))), (a2, .inl (dA 0, 4, .inl (fun _ => 0)))] := hD
  exact W.vret hx hb hr (fun t ht hW => ⟨⟨[(q, .inr (3, [.ref a0, .ref a1, .ref a2, .int 0])), (a0, .inl (dA 0, 80, .inl (fun _ => 0))), (a1, .inl (dA 0, 4, .inl (fun _ => 0))), (a2, .inl (dA 0, 4, .inl (fun _ => 0)))], rfl, ⟨a0, a1, a2, rfl⟩, by rw [ht]; exact hP, hD⟩, hS.F ht⟩) hS.2.2 nd_Ro_26
theorem nd_Tr_0 : decode prog_10_method_1_code 0 = .ok (.aload_n 0, 1) := by decide +kernel
theorem nd_Tr_1 : decode prog_10_method_1_code 1 = .ok (.invokespecial 3, 3) := by decide +kernel
theorem nd_Tr_4 : decode prog_10_method_1_code 4 = .ok (.aload_n 0, 1) := by decide +kernel
theorem nd_Tr_5 : decode prog_10_method_1_code 5 = .ok (.bipush 30, 2) := by decide +kernel
theorem nd_Tr_7 : decode prog_10_method_1_code 7 = .ok (.newarray .long, 2) := by decide +kernel
theorem nd_Tr_9 : decode prog_10_method_1_code 9 = .ok (.putfield 9, 3) := by decide +kernel
theorem nd_Tr_12 : decode prog_10_method_1_code 12 = .ok (.return_, 1) := by decide +kernel
/-- what it leaves -/
def nw_sTr (ra : Nat → Nat → Nat) (dA : Nat → ClassId) (q : Nat) (u : va_W) : Prop := ∃ (a0 : Nat), u = [(q, .inr (8, [.ref a0, .int 0, .int 0])), (a0, .inl (dA 1, 30, .inr (.inl (fun _ => 0))))]
set_option maxHeartbeats 4000000 in
set_option maxRecDepth 100000 in
theorem c_new_Tr {l : Launch} {ra : Nat → Nat → Nat} {fm : Value} {D : va_G} {dA : Nat → ClassId} {B0 : Nat} {X : (Nat → Int32) × Nat} {H : Heap} {q : Nat} (hq : B0 ≤ q) (hB : B0 ≤ H.size) (hP0 : va_P D ab_cl [(q, .inr (8, [.null, .int 0, .int 0]))] H) : Met l (nw_y "MovingNames$Tray") (ab_ws (nw_w "MovingNames$Tray" prog_10_method_1_code)) { frames := 1, locals := 12, cells := 1, slots := 30 } (ab_Pc ra fm D dA B0 X H [.ref q]) (va_Qv (nw_sTr ra dA q) (fun (u : va_W) t => va_P D ab_cl u t.heap ∧ va_D (va_A [(q, .inr (8, [.null, .int 0, .int 0]))] H.size) u) (va_A [(q, .inr (8, [.null, .int 0, .int 0]))] H.size)) 1 30 (va_A [(q, .inr (8, [.null, .int 0, .int 0]))] H.size) := by
  refine nw_met (by decide) (fun p e s m args below meth c C hU ha => ?_)
  obtain ⟨hx, hb, hml, hr, hlk, hown, hin, wd, hK, hSF, hCV⟩ := C
  subst ha
  subst hU
  have hts := ab_hts wd
  have hD : va_D (va_A [(q, .inr (8, [.null, .int 0, .int 0]))] s.heap.size) [(q, .inr (8, [.null, .int 0, .int 0]))] := nw_D1
  have hsub : ∀ x, va_A [(q, .inr (8, [.null, .int 0, .int 0]))] s.heap.size x → ab_A B0 x := nw_sub hq hB
  generalize hAe : va_A [(q, .inr (8, [.null, .int 0, .int 0]))] s.heap.size = A at hD hsub ⊢
  have hA : ∀ x : Nat, s.heap.size ≤ x → A x := fun x h => by rw [← hAe]; exact Or.inr h
  clear hAe
  have hS : va_S A s.heap s.heap [] := va_S.rf
  have hP := hP0
  have hl := lv_entry ([.ref q]) (n := 1) (Nat.le_of_ble_eq_true rfl)
  rw [lg_entry_eq]
  generalize (lg_sl ([.ref q]) ++ List.replicate (1 - (lg_sl ([.ref q])).length) Slot.unset).toArray = ls at hl ⊢
  have hl : lv_has ls 1 [(0, .ref q)] := hl
  refine lv_aload_n hx hb nd_Tr_0 rfl (lv_at hl 0 rfl) ?_
  refine W.objInit hx hb hown (wd _ (ab_has_in (i := 1465) (w := .methodLink "MovingNames$Tray" 3 Lib.objectInit) (by decide +kernel)) rfl) (wd _ (ab_has_in (i := 146) (w := .instanceMethod Lib.objectInit) (by decide +kernel)) rfl) (wd _ (ab_has_in (i := 147) (w := .code Lib.objectInit ⟨#[0xb1]⟩ 1 none) (by decide +kernel)) rfl) rfl (by rw [hml]; exact hl.1) rfl nd_Tr_1 (Nat.le_of_ble_eq_true rfl) (Nat.le_of_ble_eq_true rfl) ?_
  refine W.eq (g2 := F0 m 4 ls []) rfl ?_
  refine lv_aload_n hx hb nd_Tr_4 rfl (lv_at hl 0 rfl) ?_
  refine lv_bipush (v := 30) hx hb nd_Tr_5 (by decide) ?_
  refine va_newa (atype := .long) hx hb (nw_arr (ty := .long) (hK.2 1 _ rfl).1 (hK.2 1 _ rfl).2) (ty := .long) rfl hK hP hD hS hA (n := 30) (N' := 30) (a0 := (30, .inr (.inl (fun _ => 0)))) (fun _ => rfl) (by decide) (by decide +kernel) (Nat.le_of_ble_eq_true rfl) (Nat.le_of_ble_eq_true rfl) (Nat.le_of_ble_eq_true rfl) nd_Tr_7 (fun a0 cA H hK1 hP hD hS => ?_)
  obtain rfl : cA = dA 1 := nw_dA (k := 1) hK rfl hK1
  clear hK1
  have hP : va_P D ab_cl [(q, .inr (8, [.null, .int 0, .int 0])), (a0, .inl (dA 1, 30, .inr (.inl (fun _ => 0))))] H := hP
  have hD : va_D A [(q, .inr (8, [.null, .int 0, .int 0])), (a0, .inl (dA 1, 30, .inr (.inl (fun _ => 0))))] := hD
  refine W.widen (k := 1) (n := 30) (Nat.le_of_ble_eq_true rfl) (Nat.le_of_ble_eq_true rfl) ?_
  refine va_putF (D := D) (ci := 8) (v := .ref a0) (ty := (.array .long)) hx hb hts (ab_lays (k := 8) (by decide) rfl) _ (ab_tyk (k := 8) rfl (by decide)).1 (ab_tyk (k := 8) rfl (by decide)).2.1 hown hK hP hD hS 0 rfl rfl 0 (by decide) (wd _ (ab_has_in (i := 1466) (w := .fieldLink "MovingNames$Tray" 9 "MovingNames$Tray" "numbers" "[J") (by decide +kernel)) rfl) (fun _ h9 => h9) rfl hin rfl (by decide +kernel) rfl rfl (Nat.le_of_ble_eq_true rfl) nd_Tr_9 (fun H locs hP hD hS => ?_)
  have hP : va_P D ab_cl [(q, .inr (8, [.ref a0, .int 0, .int 0])), (a0, .inl (dA 1, 30, .inr (.inl (fun _ => 0))))] H := hP
  have hD : va_D A [(q, .inr (8, [.ref a0, .int 0, .int 0])), (a0, .inl (dA 1, 30, .inr (.inl (fun _ => 0))))] := hD
  exact W.vret hx hb hr (fun t ht hW => ⟨⟨[(q, .inr (8, [.ref a0, .int 0, .int 0])), (a0, .inl (dA 1, 30, .inr (.inl (fun _ => 0))))], rfl, ⟨a0, rfl⟩, by rw [ht]; exact hP, hD⟩, hS.F ht⟩) hS.2.2 nd_Tr_12
theorem nd_Le_0 : decode prog_4_method_1_code 0 = .ok (.aload_n 0, 1) := by decide +kernel
theorem nd_Le_1 : decode prog_4_method_1_code 1 = .ok (.invokespecial 3, 3) := by decide +kernel
theorem nd_Le_4 : decode prog_4_method_1_code 4 = .ok (.aload_n 0, 1) := by decide +kernel
theorem nd_Le_5 : decode prog_4_method_1_code 5 = .ok (.bipush 8, 2) := by decide +kernel
theorem nd_Le_7 : decode prog_4_method_1_code 7 = .ok (.newarray .long, 2) := by decide +kernel
theorem nd_Le_9 : decode prog_4_method_1_code 9 = .ok (.putfield 9, 3) := by decide +kernel
theorem nd_Le_12 : decode prog_4_method_1_code 12 = .ok (.aload_n 0, 1) := by decide +kernel
theorem nd_Le_13 : decode prog_4_method_1_code 13 = .ok (.bipush 8, 2) := by decide +kernel
theorem nd_Le_15 : decode prog_4_method_1_code 15 = .ok (.newarray .int, 2) := by decide +kernel
theorem nd_Le_17 : decode prog_4_method_1_code 17 = .ok (.putfield 15, 3) := by decide +kernel
theorem nd_Le_20 : decode prog_4_method_1_code 20 = .ok (.return_, 1) := by decide +kernel
/-- what it leaves -/
def nw_sLe (ra : Nat → Nat → Nat) (dA : Nat → ClassId) (q : Nat) (u : va_W) : Prop := ∃ (a0 a1 : Nat), u = [(q, .inr (7, [.ref a0, .ref a1, .int 0])), (a0, .inl (dA 1, 8, .inr (.inl (fun _ => 0)))), (a1, .inl (dA 0, 8, .inl (fun _ => 0)))]
set_option maxHeartbeats 4000000 in
set_option maxRecDepth 100000 in
theorem c_new_Le {l : Launch} {ra : Nat → Nat → Nat} {fm : Value} {D : va_G} {dA : Nat → ClassId} {B0 : Nat} {X : (Nat → Int32) × Nat} {H : Heap} {q : Nat} (hq : B0 ≤ q) (hB : B0 ≤ H.size) (hP0 : va_P D ab_cl [(q, .inr (7, [.null, .null, .int 0]))] H) : Met l (nw_y "MovingNames$Letters") (ab_ws (nw_w "MovingNames$Letters" prog_4_method_1_code)) { frames := 1, locals := 12, cells := 2, slots := 16 } (ab_Pc ra fm D dA B0 X H [.ref q]) (va_Qv (nw_sLe ra dA q) (fun (u : va_W) t => va_P D ab_cl u t.heap ∧ va_D (va_A [(q, .inr (7, [.null, .null, .int 0]))] H.size) u) (va_A [(q, .inr (7, [.null, .null, .int 0]))] H.size)) 2 16 (va_A [(q, .inr (7, [.null, .null, .int 0]))] H.size) := by
  refine nw_met (by decide) (fun p e s m args below meth c C hU ha => ?_)
  obtain ⟨hx, hb, hml, hr, hlk, hown, hin, wd, hK, hSF, hCV⟩ := C
  subst ha
  subst hU
  have hts := ab_hts wd
  have hD : va_D (va_A [(q, .inr (7, [.null, .null, .int 0]))] s.heap.size) [(q, .inr (7, [.null, .null, .int 0]))] := nw_D1
  have hsub : ∀ x, va_A [(q, .inr (7, [.null, .null, .int 0]))] s.heap.size x → ab_A B0 x := nw_sub hq hB
  generalize hAe : va_A [(q, .inr (7, [.null, .null, .int 0]))] s.heap.size = A at hD hsub ⊢
  have hA : ∀ x : Nat, s.heap.size ≤ x → A x := fun x h => by rw [← hAe]; exact Or.inr h
  clear hAe
  have hS : va_S A s.heap s.heap [] := va_S.rf
  have hP := hP0
  have hl := lv_entry ([.ref q]) (n := 1) (Nat.le_of_ble_eq_true rfl)
  rw [lg_entry_eq]
  generalize (lg_sl ([.ref q]) ++ List.replicate (1 - (lg_sl ([.ref q])).length) Slot.unset).toArray = ls at hl ⊢
  have hl : lv_has ls 1 [(0, .ref q)] := hl
  refine lv_aload_n hx hb nd_Le_0 rfl (lv_at hl 0 rfl) ?_
  refine W.objInit hx hb hown (wd _ (ab_has_in (i := 349) (w := .methodLink "MovingNames$Letters" 3 Lib.objectInit) (by decide +kernel)) rfl) (wd _ (ab_has_in (i := 146) (w := .instanceMethod Lib.objectInit) (by decide +kernel)) rfl) (wd _ (ab_has_in (i := 147) (w := .code Lib.objectInit ⟨#[0xb1]⟩ 1 none) (by decide +kernel)) rfl) rfl (by rw [hml]; exact hl.1) rfl nd_Le_1 (Nat.le_of_ble_eq_true rfl) (Nat.le_of_ble_eq_true rfl) ?_
  refine W.eq (g2 := F0 m 4 ls []) rfl ?_
  refine lv_aload_n hx hb nd_Le_4 rfl (lv_at hl 0 rfl) ?_
  refine lv_bipush (v := 8) hx hb nd_Le_5 (by decide) ?_
  refine va_newa (atype := .long) hx hb (nw_arr (ty := .long) (hK.2 1 _ rfl).1 (hK.2 1 _ rfl).2) (ty := .long) rfl hK hP hD hS hA (n := 8) (N' := 8) (a0 := (8, .inr (.inl (fun _ => 0)))) (fun _ => rfl) (by decide) (by decide +kernel) (Nat.le_of_ble_eq_true rfl) (Nat.le_of_ble_eq_true rfl) (Nat.le_of_ble_eq_true rfl) nd_Le_7 (fun a0 cA H hK1 hP hD hS => ?_)
  obtain rfl : cA = dA 1 := nw_dA (k := 1) hK rfl hK1
  clear hK1
  have hP : va_P D ab_cl [(q, .inr (7, [.null, .null, .int 0])), (a0, .inl (dA 1, 8, .inr (.inl (fun _ => 0))))] H := hP
  have hD : va_D A [(q, .inr (7, [.null, .null, .int 0])), (a0, .inl (dA 1, 8, .inr (.inl (fun _ => 0))))] := hD
  refine W.widen (k := 1) (n := 8) (Nat.le_of_ble_eq_true rfl) (Nat.le_of_ble_eq_true rfl) ?_
  refine va_putF (D := D) (ci := 7) (v := .ref a0) (ty := (.array .long)) hx hb hts (ab_lays (k := 7) (by decide) rfl) _ (ab_tyk (k := 7) rfl (by decide)).1 (ab_tyk (k := 7) rfl (by decide)).2.1 hown hK hP hD hS 0 rfl rfl 0 (by decide) (wd _ (ab_has_in (i := 350) (w := .fieldLink "MovingNames$Letters" 9 "MovingNames$Letters" "nights" "[J") (by decide +kernel)) rfl) (fun _ h9 => h9) rfl hin rfl (by decide +kernel) rfl rfl (Nat.le_of_ble_eq_true rfl) nd_Le_9 (fun H locs hP hD hS => ?_)
  have hP : va_P D ab_cl [(q, .inr (7, [.ref a0, .null, .int 0])), (a0, .inl (dA 1, 8, .inr (.inl (fun _ => 0))))] H := hP
  have hD : va_D A [(q, .inr (7, [.ref a0, .null, .int 0])), (a0, .inl (dA 1, 8, .inr (.inl (fun _ => 0))))] := hD
  refine lv_aload_n hx hb nd_Le_12 rfl (lv_at hl 0 rfl) ?_
  refine lv_bipush (v := 8) hx hb nd_Le_13 (by decide) ?_
  refine va_newa (atype := .int) hx hb (nw_arr (ty := .int) (hK.2 0 _ rfl).1 (hK.2 0 _ rfl).2) (ty := .int) rfl hK hP hD hS hA (n := 8) (N' := 8) (a0 := (8, .inl (fun _ => 0))) (fun _ => rfl) (by decide) (by decide +kernel) (Nat.le_of_ble_eq_true rfl) (Nat.le_of_ble_eq_true rfl) (Nat.le_of_ble_eq_true rfl) nd_Le_15 (fun a1 cA H hK1 hP hD hS => ?_)
  obtain rfl : cA = dA 0 := nw_dA (k := 0) hK rfl hK1
  clear hK1
  have hP : va_P D ab_cl [(q, .inr (7, [.ref a0, .null, .int 0])), (a0, .inl (dA 1, 8, .inr (.inl (fun _ => 0)))), (a1, .inl (dA 0, 8, .inl (fun _ => 0)))] H := hP
  have hD : va_D A [(q, .inr (7, [.ref a0, .null, .int 0])), (a0, .inl (dA 1, 8, .inr (.inl (fun _ => 0)))), (a1, .inl (dA 0, 8, .inl (fun _ => 0)))] := hD
  refine W.widen (k := 2) (n := 16) (Nat.le_of_ble_eq_true rfl) (Nat.le_of_ble_eq_true rfl) ?_
  refine va_putF (D := D) (ci := 7) (v := .ref a1) (ty := (.array .int)) hx hb hts (ab_lays (k := 7) (by decide) rfl) _ (ab_tyk (k := 7) rfl (by decide)).1 (ab_tyk (k := 7) rfl (by decide)).2.1 hown hK hP hD hS 0 rfl rfl 1 (by decide) (wd _ (ab_has_in (i := 351) (w := .fieldLink "MovingNames$Letters" 15 "MovingNames$Letters" "brought" "[I") (by decide +kernel)) rfl) (fun _ h9 => h9) rfl hin rfl (by decide +kernel) rfl rfl (Nat.le_of_ble_eq_true rfl) nd_Le_17 (fun H locs hP hD hS => ?_)
  have hP : va_P D ab_cl [(q, .inr (7, [.ref a0, .ref a1, .int 0])), (a0, .inl (dA 1, 8, .inr (.inl (fun _ => 0)))), (a1, .inl (dA 0, 8, .inl (fun _ => 0)))] H := hP
  have hD : va_D A [(q, .inr (7, [.ref a0, .ref a1, .int 0])), (a0, .inl (dA 1, 8, .inr (.inl (fun _ => 0)))), (a1, .inl (dA 0, 8, .inl (fun _ => 0)))] := hD
  exact W.vret hx hb hr (fun t ht hW => ⟨⟨[(q, .inr (7, [.ref a0, .ref a1, .int 0])), (a0, .inl (dA 1, 8, .inr (.inl (fun _ => 0)))), (a1, .inl (dA 0, 8, .inl (fun _ => 0)))], rfl, ⟨a0, a1, rfl⟩, by rw [ht]; exact hP, hD⟩, hS.F ht⟩) hS.2.2 nd_Le_20
