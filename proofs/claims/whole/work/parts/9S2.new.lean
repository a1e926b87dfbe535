/-! Constructors, row by row (printed by gen_ctor.py). -/
theorem nd_Ou_0 : decode prog_5_method_1_code 0 = .ok (.aload_n 0, 1) := by decide +kernel
theorem nd_Ou_1 : decode prog_5_method_1_code 1 = .ok (.invokespecial 3, 3) := by decide +kernel
theorem nd_Ou_4 : decode prog_5_method_1_code 4 = .ok (.aload_n 0, 1) := by decide +kernel
theorem nd_Ou_5 : decode prog_5_method_1_code 5 = .ok (.bipush 20, 2) := by decide +kernel
theorem nd_Ou_7 : decode prog_5_method_1_code 7 = .ok (.newarray .int, 2) := by decide +kernel
theorem nd_Ou_9 : decode prog_5_method_1_code 9 = .ok (.putfield 9, 3) := by decide +kernel
theorem nd_Ou_12 : decode prog_5_method_1_code 12 = .ok (.aload_n 0, 1) := by decide +kernel
theorem nd_Ou_13 : decode prog_5_method_1_code 13 = .ok (.bipush 20, 2) := by decide +kernel
theorem nd_Ou_15 : decode prog_5_method_1_code 15 = .ok (.newarray .int, 2) := by decide +kernel
theorem nd_Ou_17 : decode prog_5_method_1_code 17 = .ok (.putfield 15, 3) := by decide +kernel
theorem nd_Ou_20 : decode prog_5_method_1_code 20 = .ok (.aload_n 0, 1) := by decide +kernel
theorem nd_Ou_21 : decode prog_5_method_1_code 21 = .ok (.bipush 20, 2) := by decide +kernel
theorem nd_Ou_23 : decode prog_5_method_1_code 23 = .ok (.newarray .int, 2) := by decide +kernel
theorem nd_Ou_25 : decode prog_5_method_1_code 25 = .ok (.putfield 18, 3) := by decide +kernel
theorem nd_Ou_28 : decode prog_5_method_1_code 28 = .ok (.aload_n 0, 1) := by decide +kernel
theorem nd_Ou_29 : decode prog_5_method_1_code 29 = .ok (.bipush 20, 2) := by decide +kernel
theorem nd_Ou_31 : decode prog_5_method_1_code 31 = .ok (.newarray .int, 2) := by decide +kernel
theorem nd_Ou_33 : decode prog_5_method_1_code 33 = .ok (.putfield 21, 3) := by decide +kernel
theorem nd_Ou_36 : decode prog_5_method_1_code 36 = .ok (.aload_n 0, 1) := by decide +kernel
theorem nd_Ou_37 : decode prog_5_method_1_code 37 = .ok (.bipush 20, 2) := by decide +kernel
theorem nd_Ou_39 : decode prog_5_method_1_code 39 = .ok (.newarray .int, 2) := by decide +kernel
theorem nd_Ou_41 : decode prog_5_method_1_code 41 = .ok (.putfield 24, 3) := by decide +kernel
theorem nd_Ou_44 : decode prog_5_method_1_code 44 = .ok (.aload_n 0, 1) := by decide +kernel
theorem nd_Ou_45 : decode prog_5_method_1_code 45 = .ok (.bipush 20, 2) := by decide +kernel
theorem nd_Ou_47 : decode prog_5_method_1_code 47 = .ok (.newarray .int, 2) := by decide +kernel
theorem nd_Ou_49 : decode prog_5_method_1_code 49 = .ok (.putfield 27, 3) := by decide +kernel
theorem nd_Ou_52 : decode prog_5_method_1_code 52 = .ok (.return_, 1) := by decide +kernel
/-- what it leaves -/
def nw_sOu (ra : Nat → Nat → Nat) (dA : Nat → ClassId) (q : Nat) (u : va_W) : Prop := ∃ (a0 a1 a2 a3 a4 a5 : Nat), u = [(q, .inr (6, [.int 0, .int 0, .ref a0, .ref a1, .ref a2, .ref a3, .ref a4, .ref a5])), (a0, .inl (dA 0, 20, .inl (fun _ => 0))), (a1, .inl (dA 0, 20, .inl (fun _ => 0))), (a2, .inl (dA 0, 20, .inl (fun _ => 0))), (a3, .inl (dA 0, 20, .inl (fun _ => 0))), (a4, .inl (dA 0, 20, .inl (fun _ => 0))), (a5, .inl (dA 0, 20, .inl (fun _ => 0)))]
set_option maxHeartbeats 4000000 in
set_option maxRecDepth 100000 in
theorem c_new_Ou {l : Launch} {ra : Nat → Nat → Nat} {fm : Value} {D : va_G} {dA : Nat → ClassId} {B0 : Nat} {X : (Nat → Int32) × Nat} {H : Heap} {q : Nat} (hq : B0 ≤ q) (hB : B0 ≤ H.size) (hP0 : va_P D ab_cl [(q, .inr (6, [.int 0, .int 0, .null, .null, .null, .null, .null, .null]))] H) : Met l (nw_y "MovingNames$Outlook") (ab_ws (nw_w "MovingNames$Outlook" prog_5_method_1_code)) { frames := 1, locals := 12, cells := 6, slots := 120 } (ab_Pc ra fm D dA B0 X H [.ref q]) (va_Qv (nw_sOu ra dA q) (fun (u : va_W) t => va_P D ab_cl u t.heap ∧ va_D (va_A [(q, .inr (6, [.int 0, .int 0, .null, .null, .null, .null, .null, .null]))] H.size) u) (va_A [(q, .inr (6, [.int 0, .int 0, .null, .null, .null, .null, .null, .null]))] H.size)) 6 120 (va_A [(q, .inr (6, [.int 0, .int 0, .null, .null, .null, .null, .null, .null]))] H.size) := by
  refine nw_met (by decide) (fun p e s m args below meth c C hU ha => ?_)
  obtain ⟨hx, hb, hml, hr, hlk, hown, hin, wd, hK, hSF, hCV⟩ := C
  subst ha
  subst hU
  have hts := ab_hts wd
  have hD : va_D (va_A [(q, .inr (6, [.int 0, .int 0, .null, .null, .null, .null, .null, .null]))] s.heap.size) [(q, .inr (6, [.int 0, .int 0, .null, .null, .null, .null, .null, .null]))] := nw_D1
  have hsub : ∀ x, va_A [(q, .inr (6, [.int 0, .int 0, .null, .null, .null, .null, .null, .null]))] s.heap.size x → ab_A B0 x := nw_sub hq hB
  generalize hAe : va_A [(q, .inr (6, [.int 0, .int 0, .null, .null, .null, .null, .null, .null]))] s.heap.size = A at hD hsub ⊢
  have hA : ∀ x : Nat, s.heap.size ≤ x → A x := fun x h => by rw [← hAe]; exact Or.inr h
  clear hAe
  have hS : va_S A s.heap s.heap [] := va_S.rf
  have hP := hP0
  have hl := lv_entry ([.ref q]) (n := 1) (Nat.le_of_ble_eq_true rfl)
  rw [lg_entry_eq]
  generalize (lg_sl ([.ref q]) ++ List.replicate (1 - (lg_sl ([.ref q])).length) Slot.unset).toArray = ls at hl ⊢
  have hl : lv_has ls 1 [(0, .ref q)] := hl
  refine lv_aload_n hx hb nd_Ou_0 rfl (lv_at hl 0 rfl) ?_
  refine W.objInit hx hb hown (wd _ (ab_has_in (i := 315) (w := .methodLink "MovingNames$Outlook" 3 Lib.objectInit) (by decide +kernel)) rfl) (wd _ (ab_has_in (i := 146) (w := .instanceMethod Lib.objectInit) (by decide +kernel)) rfl) (wd _ (ab_has_in (i := 147) (w := .code Lib.objectInit ⟨#[0xb1]⟩ 1 none) (by decide +kernel)) rfl) rfl (by rw [hml]; exact hl.1) rfl nd_Ou_1 (Nat.le_of_ble_eq_true rfl) (Nat.le_of_ble_eq_true rfl) ?_
  refine W.eq (g2 := F0 m 4 ls []) rfl ?_
  refine lv_aload_n hx hb nd_Ou_4 rfl (lv_at hl 0 rfl) ?_
  refine lv_bipush (v := 20) hx hb nd_Ou_5 (by decide) ?_
  refine va_newa (atype := .int) hx hb (nw_arr (ty := .int) (hK.2 0 _ rfl).1 (hK.2 0 _ rfl).2) (ty := .int) rfl hK hP hD hS hA (n := 20) (N' := 20) (a0 := (20, .inl (fun _ => 0))) (fun _ => rfl) (by decide) (by decide +kernel) (Nat.le_of_ble_eq_true rfl) (Nat.le_of_ble_eq_true rfl) (Nat.le_of_ble_eq_true rfl) nd_Ou_7 (fun a0 cA H hK1 hP hD hS => ?_)
  obtain rfl : cA = dA 0 := nw_dA (k := 0) hK rfl hK1
  clear hK1
  have hP : va_P D ab_cl [(q, .inr (6, [.int 0, .int 0, .null, .null, .null, .null, .null, .null])), (a0, .inl (dA 0, 20, .inl (fun _ => 0)))] H := hP
  have hD : va_D A [(q, .inr (6, [.int 0, .int 0, .null, .null, .null, .null, .null, .null])), (a0, .inl (dA 0, 20, .inl (fun _ => 0)))] := hD
  refine W.widen (k := 1) (n := 20) (Nat.le_of_ble_eq_true rfl) (Nat.le_of_ble_eq_true rfl) ?_
  refine va_putF (D := D) (ci := 6) (v := .ref a0) (ty := (.array .int)) hx hb hts (ab_lays (k := 6) (by decide) rfl) _ (ab_tyk (k := 6) rfl (by decide)).1 (ab_tyk (k := 6) rfl (by decide)).2.1 hown hK hP hD hS 0 rfl rfl 2 (by decide) (wd _ (ab_has_in (i := 318) (w := .fieldLink "MovingNames$Outlook" 9 "MovingNames$Outlook" "names" "[I") (by decide +kernel)) rfl) (fun _ h9 => h9) rfl hin rfl (by decide +kernel) rfl rfl (Nat.le_of_ble_eq_true rfl) nd_Ou_9 (fun H locs hP hD hS => ?_)
  have hP : va_P D ab_cl [(q, .inr (6, [.int 0, .int 0, .ref a0, .null, .null, .null, .null, .null])), (a0, .inl (dA 0, 20, .inl (fun _ => 0)))] H := hP
  have hD : va_D A [(q, .inr (6, [.int 0, .int 0, .ref a0, .null, .null, .null, .null, .null])), (a0, .inl (dA 0, 20, .inl (fun _ => 0)))] := hD
  refine lv_aload_n hx hb nd_Ou_12 rfl (lv_at hl 0 rfl) ?_
  refine lv_bipush (v := 20) hx hb nd_Ou_13 (by decide) ?_
  refine va_newa (atype := .int) hx hb (nw_arr (ty := .int) (hK.2 0 _ rfl).1 (hK.2 0 _ rfl).2) (ty := .int) rfl hK hP hD hS hA (n := 20) (N' := 20) (a0 := (20, .inl (fun _ => 0))) (fun _ => rfl) (by decide) (by decide +kernel) (Nat.le_of_ble_eq_true rfl) (Nat.le_of_ble_eq_true rfl) (Nat.le_of_ble_eq_true rfl) nd_Ou_15 (fun a1 cA H hK1 hP hD hS => ?_)
  obtain rfl : cA = dA 0 := nw_dA (k := 0) hK rfl hK1
  clear hK1
  have hP : va_P D ab_cl [(q, .inr (6, [.int 0, .int 0, .ref a0, .null, .null, .null, .null, .null])), (a0, .inl (dA 0, 20, .inl (fun _ => 0))), (a1, .inl (dA 0, 20, .inl (fun _ => 0)))] H := hP
  have hD : va_D A [(q, .inr (6, [.int 0, .int 0, .ref a0, .null, .null, .null, .null, .null])), (a0, .inl (dA 0, 20, .inl (fun _ => 0))), (a1, .inl (dA 0, 20, .inl (fun _ => 0)))] := hD
  refine W.widen (k := 2) (n := 40) (Nat.le_of_ble_eq_true rfl) (Nat.le_of_ble_eq_true rfl) ?_
  refine va_putF (D := D) (ci := 6) (v := .ref a1) (ty := (.array .int)) hx hb hts (ab_lays (k := 6) (by decide) rfl) _ (ab_tyk (k := 6) rfl (by decide)).1 (ab_tyk (k := 6) rfl (by decide)).2.1 hown hK hP hD hS 0 rfl rfl 3 (by decide) (wd _ (ab_has_in (i := 320) (w := .fieldLink "MovingNames$Outlook" 15 "MovingNames$Outlook" "to" "[I") (by decide +kernel)) rfl) (fun _ h9 => h9) rfl hin rfl (by decide +kernel) rfl rfl (Nat.le_of_ble_eq_true rfl) nd_Ou_17 (fun H locs hP hD hS => ?_)
  have hP : va_P D ab_cl [(q, .inr (6, [.int 0, .int 0, .ref a0, .ref a1, .null, .null, .null, .null])), (a0, .inl (dA 0, 20, .inl (fun _ => 0))), (a1, .inl (dA 0, 20, .inl (fun _ => 0)))] H := hP
  have hD : va_D A [(q, .inr (6, [.int 0, .int 0, .ref a0, .ref a1, .null, .null, .null, .null])), (a0, .inl (dA 0, 20, .inl (fun _ => 0))), (a1, .inl (dA 0, 20, .inl (fun _ => 0)))] := hD
  refine lv_aload_n hx hb nd_Ou_20 rfl (lv_at hl 0 rfl) ?_
  refine lv_bipush (v := 20) hx hb nd_Ou_21 (by decide) ?_
  refine va_newa (atype := .int) hx hb (nw_arr (ty := .int) (hK.2 0 _ rfl).1 (hK.2 0 _ rfl).2) (ty := .int) rfl hK hP hD hS hA (n := 20) (N' := 20) (a0 := (20, .inl (fun _ => 0))) (fun _ => rfl) (by decide) (by decide +kernel) (Nat.le_of_ble_eq_true rfl) (Nat.le_of_ble_eq_true rfl) (Nat.le_of_ble_eq_true rfl) nd_Ou_23 (fun a2 cA H hK1 hP hD hS => ?_)
  obtain rfl : cA = dA 0 := nw_dA (k := 0) hK rfl hK1
  clear hK1
  have hP : va_P D ab_cl [(q, .inr (6, [.int 0, .int 0, .ref a0, .ref a1, .null, .null, .null, .null])), (a0, .inl (dA 0, 20, .inl (fun _ => 0))), (a1, .inl (dA 0, 20, .inl (fun _ => 0))), (a2, .inl (dA 0, 20, .inl (fun _ => 0)))] H := hP
  have hD : va_D A [(q, .inr (6, [.int 0, .int 0, .ref a0, .ref a1, .null, .null, .null, .null])), (a0, .inl (dA 0, 20, .inl (fun _ => 0))), (a1, .inl (dA 0, 20, .inl (fun _ => 0))), (a2, .inl (dA 0, 20, .inl (fun _ => 0)))] := hD
  refine W.widen (k := 3) (n := 60) (Nat.le_of_ble_eq_true rfl) (Nat.le_of_ble_eq_true rfl) ?_
  refine va_putF (D := D) (ci := 6) (v := .ref a2) (ty := (.array .int)) hx hb hts (ab_lays (k := 6) (by decide) rfl) _ (ab_tyk (k := 6) rfl (by decide)).1 (ab_tyk (k := 6) rfl (by decide)).2.1 hown hK hP hD hS 0 rfl rfl 4 (by decide) (wd _ (ab_has_in (i := 322) (w := .fieldLink "MovingNames$Outlook" 18 "MovingNames$Outlook" "from" "[I") (by decide +kernel)) rfl) (fun _ h9 => h9) rfl hin rfl (by decide +kernel) rfl rfl (Nat.le_of_ble_eq_true rfl) nd_Ou_25 (fun H locs hP hD hS => ?_)
  have hP : va_P D ab_cl [(q, .inr (6, [.int 0, .int 0, .ref a0, .ref a1, .ref a2, .null, .null, .null])), (a0, .inl (dA 0, 20, .inl (fun _ => 0))), (a1, .inl (dA 0, 20, .inl (fun _ => 0))), (a2, .inl (dA 0, 20, .inl (fun _ => 0)))] H := hP
  have hD : va_D A [(q, .inr (6, [.int 0, .int 0, .ref a0, .ref a1, .ref a2, .null, .null, .null])), (a0, .inl (dA 0, 20, .inl (fun _ => 0))), (a1, .inl (dA 0, 20, .inl (fun _ => 0))), (a2, .inl (dA 0, 20, .inl (fun _ => 0)))] := hD
  refine lv_aload_n hx hb nd_Ou_28 rfl (lv_at hl 0 rfl) ?_
  refine lv_bipush (v := 20) hx hb nd_Ou_29 (by decide) ?_
  refine va_newa (atype := .int) hx hb (nw_arr (ty := .int) (hK.2 0 _ rfl).1 (hK.2 0 _ rfl).2) (ty := .int) rfl hK hP hD hS hA (n := 20) (N' := 20) (a0 := (20, .inl (fun _ => 0))) (fun _ => rfl) (by decide) (by decide +kernel) (Nat.le_of_ble_eq_true rfl) (Nat.le_of_ble_eq_true rfl) (Nat.le_of_ble_eq_true rfl) nd_Ou_31 (fun a3 cA H hK1 hP hD hS => ?_)
  obtain rfl : cA = dA 0 := nw_dA (k := 0) hK rfl hK1
  clear hK1
  have hP : va_P D ab_cl [(q, .inr (6, [.int 0, .int 0, .ref a0, .ref a1, .ref a2, .null, .null, .null])), (a0, .inl (dA 0, 20, .inl (fun _ => 0))), (a1, .inl (dA 0, 20, .inl (fun _ => 0))), (a2, .inl (dA 0, 20, .inl (fun _ => 0))), (a3, .inl (dA 0, 20, .inl (fun _ => 0)))] H := hP
  have hD : va_D A [(q, .inr (6, [.int 0, .int 0, .ref a0, .ref a1, .ref a2, .null, .null, .null])), (a0, .inl (dA 0, 20, .inl (fun _ => 0))), (a1, .inl (dA 0, 20, .inl (fun _ => 0))), (a2, .inl (dA 0, 20, .inl (fun _ => 0))), (a3, .inl (dA 0, 20, .inl (fun _ => 0)))] := hD
  refine W.widen (k := 4) (n := 80) (Nat.le_of_ble_eq_true rfl) (Nat.le_of_ble_eq_true rfl) ?_
  refine va_putF (D := D) (ci := 6) (v := .ref a3) (ty := (.array .int)) hx hb hts (ab_lays (k := 6) (by decide) rfl) _ (ab_tyk (k := 6) rfl (by decide)).1 (ab_tyk (k := 6) rfl (by decide)).2.1 hown hK hP hD hS 0 rfl rfl 5 (by decide) (wd _ (ab_has_in (i := 324) (w := .fieldLink "MovingNames$Outlook" 21 "MovingNames$Outlook" "source" "[I") (by decide +kernel)) rfl) (fun _ h9 => h9) rfl hin rfl (by decide +kernel) rfl rfl (Nat.le_of_ble_eq_true rfl) nd_Ou_33 (fun H locs hP hD hS => ?_)
  have hP : va_P D ab_cl [(q, .inr (6, [.int 0, .int 0, .ref a0, .ref a1, .ref a2, .ref a3, .null, .null])), (a0, .inl (dA 0, 20, .inl (fun _ => 0))), (a1, .inl (dA 0, 20, .inl (fun _ => 0))), (a2, .inl (dA 0, 20, .inl (fun _ => 0))), (a3, .inl (dA 0, 20, .inl (fun _ => 0)))] H := hP
  have hD : va_D A [(q, .inr (6, [.int 0, .int 0, .ref a0, .ref a1, .ref a2, .ref a3, .null, .null])), (a0, .inl (dA 0, 20, .inl (fun _ => 0))), (a1, .inl (dA 0, 20, .inl (fun _ => 0))), (a2, .inl (dA 0, 20, .inl (fun _ => 0))), (a3, .inl (dA 0, 20, .inl (fun _ => 0)))] := hD
  refine lv_aload_n hx hb nd_Ou_36 rfl (lv_at hl 0 rfl) ?_
  refine lv_bipush (v := 20) hx hb nd_Ou_37 (by decide) ?_
  refine va_newa (atype := .int) hx hb (nw_arr (ty := .int) (hK.2 0 _ rfl).1 (hK.2 0 _ rfl).2) (ty := .int) rfl hK hP hD hS hA (n := 20) (N' := 20) (a0 := (20, .inl (fun _ => 0))) (fun _ => rfl) (by decide) (by decide +kernel) (Nat.le_of_ble_eq_true rfl) (Nat.le_of_ble_eq_true rfl) (Nat.le_of_ble_eq_true rfl) nd_Ou_39 (fun a4 cA H hK1 hP hD hS => ?_)
  obtain rfl : cA = dA 0 := nw_dA (k := 0) hK rfl hK1
  clear hK1
  have hP : va_P D ab_cl [(q, .inr (6, [.int 0, .int 0, .ref a0, .ref a1, .ref a2, .ref a3, .null, .null])), (a0, .inl (dA 0, 20, .inl (fun _ => 0))), (a1, .inl (dA 0, 20, .inl (fun _ => 0))), (a2, .inl (dA 0, 20, .inl (fun _ => 0))), (a3, .inl (dA 0, 20, .inl (fun _ => 0))), (a4, .inl (dA 0, 20, .inl (fun _ => 0)))] H := hP
  have hD : va_D A [(q, .inr (6, [.int 0, .int 0, .ref a0, .ref a1, .ref a2, .ref a3, .null, .null])), (a0, .inl (dA 0, 20, .inl (fun _ => 0))), (a1, .inl (dA 0, 20, .inl (fun _ => 0))), (a2, .inl (dA 0, 20, .inl (fun _ => 0))), (a3, .inl (dA 0, 20, .inl (fun _ => 0))), (a4, .inl (dA 0, 20, .inl (fun _ => 0)))] := hD
  refine W.widen (k := 5) (n := 100) (Nat.le_of_ble_eq_true rfl) (Nat.le_of_ble_eq_true rfl) ?_
  refine va_putF (D := D) (ci := 6) (v := .ref a4) (ty := (.array .int)) hx hb hts (ab_lays (k := 6) (by decide) rfl) _ (ab_tyk (k := 6) rfl (by decide)).1 (ab_tyk (k := 6) rfl (by decide)).2.1 hown hK hP hD hS 0 rfl rfl 6 (by decide) (wd _ (ab_has_in (i := 325) (w := .fieldLink "MovingNames$Outlook" 24 "MovingNames$Outlook" "open" "[I") (by decide +kernel)) rfl) (fun _ h9 => h9) rfl hin rfl (by decide +kernel) rfl rfl (Nat.le_of_ble_eq_true rfl) nd_Ou_41 (fun H locs hP hD hS => ?_)
  have hP : va_P D ab_cl [(q, .inr (6, [.int 0, .int 0, .ref a0, .ref a1, .ref a2, .ref a3, .ref a4, .null])), (a0, .inl (dA 0, 20, .inl (fun _ => 0))), (a1, .inl (dA 0, 20, .inl (fun _ => 0))), (a2, .inl (dA 0, 20, .inl (fun _ => 0))), (a3, .inl (dA 0, 20, .inl (fun _ => 0))), (a4, .inl (dA 0, 20, .inl (fun _ => 0)))] H := hP
  have hD : va_D A [(q, .inr (6, [.int 0, .int 0, .ref a0, .ref a1, .ref a2, .ref a3, .ref a4, .null])), (a0, .inl (dA 0, 20, .inl (fun _ => 0))), (a1, .inl (dA 0, 20, .inl (fun _ => 0))), (a2, .inl (dA 0, 20, .inl (fun _ => 0))), (a3, .inl (dA 0, 20, .inl (fun _ => 0))), (a4, .inl (dA 0, 20, .inl (fun _ => 0)))] := hD
  refine lv_aload_n hx hb nd_Ou_44 rfl (lv_at hl 0 rfl) ?_
  refine lv_bipush (v := 20) hx hb nd_Ou_45 (by decide) ?_
  refine va_newa (atype := .int) hx hb (nw_arr (ty := .int) (hK.2 0 _ rfl).1 (hK.2 0 _ rfl).2) (ty := .int) rfl hK hP hD hS hA (n := 20) (N' := 20) (a0 := (20, .inl (fun _ => 0))) (fun _ => rfl) (by decide) (by decide +kernel) (Nat.le_of_ble_eq_true rfl) (Nat.le_of_ble_eq_true rfl) (Nat.le_of_ble_eq_true rfl) nd_Ou_47 (fun a5 cA H hK1 hP hD hS => ?_)
  obtain rfl : cA = dA 0 := nw_dA (k := 0) hK rfl hK1
  clear hK1
  have hP : va_P D ab_cl [(q, .inr (6, [.int 0, .int 0, .ref a0, .ref a1, .ref a2, .ref a3, .ref a4, .null])), (a0, .inl (dA 0, 20, .inl (fun _ => 0))), (a1, .inl (dA 0, 20, .inl (fun _ => 0))), (a2, .inl (dA 0, 20, .inl (fun _ => 0))), (a3, .inl (dA 0, 20, .inl (fun _ => 0))), (a4, .inl (dA 0, 20, .inl (fun _ => 0))), (a5, .inl (dA 0, 20, .inl (fun _ => 0)))] H := hP
  have hD : va_D A [(q, .inr (6, [.int 0, .int 0, .ref a0, .ref a1, .ref a2, .ref a3, .ref a4, .null])), (a0, .inl (dA 0, 20, .inl (fun _ => 0))), (a1, .inl (dA 0, 20, .inl (fun _ => 0))), (a2, .inl (dA 0, 20, .inl (fun _ => 0))), (a3, .inl (dA 0, 20, .inl (fun _ => 0))), (a4, .inl (dA 0, 20, .inl (fun _ => 0))), (a5, .inl (dA 0, 20, .inl (fun _ => 0)))] := hD
  refine W.widen (k := 6) (n := 120) (Nat.le_of_ble_eq_true rfl) (Nat.le_of_ble_eq_true rfl) ?_
  refine va_putF (D := D) (ci := 6) (v := .ref a5) (ty := (.array .int)) hx hb hts (ab_lays (k := 6) (by decide) rfl) _ (ab_tyk (k := 6) rfl (by decide)).1 (ab_tyk (k := 6) rfl (by decide)).2.1 hown hK hP hD hS 0 rfl rfl 7 (by decide) (wd _ (ab_has_in (i := 326) (w := .fieldLink "MovingNames$Outlook" 27 "MovingNames$Outlook" "next" "[I") (by decide +kernel)) rfl) (fun _ h9 => h9) rfl hin rfl (by decide +kernel) rfl rfl (Nat.le_of_ble_eq_true rfl) nd_Ou_49 (fun H locs hP hD hS => ?_)
  have hP : va_P D ab_cl [(q, .inr (6, [.int 0, .int 0, .ref a0, .ref a1, .ref a2, .ref a3, .ref a4, .ref a5])), (a0, .inl (dA 0, 20, .inl (fun _ => 0))), (a1, .inl (dA 0, 20, .inl (fun _ => 0))), (a2, .inl (dA 0, 20, .inl (fun _ => 0))), (a3, .inl (dA 0, 20, .inl (fun _ => 0))), (a4, .inl (dA 0, 20, .inl (fun _ => 0))), (a5, .inl (dA 0, 20, .inl (fun _ => 0)))] H := hP
  have hD : va_D A [(q, .inr (6, [.int 0, .int 0, .ref a0, .ref a1, .ref a2, .ref a3, .ref a4, .ref a5])), (a0, .inl (dA 0, 20, .inl (fun _ => 0))), (a1, .inl (dA 0, 20, .inl (fun _ => 0))), (a2, .inl (dA 0, 20, .inl (fun _ => 0))), (a3, .inl (dA 0, 20, .inl (fun _ => 0))), (a4, .inl (dA 0, 20, .inl (fun _ => 0))), (a5, .inl (dA 0, 20, .inl (fun _ => 0)))] := hD
  exact W.vret hx hb hr (fun t ht hW => ⟨⟨[(q, .inr (6, [.int 0, .int 0, .ref a0, .ref a1, .ref a2, .ref a3, .ref a4, .ref a5])), (a0, .inl (dA 0, 20, .inl (fun _ => 0))), (a1, .inl (dA 0, 20, .inl (fun _ => 0))), (a2, .inl (dA 0, 20, .inl (fun _ => 0))), (a3, .inl (dA 0, 20, .inl (fun _ => 0))), (a4, .inl (dA 0, 20, .inl (fun _ => 0))), (a5, .inl (dA 0, 20, .inl (fun _ => 0)))], rfl, ⟨a0, a1, a2, a3, a4, a5, rfl⟩, by rw [ht]; exact hP, hD⟩, hS.F ht⟩) hS.2.2 nd_Ou_52
theorem nd_Rd_0 : decode prog_6_method_1_code 0 = .ok (.aload_n 0, 1) := by decide +kernel
theorem nd_Rd_1 : decode prog_6_method_1_code 1 = .ok (.invokespecial 3, 3) := by decide +kernel
theorem nd_Rd_4 : decode prog_6_method_1_code 4 = .ok (.aload_n 0, 1) := by decide +kernel
theorem nd_Rd_5 : decode prog_6_method_1_code 5 = .ok (.sipush 900, 3) := by decide +kernel
theorem nd_Rd_8 : decode prog_6_method_1_code 8 = .ok (.newarray .int, 2) := by decide +kernel
theorem nd_Rd_10 : decode prog_6_method_1_code 10 = .ok (.putfield 9, 3) := by decide +kernel
theorem nd_Rd_13 : decode prog_6_method_1_code 13 = .ok (.aload_n 0, 1) := by decide +kernel
theorem nd_Rd_14 : decode prog_6_method_1_code 14 = .ok (.iconst (-1), 1) := by decide +kernel
theorem nd_Rd_15 : decode prog_6_method_1_code 15 = .ok (.putfield 15, 3) := by decide +kernel
theorem nd_Rd_18 : decode prog_6_method_1_code 18 = .ok (.aload_n 0, 1) := by decide +kernel
theorem nd_Rd_19 : decode prog_6_method_1_code 19 = .ok (.getstatic 19, 3) := by decide +kernel
theorem nd_Rd_22 : decode prog_6_method_1_code 22 = .ok (.putfield 25, 3) := by decide +kernel
theorem nd_Rd_25 : decode prog_6_method_1_code 25 = .ok (.return_, 1) := by decide +kernel
/-- what it leaves -/
def nw_sRd (ra : Nat → Nat → Nat) (dA : Nat → ClassId) (q : Nat) (u : va_W) : Prop := ∃ (a0 : Nat), u = [(q, .inr (1, [.ref a0, .int 0, .int 0, .int (-1), .int 0, .int 0, .int 0, .int 0, .ref (ra 10 0)])), (a0, .inl (dA 0, 900, .inl (fun _ => 0)))]
set_option maxHeartbeats 4000000 in
set_option maxRecDepth 100000 in
theorem c_new_Rd {l : Launch} {ra : Nat → Nat → Nat} {fm : Value} {D : va_G} {dA : Nat → ClassId} {B0 : Nat} {X : (Nat → Int32) × Nat} {H : Heap} {q : Nat} (hq : B0 ≤ q) (hB : B0 ≤ H.size) (hP0 : va_P D ab_cl [(q, .inr (1, [.null, .int 0, .int 0, .int 0, .int 0, .int 0, .int 0, .int 0, .null]))] H) : Met l (nw_y "MovingNames$Reader") (ab_ws (nw_w "MovingNames$Reader" prog_6_method_1_code)) { frames := 1, locals := 12, cells := 1, slots := 900 } (ab_Pc ra fm D dA B0 X H [.ref q]) (va_Qv (nw_sRd ra dA q) (fun (u : va_W) t => va_P D ab_cl u t.heap ∧ va_D (va_A [(q, .inr (1, [.null, .int 0, .int 0, .int 0, .int 0, .int 0, .int 0, .int 0, .null]))] H.size) u) (va_A [(q, .inr (1, [.null, .int 0, .int 0, .int 0, .int 0, .int 0, .int 0, .int 0, .null]))] H.size)) 1 900 (va_A [(q, .inr (1, [.null, .int 0, .int 0, .int 0, .int 0, .int 0, .int 0, .int 0, .null]))] H.size) := by
  refine nw_met (by decide) (fun p e s m args below meth c C hU ha => ?_)
  obtain ⟨hx, hb, hml, hr, hlk, hown, hin, wd, hK, hSF, hCV⟩ := C
  subst ha
  subst hU
  have hts := ab_hts wd
  have hD : va_D (va_A [(q, .inr (1, [.null, .int 0, .int 0, .int 0, .int 0, .int 0, .int 0, .int 0, .null]))] s.heap.size) [(q, .inr (1, [.null, .int 0, .int 0, .int 0, .int 0, .int 0, .int 0, .int 0, .null]))] := nw_D1
  have hsub : ∀ x, va_A [(q, .inr (1, [.null, .int 0, .int 0, .int 0, .int 0, .int 0, .int 0, .int 0, .null]))] s.heap.size x → ab_A B0 x := nw_sub hq hB
  generalize hAe : va_A [(q, .inr (1, [.null, .int 0, .int 0, .int 0, .int 0, .int 0, .int 0, .int 0, .null]))] s.heap.size = A at hD hsub ⊢
  have hA : ∀ x : Nat, s.heap.size ≤ x → A x := fun x h => by rw [← hAe]; exact Or.inr h
  clear hAe
  have hS : va_S A s.heap s.heap [] := va_S.rf
  have hP := hP0
  have hl := lv_entry ([.ref q]) (n := 1) (Nat.le_of_ble_eq_true rfl)
  rw [lg_entry_eq]
  generalize (lg_sl ([.ref q]) ++ List.replicate (1 - (lg_sl ([.ref q])).length) Slot.unset).toArray = ls at hl ⊢
  have hl : lv_has ls 1 [(0, .ref q)] := hl
  refine lv_aload_n hx hb nd_Rd_0 rfl (lv_at hl 0 rfl) ?_
  refine W.objInit hx hb hown (wd _ (ab_has_in (i := 153) (w := .methodLink "MovingNames$Reader" 3 Lib.objectInit) (by decide +kernel)) rfl) (wd _ (ab_has_in (i := 146) (w := .instanceMethod Lib.objectInit) (by decide +kernel)) rfl) (wd _ (ab_has_in (i := 147) (w := .code Lib.objectInit ⟨#[0xb1]⟩ 1 none) (by decide +kernel)) rfl) rfl (by rw [hml]; exact hl.1) rfl nd_Rd_1 (Nat.le_of_ble_eq_true rfl) (Nat.le_of_ble_eq_true rfl) ?_
  refine W.eq (g2 := F0 m 4 ls []) rfl ?_
  refine lv_aload_n hx hb nd_Rd_4 rfl (lv_at hl 0 rfl) ?_
  refine lv_sipush (v := 900) hx hb nd_Rd_5 (by decide) ?_
  refine va_newa (atype := .int) hx hb (nw_arr (ty := .int) (hK.2 0 _ rfl).1 (hK.2 0 _ rfl).2) (ty := .int) rfl hK hP hD hS hA (n := 900) (N' := 900) (a0 := (900, .inl (fun _ => 0))) (fun _ => rfl) (by decide) (by decide +kernel) (Nat.le_of_ble_eq_true rfl) (Nat.le_of_ble_eq_true rfl) (Nat.le_of_ble_eq_true rfl) nd_Rd_8 (fun a0 cA H hK1 hP hD hS => ?_)
  obtain rfl : cA = dA 0 := nw_dA (k := 0) hK rfl hK1
  clear hK1
  have hP : va_P D ab_cl [(q, .inr (1, [.null, .int 0, .int 0, .int 0, .int 0, .int 0, .int 0, .int 0, .null])), (a0, .inl (dA 0, 900, .inl (fun _ => 0)))] H := hP
  have hD : va_D A [(q, .inr (1, [.null, .int 0, .int 0, .int 0, .int 0, .int 0, .int 0, .int 0, .null])), (a0, .inl (dA 0, 900, .inl (fun _ => 0)))] := hD
  refine W.widen (k := 1) (n := 900) (Nat.le_of_ble_eq_true rfl) (Nat.le_of_ble_eq_true rfl) ?_
  refine va_putF (D := D) (ci := 1) (v := .ref a0) (ty := (.array .int)) hx hb hts (ab_lays (k := 1) (by decide) rfl) _ (ab_tyk (k := 1) rfl (by decide)).1 (ab_tyk (k := 1) rfl (by decide)).2.1 hown hK hP hD hS 0 rfl rfl 0 (by decide) (wd _ (ab_has_in (i := 156) (w := .fieldLink "MovingNames$Reader" 9 "MovingNames$Reader" "tape" "[I") (by decide +kernel)) rfl) (fun _ h9 => h9) rfl hin rfl (by decide +kernel) rfl rfl (Nat.le_of_ble_eq_true rfl) nd_Rd_10 (fun H locs hP hD hS => ?_)
  have hP : va_P D ab_cl [(q, .inr (1, [.ref a0, .int 0, .int 0, .int 0, .int 0, .int 0, .int 0, .int 0, .null])), (a0, .inl (dA 0, 900, .inl (fun _ => 0)))] H := hP
  have hD : va_D A [(q, .inr (1, [.ref a0, .int 0, .int 0, .int 0, .int 0, .int 0, .int 0, .int 0, .null])), (a0, .inl (dA 0, 900, .inl (fun _ => 0)))] := hD
  refine lv_aload_n hx hb nd_Rd_13 rfl (lv_at hl 0 rfl) ?_
  refine lv_iconst (v := (-1)) hx hb nd_Rd_14 (by decide) ?_
  refine va_put (D := D) (ci := 1) (v := .int (-1)) (ty := .int) hx hb hts (ab_lays (k := 1) (by decide) rfl) _ (ab_tyk (k := 1) rfl (by decide)).1 (ab_tyk (k := 1) rfl (by decide)).2.1 hown hK hP hD hS 0 rfl rfl 3 (by decide) (wd _ (ab_has_in (i := 161) (w := .fieldLink "MovingNames$Reader" 15 "MovingNames$Reader" "faultPlace" "I") (by decide +kernel)) rfl) (fun _ h9 => h9) rfl (by decide +kernel) rfl rfl (Nat.le_of_ble_eq_true rfl) nd_Rd_15 (fun H locs hP hD hS => ?_)
  have hP : va_P D ab_cl [(q, .inr (1, [.ref a0, .int 0, .int 0, .int (-1), .int 0, .int 0, .int 0, .int 0, .null])), (a0, .inl (dA 0, 900, .inl (fun _ => 0)))] H := hP
  have hD : va_D A [(q, .inr (1, [.ref a0, .int 0, .int 0, .int (-1), .int 0, .int 0, .int 0, .int 0, .null])), (a0, .inl (dA 0, 900, .inl (fun _ => 0)))] := hD
  refine lv_aload_n hx hb nd_Rd_18 rfl (lv_at hl 0 rfl) ?_
  refine va_gets hx hb (hSF.1 0 (by decide)).2.2.2 ⟨hS.1, fun x h hn => hS.2.1 x h (fun z => hn (hsub x z)), fun l hl => hsub _ (hS.2.2 l hl)⟩ hown (wd _ (ab_has_in (i := 154) (w := .fieldLink "MovingNames$Reader" 19 "MovingNames$Token" "END" "LMovingNames$Token;") (by decide +kernel)) rfl) (fun _ h9 => h9) nd_Rd_19 ?_
  refine va_put (D := D) (ci := 1) (v := .ref (ra 10 0)) (ty := (.object "MovingNames$Token")) hx hb hts (ab_lays (k := 1) (by decide) rfl) _ (ab_tyk (k := 1) rfl (by decide)).1 (ab_tyk (k := 1) rfl (by decide)).2.1 hown hK hP hD hS 0 rfl rfl 8 (by decide) (wd _ (ab_has_in (i := 167) (w := .fieldLink "MovingNames$Reader" 25 "MovingNames$Reader" "token" "LMovingNames$Token;") (by decide +kernel)) rfl) (fun _ h9 => h9) rfl (by decide +kernel) rfl rfl (Nat.le_of_ble_eq_true rfl) nd_Rd_22 (fun H locs hP hD hS => ?_)
  have hP : va_P D ab_cl [(q, .inr (1, [.ref a0, .int 0, .int 0, .int (-1), .int 0, .int 0, .int 0, .int 0, .ref (ra 10 0)])), (a0, .inl (dA 0, 900, .inl (fun _ => 0)))] H := hP
  have hD : va_D A [(q, .inr (1, [.ref a0, .int 0, .int 0, .int (-1), .int 0, .int 0, .int 0, .int 0, .ref (ra 10 0)])), (a0, .inl (dA 0, 900, .inl (fun _ => 0)))] := hD
  exact W.vret hx hb hr (fun t ht hW => ⟨⟨[(q, .inr (1, [.ref a0, .int 0, .int 0, .int (-1), .int 0, .int 0, .int 0, .int 0, .ref (ra 10 0)])), (a0, .inl (dA 0, 900, .inl (fun _ => 0)))], rfl, ⟨a0, rfl⟩, by rw [ht]; exact hP, hD⟩, hS.F ht⟩) hS.2.2 nd_Rd_25
