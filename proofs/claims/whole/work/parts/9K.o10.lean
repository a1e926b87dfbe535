def ab_exw (own : String) (ik ic : Nat) (E : String) : List Jvm.Cond := Cond.classLink own ik E :: Cond.initialized E :: vx_atS own ic E ab_ns
def ab_exwN (own : String) (ik ic : Nat) : List Jvm.Cond := Cond.classLink own ik "java/util/NoSuchElementException" :: Cond.initialized "java/util/NoSuchElementException" :: vx_atS own ic "java/util/NoSuchElementException" []
def ab_onT (w : Jvm.Cond) : Bool := w.onTables && lw_tbl.any (fun z => decide (z = w))
theorem ab_onT_b {args : Array Value} {U : State} (hts : ∀ w ∈ lw_tbl, w.onTables = true → w.before args U = true) {w : Jvm.Cond} (h : ab_onT w = true) : w.before args U = true := by
  rw [ab_onT, Bool.and_eq_true] at h
  exact hts _ (ab_anyw h.2) h.1
theorem ab_onT_o {w : Jvm.Cond} (h : ab_onT w = true) : vx_ot w = true := by
  rw [ab_onT, Bool.and_eq_true] at h
  rw [vx_ot, h.1, Bool.true_or]
theorem ab_ex0 : (ab_exw "MovingNames" 58 62 (ab_exn 0)).all ab_onT = true := by decide +kernel
theorem ab_ex2 : (ab_exw "MovingNames" 200 204 (ab_exn 2)).all ab_onT = true := by decide +kernel
theorem ab_ex3 : (ab_exw "MovingNames" 356 360 (ab_exn 3)).all ab_onT = true := by decide +kernel
theorem ab_ex1 : (ab_exwN "MovingNames" 347 351).all (fun w => decide (w ∈ ab_xN) || ab_onT w) = true := by decide +kernel
theorem ab_ex1c : ab_chN.all ab_onT = true := by decide +kernel
theorem ab_exfit : Bundle.fit (ab_exn 0) = true ∧ Bundle.fit (ab_exn 2) = true ∧ Bundle.fit (ab_exn 3) = true := by decide +kernel
theorem ab_exk : ab_ex.all (fun r => match r with
  | [m, _, ik, _, ic, w, E] => Nat.beq (ab_ow m) 0 && ((Nat.beq E 0 && Nat.beq ik 58 && Nat.beq ic 62) || (Nat.beq E 1 && Nat.beq ik 347 && Nat.beq ic 351 && Nat.beq w 1) || (Nat.beq E 2 && Nat.beq ik 200 && Nat.beq ic 204) || (Nat.beq E 3 && Nat.beq ik 356 && Nat.beq ic 360))
  | _ => false) = true := by decide +kernel
theorem ab_exr {m pc : Nat} {r' : List Nat} (h : m :: pc :: r' ∈ ab_ex) : ∃ ik is ic w E : Nat, r' = [ik, is, ic, w, E] ∧ ab_ow m = 0 ∧ ((((E = 0 ∧ ik = 58) ∧ ic = 62 ∨ ((E = 1 ∧ ik = 347) ∧ ic = 351) ∧ w = 1) ∨ (E = 2 ∧ ik = 200) ∧ ic = 204) ∨ (E = 3 ∧ ik = 356) ∧ ic = 360) := by
  have q := List.all_eq_true.mp ab_exk _ h
  rcases r' with _ | ⟨ik, _ | ⟨is, _ | ⟨ic, _ | ⟨w, _ | ⟨E, _ | ⟨_, _⟩⟩⟩⟩⟩⟩
  · cases q
  · cases q
  · cases q
  · cases q
  · cases q
  · have q2 : (Nat.beq (ab_ow m) 0 && ((Nat.beq E 0 && Nat.beq ik 58 && Nat.beq ic 62) || (Nat.beq E 1 && Nat.beq ik 347 && Nat.beq ic 351 && Nat.beq w 1) || (Nat.beq E 2 && Nat.beq ik 200 && Nat.beq ic 204) || (Nat.beq E 3 && Nat.beq ik 356 && Nat.beq ic 360))) = true := q
    simp only [Bool.and_eq_true, Bool.or_eq_true, Nat.beq_eq] at q2
    exact ⟨ik, is, ic, w, E, rfl, q2.1, q2.2⟩
  · cases q
theorem ab_dc_ok {b : ByteArray} {pc n : Nat} {I : Instr} (h : ab_dc b pc I n = true) : decode b pc = .ok (I, n) := by
  unfold ab_dc at h
  split at h
  · rename_i J k e
    simp only [Bool.and_eq_true, decide_eq_true_eq, Nat.beq_eq] at h
    rw [e, h.1, h.2]
  · cases h
theorem ab_hwo {m : Nat} {c : Code} (htb : c.exceptionTable.toList = tableOf (ab_hw m)) (hh : ab_hw m = []) (pc : Nat) : ∀ x ∈ c.exceptionTable.toList, covers x pc = false := by
  rw [htb, hh]
  exact fun x hx => nomatch hx
/-- the place where a method throws -/
def ab_Th (X : (Nat → Int32) × Nat) (m pc a : Nat) (L : ab_L) (K : List ab_V) (s : ab_S) : Prop :=
  ∀ (ra : Nat → Nat → Nat) (fm : Value) (D : va_G) (dA : Nat → ClassId) (B0 : Nat) (p : Program) (l : Launch) (e : Env) (R : Room) (U : State) (mt : MethodId) (args : Array Value) (below : List Frame) (meth : Method) (c : Code), ab_CX ra fm D dA B0 X p l U mt args meth c m → 6 ≤ R.frames → 90 ≤ R.locals → ∀ (Qc : Array Value → State → Outcome → State → Prop) (XC : String → State → State → Prop) (mc ms cells slots : Nat), cells + 1 ≤ mc → slots + 6 ≤ ms → cells + 1 ≤ R.cells → slots + 6 ≤ R.slots → ∀ P : (Nat → Nat → Nat) → Prop, (∀ (ρ : Nat → Nat → Nat) (H : Heap) (t : State) (locs : List Loc), P ρ → ab_HR ra ρ D dA B0 s H → va_S (ab_A B0) U.heap H locs → H.size ≤ t.heap.size → (∀ q : Nat, q < H.size → t.heap[q]? = H[q]?) → XC (ab_exn a) U t) → ab_G ra fm D dA B0 p l e R U mt args below meth c cells slots (vx_MQ below Qc XC args U mc ms (ab_A B0)) P m pc L K s
theorem ab_o10g {X : (Nat → Int32) × Nat} {m pc ik is ic w E : Nat} {L : ab_L} {K : List ab_V} {s : ab_S} (hr : [m, pc, ik, is, ic, w, E] ∈ ab_ex) (hok : ab_okX (ab_by m) pc [ik, is, ic, w, E] = true) (ho : ab_ow m = 0) (hh : ab_hw m = []) (hK : ab_sum K ≤ 8) (hw : (ab_exw "MovingNames" ik ic (ab_exn E)).all ab_onT = true) (hf : Bundle.fit (ab_exn E) = true) : ab_Th X m pc E L K s := by
  intro ra fm D dA B0 p l e R U mt args below meth c C hfr hlo Qc XC mc ms cells slots c1 c2 c3 c4 P hx9 ρ hρ H ls r locs hL hS hH hV
  obtain ⟨hx, hlt, hb, hml, hr9, hlk, hown, htb, hts, hB, hKK, hSF, hCV, hfm⟩ := C
  rw [ho] at hown
  have hown : U.vm.findClass "MovingNames" = some mt.cls := hown
  obtain ⟨tx, sa, hstr⟩ := hCV.2.2.1 _ _ _ _ _ _ _ hr
  rw [ho] at hstr
  have hstr : vk_R "MovingNames" is tx sa U := hstr
  have hw := List.all_eq_true.mp hw
  have hsum : (r.map fun v => v.category).sum ≤ 8 := by rw [ab_sr_sum (ab_fm1 hfm) hS]; exact hK
  have hlo : (r.map fun v => v.category).sum + (13 * (ab_ns.length + 1) + 43) ≤ R.locals := by
    have e : ab_ns.length = 2 := rfl
    rw [e]
    omega
  unfold ab_okX at hok
  split at hok
  · rename_i ik9 is9 ic9 E9 e9
    cases e9
    simp only [Bool.and_eq_true] at hok
    obtain ⟨⟨⟨⟨d0, d3⟩, d4⟩, d6⟩, d9⟩ := hok
    exact vx_throwS hx hb hlt (names := ab_ns) hown hf ab_fits (ab_onT_b hts (hw _ List.mem_cons_self)) (ab_onT_b hts (hw _ (List.mem_cons_of_mem _ List.mem_cons_self))) hstr (fun w z => ab_onT_b hts (hw _ (List.mem_cons_of_mem _ (List.mem_cons_of_mem _ z)))) (fun w z => ab_onT_o (hw w z)) hSF.2.2.2.2.2.1.1 hSF.2.2.2.2.2.1.2 hV (hL.1.trans hml.symm) (ab_dc_ok d0) (ab_dc_ok d3) (ab_dc_ok d4) (ab_dc_ok d6) (ab_dc_ok d9) (ab_hwo htb hh _) hfr hlo c3 c4 hlk (fun t _ q1 q2 => hx9 ρ H t locs hρ hH hV q1 q2) hV.2.2 c1 c2
  · rename_i ik9 is9 ic9 E9 e9
    cases e9
    simp only [Bool.and_eq_true] at hok
    obtain ⟨⟨⟨⟨d0, d3⟩, d4⟩, d6⟩, d9⟩ := hok
    exact vx_throwSW hx hb hlt (names := ab_ns) hown hf ab_fits (ab_onT_b hts (hw _ List.mem_cons_self)) (ab_onT_b hts (hw _ (List.mem_cons_of_mem _ List.mem_cons_self))) hstr (fun w z => ab_onT_b hts (hw _ (List.mem_cons_of_mem _ (List.mem_cons_of_mem _ z)))) (fun w z => ab_onT_o (hw w z)) hSF.2.2.2.2.2.1.1 hSF.2.2.2.2.2.1.2 hV (hL.1.trans hml.symm) (ab_dc_ok d0) (ab_dc_ok d3) (ab_dc_ok d4) (ab_dc_ok d6) (ab_dc_ok d9) (ab_hwo htb hh _) hfr hlo c3 c4 hlk (fun t _ q1 q2 => hx9 ρ H t locs hρ hH hV q1 q2) hV.2.2 c1 c2
  · cases hok
theorem ab_o10N {X : (Nat → Int32) × Nat} {m pc is : Nat} {L : ab_L} {K : List ab_V} {s : ab_S} (hr : [m, pc, 347, is, 351, 1, 1] ∈ ab_ex) (hok : ab_okX (ab_by m) pc [347, is, 351, 1, 1] = true) (ho : ab_ow m = 0) (hh : ab_hw m = []) (hK : ab_sum K ≤ 8) : ab_Th X m pc 1 L K s := by
  intro ra fm D dA B0 p l e R U mt args below meth c C hfr hlo Qc XC mc ms cells slots c1 c2 c3 c4 P hx9 ρ hρ H ls r locs hL hS hH hV
  obtain ⟨hx, hlt, hb, hml, hr9, hlk, hown, htb, hts, hB, hKK, hSF, hCV, hfm⟩ := C
  rw [ho] at hown
  have hown : U.vm.findClass "MovingNames" = some mt.cls := hown
  obtain ⟨tx, sa, hstr⟩ := hCV.2.2.1 _ _ _ _ _ _ _ hr
  rw [ho] at hstr
  have hstr : vk_R "MovingNames" is tx sa U := hstr
  have hw : ∀ w ∈ ab_exwN "MovingNames" 347 351, w ∉ ab_xN → ab_onT w = true := fun w z z2 => by
    have q := List.all_eq_true.mp ab_ex1 w z
    rw [decide_eq_false z2, Bool.false_or] at q
    exact q
  have hw8 := List.all_eq_true.mp ab_ex1c
  have hsum : (r.map fun v => v.category).sum ≤ 8 := by rw [ab_sr_sum (ab_fm1 hfm) hS]; exact hK
  have hok9 : (ab_dc (ab_by m) pc (.new 347) 3 && ab_dc (ab_by m) (pc + 3) .dup 1 && ab_dc (ab_by m) (pc + 4) (.ldc_w is) 3 && ab_dc (ab_by m) (pc + 7) (.invokespecial 351) 3 && ab_dc (ab_by m) (pc + 10) .athrow 1) = true := hok
  simp only [Bool.and_eq_true] at hok9
  obtain ⟨⟨⟨⟨d0, d3⟩, d4⟩, d7⟩, d10⟩ := hok9
  exact ab_throwN hx hb hlt hown (ab_onT_b hts (hw _ List.mem_cons_self (by simp [ab_xN]))) (ab_onT_b hts (hw _ (List.mem_cons_of_mem _ List.mem_cons_self) (by simp [ab_xN]))) hstr (fun w z z2 => ab_onT_b hts (hw _ (List.mem_cons_of_mem _ (List.mem_cons_of_mem _ z)) z2)) (fun w z => ab_onT_b hts (hw8 w z)) (fun w z => ab_onT_o (hw8 w z)) (fun w z z2 => ab_onT_o (hw w z z2)) hSF.2.2.2.2.2.1.1 hSF.2.2.2.2.2.1.2 hV (hL.1.trans hml.symm) (ab_dc_ok d0) (ab_dc_ok d3) (ab_dc_ok d4) (ab_dc_ok d7) (ab_dc_ok d10) (ab_hwo htb hh _) hfr (by omega) c3 c4 hlk (fun t _ q1 q2 => hx9 ρ H t locs hρ hH hV q1 q2) hV.2.2 c1 c2
theorem ab_o10 {X : (Nat → Int32) × Nat} {m pc a : Nat} {r' : List Nat} {L : ab_L} {K : List ab_V} {s : ab_S} (hr : m :: pc :: r' ∈ ab_ex) (hok : ab_okX (ab_by m) pc r' = true) (hE : r'[4]? = some a) (hh : ab_hw m = []) (hK : ab_sum K ≤ 8) : ab_Th X m pc a L K s := by
  obtain ⟨ik, is, ic, w, E, rfl, ho, hc⟩ := ab_exr hr
  obtain rfl : E = a := Option.some.inj hE
  rcases hc with ((⟨⟨rfl, rfl⟩, rfl⟩ | ⟨⟨⟨rfl, rfl⟩, rfl⟩, rfl⟩) | ⟨⟨rfl, rfl⟩, rfl⟩) | ⟨⟨rfl, rfl⟩, rfl⟩
  · exact ab_o10g hr hok ho hh hK ab_ex0 ab_exfit.1
  · exact ab_o10N hr hok ho hh hK
  · exact ab_o10g hr hok ho hh hK ab_ex2 ab_exfit.2.1
  · exact ab_o10g hr hok ho hh hK ab_ex3 ab_exfit.2.2
