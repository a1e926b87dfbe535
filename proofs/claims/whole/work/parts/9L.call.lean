/-! Calls. -/
theorem ab_ckc_ok {m : Nat} (h : ab_ckc m lw_tbl[(ab_2 ab_iT m (0, 0, 0, 0)).1]? = true) : (ab_kd m ≤ 1 ∧ Cond.code (ab_nm m) (ab_by m) (ab_ml m) (ab_fty m) ∈ lw_tbl) ∨ (ab_kd m = 2 ∧ Cond.codeWith (ab_nm m) (ab_by m) (ab_ml m) (ab_fty m) (ab_hw m) ∈ lw_tbl) := by
  unfold ab_ckc at h
  split at h
  · rename_i y b l r heq
    have e : ab_by m = b := by
      unfold ab_by
      rw [heq]
    simp only [Bool.and_eq_true, Nat.ble_eq, decide_eq_true_eq, Nat.beq_eq] at h
    obtain ⟨⟨⟨h1, h2⟩, h3⟩, h4⟩ := h
    rw [h2, h3, h4, ← e] at heq
    exact Or.inl ⟨h1, List.mem_of_getElem? heq⟩
  · rename_i y b l r hh heq
    have e : ab_by m = b := by
      unfold ab_by
      rw [heq]
    simp only [Bool.and_eq_true, decide_eq_true_eq, Nat.beq_eq] at h
    obtain ⟨⟨⟨⟨h1, h2⟩, h3⟩, h4⟩, h5⟩ := h
    rw [h2, h3, h4, h5, ← e] at heq
    exact Or.inr ⟨h1, List.mem_of_getElem? heq⟩
  · cases h
/-- what the tables say of a method that is called -/
def ab_MT (m : Nat) : Prop :=
  (Cond.initialized (ab_nm m).cls ∈ lw_tbl) ∧
  (plainFor (ab_nm m) = true) ∧
  ((ab_nm m).cls ≠ "java/lang/invoke/MethodHandle" ∧ (ab_nm m).cls ≠ "java/lang/invoke/VarHandle") ∧
  ((parseMethodDescriptor (ab_nm m).desc).map (fun d => d.parameters.length) = some (ab_np m)) ∧
  ((ab_nm m).cls = ab_cnm (ab_ow m)) ∧
  ((ab_kd m = 0 ∧ Cond.code (ab_nm m) (ab_by m) (ab_ml m) (ab_fty m) ∈ lw_tbl ∧ ab_hw m = [] ∧ Cond.instanceMethod (ab_nm m) ∈ lw_tbl ∧ ((ab_2 ab_iT m (0, 0, 0, 0)).2.2.1 = 0 ∨ Cond.selects (ab_nm m).cls (ab_nm m) (ab_nm m) ∈ lw_tbl)) ∨ (ab_kd m = 1 ∧ Cond.code (ab_nm m) (ab_by m) (ab_ml m) (ab_fty m) ∈ lw_tbl ∧ ab_hw m = [] ∧ Cond.static (ab_nm m) ∈ lw_tbl) ∨ (ab_kd m = 2 ∧ Cond.codeWith (ab_nm m) (ab_by m) (ab_ml m) (ab_fty m) (ab_hw m) ∈ lw_tbl ∧ Cond.static (ab_nm m) ∈ lw_tbl))
theorem ab_mt {m : Nat} (h : m < 360) : ab_MT m := by
  have q := ab_okMall h
  unfold ab_okM at q
  have q : ((match ab_kd m with
    | 0 => ab_ckc m lw_tbl[(ab_2 ab_iT m (0, 0, 0, 0)).1]? && ab_has (ab_2 ab_iT m (0, 0, 0, 0)).2.1 (.instanceMethod (ab_nm m)) && (Nat.beq (ab_2 ab_iT m (0, 0, 0, 0)).2.2.1 0 || ab_has (ab_2 ab_iT m (0, 0, 0, 0)).2.2.1 (.selects (ab_nm m).cls (ab_nm m) (ab_nm m)))
    | 1 => ab_ckc m lw_tbl[(ab_2 ab_iT m (0, 0, 0, 0)).1]? && ab_has (ab_2 ab_iT m (0, 0, 0, 0)).2.1 (.static (ab_nm m))
    | _ => ab_ckc m lw_tbl[(ab_2 ab_iT m (0, 0, 0, 0)).1]? && ab_has (ab_2 ab_iT m (0, 0, 0, 0)).2.1 (.static (ab_nm m))) && ab_has (ab_2 ab_iT m (0, 0, 0, 0)).2.2.2 (.initialized (ab_nm m).cls) && plainFor (ab_nm m) && decide ((ab_nm m).cls ≠ "java/lang/invoke/MethodHandle") && decide ((ab_nm m).cls ≠ "java/lang/invoke/VarHandle") && decide ((parseMethodDescriptor (ab_nm m).desc).map (fun d => d.parameters.length) = some (ab_np m)) && decide ((ab_nm m).cls = ab_cnm (ab_ow m)) && (Nat.beq (ab_kd m) 2 || decide (ab_hw m = []))) = true := q
  simp only [Bool.and_eq_true, decide_eq_true_eq, Bool.or_eq_true, Nat.beq_eq] at q
  obtain ⟨⟨⟨⟨⟨⟨⟨q1, q2⟩, q3⟩, q4⟩, q5⟩, q6⟩, q7⟩, q8⟩ := q
  refine ⟨ab_has_in q2, q3, ⟨q4, q5⟩, q6, q7, ?_⟩
  split at q1
  · rename_i hk
    simp only [Bool.and_eq_true, Bool.or_eq_true, Nat.beq_eq] at q1
    obtain ⟨⟨a1, a2⟩, a3⟩ := q1
    rcases ab_ckc_ok a1 with ⟨b1, b2⟩ | ⟨b1, b2⟩
    · exact Or.inl ⟨hk, b2, q8.resolve_left (by omega), ab_has_in a2, a3.imp id (fun z => ab_has_in z)⟩
    · omega
  · rename_i hk
    simp only [Bool.and_eq_true] at q1
    obtain ⟨a1, a2⟩ := q1
    rcases ab_ckc_ok a1 with ⟨b1, b2⟩ | ⟨b1, b2⟩
    · exact Or.inr (Or.inl ⟨hk, b2, q8.resolve_left (by omega), ab_has_in a2⟩)
    · omega
  · rename_i h0 h1
    simp only [Bool.and_eq_true] at q1
    obtain ⟨a1, a2⟩ := q1
    rcases ab_ckc_ok a1 with ⟨b1, b2⟩ | ⟨b1, b2⟩
    · exact absurd b1 (fun z => by
        rcases Nat.lt_or_ge (ab_kd m) 1 with q | q
        · exact h0 (by omega)
        · exact h1 (by omega))
    · exact Or.inr (Or.inr ⟨b1, b2, ab_has_in a2⟩)
theorem ab_ml_ok : (List.range 360).all (fun m => Nat.ble (ab_ml m) 41) = true := by decide +kernel
/-- a callee's own words -/
noncomputable def ab_ws (w : Jvm.Cond) : List Jvm.Cond := w :: lw_tbl.filter (fun z => z.onTables && z.keeps)
/-- what a callee may take for granted -/
def ab_Pc (ra : Nat → Nat → Nat) (fm : Value) (D : va_G) (dA : Nat → ClassId) (B0 : Nat) (X : (Nat → Int32) × Nat) (H : Heap) (as : List Value) : Array Value → State → Prop := fun a U => a = as.toArray ∧ U.heap = H ∧ va_K D ab_cl (ab_ty dA) U ∧ ab_SF ra fm X (ab_A B0) U H ∧ ab_CV ra U
theorem ab_Pc_blind {ra : Nat → Nat → Nat} {fm : Value} {D : va_G} {dA : Nat → ClassId} {B0 : Nat} {X : (Nat → Int32) × Nat} {H : Heap} {as : List Value} : FrameBlind (ab_Pc ra fm D dA B0 X H as) := fun a U g mk h =>
  ⟨h.1, h.2.1, va_K.moved (Vm.Alike.refl _) h.2.2.1, ab_SF.moved (Vm.Alike.refl _) h.2.2.2.1, ab_CV.same (s := U) (U := U.calling g mk a) rfl h.2.2.2.2⟩
section MET
variable {a : Nat} {l : Launch} {ra : Nat → Nat → Nat} {fm : Value} {D : va_G} {dA : Nat → ClassId} {B0 : Nat} {X : (Nat → Int32) × Nat} {H : Heap} {as : List Value} {rm : Room} {Qc : Array Value → State → Outcome → State → Prop} {XC : String → State → State → Prop} {mc ms : Nat}
theorem ab_cxB (ha : a < 360) {w : Jvm.Cond} (hl : l.stackTraces = false) (hB : B0 ≤ H.size) (hfm : fm = .null ∨ ∃ a : Nat, fm = .ref a) {p : Program} {e : Env} {s s₁ : State} {m : MethodId} {args : Array Value} {below : List Frame} {meth : Method} {c : Code} (B : BodyLoose p l (ab_nm a) (headSpec (ab_ws w) rm) (ab_by a) (ab_ml a) (ab_fty a) e s m args below meth c s₁) (hml : c.maxLocals = ab_ml a) (ht : c.exceptionTable.toList = tableOf (ab_hw a)) (hP : ab_Pc ra fm D dA B0 X H as args s) : ab_CX ra fm D dA B0 X p l s m args meth c a := by
  obtain ⟨ini, plain, mh, par, own, kind⟩ := ab_mt ha
  obtain ⟨p1, p2, p3, p4, p5⟩ := hP
  refine ⟨B.exec, hl, B.bytes, hml, B.returns, B.notSynchronized, ?_, ht, fun w9 hw ho => ?_, by rw [p2]; exact hB, p3, by rw [p2]; exact p4, p5, hfm⟩
  · rw [← own]
    exact findClass_of_methodNamed B.named
  · cases hk : w9.keeps with
    | true => exact atoms_spec (ws := ab_ws w) B.pre w9 (List.mem_cons_of_mem _ (List.mem_filter.mpr ⟨hw, by rw [ho, hk]; rfl⟩))
    | false => exact va_Nw.use ho (p5.1 w9 hw ho hk)
theorem ab_metC (ha : a < 360) (hh : ab_hw a = []) (hl : l.stackTraces = false) (hB : B0 ≤ H.size) (hfm : fm = .null ∨ ∃ a : Nat, fm = .ref a)
    (body : ∀ (p : Program) (e : Env) (U : State) (mt : MethodId) (args : Array Value) (below : List Frame) (meth : Method) (c : Code), ab_CX ra fm D dA B0 X p l U mt args meth c a → U.heap = H → args = as.toArray → W p l e rm U mt args below meth c H [] 0 0 (vx_MQ below Qc XC args U mc ms (ab_A B0)) (entryFrame mt args (ab_ml a))) :
    vx_Met l (ab_nm a) (ab_ws (Cond.code (ab_nm a) (ab_by a) (ab_ml a) (ab_fty a))) rm (ab_Pc ra fm D dA B0 X H as) Qc XC mc ms (ab_A B0) := by
  obtain ⟨ini, plain, mh, par, own, kind⟩ := ab_mt ha
  refine MetFree.of_bodySF (code := ab_by a) (maxLocals := ab_ml a) (ret := ab_fty a) plain ?_ ?_
  · intro args s m h hn
    obtain ⟨meth, c, h1, h2, h3, h4, h5, h6, -, -⟩ := Cond.code_spec hn (atoms_spec (ws := ab_ws (Cond.code (ab_nm a) (ab_by a) (ab_ml a) (ab_fty a))) h _ List.mem_cons_self)
    exact ⟨meth, c, h1, h2, h3, h4, h5, h6⟩
  · intro p e s m args below meth c s₁ B hml hP _
    have hh0 : s₁.heap = s.heap := by rw [B.state]; rfl
    have ht : c.exceptionTable.toList = tableOf (ab_hw a) := by
      obtain ⟨meth9, c9, h1, h2, -, -, -, -, h7, -⟩ := Cond.code_spec B.named (atoms_spec (ws := ab_ws (Cond.code (ab_nm a) (ab_by a) (ab_ml a) (ab_fty a))) B.pre _ List.mem_cons_self)
      cases Option.some.inj (h1.symm.trans B.method)
      cases Option.some.inj (h2.symm.trans (Stand.of_body B).code)
      rw [hh, Array.isEmpty_iff.mp h7]
      rfl
    obtain ⟨t, a1, o, b1, b2, b3⟩ := body p e s m args below meth c (ab_cxB ha hl hB hfm B hml ht hP) hP.2.1 hP.1 s₁ (hh0.trans hP.2.1) (Stand.of_body B)
    exact ⟨t, o, a1, b1, b2, b3⟩
theorem ab_metH (ha : a < 360) (hl : l.stackTraces = false) (hB : B0 ≤ H.size) (hfm : fm = .null ∨ ∃ a : Nat, fm = .ref a)
    (body : ∀ (p : Program) (e : Env) (U : State) (mt : MethodId) (args : Array Value) (below : List Frame) (meth : Method) (c : Code), ab_CX ra fm D dA B0 X p l U mt args meth c a → U.heap = H → args = as.toArray → W p l e rm U mt args below meth c H [] 0 0 (vx_MQ below Qc XC args U mc ms (ab_A B0)) (entryFrame mt args (ab_ml a))) :
    vx_Met l (ab_nm a) (ab_ws (Cond.codeWith (ab_nm a) (ab_by a) (ab_ml a) (ab_fty a) (ab_hw a))) rm (ab_Pc ra fm D dA B0 X H as) Qc XC mc ms (ab_A B0) := by
  obtain ⟨ini, plain, mh, par, own, kind⟩ := ab_mt ha
  refine MetFree.of_bodySF (code := ab_by a) (maxLocals := ab_ml a) (ret := ab_fty a) plain ?_ ?_
  · intro args s m h hn
    obtain ⟨m9, meth, c, hn9, h1, h2, h3, h4, -, h5, h6, -⟩ := Cond.codeWith_spec (atoms_spec (ws := ab_ws (Cond.codeWith (ab_nm a) (ab_by a) (ab_ml a) (ab_fty a) (ab_hw a))) h _ List.mem_cons_self)
    cases hn.symm.trans hn9
    exact ⟨meth, c, h1, h2, h3, h4, h5, h6⟩
  · intro p e s m args below meth c s₁ B hml hP _
    have hh0 : s₁.heap = s.heap := by rw [B.state]; rfl
    have ht := vx_table (x := ab_nm a) B (atoms_spec (ws := ab_ws (Cond.codeWith (ab_nm a) (ab_by a) (ab_ml a) (ab_fty a) (ab_hw a))) B.pre _ List.mem_cons_self)
    obtain ⟨t, a1, o, b1, b2, b3⟩ := body p e s m args below meth c (ab_cxB ha hl hB hfm B hml ht hP) hP.2.1 hP.1 s₁ (hh0.trans hP.2.1) (Stand.of_body B)
    exact ⟨t, o, a1, b1, b2, b3⟩
end MET
theorem ab_sl_cons (w : Value) (vs : List Value) : lg_sl (w :: vs) = (if w.category = 2 then [Slot.val w, Slot.second] else [Slot.val w]) ++ lg_sl vs := by
  unfold lg_sl
  rw [List.flatMap_cons]
/-- what stands in the locals at a method's start -/
theorem ab_entry {ra ρ : Nat → Nat → Nat} {fm : Value} (hfm : fm.category = 1) {s : ab_S} : ∀ {as : List ab_V} {vs : List Value} {n : Nat}, ab_sr ra ρ fm s as vs → ab_sum as ≤ n → (ab_ent n as).length = n ∧ (lg_sl vs).length = ab_sum as ∧ ∀ (i : Nat) (v : ab_V), (ab_ent n as)[i]? = some (some v) → ∃ w : Value, (lg_sl vs)[i]? = some (.val w) ∧ ab_vr ra ρ fm s v w
  | [], [], n, _, _ => ⟨List.length_replicate, rfl, fun i v h => by
      rw [ab_ent, List.getElem?_replicate] at h
      split at h <;> cases h⟩
  | v :: as, w :: vs, n, h, hs => by
    have hc := ab_vr_cat hfm h.1
    have hs9 : ab_cat v + ab_sum as ≤ n := hs
    by_cases hv : ∃ x : Int64, v = .inl (.long x)
    · obtain ⟨x, rfl⟩ := hv
      obtain rfl := ab_vr_long h.1
      have hs8 : 2 + ab_sum as ≤ n := hs9
      obtain ⟨i1, i2, i3⟩ := ab_entry (n := n - 2) hfm h.2 (by omega)
      have e2 : lg_sl (.long x :: vs) = .val (.long x) :: .second :: lg_sl vs := by
        rw [ab_sl_cons]
        rfl
      rw [e2]
      refine ⟨?_, ?_, fun i v hi => ?_⟩
      · show (some (.inl (.long x)) :: none :: ab_ent (n - 2) as : ab_L).length = n
        rw [List.length_cons, List.length_cons, i1]
        omega
      · show (lg_sl vs).length + 1 + 1 = 2 + ab_sum as
        rw [i2]
        omega
      · have hi : (some (.inl (.long x)) :: none :: ab_ent (n - 2) as : ab_L)[i]? = some (some v) := hi
        rcases i with _ | _ | i
        · cases hi
          exact ⟨_, rfl, h.1⟩
        · cases hi
        · obtain ⟨w9, q1, q2⟩ := i3 i v hi
          exact ⟨w9, q1, q2⟩
    · have hc1 : ab_cat v = 1 := by
        unfold ab_cat
        split
        · exact absurd ⟨_, rfl⟩ hv
        · exact (h.1.2).elim
        · rfl
      have e : ab_ent n (v :: as) = some v :: ab_ent (n - 1) as := by
        rw [ab_ent]
        exact fun x z => hv ⟨x, z⟩
      rw [hc1] at hc hs9
      obtain ⟨i1, i2, i3⟩ := ab_entry (n := n - 1) hfm h.2 (by omega)
      have e2 : lg_sl (w :: vs) = .val w :: lg_sl vs := by
        rw [ab_sl_cons, hc]
        rfl
      rw [e, e2]
      refine ⟨?_, ?_, fun i v9 hi => ?_⟩
      · rw [List.length_cons, i1]
        omega
      · show (lg_sl vs).length + 1 = ab_cat v + ab_sum as
        rw [i2, hc1]
        omega
      · rcases i with _ | i
        · cases hi
          exact ⟨_, rfl, h.1⟩
        · exact i3 i v9 hi
