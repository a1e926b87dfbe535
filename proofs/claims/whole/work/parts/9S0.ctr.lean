/-! Constructors: what all of them use. -/
def nw_y (C : String) : MethodName := ⟨C, "<init>", "()V"⟩
def nw_w (C : String) (b : ByteArray) : Jvm.Cond := .code (nw_y C) b 1 none
/-- in a constructor -/
def nw_CX (ra : Nat → Nat → Nat) (fm : Value) (D : va_G) (dA : Nat → ClassId) (B0 : Nat) (X : (Nat → Int32) × Nat) (p : Program) (U : State) (mt : MethodId) (args : Array Value) (meth : Method) (c : Code) (C : String) (b : ByteArray) : Prop :=
  p.tables.exec = Jvm.exec ∧ c.code = b ∧ c.maxLocals = 1 ∧ meth.sig.returnType = none ∧ meth.locks = false ∧ U.vm.findClass C = some mt.cls ∧ meth.name = "<init>" ∧ (∀ w ∈ lw_tbl, w.onTables = true → w.before args U = true) ∧ va_K D ab_cl (ab_ty dA) U ∧ ab_SF ra fm X (ab_A B0) U U.heap ∧ ab_CV ra U
section CTR
variable {l : Launch} {ra : Nat → Nat → Nat} {fm : Value} {D : va_G} {dA : Nat → ClassId} {B0 : Nat} {X : (Nat → Int32) × Nat} {H : Heap}
theorem nw_met {C : String} {b : ByteArray} {q : Nat} {rm : Room} {Qc : Array Value → State → Outcome → State → Prop} {mc ms : Nat} {free : Addr → Prop} (hp : plainName C = true)
    (body : ∀ (p : Program) (e : Env) (U : State) (mt : MethodId) (args : Array Value) (below : List Frame) (meth : Method) (c : Code), nw_CX ra fm D dA B0 X p U mt args meth c C b → U.heap = H → args = ([.ref q] : List Value).toArray → W p l e rm U mt args below meth c H [] 0 0 (MQ below Qc args U mc ms free) (entryFrame mt args 1)) :
    Met l (nw_y C) (ab_ws (nw_w C b)) rm (ab_Pc ra fm D dA B0 X H [.ref q]) Qc mc ms free := by
  refine Met.ofW (cc := b) (maxL := 1) (ret := none) hp rfl ?_
  intro p e s m args below meth c s₁ B hml hP
  obtain ⟨p1, p2, p3, p4, p5⟩ := hP
  have h := body p e s m args below meth c ⟨B.exec, B.bytes, hml, B.returns, B.notSynchronized, findClass_of_methodNamed B.named, (name_of_methodNamed B.named B.method).1, fun w9 hw ho => ?_, p3, by rw [p2]; exact p4, p5⟩ p2 p1
  · rw [p2]
    exact h
  · cases hk : w9.keeps with
    | true => exact atoms_spec (ws := ab_ws (nw_w C b)) B.pre w9 (List.mem_cons_of_mem _ (List.mem_filter.mpr ⟨hw, by rw [ho, hk]; rfl⟩))
    | false => exact va_Nw.use ho (p5.1 w9 hw ho hk)
theorem nw_RA {U : State} {c1 c2 : ClassId} {ty : FieldType} (h1 : va_RA U c1 ty) (h2 : va_RA U c2 ty) : c1 = c2 := by
  cases ty with
  | object C =>
    obtain ⟨_, _, _, _, _, h⟩ := h1
    obtain ⟨_, _, _, _, _, h'⟩ := h2
    exact Option.some.inj (h.symm.trans h')
  | _ => exact Option.some.inj ((show U.vm.findClass _ = some c1 from h1).symm.trans (show U.vm.findClass _ = some c2 from h2))
theorem nw_dA {U : State} {k : Nat} {ty : FieldType} {cA : ClassId} (hK : va_K D ab_cl (ab_ty dA) U) (hk : (ab_ty dA)[k]? = some (dA k, ty)) (h : va_K D ab_cl (ab_ty dA ++ [(cA, ty)]) U) : cA = dA k := nw_RA (h.2 5 _ rfl).2 (hK.2 k _ hk).2
theorem nw_D1 {q sz : Nat} {e : va_E} : va_D (va_A [(q, e)] sz) [(q, e)] := by
  refine va_D.self (A := fun _ => True) ⟨fun i j x y hi hj _ => ?_, fun _ _ _ => trivial⟩
  have h1 := (List.getElem?_eq_some_iff.mp hi).1
  have h2 := (List.getElem?_eq_some_iff.mp hj).1
  rw [List.length_singleton] at h1 h2
  omega
theorem nw_sub {q sz : Nat} {e : va_E} (hq : B0 ≤ q) (hB : B0 ≤ sz) : ∀ x, va_A [(q, e)] sz x → ab_A B0 x := by
  intro x h
  rcases h with ⟨k, e', h⟩ | h
  · have h1 := List.mem_of_getElem? h
    rw [List.mem_singleton] at h1
    have h2 : x = q := (Prod.mk.inj h1).1
    show B0 ≤ x
    omega
  · exact Nat.le_trans hB h
theorem nw_P1 {x : Nat × va_E} (h : va_at D ab_cl x H) : va_P D ab_cl [x] H := fun k q hq => by
  have h1 := List.mem_of_getElem? hq
  rw [List.mem_singleton] at h1
  rw [h1]
  exact h
theorem nw_dft {k N : Nat} {fs : List Value} (h : (List.range N).all (fun j => decide (defaultValue ((parseFieldDescriptor (ab_T k j).2.2.1).getD .int) = vp_V fs j)) = true) : ∀ j, j < N → defaultValue ((parseFieldDescriptor (ab_T k j).2.2.1).getD .int) = vp_V fs j := fun j hj => of_decide_eq_true (List.all_eq_true.mp h j (List.mem_range.mpr hj))
theorem nw_nd : ∀ n a : Nat, va_nd ((List.range n).map (· + a)) = true
  | 0, _ => rfl
  | n + 1, a => by
    rw [List.range_succ_eq_map, List.map_cons, List.map_map]
    show (decide ((0 + a) ∉ ((List.range n).map ((fun x => x + a) ∘ Nat.succ))) && va_nd ((List.range n).map ((fun x => x + a) ∘ Nat.succ))) = true
    have e : (List.range n).map ((fun x => x + a) ∘ Nat.succ) = (List.range n).map (· + (a + 1)) := List.map_congr_left (fun x _ => by
      show x.succ + a = x + (a + 1)
      omega)
    rw [e, nw_nd n (a + 1), Bool.and_true, decide_eq_true_iff]
    intro h
    obtain ⟨x, _, hx⟩ := List.mem_map.mp h
    omega
theorem nw_nd0 (n : Nat) : va_nd (List.range n) = true := by
  have := nw_nd n 0
  have e : (List.range n).map (· + 0) = List.range n := List.map_id _
  rwa [e] at this
theorem nw_hC {wr : va_W} {x : Nat × va_E} : ([wr.length].map fun i => (wr ++ [x])[i]?) = [x].map some := by
  show [(wr ++ [x])[wr.length]?] = [some x]
  rw [List.getElem?_append_right (Nat.le_refl _), Nat.sub_self]
  rfl
theorem nw_hR {wr w : va_W} : ((List.range wr.length).map fun i => (wr ++ w)[i]?) = wr.map some := by
  refine List.ext_getElem? (fun k => ?_)
  rw [List.getElem?_map, List.getElem?_map]
  by_cases h : k < wr.length
  · rw [List.getElem?_range h]
    show some ((wr ++ w)[k]?) = _
    rw [List.getElem?_append_left h, List.getElem?_eq_getElem h]
    rfl
  · rw [List.getElem?_eq_none (by rw [List.length_range]; omega), List.getElem?_eq_none (by omega)]
    rfl
theorem nw_join {A0 : Nat → Prop} {wr w1 : va_W} {x : Nat × va_E} {H1 : Heap} (hP : va_P D ab_cl (wr ++ [x]) H) (hD : va_D A0 (wr ++ [x])) (hk : ∀ q : Nat, q < H.size → ¬ va_A [x] H.size q → H1[q]? = H[q]?) (hF : ∀ q, va_A [x] H.size q → A0 q) (hP1 : va_P D ab_cl w1 H1) (hD1 : va_D (va_A [x] H.size) w1) : va_P D ab_cl (wr ++ w1) H1 ∧ va_D A0 (wr ++ w1) :=
  va_join hP hD [wr.length] (List.range wr.length) nw_hC nw_hR (nw_nd0 _) (fun i hi h => by
    have h1 := List.mem_range.mp hi
    rw [List.mem_singleton] at h
    omega) hk hF hP1 hD1
section CAL
variable {p : Program} {e : Env} {R : Room} {s : State} {m : MethodId} {args : Array Value} {below : List Frame} {meth : Method} {c : Code} {locs : List Loc} {cells slots : Nat} {Q : State → Prop} {A0 : Nat → Prop} {cc b2 : ByteArray} {own C2 : String} {nL ix pc mc ms q : Nat} {rm2 : Room} {wr : va_W} {ev : va_E} {sh : va_W → Prop} {ls : Array Slot} {rest : List Value}
/-- behind a constructor's run -/
theorem nw_after (hsub : ∀ x, A0 x → ab_A B0 x) (hS : va_S A0 s.heap H locs) (hA : ∀ x, s.heap.size ≤ x → A0 x) (hP : va_P D ab_cl (wr ++ [(q, ev)]) H) (hD : va_D A0 (wr ++ [(q, ev)])) {st0 : List Value}
    (hr : va_Run p l e R s m args below meth c H locs cells slots mc ms (F0 m pc ls st0) rest ((va_Qv sh (fun (u : va_W) t => va_P D ab_cl u t.heap ∧ va_D (va_A [(q, ev)] H.size) u) (va_A [(q, ev)] H.size)) (Value.ref q :: []).toArray) (va_A [(q, ev)] H.size))
    (kk : ∀ (u : va_W) (H1 : Heap) (locs1 : List Loc), sh u → va_P D ab_cl (wr ++ u) H1 → va_D A0 (wr ++ u) → va_S A0 s.heap H1 locs1 → W p l e R s m args below meth c H1 locs1 (cells + mc) (slots + ms) Q (F0 m (pc + 3) ls rest)) :
    W p l e R s m args below meth c H locs cells slots Q (F0 m pc ls st0) := by
  have hF := va_free (wc := [(q, ev)]) hD hS hA [wr.length] nw_hC
  refine va_callv hr hS (fun x _ h => hF x h) hF (fun u t H1 locs1 ht hvm hw hB hz hk hS1 => ?_)
  obtain ⟨hP1, hD1⟩ := hB
  rw [ht] at hP1
  obtain ⟨g1, g2⟩ := nw_join hP hD hk hF hP1 hD1
  exact kk u H1 locs1 hw g1 g2 hS1
/-- a constructor's run, with room for a longer stack below -/
theorem nw_runIN {y : MethodName} {bytes : ByteArray} {maxL index : Nat} {ws : List Cond} {rm : Room} {Pc : Array Value → State → Prop} {Qc : Array Value → State → Outcome → State → Prop} {free : Addr → Prop} {host : String} {b : Addr} {g : JFrame} (hx : p.tables.exec = Jvm.exec) (hb : c.code = cc) (hown : s.vm.findClass own = some m.cls) (hM : Met l y ws rm Pc Qc mc ms free) (hrc : rm.cells = mc) (hrs : rm.slots = ms) (hfr : rm.frames + 1 ≤ R.frames) (hlo : 20 + (maxL + 11) + rm.locals ≤ R.locals) (hws : ∀ w ∈ ws, ∀ (a' : Array Value) (U : State), s.WarmedH U.vm → w.before a' U = true) (hcw : Cond.code y bytes maxL none ∈ ws) (hcode : (Cond.code y bytes maxL none).before args s = true) (hini : (Cond.initialized y.cls).before args s = true) (hy : y.cls ≠ "java/lang/invoke/MethodHandle" ∧ y.cls ≠ "java/lang/invoke/VarHandle") (hlen : ∀ sig, parseMethodDescriptor y.desc = some sig → 0 = sig.parameters.length) (hl : (Cond.methodLinkNest own index y host).before args s = true) (hx1 : y.name = "<init>") (hx2 : (Cond.instanceMethod y).before args s = true) (hp : PreS s H Pc [.ref b])
    (hg : g.method = m) (hsize : g.locals.size = c.maxLocals) (hstack : g.stack = .ref b :: rest) (hW : 2 * g.monitorRoom + (rest.map fun v => v.category).sum ≤ 20) (hdg : decode cc g.pc = .ok (.invokespecial index, 3)) (hf : cells + mc ≤ R.cells ∧ slots + ms ≤ R.slots) :
    va_Run p l e R s m args below meth c H locs cells slots mc ms g rest (Qc (Value.ref b :: []).toArray) free := by
  have hK : Back l R p e below s args y 3 20 (PreOf R mc ms Pc) (PostOf Qc mc ms free) := back_of (bytes := bytes) (maxL := maxL) (ret := none) hM hp.1 hrc hrs hfr hlo hws hcw (fun a' U hW => word_at hW (Or.inl (by first | rfl | simp [Cond.onTables, Cond.keeps, Cond.steady])) hini)
  intro T hT X
  obtain ⟨v, vm₁, ⟨U', l2, c2, s2⟩, hW₁, X', ⟨g', mk, t, L, e1, e2, hq, h1, hL, h2, h3⟩, st⟩ := va_callIN X hx (bytes := bytes) (maxL := maxL) hown hx1 hl hx2 hcode hy hK hg hsize (a := b) (argsL := []) (rest := rest) (fun sig h => hlen sig h) hstack hW (by rw [hb]; exact hdg)
    (fun vm₁ hW₁ => ⟨hf.1, hf.2, hp.2 (T.setVm vm₁) hT hW₁⟩)
  dsimp only [Pt.U, Pt.locs, Pt.cells, Pt.slots] at X' e1 e2 h1 h2 h3 st
  subst h1; subst h2; subst h3
  exact ⟨v, (T.setVm vm₁).calling g' mk (Value.ref b :: []).toArray, t, U', L, hT, X', hL, e1, e2, hq, st⟩
theorem nw_parn {C : String} : ∀ sig, parseMethodDescriptor (nw_y C).desc = some sig → 0 = sig.parameters.length := by
  intro sig h
  have h2 : (parseMethodDescriptor "()V").map (fun d => d.parameters.length) = some 0 := by decide +kernel
  have h3 : parseMethodDescriptor "()V" = some sig := h
  rw [h3] at h2
  exact (Option.some.inj h2).symm
theorem nw_call (hx : p.tables.exec = Jvm.exec) (hb : c.code = cc) (hml : c.maxLocals = nL) (hown : s.vm.findClass own = some m.cls) (wd : ∀ w ∈ lw_tbl, w.onTables = true → w.before args s = true) (hK : va_K D ab_cl (ab_ty dA) s) (hSF : ab_SF ra fm X (ab_A B0) s s.heap) (hCV : ab_CV ra s) (hsub : ∀ x, A0 x → ab_A B0 x) (hS : va_S A0 s.heap H locs) (hA : ∀ x, s.heap.size ≤ x → A0 x) (hP : va_P D ab_cl (wr ++ [(q, ev)]) H) (hD : va_D A0 (wr ++ [(q, ev)]))
    (hM : Met l (nw_y C2) (ab_ws (nw_w C2 b2)) rm2 (ab_Pc ra fm D dA B0 X H [.ref q]) (va_Qv sh (fun (u : va_W) t => va_P D ab_cl u t.heap ∧ va_D (va_A [(q, ev)] H.size) u) (va_A [(q, ev)] H.size)) mc ms (va_A [(q, ev)] H.size))
    (w1 : nw_w C2 b2 ∈ lw_tbl) (w2 : Cond.initialized C2 ∈ lw_tbl) (w3 : Cond.methodLinkNest own ix (nw_y C2) "MovingNames" ∈ lw_tbl) (w4 : Cond.instanceMethod (nw_y C2) ∈ lw_tbl) (hmh : C2 ≠ "java/lang/invoke/MethodHandle" ∧ C2 ≠ "java/lang/invoke/VarHandle") (hf : rm2.frames + 1 ≤ R.frames) (hlo : 20 + (1 + 11) + rm2.locals ≤ R.locals) (hls : ls.size = nL) (hcat : (rest.map fun v => v.category).sum ≤ 20) (hrc : rm2.cells = mc) (hrs : rm2.slots = ms) (hc : cells + mc ≤ R.cells) (hsl : slots + ms ≤ R.slots) (hd : decode cc pc = .ok (.invokespecial ix, 3))
    (kk : ∀ (u : va_W) (H1 : Heap) (locs1 : List Loc), sh u → va_P D ab_cl (wr ++ u) H1 → va_D A0 (wr ++ u) → va_S A0 s.heap H1 locs1 → W p l e R s m args below meth c H1 locs1 (cells + mc) (slots + ms) Q (F0 m (pc + 3) ls rest)) :
    W p l e R s m args below meth c H locs cells slots Q (F0 m pc ls (.ref q :: rest)) := by
  have hSFH : ab_SF ra fm X (ab_A B0) s H := hSF.kept (fun a h hn => hS.2.1 a h (fun z => hn (hsub a z)))
  have h5 : 2 * (F0 m pc ls (.ref q :: rest)).monitorRoom + (rest.map fun v => v.category).sum ≤ 20 := by
    show 2 * 0 + (rest.map fun v => v.category).sum ≤ 20
    rw [Nat.mul_zero, Nat.zero_add]
    exact hcat
  exact nw_after hsub hS hA hP hD (nw_runIN (host := "MovingNames") (maxL := 1) (bytes := b2) hx hb hown hM hrc hrs hf hlo (ab_pays wd w1 ab_keepC) List.mem_cons_self (wd _ w1 rfl) (wd _ w2 rfl) hmh nw_parn (wd _ w3 rfl) rfl (wd _ w4 rfl) ⟨ab_Pc_blind, fun V hV hW => ⟨rfl, hV, va_K.moved hW.alike hK, ab_SF.moved hW.alike hSFH, ab_CV.warm hW hCV⟩⟩ rfl (hls.trans hml.symm) rfl h5 hd ⟨hc, hsl⟩) kk
/-- the same, of a constructor that all may call -/
theorem nw_callP (hx : p.tables.exec = Jvm.exec) (hb : c.code = cc) (hml : c.maxLocals = nL) (hown : s.vm.findClass own = some m.cls) (wd : ∀ w ∈ lw_tbl, w.onTables = true → w.before args s = true) (hK : va_K D ab_cl (ab_ty dA) s) (hSF : ab_SF ra fm X (ab_A B0) s s.heap) (hCV : ab_CV ra s) (hsub : ∀ x, A0 x → ab_A B0 x) (hS : va_S A0 s.heap H locs) (hA : ∀ x, s.heap.size ≤ x → A0 x) (hP : va_P D ab_cl (wr ++ [(q, ev)]) H) (hD : va_D A0 (wr ++ [(q, ev)]))
    (hM : Met l (nw_y C2) (ab_ws (nw_w C2 b2)) rm2 (ab_Pc ra fm D dA B0 X H [.ref q]) (va_Qv sh (fun (u : va_W) t => va_P D ab_cl u t.heap ∧ va_D (va_A [(q, ev)] H.size) u) (va_A [(q, ev)] H.size)) mc ms (va_A [(q, ev)] H.size))
    (w1 : nw_w C2 b2 ∈ lw_tbl) (w2 : Cond.initialized C2 ∈ lw_tbl) (w3 : Cond.methodLink own ix (nw_y C2) ∈ lw_tbl) (w4 : Cond.instanceMethod (nw_y C2) ∈ lw_tbl) (hmh : C2 ≠ "java/lang/invoke/MethodHandle" ∧ C2 ≠ "java/lang/invoke/VarHandle") (hf : rm2.frames + 1 ≤ R.frames) (hlo : 8 + (1 + 11) + rm2.locals ≤ R.locals) (hls : ls.size = nL) (hcat : (rest.map fun v => v.category).sum ≤ 8) (hrc : rm2.cells = mc) (hrs : rm2.slots = ms) (hc : cells + mc ≤ R.cells) (hsl : slots + ms ≤ R.slots) (hd : decode cc pc = .ok (.invokespecial ix, 3))
    (kk : ∀ (u : va_W) (H1 : Heap) (locs1 : List Loc), sh u → va_P D ab_cl (wr ++ u) H1 → va_D A0 (wr ++ u) → va_S A0 s.heap H1 locs1 → W p l e R s m args below meth c H1 locs1 (cells + mc) (slots + ms) Q (F0 m (pc + 3) ls rest)) :
    W p l e R s m args below meth c H locs cells slots Q (F0 m pc ls (.ref q :: rest)) := by
  have hSFH : ab_SF ra fm X (ab_A B0) s H := hSF.kept (fun a h hn => hS.2.1 a h (fun z => hn (hsub a z)))
  have h5 : 2 * (F0 m pc ls (.ref q :: rest)).monitorRoom + (rest.map fun v => v.category).sum ≤ 8 := by
    show 2 * 0 + (rest.map fun v => v.category).sum ≤ 8
    rw [Nat.mul_zero, Nat.zero_add]
    exact hcat
  exact nw_after hsub hS hA hP hD (va_runI (As := []) (Ts := []) (maxL := 1) (bytes := b2) ⟨hx, hb, hml, hown, fun _ z => absurd z List.not_mem_nil⟩ hM ⟨⟨hrc, hrs, hf, hlo, ab_pays wd w1 ab_keepC, List.mem_cons_self, wd _ w1 rfl, wd _ w2 rfl, hmh, nw_parn, wd _ w3 rfl⟩, rfl, wd _ w4 rfl⟩ ⟨ab_Pc_blind, fun V hV hW => ⟨rfl, hV, va_K.moved hW.alike hK, ab_SF.moved hW.alike hSFH, ab_CV.warm hW hCV⟩⟩ rfl rfl hls rfl h5 hd ⟨hc, hsl⟩) kk
end CAL
end CTR
theorem nw_df0 : ∀ j, j < 8 → defaultValue ((parseFieldDescriptor (ab_T 0 j).2.2.1).getD .int) = vp_V [.null, .null, .null, .null, .null, .null, .null, .int 0] j := nw_dft (by decide +kernel)
theorem nw_df1 : ∀ j, j < 9 → defaultValue ((parseFieldDescriptor (ab_T 1 j).2.2.1).getD .int) = vp_V [.null, .int 0, .int 0, .int 0, .int 0, .int 0, .int 0, .int 0, .null] j := nw_dft (by decide +kernel)
theorem nw_df2 : ∀ j, j < 13 → defaultValue ((parseFieldDescriptor (ab_T 2 j).2.2.1).getD .int) = vp_V [.int 0, .int 0, .int 0, .int 0, .int 0, .int 0, .int 0, .null, .null, .null, .null, .null, .null] j := nw_dft (by decide +kernel)
theorem nw_df3 : ∀ j, j < 4 → defaultValue ((parseFieldDescriptor (ab_T 3 j).2.2.1).getD .int) = vp_V [.null, .null, .null, .int 0] j := nw_dft (by decide +kernel)
theorem nw_df4 : ∀ j, j < 3 → defaultValue ((parseFieldDescriptor (ab_T 4 j).2.2.1).getD .int) = vp_V [.null, .null, .int 0] j := nw_dft (by decide +kernel)
theorem nw_df5 : ∀ j, j < 2 → defaultValue ((parseFieldDescriptor (ab_T 5 j).2.2.1).getD .int) = vp_V [.null, .int 0] j := nw_dft (by decide +kernel)
theorem nw_df6 : ∀ j, j < 8 → defaultValue ((parseFieldDescriptor (ab_T 6 j).2.2.1).getD .int) = vp_V [.int 0, .int 0, .null, .null, .null, .null, .null, .null] j := nw_dft (by decide +kernel)
theorem nw_df7 : ∀ j, j < 3 → defaultValue ((parseFieldDescriptor (ab_T 7 j).2.2.1).getD .int) = vp_V [.null, .null, .int 0] j := nw_dft (by decide +kernel)
theorem nw_df8 : ∀ j, j < 3 → defaultValue ((parseFieldDescriptor (ab_T 8 j).2.2.1).getD .int) = vp_V [.null, .int 0, .int 0] j := nw_dft (by decide +kernel)
theorem nw_df9 : ∀ j, j < 32 → defaultValue ((parseFieldDescriptor (ab_T 9 j).2.2.1).getD .int) = vp_V [.null, .null, .null, .null, .int 0, .null, .int 0, .int 0, .int 0, .int 0, .int 0, .int 0, .int 0, .int 0, .int 0, .int 0, .int 0, .null, .null, .null, .null, .null, .null, .null, .int 0, .null, .null, .null, .long 0, .null, .null, .null] j := nw_dft (by decide +kernel)
theorem nw_arr {U : State} {cA : ClassId} {ty : FieldType} {args : Array Value} (h : ArrOfT U cA ty) (hf : U.vm.findClass ("[" ++ ty.toString) = some cA) : (Jvm.Cond.arrayClass ty).before args U = true := by
  obtain ⟨-, k, h1, comp, h2⟩ := h 0 (fun _ => .null)
  have h1 : U.vm.classes[cA]? = some k := h1
  unfold Cond.before Cond.holds
  simp only [Cond.value]
  rw [hf, Option.bind_some, h1, Option.map_some, h2]
  simp
/-- with the arrays of trays and towns known -/
def nw_PcM (ra : Nat → Nat → Nat) (fm : Value) (D : va_G) (dA : Nat → ClassId) (B0 : Nat) (X : (Nat → Int32) × Nat) (H : Heap) (as : List Value) : Array Value → State → Prop := fun a U => ab_Pc ra fm D dA B0 X H as a U ∧ va_AO "MovingNames$Tray" U ∧ va_AO "MovingNames$Town" U
theorem nw_PcM_blind {ra : Nat → Nat → Nat} {fm : Value} {D : va_G} {dA : Nat → ClassId} {B0 : Nat} {X : (Nat → Int32) × Nat} {H : Heap} {as : List Value} : FrameBlind (nw_PcM ra fm D dA B0 X H as) := fun a U g mk h => ⟨ab_Pc_blind a U g mk h.1, va_AO.moved (Vm.Alike.refl _) h.2.1, va_AO.moved (Vm.Alike.refl _) h.2.2⟩
section CTM
variable {l : Launch} {ra : Nat → Nat → Nat} {fm : Value} {D : va_G} {dA : Nat → ClassId} {B0 : Nat} {X : (Nat → Int32) × Nat} {H : Heap}
theorem nw_metM {C : String} {b : ByteArray} {q : Nat} {rm : Room} {Qc : Array Value → State → Outcome → State → Prop} {mc ms : Nat} {free : Addr → Prop} (hp : plainName C = true)
    (body : ∀ (p : Program) (e : Env) (U : State) (mt : MethodId) (args : Array Value) (below : List Frame) (meth : Method) (c : Code), nw_CX ra fm D dA B0 X p U mt args meth c C b → va_AO "MovingNames$Tray" U → va_AO "MovingNames$Town" U → U.heap = H → args = ([.ref q] : List Value).toArray → W p l e rm U mt args below meth c H [] 0 0 (MQ below Qc args U mc ms free) (entryFrame mt args 1)) :
    Met l (nw_y C) (ab_ws (nw_w C b)) rm (nw_PcM ra fm D dA B0 X H [.ref q]) Qc mc ms free := by
  refine Met.ofW (cc := b) (maxL := 1) (ret := none) hp rfl ?_
  intro p e s m args below meth c s₁ B hml hP
  obtain ⟨⟨p1, p2, p3, p4, p5⟩, p6, p7⟩ := hP
  have h := body p e s m args below meth c ⟨B.exec, B.bytes, hml, B.returns, B.notSynchronized, findClass_of_methodNamed B.named, (name_of_methodNamed B.named B.method).1, fun w9 hw ho => ?_, p3, by rw [p2]; exact p4, p5⟩ p6 p7 p2 p1
  · rw [p2]
    exact h
  · cases hk : w9.keeps with
    | true => exact atoms_spec (ws := ab_ws (nw_w C b)) B.pre w9 (List.mem_cons_of_mem _ (List.mem_filter.mpr ⟨hw, by rw [ho, hk]; rfl⟩))
    | false => exact va_Nw.use ho (p5.1 w9 hw ho hk)
variable {p : Program} {e : Env} {R : Room} {s : State} {m : MethodId} {args : Array Value} {below : List Frame} {meth : Method} {c : Code} {locs : List Loc} {cells slots : Nat} {Q : State → Prop} {A0 : Nat → Prop} {cc b2 : ByteArray} {own C2 : String} {nL ix pc mc ms q : Nat} {rm2 : Room} {wr : va_W} {ev : va_E} {sh : va_W → Prop} {ls : Array Slot} {rest : List Value}
theorem nw_callM (hx : p.tables.exec = Jvm.exec) (hb : c.code = cc) (hml : c.maxLocals = nL) (hown : s.vm.findClass own = some m.cls) (wd : ∀ w ∈ lw_tbl, w.onTables = true → w.before args s = true) (hK : va_K D ab_cl (ab_ty dA) s) (hSF : ab_SF ra fm X (ab_A B0) s s.heap) (hCV : ab_CV ra s) (hA1 : va_AO "MovingNames$Tray" s) (hA2 : va_AO "MovingNames$Town" s) (hsub : ∀ x, A0 x → ab_A B0 x) (hS : va_S A0 s.heap H locs) (hA : ∀ x, s.heap.size ≤ x → A0 x) (hP : va_P D ab_cl (wr ++ [(q, ev)]) H) (hD : va_D A0 (wr ++ [(q, ev)]))
    (hM : Met l (nw_y C2) (ab_ws (nw_w C2 b2)) rm2 (nw_PcM ra fm D dA B0 X H [.ref q]) (va_Qv sh (fun (u : va_W) t => va_P D ab_cl u t.heap ∧ va_D (va_A [(q, ev)] H.size) u) (va_A [(q, ev)] H.size)) mc ms (va_A [(q, ev)] H.size))
    (w1 : nw_w C2 b2 ∈ lw_tbl) (w2 : Cond.initialized C2 ∈ lw_tbl) (w3 : Cond.methodLink own ix (nw_y C2) ∈ lw_tbl) (w4 : Cond.instanceMethod (nw_y C2) ∈ lw_tbl) (hmh : C2 ≠ "java/lang/invoke/MethodHandle" ∧ C2 ≠ "java/lang/invoke/VarHandle") (hf : rm2.frames + 1 ≤ R.frames) (hlo : 8 + (1 + 11) + rm2.locals ≤ R.locals) (hls : ls.size = nL) (hcat : (rest.map fun v => v.category).sum ≤ 8) (hrc : rm2.cells = mc) (hrs : rm2.slots = ms) (hc : cells + mc ≤ R.cells) (hsl : slots + ms ≤ R.slots) (hd : decode cc pc = .ok (.invokespecial ix, 3))
    (kk : ∀ (u : va_W) (H1 : Heap) (locs1 : List Loc), sh u → va_P D ab_cl (wr ++ u) H1 → va_D A0 (wr ++ u) → va_S A0 s.heap H1 locs1 → W p l e R s m args below meth c H1 locs1 (cells + mc) (slots + ms) Q (F0 m (pc + 3) ls rest)) :
    W p l e R s m args below meth c H locs cells slots Q (F0 m pc ls (.ref q :: rest)) := by
  have hSFH : ab_SF ra fm X (ab_A B0) s H := hSF.kept (fun a h hn => hS.2.1 a h (fun z => hn (hsub a z)))
  have h5 : 2 * (F0 m pc ls (.ref q :: rest)).monitorRoom + (rest.map fun v => v.category).sum ≤ 8 := by
    show 2 * 0 + (rest.map fun v => v.category).sum ≤ 8
    rw [Nat.mul_zero, Nat.zero_add]
    exact hcat
  exact nw_after hsub hS hA hP hD (va_runI (As := []) (Ts := []) (maxL := 1) (bytes := b2) ⟨hx, hb, hml, hown, fun _ z => absurd z List.not_mem_nil⟩ hM ⟨⟨hrc, hrs, hf, hlo, ab_pays wd w1 ab_keepC, List.mem_cons_self, wd _ w1 rfl, wd _ w2 rfl, hmh, nw_parn, wd _ w3 rfl⟩, rfl, wd _ w4 rfl⟩ ⟨nw_PcM_blind, fun V hV hW => ⟨⟨rfl, hV, va_K.moved hW.alike hK, ab_SF.moved hW.alike hSFH, ab_CV.warm hW hCV⟩, va_AO.moved hW.alike hA1, va_AO.moved hW.alike hA2⟩⟩ rfl rfl hls rfl h5 hd ⟨hc, hsl⟩) kk
end CTM
