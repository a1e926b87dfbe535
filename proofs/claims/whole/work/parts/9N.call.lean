section CAL
variable {ra : Nat → Nat → Nat} {fm : Value} {D : va_G} {dA : Nat → ClassId} {B0 : Nat} {X : (Nat → Int32) × Nat}
/-- as P, and where the store s knew of an object it stays -/
def ab_P1 (P : (Nat → Nat → Nat) → Prop) (ρ : Nat → Nat → Nat) (s : ab_S) : (Nat → Nat → Nat) → Prop := fun ρ' => P ρ' ∧ ∀ K i : Nat, ab_dy K = true → i < ab_lim K s → ρ' K i = ρ K i
theorem ab_P1_clo {P : (Nat → Nat → Nat) → Prop} {ρ : Nat → Nat → Nat} {s : ab_S} (h : ab_clo P s) : ab_clo (ab_P1 P ρ s) s := fun ρ1 ρ2 a b => ⟨h ρ1 ρ2 a.1 b, fun K i h1 h2 => (b K i h1 h2).trans (a.2 K i h1 h2)⟩
abbrev ab_rm (d : Nat) (s s1 : ab_S) : Room := { frames := d + 12, locals := 60 * d + 300, cells := sn s1 0 - sn s 0, slots := sn s1 1 - sn s 1 }
theorem ab_entL (hfm : fm.category = 1) {ρ : Nat → Nat → Nat} {s : ab_S} {as : List ab_V} {vs : List Value} {n : Nat} (h : ab_sr ra ρ fm s as vs) (hn : ab_sum as ≤ n) : ab_lr ra ρ fm s (ab_ent n as) n ((lg_sl vs ++ List.replicate (n - (lg_sl vs).length) Slot.unset).toArray) := by
  obtain ⟨h1, h2, h3⟩ := ab_entry hfm h hn
  have q := lv_entry vs (n := n) (by rw [h2]; exact hn)
  refine ⟨q.1, q.2.1, h1, fun i v hi => ?_⟩
  obtain ⟨w, w1, w2⟩ := h3 i v hi
  refine ⟨w, ?_, w2⟩
  rw [List.getElem?_toArray, List.getElem?_append_left (List.getElem?_eq_some_iff.mp w1).1]
  exact w1
theorem ab_body {d a : Nat} {as : List ab_V} {s s1 : ab_S} {o1 : ab_O} (ih : ab_Snd X d a 0 (ab_ent (ab_ml a) as) [] s o1 s1) (hfm : fm = .null ∨ ∃ a : Nat, fm = .ref a) {H : Heap} {ρ : Nat → Nat → Nat} {P : (Nat → Nat → Nat) → Prop} (hρ : P ρ) (hP : ab_clo P s) (hH : ab_HR ra ρ D dA B0 s H) {vs : List Value} (hvs : ab_sr ra ρ fm s as vs) (hn : ab_sum as ≤ ab_ml a) {l : Launch} (p : Program) (e : Env) (U : State) (mt : MethodId) (args : Array Value) (below : List Frame) (meth : Method) (c : Code) (C : ab_CX ra fm D dA B0 X p l U mt args meth c a) (hU : U.heap = H) (ha : args = vs.toArray) :
    W p l e (ab_rm d s s1) U mt args below meth c H [] 0 0 (vx_MQ below (ab_Qc ra fm D dA B0 (ab_P1 P ρ s) o1 s1) (ab_XC ra D dA B0 (ab_P1 P ρ s) o1 s1) args U (sn s1 0 - sn s 0) (sn s1 1 - sn s 1) (ab_A B0)) (entryFrame mt args (ab_ml a)) := by
  have e9 : entryFrame mt args (ab_ml a) = F0 mt 0 ((lg_sl vs ++ List.replicate (ab_ml a - (lg_sl vs).length) Slot.unset).toArray) [] := by rw [ha, lg_entry_eq]
  rw [e9]
  exact ih.2 ra fm D dA B0 p l e (ab_rm d s s1) U mt args below meth c C (Nat.le_refl _) (Nat.le_refl _) (sn s1 0 - sn s 0) (sn s1 1 - sn s 1) 0 0 (by omega) (by omega) (Nat.le_refl _) (Nat.le_refl _) (ab_P1 P ρ s) (ab_P1_clo hP) ρ ⟨hρ, fun _ _ _ _ => rfl⟩ H _ [] [] (ab_entL (ab_fm1 hfm) hvs hn) trivial hH ⟨by rw [hU]; exact Nat.le_refl _, fun q _ _ => by rw [hU], fun z hz => nomatch hz⟩
/-- what follows a call -/
theorem ab_after {p : Program} {l : Launch} {e : Env} {R : Room} {U : State} {mt : MethodId} {args : Array Value} {below : List Frame} {meth : Method} {c : Code} {H : Heap} {locs : List Loc} {cells slots mcA msA pc : Nat} {ls : Array Slot} {st0 rest : List Value} {Q : State → Prop} {P1 : (Nat → Nat → Nat) → Prop} {o1 : ab_O} {s1 : ab_S} {As : Array Value}
    (hrun : vx_Run p l e R U mt args below meth c H locs cells slots mcA msA (F0 mt pc ls st0) rest (ab_Qc ra fm D dA B0 P1 o1 s1 As) (ab_XC ra D dA B0 P1 o1 s1) (ab_A B0)) (hV : va_S (ab_A B0) U.heap H locs)
    (kv : ∀ (v : Option ab_V) (w : Option Value) (ρ : Nat → Nat → Nat) (H1 : Heap) (locs1 : List Loc), o1 = .inl v → P1 ρ → ab_HR ra ρ D dA B0 s1 H1 → va_S (ab_A B0) U.heap H1 locs1 → ab_rv ra ρ fm s1 v w → W p l e R U mt args below meth c H1 locs1 (cells + mcA) (slots + msA) Q (F0 mt (pc + 3) ls (w.toList ++ rest)))
    (kx : ∀ (x : Nat) (q : Addr) (ce : Cell) (ρ : Nat → Nat → Nat) (H1 : Heap) (locs1 : List Loc), o1 = .inr x → P1 ρ → ab_HR ra ρ D dA B0 s1 H1 → va_S (ab_A B0) U.heap H1 locs1 → H1[q]? = some ce → ce.vm = .none → U.vm.findClass (ab_exn x) = some ce.cls → vx_W p l e R U mt args below meth c H1 locs1 (cells + mcA) (slots + msA) Q (F0 mt pc ls rest) q) :
    W p l e R U mt args below meth c H locs cells slots Q (F0 mt pc ls st0) := by
  intro T hT X
  rcases hrun T hT X with ⟨v, st₀, t, T', L, h0, X', hL, e1, e2, ⟨v9, w, ρ', q1, q2, q3, q4, hF, q6⟩, st⟩ | ⟨q, st₀, t, T', L, E, ce, h0, X', hL, e1, e2, ⟨x, ρ', q1, q2, q3, q4, hF⟩, hce, hcv, hcl, st⟩
  · cases q2
    obtain ⟨k1, k2, k3⟩ := vx_keep h0 e1 hV (fun q _ z => z) (fun q z => z) hL hF
    obtain ⟨t2, a1, b1⟩ := kv v9 v ρ' T'.heap (locs ++ L) q1 q3 (by rw [e1]; exact q4) k3 q6 T' rfl X'
    exact ⟨t2, st t2 a1, b1⟩
  · subst q2
    obtain ⟨k1, k2, k3⟩ := vx_keep h0 e1 hV (fun q _ z => z) (fun q z => z) hL hF
    obtain ⟨t2, a1, b1⟩ := kx x q ce ρ' T'.heap (locs ++ L) q1 q3 (by rw [e1]; exact q4) k3 (by rw [e1]; exact hce) hcv hcl T' rfl X'
    exact ⟨t2, st.trans a1, b1⟩
/-- the words that a caller pays -/
theorem ab_pays {args : Array Value} {U : State} (hts : ∀ w ∈ lw_tbl, w.onTables = true → w.before args U = true) {w : Jvm.Cond} (hw : w ∈ lw_tbl) (ho : (w.onTables && w.keeps) = true) : ∀ z ∈ ab_ws w, ∀ (a' : Array Value) (V : State), U.WarmedH V.vm → z.before a' V = true := by
  intro z hz a' V hW
  rcases List.mem_cons.mp hz with rfl | hz
  · exact word_at hW (Or.inl ho) (hts _ hw (by rw [Bool.and_eq_true] at ho; exact ho.1))
  · obtain ⟨h1, h2⟩ := List.mem_filter.mp hz
    exact word_at hW (Or.inl h2) (hts _ h1 (by rw [Bool.and_eq_true] at h2; exact h2.1))
theorem ab_parn {a : Nat} (h : (parseMethodDescriptor (ab_nm a).desc).map (fun d => d.parameters.length) = some (ab_np a)) : ∀ sig, parseMethodDescriptor (ab_nm a).desc = some sig → ab_np a = sig.parameters.length := by
  intro sig e
  rw [e] at h
  exact (Option.some.inj h).symm
theorem ab_ml41 {a : Nat} (h : a < 360) : ab_ml a ≤ 41 := by
  have q := List.all_eq_true.mp ab_ml_ok a (List.mem_range.mpr h)
  simpa using q
end CAL
theorem ab_keepC {y : MethodName} {b : ByteArray} {n : Nat} {r : Option FieldType} : ((Cond.code y b n r).onTables && (Cond.code y b n r).keeps) = true := by first | rfl | simp [Cond.onTables, Cond.keeps, Cond.steady]
theorem ab_keepH {y : MethodName} {b : ByteArray} {n : Nat} {r : Option FieldType} {h : List (Nat × Nat × Nat × Nat)} : ((Cond.codeWith y b n r h).onTables && (Cond.codeWith y b n r h).keeps) = true := by first | rfl | simp [Cond.onTables, Cond.keeps, Cond.steady]
theorem ab_nat1 {d R : Nat} (h : d + 13 ≤ R) : d + 12 + 1 ≤ R := h
set_option maxRecDepth 100000 in
theorem ab_nat2 {d R n : Nat} (h : 60 * d + 360 ≤ R) (hn : n ≤ 41) : 8 + (n + 11) + (60 * d + 300) ≤ R := by omega
theorem ab_selT : (List.range 360).all (fun m => !Nat.beq (ab_kd m) 0 || ab_has (ab_2 ab_iT m (0, 0, 0, 0)).2.2.1 (.selects (ab_nm m).cls (ab_nm m) (ab_nm m))) = true := by decide +kernel
theorem ab_kds10 {k : Nat} (h : k < 10) : ∃ (ci : Nat) (fs : List (Nat × Nat × Nat)), ab_kds[k]? = some (.inl (ci, fs)) := by
  rcases (show k = 0 ∨ k = 1 ∨ k = 2 ∨ k = 3 ∨ k = 4 ∨ k = 5 ∨ k = 6 ∨ k = 7 ∨ k = 8 ∨ k = 9 by omega) with rfl | rfl | rfl | rfl | rfl | rfl | rfl | rfl | rfl | rfl <;> exact ⟨_, _, rfl⟩
section CAR
variable {ra ρ : Nat → Nat → Nat} {fm : Value} {D : va_G} {dA : Nat → ClassId} {B0 : Nat} {X : (Nat → Int32) × Nat}
theorem ab_receiver {a k i : Nat} {as : List ab_V} {s : ab_S} {w : Value} {U : State} {H : Heap} (ha : a < 360) (hk : ab_kd a = 0) (hrk : Nat.beq k (ab_2 ab_rkT a 99) = true) (hw : ab_vr ra ρ fm s (.inr (k, i)) w) (hKK : va_K D ab_cl (ab_ty dA) U) (hH : ab_HR ra ρ D dA B0 s H) (hSF : ab_SF ra fm X (ab_A B0) U H) : ∃ b : Addr, w = .ref b ∧ ∃ cellB : Cell, H[b]? = some cellB ∧ cellB.vm.isStatics = false ∧ U.vm.findClass (ab_nm a).cls = some cellB.cls := by
  obtain rfl := Nat.eq_of_beq_eq_true hrk
  have q := List.all_eq_true.mp ab_rk_tab a (List.mem_range.mpr ha)
  rw [hk] at q
  simp only [Bool.or_eq_true, Bool.and_eq_true, Nat.blt_eq, Nat.beq_eq, decide_eq_true_eq] at q
  generalize ab_2 ab_rkT a 99 = k at q hw
  rcases q with ((⟨h1, h2⟩ | ⟨rfl, h2⟩) | ⟨rfl, h2⟩)
  · obtain ⟨ci, fs, hk9⟩ := ab_kds10 h1
    obtain ⟨hi, rfl⟩ := ab_vr_get (by omega) hw
    obtain ⟨q0, hq⟩ := ab_ob_at ((ab_obj_k hk9).2 h1) hi
    obtain ⟨rfl, Cn, hcl⟩ := ab_cls hk9 h1
    obtain ⟨cell, c1, c2, c3⟩ := va_recv hKK hH.1 hcl (ab_wd_obj (ra := ra) (ρ := ρ) (dA := dA) hk9 hq)
    refine ⟨_, rfl, cell, c1, c2, ?_⟩
    rw [hcl] at h2
    obtain rfl : Cn = (ab_nm a).cls := Option.some.inj h2
    exact c3
  · obtain ⟨hi, rfl⟩ := ab_vr_get (by decide) hw
    obtain ⟨cell, c1, c2, c3, -⟩ := (hSF.1 i hi).1
    exact ⟨_, rfl, cell, c1, c2, by rw [h2]; exact c3⟩
  · obtain ⟨hi, rfl⟩ := ab_vr_get (by decide) hw
    obtain ⟨cell, c1, c2, c3, -⟩ := (hSF.2.2.2.1 i hi).1
    exact ⟨_, rfl, cell, c1, c2, by rw [h2]; exact c3⟩
theorem ab_runV {d m pc a x : Nat} {as : List ab_V} {s s1 : ab_S} {o1 : ab_O} {p : Program} {l : Launch} {e : Env} {R : Room} {U : State} {mt : MethodId} {args : Array Value} {below : List Frame} {meth : Method} {c : Code} {H : Heap} {locs : List Loc} {cells slots : Nat} {ls : Array Slot} {rest vs : List Value} {P : (Nat → Nat → Nat) → Prop}
    (C : ab_CX ra fm D dA B0 X p l U mt args meth c m) (ha : a < 360) (hk : ab_kd a = 0) (ih : ab_Snd X d a 0 (ab_ent (ab_ml a) as) [] s o1 s1) (hfr : d + 13 ≤ R.frames) (hlo : 60 * d + 360 ≤ R.locals) (hρ : P ρ) (hP : ab_clo P s) (hH : ab_HR ra ρ D dA B0 s H) (hV : va_S (ab_A B0) U.heap H locs) (hvs : ab_sr ra ρ fm s as vs) (hn : ab_sum as ≤ ab_ml a) (hlen : as.length = ab_np a + 1) (hrk : ab_rk (ab_2 ab_rkT a 99) as = true) (hls : ls.size = c.maxLocals) (hrest : (rest.map fun v => v.category).sum ≤ 8) (hc1 : cells + (sn s1 0 - sn s 0) ≤ R.cells) (hc2 : slots + (sn s1 1 - sn s 1) ≤ R.slots)
    (hlink : Cond.methodLink (ab_cnm (ab_ow m)) x (ab_nm a) ∈ lw_tbl) (hd : decode (ab_by m) pc = .ok (.invokevirtual x, 3)) :
    vx_Run p l e R U mt args below meth c H locs cells slots (sn s1 0 - sn s 0) (sn s1 1 - sn s 1) (F0 mt pc ls (vs.reverse ++ rest)) rest (ab_Qc ra fm D dA B0 (ab_P1 P ρ s) o1 s1 vs.toArray) (ab_XC ra D dA B0 (ab_P1 P ρ s) o1 s1) (ab_A B0) := by
  obtain ⟨hx, hlt, hb, hml, hr, hlk, hown, htb, hts, hB, hKK, hSF, hCV, hfm⟩ := C
  obtain ⟨ini, plain, mh, par, own, kind⟩ := ab_mt ha
  have hSFH : ab_SF ra fm X (ab_A B0) U H := hSF.kept hV.2.1
  have hBH : B0 ≤ H.size := Nat.le_trans hB hV.1
  obtain ⟨-, hcode, hh, hinst, -⟩ : ab_kd a = 0 ∧ Cond.code (ab_nm a) (ab_by a) (ab_ml a) (ab_fty a) ∈ lw_tbl ∧ ab_hw a = [] ∧ Cond.instanceMethod (ab_nm a) ∈ lw_tbl ∧ True := by
    rcases kind with ⟨a1, a2, a3, a4, -⟩ | ⟨a1, -⟩ | ⟨a1, -⟩
    · exact ⟨a1, a2, a3, a4, trivial⟩
    · omega
    · omega
  have hsel : Cond.selects (ab_nm a).cls (ab_nm a) (ab_nm a) ∈ lw_tbl := by
    have q := List.all_eq_true.mp ab_selT a (List.mem_range.mpr ha)
    rw [hk] at q
    exact ab_has_in q
  have h41 := ab_ml41 ha
  have hM := ab_metC (D := D) (dA := dA) (X := X) (as := vs) (rm := ab_rm d s s1) (Qc := ab_Qc ra fm D dA B0 (ab_P1 P ρ s) o1 s1) (XC := ab_XC ra D dA B0 (ab_P1 P ρ s) o1 s1) (mc := sn s1 0 - sn s 0) (ms := sn s1 1 - sn s 1) ha hh hlt hBH hfm (fun p e U mt args below meth c C hU ha9 => ab_body ih hfm hρ hP hH hvs hn p e U mt args below meth c C hU ha9)
  have hrk9 : ∃ (k i : Nat) (as' : List ab_V), as = .inr (k, i) :: as' ∧ Nat.beq k (ab_2 ab_rkT a 99) = true := by
    have q := List.all_eq_true.mp ab_rk_tab a (List.mem_range.mpr ha)
    rw [hk] at q
    simp only [Bool.or_eq_true, Bool.and_eq_true, Nat.blt_eq, Nat.beq_eq, decide_eq_true_eq] at q
    unfold ab_rk at hrk
    have hne : Nat.beq (ab_2 ab_rkT a 99) 99 = false := ab_nb (by omega)
    rw [hne, cond_false] at hrk
    split at hrk
    · exact ⟨_, _, _, rfl, hrk⟩
    · cases hrk
  obtain ⟨k, i, as', rfl, hk9⟩ := hrk9
  obtain ⟨w, vs', rfl, hw, hvs'⟩ := ab_sr_cons hvs
  obtain ⟨b, rfl, hcell⟩ := ab_receiver (as := as') ha hk hk9 hw hKK hH hSFH
  have hl9 : vs'.length = ab_np a := by
    have q := ab_sr_len hvs'
    rw [List.length_cons] at hlen
    omega
  have h1 : (ab_rm d s s1).frames + 1 ≤ R.frames := by
    exact ab_nat1 hfr
  have h2 : 8 + (ab_ml a + 11) + (ab_rm d s s1).locals ≤ R.locals := by
    exact ab_nat2 hlo h41
  have h3 := ab_pays hts hcode ab_keepC
  have h5 : 2 * (F0 mt pc ls ((Value.ref b :: vs').reverse ++ rest)).monitorRoom + (rest.map fun v => v.category).sum ≤ 8 := by
    show 2 * 0 + (rest.map fun v => v.category).sum ≤ 8
    rw [Nat.mul_zero, Nat.zero_add]
    exact hrest
  have h6 : (Value.ref b :: vs').reverse ++ rest = vs'.reverse ++ .ref b :: rest := by rw [List.reverse_cons, List.append_assoc]; rfl
  exact vx_runV (cc := ab_by m) (nL := c.maxLocals) (Ts := []) (own := ab_cnm (ab_ow m)) (C := (ab_nm a).cls) (index := x) (As := vs') (b := b) (n := ab_np a) (maxL := ab_ml a) (bytes := ab_by a) (ret := ab_fty a) ⟨hx, hb, rfl, hown, fun _ z => nomatch z⟩ hM ⟨⟨rfl, rfl, h1, h2, h3, List.mem_cons_self, hts _ hcode rfl, hts _ ini rfl, mh, ab_parn par, hts _ hlink rfl⟩, hts _ hinst rfl, hts _ hsel rfl⟩ ⟨ab_Pc_blind, hcell, fun V hV1 hW => ⟨rfl, hV1, va_K.moved hW.alike hKK, ab_SF.moved hW.alike hSFH, ab_CV.warm hW hCV⟩⟩ rfl hl9 hls h6 h5 hd ⟨hc1, hc2⟩
theorem ab_runS {d m pc a x : Nat} {as : List ab_V} {s s1 : ab_S} {o1 : ab_O} {p : Program} {l : Launch} {e : Env} {R : Room} {U : State} {mt : MethodId} {args : Array Value} {below : List Frame} {meth : Method} {c : Code} {H : Heap} {locs : List Loc} {cells slots : Nat} {ls : Array Slot} {rest vs : List Value} {P : (Nat → Nat → Nat) → Prop}
    (C : ab_CX ra fm D dA B0 X p l U mt args meth c m) (ha : a < 360) (hk : ab_kd a = 1) (ih : ab_Snd X d a 0 (ab_ent (ab_ml a) as) [] s o1 s1) (hfr : d + 13 ≤ R.frames) (hlo : 60 * d + 360 ≤ R.locals) (hρ : P ρ) (hP : ab_clo P s) (hH : ab_HR ra ρ D dA B0 s H) (hV : va_S (ab_A B0) U.heap H locs) (hvs : ab_sr ra ρ fm s as vs) (hn : ab_sum as ≤ ab_ml a) (hlen : as.length = ab_np a) (hls : ls.size = c.maxLocals) (hrest : (rest.map fun v => v.category).sum ≤ 8) (hc1 : cells + (sn s1 0 - sn s 0) ≤ R.cells) (hc2 : slots + (sn s1 1 - sn s 1) ≤ R.slots)
    (hlink : Cond.methodLink (ab_cnm (ab_ow m)) x (ab_nm a) ∈ lw_tbl) (hd : decode (ab_by m) pc = .ok (.invokestatic x, 3)) :
    vx_Run p l e R U mt args below meth c H locs cells slots (sn s1 0 - sn s 0) (sn s1 1 - sn s 1) (F0 mt pc ls (vs.reverse ++ rest)) rest (ab_Qc ra fm D dA B0 (ab_P1 P ρ s) o1 s1 vs.toArray) (ab_XC ra D dA B0 (ab_P1 P ρ s) o1 s1) (ab_A B0) := by
  obtain ⟨hx, hlt, hb, hml, hr, hlk, hown, htb, hts, hB, hKK, hSF, hCV, hfm⟩ := C
  obtain ⟨ini, plain, mh, par, own, kind⟩ := ab_mt ha
  have hSFH : ab_SF ra fm X (ab_A B0) U H := hSF.kept hV.2.1
  have hBH : B0 ≤ H.size := Nat.le_trans hB hV.1
  obtain ⟨hcode, hh, hstat⟩ : Cond.code (ab_nm a) (ab_by a) (ab_ml a) (ab_fty a) ∈ lw_tbl ∧ ab_hw a = [] ∧ Cond.static (ab_nm a) ∈ lw_tbl := by
    rcases kind with ⟨a1, -⟩ | ⟨a1, a2, a3, a4⟩ | ⟨a1, -⟩
    · omega
    · exact ⟨a2, a3, a4⟩
    · omega
  have h41 := ab_ml41 ha
  have hM := ab_metC (D := D) (dA := dA) (X := X) (as := vs) (rm := ab_rm d s s1) (Qc := ab_Qc ra fm D dA B0 (ab_P1 P ρ s) o1 s1) (XC := ab_XC ra D dA B0 (ab_P1 P ρ s) o1 s1) (mc := sn s1 0 - sn s 0) (ms := sn s1 1 - sn s 1) ha hh hlt hBH hfm (fun p e U mt args below meth c C hU ha9 => ab_body ih hfm hρ hP hH hvs hn p e U mt args below meth c C hU ha9)
  have hl9 : vs.length = ab_np a := (ab_sr_len hvs).symm.trans hlen
  have h1 : (ab_rm d s s1).frames + 1 ≤ R.frames := by
    exact ab_nat1 hfr
  have h2 : 8 + (ab_ml a + 11) + (ab_rm d s s1).locals ≤ R.locals := by
    exact ab_nat2 hlo h41
  have h3 := ab_pays hts hcode ab_keepC
  have h5 : 2 * (F0 mt pc ls (vs.reverse ++ rest)).monitorRoom + (rest.map fun v => v.category).sum ≤ 8 := by
    show 2 * 0 + (rest.map fun v => v.category).sum ≤ 8
    rw [Nat.mul_zero, Nat.zero_add]
    exact hrest
  exact vx_runS (cc := ab_by m) (nL := c.maxLocals) (Ts := []) (own := ab_cnm (ab_ow m)) (index := x) (As := vs) (n := ab_np a) (maxL := ab_ml a) (bytes := ab_by a) (ret := ab_fty a) ⟨hx, hb, rfl, hown, fun _ z => nomatch z⟩ hM ⟨⟨rfl, rfl, h1, h2, h3, List.mem_cons_self, hts _ hcode rfl, hts _ ini rfl, mh, ab_parn par, hts _ hlink rfl⟩, hts _ hstat rfl⟩ ⟨ab_Pc_blind, fun V hV1 hW => ⟨rfl, hV1, va_K.moved hW.alike hKK, ab_SF.moved hW.alike hSFH, ab_CV.warm hW hCV⟩⟩ rfl hl9 hls rfl h5 hd ⟨hc1, hc2⟩
theorem ab_runSN {d m pc a x : Nat} {as : List ab_V} {s s1 : ab_S} {o1 : ab_O} {p : Program} {l : Launch} {e : Env} {R : Room} {U : State} {mt : MethodId} {args : Array Value} {below : List Frame} {meth : Method} {c : Code} {H : Heap} {locs : List Loc} {cells slots : Nat} {ls : Array Slot} {rest vs : List Value} {P : (Nat → Nat → Nat) → Prop}
    (C : ab_CX ra fm D dA B0 X p l U mt args meth c m) (ha : a < 360) (hk : ab_kd a = 1) (ih : ab_Snd X d a 0 (ab_ent (ab_ml a) as) [] s o1 s1) (hfr : d + 13 ≤ R.frames) (hlo : 60 * d + 360 ≤ R.locals) (hρ : P ρ) (hP : ab_clo P s) (hH : ab_HR ra ρ D dA B0 s H) (hV : va_S (ab_A B0) U.heap H locs) (hvs : ab_sr ra ρ fm s as vs) (hn : ab_sum as ≤ ab_ml a) (hlen : as.length = ab_np a) (hls : ls.size = c.maxLocals) (hrest : (rest.map fun v => v.category).sum ≤ 8) (hc1 : cells + (sn s1 0 - sn s 0) ≤ R.cells) (hc2 : slots + (sn s1 1 - sn s 1) ≤ R.slots)
    (hlink : Cond.methodLinkNest (ab_cnm (ab_ow m)) x (ab_nm a) "MovingNames" ∈ lw_tbl) (hd : decode (ab_by m) pc = .ok (.invokestatic x, 3)) :
    vx_Run p l e R U mt args below meth c H locs cells slots (sn s1 0 - sn s 0) (sn s1 1 - sn s 1) (F0 mt pc ls (vs.reverse ++ rest)) rest (ab_Qc ra fm D dA B0 (ab_P1 P ρ s) o1 s1 vs.toArray) (ab_XC ra D dA B0 (ab_P1 P ρ s) o1 s1) (ab_A B0) := by
  obtain ⟨hx, hlt, hb, hml, hr, hlk, hown, htb, hts, hB, hKK, hSF, hCV, hfm⟩ := C
  obtain ⟨ini, plain, mh, par, own, kind⟩ := ab_mt ha
  have hSFH : ab_SF ra fm X (ab_A B0) U H := hSF.kept hV.2.1
  have hBH : B0 ≤ H.size := Nat.le_trans hB hV.1
  obtain ⟨hcode, hh, hstat⟩ : Cond.code (ab_nm a) (ab_by a) (ab_ml a) (ab_fty a) ∈ lw_tbl ∧ ab_hw a = [] ∧ Cond.static (ab_nm a) ∈ lw_tbl := by
    rcases kind with ⟨a1, -⟩ | ⟨a1, a2, a3, a4⟩ | ⟨a1, -⟩
    · omega
    · exact ⟨a2, a3, a4⟩
    · omega
  have h41 := ab_ml41 ha
  have hM := ab_metC (D := D) (dA := dA) (X := X) (as := vs) (rm := ab_rm d s s1) (Qc := ab_Qc ra fm D dA B0 (ab_P1 P ρ s) o1 s1) (XC := ab_XC ra D dA B0 (ab_P1 P ρ s) o1 s1) (mc := sn s1 0 - sn s 0) (ms := sn s1 1 - sn s 1) ha hh hlt hBH hfm (fun p e U mt args below meth c C hU ha9 => ab_body ih hfm hρ hP hH hvs hn p e U mt args below meth c C hU ha9)
  have hl9 : vs.length = ab_np a := (ab_sr_len hvs).symm.trans hlen
  have h1 : (ab_rm d s s1).frames + 1 ≤ R.frames := by
    exact ab_nat1 hfr
  have h2 : 8 + (ab_ml a + 11) + (ab_rm d s s1).locals ≤ R.locals := by
    exact ab_nat2 hlo h41
  have h3 := ab_pays hts hcode ab_keepC
  have h5 : 2 * (F0 mt pc ls (vs.reverse ++ rest)).monitorRoom + (rest.map fun v => v.category).sum ≤ 8 := by
    show 2 * 0 + (rest.map fun v => v.category).sum ≤ 8
    rw [Nat.mul_zero, Nat.zero_add]
    exact hrest
  exact vx_runSN (host := "MovingNames") (cc := ab_by m) (nL := c.maxLocals) (Ts := []) (own := ab_cnm (ab_ow m)) (index := x) (As := vs) (n := ab_np a) (maxL := ab_ml a) (bytes := ab_by a) (ret := ab_fty a) ⟨hx, hb, rfl, hown, fun _ z => nomatch z⟩ hM ⟨⟨⟨rfl, rfl, h1, h2, h3, List.mem_cons_self⟩, hts _ hcode rfl, hts _ ini rfl, mh, ab_parn par, hts _ hlink rfl⟩, hts _ hstat rfl, trivial⟩ ⟨ab_Pc_blind, fun V hV1 hW => ⟨rfl, hV1, va_K.moved hW.alike hKK, ab_SF.moved hW.alike hSFH, ab_CV.warm hW hCV⟩⟩ rfl hl9 hls rfl h5 hd ⟨hc1, hc2⟩
theorem ab_runSX {d m pc a x : Nat} {as : List ab_V} {s s1 : ab_S} {o1 : ab_O} {p : Program} {l : Launch} {e : Env} {R : Room} {U : State} {mt : MethodId} {args : Array Value} {below : List Frame} {meth : Method} {c : Code} {H : Heap} {locs : List Loc} {cells slots : Nat} {ls : Array Slot} {rest vs : List Value} {P : (Nat → Nat → Nat) → Prop}
    (C : ab_CX ra fm D dA B0 X p l U mt args meth c m) (ha : a < 360) (hk : ab_kd a = 2) (ih : ab_Snd X d a 0 (ab_ent (ab_ml a) as) [] s o1 s1) (hfr : d + 13 ≤ R.frames) (hlo : 60 * d + 360 ≤ R.locals) (hρ : P ρ) (hP : ab_clo P s) (hH : ab_HR ra ρ D dA B0 s H) (hV : va_S (ab_A B0) U.heap H locs) (hvs : ab_sr ra ρ fm s as vs) (hn : ab_sum as ≤ ab_ml a) (hlen : as.length = ab_np a) (hls : ls.size = c.maxLocals) (hrest : (rest.map fun v => v.category).sum ≤ 8) (hc1 : cells + (sn s1 0 - sn s 0) ≤ R.cells) (hc2 : slots + (sn s1 1 - sn s 1) ≤ R.slots)
    (hlink : Cond.methodLink (ab_cnm (ab_ow m)) x (ab_nm a) ∈ lw_tbl) (hd : decode (ab_by m) pc = .ok (.invokestatic x, 3)) :
    vx_Run p l e R U mt args below meth c H locs cells slots (sn s1 0 - sn s 0) (sn s1 1 - sn s 1) (F0 mt pc ls (vs.reverse ++ rest)) rest (ab_Qc ra fm D dA B0 (ab_P1 P ρ s) o1 s1 vs.toArray) (ab_XC ra D dA B0 (ab_P1 P ρ s) o1 s1) (ab_A B0) := by
  obtain ⟨hx, hlt, hb, hml, hr, hlk, hown, htb, hts, hB, hKK, hSF, hCV, hfm⟩ := C
  obtain ⟨ini, plain, mh, par, own, kind⟩ := ab_mt ha
  have hSFH : ab_SF ra fm X (ab_A B0) U H := hSF.kept hV.2.1
  have hBH : B0 ≤ H.size := Nat.le_trans hB hV.1
  obtain ⟨hcode, hstat⟩ : Cond.codeWith (ab_nm a) (ab_by a) (ab_ml a) (ab_fty a) (ab_hw a) ∈ lw_tbl ∧ Cond.static (ab_nm a) ∈ lw_tbl := by
    rcases kind with ⟨a1, -⟩ | ⟨a1, -⟩ | ⟨a1, a2, a3⟩
    · omega
    · omega
    · exact ⟨a2, a3⟩
  have h41 := ab_ml41 ha
  have hM := ab_metH (D := D) (dA := dA) (X := X) (as := vs) (rm := ab_rm d s s1) (Qc := ab_Qc ra fm D dA B0 (ab_P1 P ρ s) o1 s1) (XC := ab_XC ra D dA B0 (ab_P1 P ρ s) o1 s1) (mc := sn s1 0 - sn s 0) (ms := sn s1 1 - sn s 1) ha hlt hBH hfm (fun p e U mt args below meth c C hU ha9 => ab_body ih hfm hρ hP hH hvs hn p e U mt args below meth c C hU ha9)
  have hl9 : vs.length = ab_np a := (ab_sr_len hvs).symm.trans hlen
  have h1 : (ab_rm d s s1).frames + 1 ≤ R.frames := by
    exact ab_nat1 hfr
  have h2 : 8 + (ab_ml a + 11) + (ab_rm d s s1).locals ≤ R.locals := by
    exact ab_nat2 hlo h41
  have h3 := ab_pays hts hcode ab_keepH
  have h5 : 2 * (F0 mt pc ls (vs.reverse ++ rest)).monitorRoom + (rest.map fun v => v.category).sum ≤ 8 := by
    show 2 * 0 + (rest.map fun v => v.category).sum ≤ 8
    rw [Nat.mul_zero, Nat.zero_add]
    exact hrest
  exact vx_runSX (hh := ab_hw a) (cc := ab_by m) (nL := c.maxLocals) (Ts := []) (own := ab_cnm (ab_ow m)) (index := x) (As := vs) (n := ab_np a) (maxL := ab_ml a) (bytes := ab_by a) (ret := ab_fty a) ⟨hx, hb, rfl, hown, fun _ z => nomatch z⟩ hM ⟨⟨rfl, rfl, h1, h2, h3, List.mem_cons_self⟩, hts _ hcode rfl, hts _ ini rfl, mh, ab_parn par, hts _ hlink rfl, hts _ hstat rfl⟩ ⟨ab_Pc_blind, fun V hV1 hW => ⟨rfl, hV1, va_K.moved hW.alike hKK, ab_SF.moved hW.alike hSFH, ab_CV.warm hW hCV⟩⟩ rfl hl9 hls rfl h5 hd ⟨hc1, hc2⟩
end CAR
