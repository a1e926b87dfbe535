section OP2
variable {X : (Nat → Int32) × Nat}
theorem ab_ml_row {o x a : Nat} (h : ab_isl ab_ml_ o x a = true) : a < 360 ∧ (Cond.methodLink (ab_cnm o) x (ab_nm a) ∈ lw_tbl ∨ (Cond.methodLinkNest (ab_cnm o) x (ab_nm a) "MovingNames" ∈ lw_tbl ∧ ab_kd a = 1)) := by
  obtain ⟨t, ht⟩ := ab_isl_in h
  have q := List.all_eq_true.mp ab_mls _ ht
  rcases t with _ | ⟨k, t⟩
  · cases q
  · rcases t with _ | ⟨w, t⟩
    · rcases k with _ | _ | k <;> cases q
    · rcases t with _ | ⟨z, t⟩
      · rcases k with _ | _ | k
        · have q2 : (ab_has w (.methodLink (ab_cnm o) x (ab_nm a)) && Nat.blt a 360) = true := q
          rw [Bool.and_eq_true, Nat.blt_eq] at q2
          exact ⟨q2.2, Or.inl (ab_has_in q2.1)⟩
        · have q2 : (ab_has w (.methodLinkNest (ab_cnm o) x (ab_nm a) "MovingNames") && Nat.blt a 360 && Nat.beq (ab_kd a) 1) = true := q
          simp only [Bool.and_eq_true, Nat.blt_eq, Nat.beq_eq] at q2
          exact ⟨q2.1.2, Or.inr ⟨ab_has_in q2.1.1, q2.2⟩⟩
        · cases q
      · rcases k with _ | _ | k <;> cases q
/-- a call's run, from every state that is as the abstract one -/
def ab_RN (X : (Nat → Int32) × Nat) (d m pc : Nat) (as : List ab_V) (s : ab_S) (o1 : ab_O) (s1 : ab_S) : Prop :=
  ∀ (ra : Nat → Nat → Nat) (fm : Value) (D : va_G) (dA : Nat → ClassId) (B0 : Nat) (p : Program) (l : Launch) (e : Env) (R : Room) (U : State) (mt : MethodId) (args : Array Value) (below : List Frame) (meth : Method) (c : Code) (H : Heap) (locs : List Loc) (cells slots : Nat) (ls : Array Slot) (rest vs : List Value) (P : (Nat → Nat → Nat) → Prop) (ρ : Nat → Nat → Nat), ab_CX ra fm D dA B0 X p l U mt args meth c m → d + 13 ≤ R.frames → 60 * d + 360 ≤ R.locals → P ρ → ab_clo P s → ab_HR ra ρ D dA B0 s H → va_S (ab_A B0) U.heap H locs → ab_sr ra ρ fm s as vs → ls.size = c.maxLocals → (rest.map fun v => v.category).sum ≤ 8 → cells + (sn s1 0 - sn s 0) ≤ R.cells → slots + (sn s1 1 - sn s 1) ≤ R.slots →
    vx_Run p l e R U mt args below meth c H locs cells slots (sn s1 0 - sn s 0) (sn s1 1 - sn s 1) (F0 mt pc ls (vs.reverse ++ rest)) rest (ab_Qc ra fm D dA B0 (ab_P1 P ρ s) o1 s1 vs.toArray) (ab_XC ra D dA B0 (ab_P1 P ρ s) o1 s1) (ab_A B0)
theorem ab_okD {m pc n op a : Nat} {b : Int} (h : ab_okE m (pc, .inr (op, a, b), n) = true) : ∃ (I : Instr) (k : Nat), decode (ab_by m) pc = .ok (I, k) := by
  unfold ab_okE at h
  split at h
  · exact ⟨_, _, by assumption⟩
  · cases h
theorem ab_rn {d m pc a n : Nat} {b : Int} {as : List ab_V} {s s1 : ab_S} {o1 : ab_O} (hok : ab_okE m (pc, .inr (2, a, b), n) = true) (hlen : as.length = b.toNat) (hn : ab_sum as ≤ ab_ml a) (hrk : ab_rk (ab_2 ab_rkT a 99) as = true) (ih : ab_Snd X d a 0 (ab_ent (ab_ml a) as) [] s o1 s1) : n = 3 ∧ ab_RN X d m pc as s o1 s1 := by
  obtain ⟨I, k, hd⟩ := ab_okD hok
  unfold ab_okE at hok
  have hd9 : decode (ab_by m) (pc, (Sum.inr (2, a, b) : ab_I), n).1 = .ok (I, k) := hd
  rw [hd9] at hok
  clear hd9
  cases I <;> first | (cases ((Bool.and_false _).symm.trans hok); done) | skip
  · rename_i x
    have h9 : (Nat.beq k 3 && Nat.beq n 3 && Nat.beq b.toNat (ab_np a + (if ab_kd a = 0 then 1 else 0)) && (ab_isl ab_ml_ (ab_ow m) x a && !Nat.beq (ab_kd a) 0)) = true := hok
    clear hok
    rw [Bool.and_eq_true, Bool.and_eq_true, Bool.and_eq_true, Bool.and_eq_true, Nat.beq_eq, Nat.beq_eq, Nat.beq_eq, Bool.not_eq_true'] at h9
    obtain ⟨⟨⟨rfl, rfl⟩, hb⟩, h1, h2⟩ := h9
    refine ⟨rfl, ?_⟩
    have h2 : ¬ ab_kd a = 0 := fun z => by rw [z] at h2; cases h2
    obtain ⟨ha, hl⟩ := ab_ml_row h1
    rw [if_neg h2, Nat.add_zero] at hb
    have hk : ab_kd a = 1 ∨ ab_kd a = 2 := by
      obtain ⟨-, -, -, -, -, kind⟩ := ab_mt ha
      rcases kind with ⟨q, -⟩ | ⟨q, -⟩ | ⟨q, -⟩
      · exact absurd q h2
      · exact Or.inl q
      · exact Or.inr q
    intro ra fm D dA B0 p l e R U mt args below meth c H locs cells slots ls rest vs P ρ C hfr hlo hρ hP hH hV hvs hls hrest hc1 hc2
    rcases hl with hl | ⟨hl, hk1⟩
    · rcases hk with hk | hk
      · exact ab_runS C ha hk ih hfr hlo hρ hP hH hV hvs hn (hlen.trans hb) hls hrest hc1 hc2 hl hd
      · exact ab_runSX C ha hk ih hfr hlo hρ hP hH hV hvs hn (hlen.trans hb) hls hrest hc1 hc2 hl hd
    · exact ab_runSN C ha hk1 ih hfr hlo hρ hP hH hV hvs hn (hlen.trans hb) hls hrest hc1 hc2 hl hd
  · rename_i x
    have h9 : (Nat.beq k 3 && Nat.beq n 3 && Nat.beq b.toNat (ab_np a + (if ab_kd a = 0 then 1 else 0)) && (ab_isl ab_ml_ (ab_ow m) x a && Nat.beq (ab_kd a) 0 && !Nat.beq (ab_2 ab_iT a (0, 0, 0, 0)).2.2.1 1000000)) = true := hok
    clear hok
    simp only [Bool.and_eq_true, Nat.beq_eq] at h9
    obtain ⟨⟨⟨rfl, rfl⟩, hb⟩, ⟨h1, h2⟩, -⟩ := h9
    refine ⟨rfl, ?_⟩
    obtain ⟨ha, hl⟩ := ab_ml_row h1
    rw [if_pos h2] at hb
    intro ra fm D dA B0 p l e R U mt args below meth c H locs cells slots ls rest vs P ρ C hfr hlo hρ hP hH hV hvs hls hrest hc1 hc2
    rcases hl with hl | ⟨-, hl⟩
    · exact ab_runV C ha h2 ih hfr hlo hρ hP hH hV hvs hn (hlen.trans hb) hrk hls hrest hc1 hc2 hl hd
    · rw [h2] at hl
      cases hl
theorem ab_let_pass {m E pc : Nat} {ra : Nat → Nat → Nat} {U : State} {args : Array Value} (hE : E < 4) (hts : ∀ w ∈ lw_tbl, w.onTables = true → w.before args U = true) (hCV : ab_CV ra U) {z : ExceptionTableEntry} (h : ab_lets (ab_ow m) pc E z) : covers z pc = false ∨ (z.catchType ≠ 0 ∧ ∃ nm : String, (Cond.classLink (ab_cnm (ab_ow m)) z.catchType nm).before args U = true ∧ va_Nc (ab_exn E) nm U) := by
  rcases h with h | ⟨h1, e, h2, h3, h4⟩
  · exact Or.inl h
  · refine Or.inr ⟨h1, ab_exn e, hts _ h4 rfl, ?_⟩
    have q := List.all_eq_true.mp (List.all_eq_true.mp ab_ncsT E (List.mem_range.mpr hE)) e (List.mem_range.mpr h2)
    rw [Bool.or_eq_true, Nat.beq_eq] at q
    rcases q with q | q
    · exact absurd q h3
    · obtain ⟨z9, hz, ez⟩ := List.any_eq_true.mp q
      obtain rfl := of_decide_eq_true ez
      exact hCV.2.2.2 _ hz
/-- what is thrown is one of four -/
def ab_oE (o : ab_O) : Prop := ∀ E : Nat, o = .inr E → E < 4
section GOES
variable {q d m pc a n : Nat} {b : Int} {L : ab_L} {K1 : List ab_V} {as : List ab_V} {s s1 s' : ab_S} {o1 o : ab_O}
theorem ab_goV (hrn : ab_RN X d m pc as s o1 s1) (hmono : ∀ k : Nat, sn s k ≤ sn s1 k) (hK : ab_sum K1 ≤ 8) {v : Option ab_V} (ho : o1 = .inl v) (h2 : ab_Snd X (d + 1) m (pc + 3) L (v.toList ++ K1) s1 o s') : ab_Snd X (d + 1) m pc L (as.reverse ++ K1) s o s' := by
  obtain ⟨i1, i2⟩ := h2
  refine ⟨fun k => Nat.le_trans (hmono k) (i1 k), fun ra fm D dA B0 p l e R U mt args below meth c C hf hlo mc ms cells slots c1 c2 c3 c4 P hP => ?_⟩
  intro ρ hρ H ls r locs hL hS hH hV
  have hfm : fm = .null ∨ ∃ a : Nat, fm = .ref a := C.2.2.2.2.2.2.2.2.2.2.2.2.2
  obtain ⟨r1, r2, rfl, hS1, hS2⟩ := ab_sr_split hS
  have hvs : ab_sr ra ρ fm s as r1.reverse := by
    have z := ab_sr_rev hS1
    rwa [List.reverse_reverse] at z
  have er : r1 ++ r2 = r1.reverse.reverse ++ r2 := by rw [List.reverse_reverse]
  rw [er]
  have m0 := hmono 0
  have m1 := hmono 1
  have n0 := i1 0
  have n1 := i1 1
  have hrun := hrn ra fm D dA B0 p l e R U mt args below meth c H locs cells slots ls r2 r1.reverse P ρ C (by omega) (by omega) hρ hP hH hV hvs (hL.1.trans C.2.2.2.1.symm) (by rw [ab_sr_sum (ab_fm1 hfm) hS2]; exact hK) (by omega) (by omega)
  refine ab_after hrun hV ?_ ?_
  · intro v9 w ρ1 H1 locs1 e1 hP1 hH1 hV1 hrv
    rw [ho] at e1
    obtain rfl := Sum.inl.inj e1
    refine i2 ra fm D dA B0 p l e R U mt args below meth c C hf hlo mc ms (cells + (sn s1 0 - sn s 0)) (slots + (sn s1 1 - sn s 1)) (by omega) (by omega) c3 c4 P (ab_clo_mono hmono hP) ρ1 hP1.1 H1 ls _ locs1 (ab_lr_mono (ab_lim_mono hmono) hP1.2 hL) ?_ hH1 hV1
    have hS3 := ab_sr_mono (ab_lim_mono hmono) hP1.2 hS2
    cases v with
    | none =>
      have hrv : w = none := hrv
      rw [hrv]
      exact hS3
    | some v =>
      obtain ⟨x, rfl, hx⟩ := hrv
      exact ⟨hx, hS3⟩
  · intro x q ce ρ1 H1 locs1 e1
    rw [ho] at e1
    cases e1
theorem ab_goX (hrn : ab_RN X d m pc as s o1 s1) (hmono : ∀ k : Nat, sn s k ≤ sn s1 k) (hK : ab_sum K1 ≤ 8) (hm : m < 361) {E : Nat} (ho : o1 = .inr E) (hE : E < 4) (hh : ab_hd (ab_hs m) pc E = none) : ab_Snd X (d + 1) m pc L (as.reverse ++ K1) s (.inr E) s1 := by
  refine ⟨hmono, fun ra fm D dA B0 p l e R U mt args below meth c C hf hlo mc ms cells slots c1 c2 c3 c4 P hP => ?_⟩
  intro ρ hρ H ls r locs hL hS hH hV
  obtain ⟨hx, hlt, hb, hml, hr9, hlk, hown, htb, hts, hB, hKK, hSF, hCV, hfm⟩ := id C
  obtain ⟨r1, r2, rfl, hS1, hS2⟩ := ab_sr_split hS
  have hvs : ab_sr ra ρ fm s as r1.reverse := by
    have z := ab_sr_rev hS1
    rwa [List.reverse_reverse] at z
  have er : r1 ++ r2 = r1.reverse.reverse ++ r2 := by rw [List.reverse_reverse]
  rw [er]
  have m0 := hmono 0
  have m1 := hmono 1
  have hrun := hrn ra fm D dA B0 p l e R U mt args below meth c H locs cells slots ls r2 r1.reverse P ρ C (by omega) (by omega) hρ hP hH hV hvs (hL.1.trans hml.symm) (by rw [ab_sr_sum (ab_fm1 hfm) hS2]; exact hK) (by omega) (by omega)
  refine ab_after hrun hV ?_ ?_
  · intro v9 w ρ1 H1 locs1 e1
    rw [ho] at e1
    cases e1
  · intro x q ce ρ1 H1 locs1 e1 hP1 hH1 hV1 hce hcv hcl
    rw [ho] at e1
    obtain rfl := Sum.inr.inj e1
    have hz := List.all_eq_true.mp ab_hwT m (List.mem_range.mpr hm)
    have hpass := (ab_hd_spec (pc := pc) (E := E) (ab_hs m) (ab_hw m) hz).1 hh
    rw [← htb] at hpass
    exact vx_outP hown hlk (fun z hz => ab_let_pass hE hts hCV (hpass z hz)) hce hcv hcl (fun t ht ha => ⟨E, ρ1, rfl, rfl, hP1.1, by rw [ht]; exact hH1, hV1.F ht⟩) hV1.2.2 (by omega) (by omega)
theorem ab_goH (hrn : ab_RN X d m pc as s o1 s1) (hmono : ∀ k : Nat, sn s k ≤ sn s1 k) (hK : ab_sum K1 ≤ 8) (hm : m < 361) {E h j : Nat} (ho : o1 = .inr E) (hE : E < 4) (hh : ab_hd (ab_hs m) pc E = some h) (hj : j < L.length) (hI : decode (ab_by m) h = .ok (.astore j, n) ∧ n = 2 ∨ (∃ k : Fin 4, k.val = j ∧ decode (ab_by m) h = .ok (.astore_n k, n)) ∧ n = 1) (h2 : ab_Snd X (d + 1) m (h + n) ((ab_clr L j).set j none) [] s1 o s') : ab_Snd X (d + 1) m pc L (as.reverse ++ K1) s o s' := by
  obtain ⟨i1, i2⟩ := h2
  refine ⟨fun k => Nat.le_trans (hmono k) (i1 k), fun ra fm D dA B0 p l e R U mt args below meth c C hf hlo mc ms cells slots c1 c2 c3 c4 P hP => ?_⟩
  intro ρ hρ H ls r locs hL hS hH hV
  obtain ⟨hx, hlt, hb, hml, hr9, hlk, hown, htb, hts, hB, hKK, hSF, hCV, hfm⟩ := id C
  obtain ⟨r1, r2, rfl, hS1, hS2⟩ := ab_sr_split hS
  have hvs : ab_sr ra ρ fm s as r1.reverse := by
    have z := ab_sr_rev hS1
    rwa [List.reverse_reverse] at z
  have er : r1 ++ r2 = r1.reverse.reverse ++ r2 := by rw [List.reverse_reverse]
  rw [er]
  have m0 := hmono 0
  have m1 := hmono 1
  have n0 := i1 0
  have n1 := i1 1
  have hrun := hrn ra fm D dA B0 p l e R U mt args below meth c H locs cells slots ls r2 r1.reverse P ρ C (by omega) (by omega) hρ hP hH hV hvs (hL.1.trans hml.symm) (by rw [ab_sr_sum (ab_fm1 hfm) hS2]; exact hK) (by omega) (by omega)
  refine ab_after hrun hV ?_ ?_
  · intro v9 w ρ1 H1 locs1 e1
    rw [ho] at e1
    cases e1
  · intro x q ce ρ1 H1 locs1 e1 hP1 hH1 hV1 hce hcv hcl
    rw [ho] at e1
    obtain rfl := Sum.inr.inj e1
    have hz := List.all_eq_true.mp ab_hwT m (List.mem_range.mpr hm)
    obtain ⟨pre, x, suf, p1, p2, p3, p4, p5, p6, p7⟩ := (ab_hd_spec (pc := pc) (E := E) (ab_hs m) (ab_hw m) hz).2 h hh
    have hcast : (Cond.castable (ab_exn E) (ab_exn E)).before args U = true := hts _ (ab_anyw (List.all_eq_true.mp ab_castE E (List.mem_range.mpr hE))) rfl
    refine vx_catch hown pre x suf (htb.trans p1) (fun z hz => ab_let_pass hE hts hCV (p2 z hz)) p3 p4 (hts _ p6 rfl) hcast hce hcv hcl ?_
    rw [p5]
    have hL1 := ab_lr_mono (ab_lim_mono hmono) hP1.2 hL
    have k9 : ∀ ls2 : Array Slot, lv_has ls2 (ab_ml m) ((j, Value.ref q) :: (ab_kn L ls).filter (fun q => !(q.1 == j) && !(q.1 + 1 == j && q.2.category == 2))) → W p l e R U mt args below meth c H1 locs1 (cells + (sn s1 0 - sn s 0)) (slots + (sn s1 1 - sn s 1)) (vx_MQ below (ab_Qc ra fm D dA B0 P o s') (ab_XC ra D dA B0 P o s') args U mc ms (ab_A B0)) (F0 mt (h + n) ls2 []) := fun ls2 hl2 =>
      i2 ra fm D dA B0 p l e R U mt args below meth c C hf hlo mc ms (cells + (sn s1 0 - sn s 0)) (slots + (sn s1 1 - sn s 1)) (by omega) (by omega) c3 c4 P (ab_clo_mono hmono hP) ρ1 hP1.1 H1 ls2 [] locs1 (ab_lr_st1 (ab_fm1 hfm) hL1 none (fun x hx => nomatch hx) hl2) trivial hH1 hV1
    rcases hI with ⟨hd, rfl⟩ | ⟨⟨k, rfl, hd⟩, rfl⟩
    · exact lv_astore hx hb hd (ab_kn_has hL1) (by rw [← hL.2.2.1]; exact hj) rfl k9
    · exact lv_astore_n hx hb hd rfl (ab_kn_has hL1) (by rw [← hL.2.2.1]; exact hj) rfl k9
end GOES
theorem ab_okI {m pc n : Nat} {I : Instr} (h : ab_okE m (pc, .inl I, n) = true) : decode (ab_by m) pc = .ok (I, n) ∧ ab_il I n pc = true := by
  unfold ab_okE at h
  split at h
  · rename_i J k hd
    have h9 : (decide (J = I) && Nat.beq k n && ab_il J k pc) = true := h
    clear h
    simp only [Bool.and_eq_true, decide_eq_true_eq, Nat.beq_eq] at h9
    obtain ⟨⟨rfl, rfl⟩, h8⟩ := h9
    exact ⟨hd, h8⟩
  · cases h
theorem ab_o2 {q d m pc a n : Nat} {b : Int} {L : ab_L} {K : List ab_V} {s s' : ab_S} {o : ab_O} (ih : ∀ (d m pc : Nat) (L : ab_L) (K : List ab_V) (s : ab_S) (o : ab_O) (s' : ab_S), ab_run X q d m pc L K s = some (o, s') → ab_oE o ∧ ab_Snd X d m pc L K s o s')
    (hm : m < 361) (hok : ab_okE m (pc, .inr (2, a, b), n) = true)
    (h : (match d, ab_pop b.toNat K [] with
        | d' + 1, some (as, K) => bif Nat.ble (ab_sum K) 8 && Nat.ble (ab_sum as) (ab_ml a) && ab_rk (ab_2 ab_rkT a 99) as then (match ab_run X q d' a 0 (ab_ent (ab_ml a) as) [] s with
          | some (.inl none, s) => ab_run X q d m (pc + n) L K s
          | some (.inl (some v), s) => ab_run X q d m (pc + n) L (v :: K) s
          | some (.inr E, s) => match ab_hd (ab_hs m) pc E with
            | none => some (.inr E, s)
            | some h => match ab_code m h with
              | some (.inl (.astore_n j), n) => ab_s1 L j.val none fun L => ab_run X q d m (h + n) L [] s
              | some (.inl (.astore j), n) => ab_s1 L j none fun L => ab_run X q d m (h + n) L [] s
              | _ => none
          | none => none) else none
        | _, _ => none) = some (o, s')) : ab_oE o ∧ ab_Snd X d m pc L K s o s' := by
  cases hp : ab_pop b.toNat K [] with
  | none =>
    rw [hp] at h
    cases d <;> cases h
  | some z =>
    obtain ⟨as, K1⟩ := z
    obtain ⟨hK, hlen⟩ := ab_pop_eq hp
    rw [List.reverse_nil, List.nil_append] at hK
    rw [List.length_nil, Nat.zero_add] at hlen
    subst hK
    rw [hp] at h
    cases d with
    | zero => cases h
    | succ d =>
      obtain ⟨hc, h1⟩ := ab_cond_some h
      clear h
      simp only [Bool.and_eq_true, Nat.ble_eq] at hc
      obtain ⟨⟨hc1, hc2⟩, hc3⟩ := hc
      cases hr : ab_run X q d a 0 (ab_ent (ab_ml a) as) [] s with
      | none =>
        rw [hr] at h1
        cases h1
      | some z =>
        obtain ⟨o1, s1⟩ := z
        rw [hr] at h1
        obtain ⟨hE, hS⟩ := ih _ _ _ _ _ _ _ _ hr
        obtain ⟨rfl, hrn⟩ := ab_rn hok hlen hc2 hc3 hS
        rcases o1 with (_ | v) | E
        · obtain ⟨g1, g2⟩ := ih _ _ _ _ _ _ _ _ h1
          exact ⟨g1, ab_goV hrn hS.1 hc1 (v := none) rfl g2⟩
        · obtain ⟨g1, g2⟩ := ih _ _ _ _ _ _ _ _ h1
          exact ⟨g1, ab_goV hrn hS.1 hc1 (v := some v) rfl g2⟩
        · have hE4 : E < 4 := hE E rfl
          cases hh : ab_hd (ab_hs m) pc E with
          | none =>
            have h1 : (match ab_hd (ab_hs m) pc E with
              | none => some (.inr E, s1)
              | some h => match ab_code m h with
                | some (.inl (.astore_n j), n) => ab_s1 L j.val none fun L => ab_run X q (d + 1) m (h + n) L [] s1
                | some (.inl (.astore j), n) => ab_s1 L j none fun L => ab_run X q (d + 1) m (h + n) L [] s1
                | _ => none) = some (o, s') := h1
            rw [hh] at h1
            obtain ⟨rfl, rfl⟩ := Prod.mk.inj (Option.some.inj h1)
            exact ⟨hE, ab_goX hrn hS.1 hc1 hm rfl hE4 hh⟩
          | some hq =>
            have h1 : (match ab_hd (ab_hs m) pc E with
              | none => some (.inr E, s1)
              | some h => match ab_code m h with
                | some (.inl (.astore_n j), n) => ab_s1 L j.val none fun L => ab_run X q (d + 1) m (h + n) L [] s1
                | some (.inl (.astore j), n) => ab_s1 L j none fun L => ab_run X q (d + 1) m (h + n) L [] s1
                | _ => none) = some (o, s') := h1
            rw [hh] at h1
            have h1 : (match ab_code m hq with
                | some (.inl (.astore_n j), n) => ab_s1 L j.val none fun L => ab_run X q (d + 1) m (hq + n) L [] s1
                | some (.inl (.astore j), n) => ab_s1 L j none fun L => ab_run X q (d + 1) m (hq + n) L [] s1
                | _ => none) = some (o, s') := h1
            split at h1
            · rename_i j n9 hcd
              obtain ⟨hj, h2⟩ := ab_s1_some h1
              obtain ⟨hd9, hil⟩ := ab_okI (ab_code_ok hcd)
              obtain ⟨g1, g2⟩ := ih _ _ _ _ _ _ _ _ h2
              obtain rfl : n9 = 1 := Nat.eq_of_beq_eq_true hil
              exact ⟨g1, ab_goH hrn hS.1 hc1 hm rfl hE4 hh hj (Or.inr ⟨⟨j, rfl, hd9⟩, rfl⟩) g2⟩
            · rename_i j n9 hcd
              obtain ⟨hj, h2⟩ := ab_s1_some h1
              obtain ⟨hd9, hil⟩ := ab_okI (ab_code_ok hcd)
              obtain ⟨g1, g2⟩ := ih _ _ _ _ _ _ _ _ h2
              obtain rfl : n9 = 2 := Nat.eq_of_beq_eq_true hil
              exact ⟨g1, ab_goH hrn hS.1 hc1 hm rfl hE4 hh hj (Or.inl ⟨hd9, rfl⟩) g2⟩
            · cases h1
end OP2
