/-! Statics, constants, copies. -/
theorem ab_anyw {w : Jvm.Cond} (h : (lw_tbl.any fun z => decide (z = w)) = true) : w ∈ lw_tbl := by
  obtain ⟨z, hz, e⟩ := List.any_eq_true.mp h
  obtain rfl := of_decide_eq_true e
  exact hz
theorem ab_w4 : Jvm.Cond.fieldLinkNest "MovingNames$Reader" 265 "MovingNames" "TOKENS" "[LMovingNames$Token;" "MovingNames" ∈ lw_tbl := ab_anyw (by decide +kernel)
theorem ab_w5 : Jvm.Cond.fieldLink "java/lang/String" 38 "java/lang/String" "COMPACT_STRINGS" "Z" ∈ lw_tbl := ab_anyw (by decide +kernel)
theorem ab_w6 : Jvm.Cond.fieldLink "java/lang/String" 1053 "jdk/internal/util/Preconditions" "SIOOBE_FORMATTER" "Ljava/util/function/BiFunction;" ∈ lw_tbl := ab_anyw (by decide +kernel)
theorem ab_wc1 : Jvm.Cond.native arraycopyName ∈ lw_tbl := ab_anyw (by decide +kernel)
theorem ab_wc2 : Jvm.Cond.static arraycopyName ∈ lw_tbl := ab_anyw (by decide +kernel)
theorem ab_wc3 : Jvm.Cond.initialized "java/lang/System" ∈ lw_tbl := ab_anyw (by decide +kernel)
theorem ab_isl_in {l : List (List Nat)} {o x a : Nat} (h : ab_isl l o x a = true) : ∃ t : List Nat, o :: x :: a :: t ∈ l := by
  obtain ⟨e, he, h9⟩ := List.any_eq_true.mp h
  clear h
  split at h9
  · simp only [Bool.and_eq_true, Nat.beq_eq] at h9
    obtain ⟨⟨rfl, rfl⟩, rfl⟩ := h9
    exact ⟨_, he⟩
  · cases h9
theorem ab_isn_in {l : List (Nat × Nat × Int × Nat)} {o x : Nat} {v : Int} (h : ab_isn l o x v = true) : ∃ w : Nat, (o, x, v, w) ∈ l := by
  obtain ⟨⟨o1, x1, v1, w1⟩, he, h9⟩ := List.any_eq_true.mp h
  clear h
  simp only [Bool.and_eq_true, Nat.beq_eq, decide_eq_true_eq] at h9
  obtain ⟨⟨rfl, rfl⟩, rfl⟩ := h9
  exact ⟨_, he⟩
theorem ab_sl_ok : ab_sl_.all (fun e => match e with
  | [_, _, a] => Nat.blt a 30
  | _ => false) = true := by decide +kernel
section PSH
variable {X : (Nat → Int32) × Nat} {m pc : Nat} {L : ab_L} {K : List ab_V} {s : ab_S} {β : Type} {G : Nat → ab_L → List ab_V → ab_S → Option β} {y : β}
theorem ab_psh {n : Nat} {v : ab_V} (h : G (pc + n) L (v :: K) s = some y) (hk : ∀ (ra : Nat → Nat → Nat) (fm : Value) (D : va_G) (dA : Nat → ClassId) (B0 : Nat) (p : Program) (l : Launch) (e : Env) (R : Room) (U : State) (mt : MethodId) (args : Array Value) (below : List Frame) (meth : Method) (c : Code), ab_CX ra fm D dA B0 X p l U mt args meth c m → ∀ (ρ : Nat → Nat → Nat) (H : Heap) (locs : List Loc), va_S (ab_A B0) U.heap H locs → ∃ w : Value, ab_vr ra ρ fm s v w ∧ ∀ (ls : Array Slot) (r : List Value) (cells slots : Nat) (Q : State → Prop), W p l e R U mt args below meth c H locs cells slots Q (F0 mt (pc + n) ls (w :: r)) → W p l e R U mt args below meth c H locs cells slots Q (F0 mt pc ls r)) : ab_St X m pc L K s G y := by
  refine ⟨_, _, _, _, h, fun _ => rfl, fun ra fm D dA B0 p l e R U mt args below meth c C cells slots Q P hW ρ hρ H ls r locs hL hS hH hV => ?_⟩
  obtain ⟨w, h1, h2⟩ := hk ra fm D dA B0 p l e R U mt args below meth c C ρ H locs hV
  exact h2 ls r cells slots Q (hW ρ hρ H ls (w :: r) locs hL ⟨h1, hS⟩ hH hV)
theorem ab_o3 {a x : Nat} (hd : decode (ab_by m) pc = .ok (.getstatic x, 3)) (hw : ab_isl ab_gl (ab_ow m) x a = true) (h : G (pc + 3) L (.inr (10, a) :: K) s = some y) : ab_St X m pc L K s G y := by
  obtain ⟨t, ht⟩ := ab_isl_in hw
  have q := List.all_eq_true.mp ab_gls _ ht
  rcases t with _ | ⟨w, _ | ⟨_, _⟩⟩
  · cases q
  · have q : (ab_has w (.fieldLink (ab_cnm (ab_ow m)) x "MovingNames$Token" (ab_tn.getD a "") "LMovingNames$Token;") && Nat.blt a 33) = true := q
    rw [Bool.and_eq_true, Nat.blt_eq] at q
    refine ab_psh h (fun ra fm D dA B0 p l e R U mt args below meth c C ρ H locs hV => ?_)
    obtain ⟨hx, hlt, hb, hml, hr, hlk, hown, htb, hts, hB, hKK, hSF, hCV, hfm⟩ := C
    exact ⟨.ref (ra 10 a), ab_vr_R (by decide) (show a < ab_lim 10 s from q.2), fun ls r cells slots Q k => va_gets hx hb (hSF.1 a q.2).2.2.2 hV hown (hts _ (ab_has_in q.1) rfl) (fun _ q => q) hd k⟩
  · cases q
theorem ab_o4 {x : Nat} (hd : decode (ab_by m) pc = .ok (.getstatic x, 3)) (ho : ab_ow m = 1) (hx9 : x = 265) (h : G (pc + 3) L (.inr (13, 0) :: K) s = some y) : ab_St X m pc L K s G y := by
  subst hx9
  refine ab_psh h (fun ra fm D dA B0 p l e R U mt args below meth c C ρ H locs hV => ?_)
  obtain ⟨hx, hlt, hb, hml, hr, hlk, hown, htb, hts, hB, hKK, hSF, hCV, hfm⟩ := C
  rw [ho] at hown
  have hown : U.vm.findClass "MovingNames$Reader" = some mt.cls := hown
  exact ⟨.ref (ra 13 0), ab_vr_R (by decide) (show 0 < 1 by decide), fun ls r cells slots Q k => va_getsN hx hb hSF.2.2.1.1 hV hown (hts _ ab_w4 rfl) (fun _ q => q) hd k⟩
theorem ab_o5 {x : Nat} {b : Int} (hd : decode (ab_by m) pc = .ok (.getstatic x, 3)) (ho : ab_ow m = 9) (hx9 : x = 38) (hb9 : b = 1) (h : G (pc + 3) L (.inl (.int (Int32.ofInt b)) :: K) s = some y) : ab_St X m pc L K s G y := by
  subst hx9 hb9
  refine ab_psh h (fun ra fm D dA B0 p l e R U mt args below meth c C ρ H locs hV => ?_)
  obtain ⟨hx, hlt, hb, hml, hr, hlk, hown, htb, hts, hB, hKK, hSF, hCV, hfm⟩ := C
  rw [ho] at hown
  have hown : U.vm.findClass "java/lang/String" = some mt.cls := hown
  exact ⟨.int 1, ab_vr_I 1, fun ls r cells slots Q k => va_gets hx hb hSF.2.2.2.2.1.1 hV hown (hts _ ab_w5 rfl) (fun _ q => q) hd k⟩
theorem ab_o6 {x : Nat} (hd : decode (ab_by m) pc = .ok (.getstatic x, 3)) (ho : ab_ow m = 9) (hx9 : x = 1053) (h : G (pc + 3) L (.inr (ab_fmk, 0) :: K) s = some y) : ab_St X m pc L K s G y := by
  subst hx9
  refine ab_psh h (fun ra fm D dA B0 p l e R U mt args below meth c C ρ H locs hV => ?_)
  obtain ⟨hx, hlt, hb, hml, hr, hlk, hown, htb, hts, hB, hKK, hSF, hCV, hfm⟩ := C
  rw [ho] at hown
  have hown : U.vm.findClass "java/lang/String" = some mt.cls := hown
  exact ⟨fm, Or.inl ⟨rfl, rfl⟩, fun ls r cells slots Q k => va_gets hx hb hSF.2.2.2.2.1.2 hV hown (hts _ ab_w6 rfl) (fun _ q => q) hd k⟩
theorem ab_o7 {x a : Nat} (hd : decode (ab_by m) pc = .ok (.ldc x, 2)) (hw : ab_isl ab_sl_ (ab_ow m) x a = true) (h : G (pc + 2) L (.inr (11, a) :: K) s = some y) : ab_St X m pc L K s G y := by
  obtain ⟨t, ht⟩ := ab_isl_in hw
  have q := List.all_eq_true.mp ab_sl_ok _ ht
  rcases t with _ | ⟨w, t⟩
  · have q : Nat.blt a 30 = true := q
    rw [Nat.blt_eq] at q
    refine ab_psh h (fun ra fm D dA B0 p l e R U mt args below meth c C ρ H locs hV => ?_)
    obtain ⟨hx, hlt, hb, hml, hr, hlk, hown, htb, hts, hB, hKK, hSF, hCV, hfm⟩ := C
    exact ⟨.ref (ra 11 a), ab_vr_R (by decide) (show a < ab_lim 11 s from q), fun ls r cells slots Q k => va_ldcS hx hb hown (hCV.2.1 _ _ _ ht) hd k⟩
  · cases q
theorem ab_o8 {x : Nat} {b : Int} (hd : decode (ab_by m) pc = .ok (.ldc x, 2)) (hw : ab_isn ab_il_ (ab_ow m) x b = true) (h : G (pc + 2) L (.inl (.int (Int32.ofInt b)) :: K) s = some y) : ab_St X m pc L K s G y := by
  obtain ⟨w, ht⟩ := ab_isn_in hw
  have q := List.all_eq_true.mp ab_ils _ ht
  refine ab_psh h (fun ra fm D dA B0 p l e R U mt args below meth c C ρ H locs hV => ?_)
  obtain ⟨hx, hlt, hb, hml, hr, hlk, hown, htb, hts, hB, hKK, hSF, hCV, hfm⟩ := C
  exact ⟨_, ab_vr_I _, fun ls r cells slots Q k => lv_ldc hx hb hown (hts _ (ab_has_in q) rfl) hd k⟩
theorem ab_o8w {x : Nat} {b : Int} (hd : decode (ab_by m) pc = .ok (.ldc_w x, 3)) (hw : ab_isn ab_il_ (ab_ow m) x b = true) (h : G (pc + 3) L (.inl (.int (Int32.ofInt b)) :: K) s = some y) : ab_St X m pc L K s G y := by
  obtain ⟨w, ht⟩ := ab_isn_in hw
  have q := List.all_eq_true.mp ab_ils _ ht
  refine ab_psh h (fun ra fm D dA B0 p l e R U mt args below meth c C ρ H locs hV => ?_)
  obtain ⟨hx, hlt, hb, hml, hr, hlk, hown, htb, hts, hB, hKK, hSF, hCV, hfm⟩ := C
  exact ⟨_, ab_vr_I _, fun ls r cells slots Q k => lv_ldcw hx hb hown (hts _ (ab_has_in q) rfl) hd k⟩
theorem ab_o9 {x : Nat} {b : Int} (hd : decode (ab_by m) pc = .ok (.ldc2_w x, 3)) (hw : ab_isn ab_jl_ (ab_ow m) x b = true) (h : G (pc + 3) L (.inl (.long (Int64.ofInt b)) :: K) s = some y) : ab_St X m pc L K s G y := by
  obtain ⟨w, ht⟩ := ab_isn_in hw
  have q := List.all_eq_true.mp ab_jls _ ht
  refine ab_psh h (fun ra fm D dA B0 p l e R U mt args below meth c C ρ H locs hV => ?_)
  obtain ⟨hx, hlt, hb, hml, hr, hlk, hown, htb, hts, hB, hKK, hSF, hCV, hfm⟩ := C
  exact ⟨_, ab_vr_J _, fun ls r cells slots Q k => lv_ldc2 hx hb hown (hts _ (ab_has_in q) rfl) hd k⟩
end PSH
/-- a step that needs room for a frame -/
def ab_StR {β : Type} (X : (Nat → Int32) × Nat) (m pc : Nat) (L : ab_L) (K : List ab_V) (s : ab_S) (G : Nat → ab_L → List ab_V → ab_S → Option β) (y : β) : Prop :=
  ∃ (pc' : Nat) (L' : ab_L) (K' : List ab_V) (s' : ab_S), G pc' L' K' s' = some y ∧ (∀ k : Nat, sn s' k = sn s k) ∧ ∀ (ra : Nat → Nat → Nat) (fm : Value) (D : va_G) (dA : Nat → ClassId) (B0 : Nat) (p : Program) (l : Launch) (e : Env) (R : Room) (U : State) (mt : MethodId) (args : Array Value) (below : List Frame) (meth : Method) (c : Code), ab_CX ra fm D dA B0 X p l U mt args meth c m → 1 ≤ R.frames → 60 ≤ R.locals → ∀ (cells slots : Nat) (Q : State → Prop) (P : (Nat → Nat → Nat) → Prop), ab_G ra fm D dA B0 p l e R U mt args below meth c cells slots Q P m pc' L' K' s' → ab_G ra fm D dA B0 p l e R U mt args below meth c cells slots Q P m pc L K s
theorem ab_wi_snd {X : (Nat → Int32) × Nat} {s s' : ab_S} {k i n : Nat} {f g : Nat → Int32} (hc : ab_isi k = true) (e0 : ab_len X k i = some n) (e2 : ab_ai X k i s = some g) (h : ab_wi k i f s = some s') : (∀ z : Nat, sn s' z = sn s z) ∧ (∀ z : Nat, ab_lim z s ≤ ab_lim z s') ∧ ∀ (ra ρ : Nat → Nat → Nat) (D : va_G) (dA : Nat → ClassId) (B0 : Nat), i < ab_lim k s → ∀ H : Heap, ab_HR ra ρ D dA B0 s H → ∃ q1 : Nat, (ab_wd ra ρ dA s)[q1]? = some (ab_ad ra ρ k i, .inl (dA 0, n, .inl g)) ∧ ∀ H1 : Heap, va_P D ab_cl ((ab_wd ra ρ dA s).set q1 (ab_ad ra ρ k i, .inl (dA 0, n, .inl f))) H1 → va_D (ab_A B0) ((ab_wd ra ρ dA s).set q1 (ab_ad ra ρ k i, .inl (dA 0, n, .inl f))) → ab_HR ra ρ D dA B0 s' H1 := by
  obtain ⟨e9, n9, so, id, e1⟩ := ab_len_k e0
  unfold ab_ai at e2
  rw [e1] at e2
  unfold ab_wi at h
  rw [e1] at h
  rcases ab_arr_k e1 with ⟨h5, hdy, hie, -, -, -, he⟩ | ⟨rfl, rfl, hno⟩ | ⟨rfl, rfl, rfl, hno, -⟩ | ⟨rfl, rfl, -⟩
  · have hN := ab_len_of e1 e0 h5
    subst hN
    obtain ⟨h1, rfl⟩ := hie hc
    rcases so with _ | _ | so
    · obtain rfl := Option.some.inj e2
      obtain rfl := Option.some.inj h
      refine ⟨fun _ => rfl, fun _ => Nat.le_refl _, fun ra ρ D dA B0 hi H hH => ?_⟩
      obtain ⟨q0, hq⟩ := ab_ob_at hdy hi
      refine ⟨q0, ab_wd_arr (ra := ra) (ρ := ρ) (dA := dA) e1 hq, fun H1 g1 g2 => ?_⟩
      refine ab_set_HR (s := s) (s' := pa s id f) rfl hq hH.2.1 (ab_arrg (s := s) e1 (by decide) (fun i2 y2 => fv_pa i2 y2) (fun i2 e2 n2 so2 id2 h52 hne => ca_pa i2 e2 n2 so2 id2 h52 hne) (fun i2 hne hi2 => absurd (ab_one (ab_sing_a e1 (by decide)) hi hi2) hne)) hH.2.2 ?_ g1 g2
      rw [ab_ct_arr e1]
      show Sum.inl ((dA 0, n9, Sum.inl (va_up s.2.2.2.2.1 id f id)) : ClassId × vp_A) = _
      rw [va_up_self]
    · obtain rfl := Option.some.inj e2
      obtain rfl := Option.some.inj h
      refine ⟨fun _ => rfl, fun _ => Nat.le_refl _, fun ra ρ D dA B0 hi H hH => ?_⟩
      obtain ⟨q0, hq⟩ := ab_ob_at hdy hi
      refine ⟨q0, ab_wd_arr (ra := ra) (ρ := ρ) (dA := dA) e1 hq, fun H1 g1 g2 => ?_⟩
      refine ab_set_HR (s := s) (s' := pA s id (va_up (sA s id) i f)) rfl hq hH.2.1 (ab_arrg (s := s) e1 (by decide) (fun i2 y2 => fv_pA i2 y2) (fun i2 e2 n2 so2 id2 h52 hne => ca_pA i2 e2 n2 so2 id2 h52 hne) (fun i2 hne hi2 => by
          show ((dA 0, n9, Sum.inl (va_up s.2.2.2.2.2.1 id (va_up (sA s id) i f) id i2)) : ClassId × vp_A) = _
          rw [va_up_self, va_up_ne _ _ hne]
          rfl)) hH.2.2 ?_ g1 g2
      rw [ab_ct_arr e1]
      show Sum.inl ((dA 0, n9, Sum.inl (va_up s.2.2.2.2.2.1 id (va_up (sA s id) i f) id i)) : ClassId × vp_A) = _
      rw [va_up_self, va_up_self]
    · omega
  · rw [hno] at hc
    cases hc
  · rw [hno] at hc
    cases hc
  · cases h
theorem ab_ai_src {X : (Nat → Int32) × Nat} {s : ab_S} {k i n : Nat} {g : Nat → Int32} (hc : ab_isi k = true) (e0 : ab_len X k i = some n) (e2 : ab_ai X k i s = some g) : (k = 14 ∧ n = X.2 ∧ g = X.1) ∨ ∀ (ra ρ : Nat → Nat → Nat) (dA : Nat → ClassId), i < ab_lim k s → ∃ q1 : Nat, (ab_wd ra ρ dA s)[q1]? = some (ab_ad ra ρ k i, .inl (dA 0, n, .inl g)) := by
  obtain ⟨e9, n9, so, id, e1⟩ := ab_len_k e0
  unfold ab_ai at e2
  rw [e1] at e2
  rcases ab_arr_k e1 with ⟨h5, hdy, hie, -, -, -, he⟩ | ⟨rfl, rfl, hno⟩ | ⟨rfl, rfl, rfl, hno, -⟩ | ⟨rfl, rfl, -⟩
  · have hN := ab_len_of e1 e0 h5
    subst hN
    obtain ⟨h1, rfl⟩ := hie hc
    rcases so with _ | _ | so
    · obtain rfl := Option.some.inj e2
      refine Or.inr fun ra ρ dA hi => ?_
      obtain ⟨q0, hq⟩ := ab_ob_at hdy hi
      exact ⟨q0, ab_wd_arr (ra := ra) (ρ := ρ) (dA := dA) e1 hq⟩
    · obtain rfl := Option.some.inj e2
      refine Or.inr fun ra ρ dA hi => ?_
      obtain ⟨q0, hq⟩ := ab_ob_at hdy hi
      exact ⟨q0, ab_wd_arr (ra := ra) (ρ := ρ) (dA := dA) e1 hq⟩
    · omega
  · rw [hno] at hc
    cases hc
  · rw [hno] at hc
    cases hc
  · obtain rfl := Option.some.inj e2
    unfold ab_len at e0
    rw [e1] at e0
    exact Or.inl ⟨rfl, (Option.some.inj e0).symm, rfl⟩
theorem ab_nfw : nativeFrameWords "java/lang/System" "arraycopy" 5 = 7 := by decide +kernel
theorem ab_o12 {X : (Nat → Int32) × Nat} {m pc : Nat} {L : ab_L} {s : ab_S} {β : Type} {G : Nat → ab_L → List ab_V → ab_S → Option β} {y : β} {x : Nat} {n dp sp : Int32} {k1 i1 k0 i0 : Nat} {K2 : List ab_V} {s' : ab_S} (hd : decode (ab_by m) pc = .ok (.invokestatic x, 3)) (hw : Jvm.Cond.methodLink (ab_cnm (ab_ow m)) x arraycopyName ∈ lw_tbl) (hs : ab_sum K2 ≤ 8) (he : ab_cpy X k0 i0 sp k1 i1 dp n s = some s') (h : G (pc + 3) L K2 s' = some y) : ab_StR X m pc L (.inl (.int n) :: .inl (.int dp) :: .inr (k1, i1) :: .inl (.int sp) :: .inr (k0, i0) :: K2) s G y := by
  unfold ab_cpy at he
  split at he
  case h_2 => cases he
  rename_i n0 f n1 g e1 e2 e3 e4
  obtain ⟨hc, he9⟩ := ab_cond_some he
  clear he
  rw [Bool.and_eq_true] at hc
  by_cases hP : sp < 0 ∨ dp < 0 ∨ n < 0 ∨ n0 < sp.toNatClampNeg + n.toNatClampNeg ∨ n1 < dp.toNatClampNeg + n.toNatClampNeg
  case pos =>
    rw [if_pos hP] at he9
    cases he9
  rw [if_neg hP] at he9
  obtain ⟨w1, w2, w3⟩ := ab_wi_snd hc.2 e3 e4 he9
  refine ⟨_, _, _, _, h, w1, fun ra fm D dA B0 p l e R U mt args below meth c C hfr hlo cells slots Q P hW ρ hρ H ls r locs hL hS hH hV => ?_⟩
  obtain ⟨hx, hlt, hb, hml, hr, hlk, hown, htb, hts, hB, hKK, hSF, hCV, hfm⟩ := C
  obtain ⟨v1, r1, rfl, hv1, hS1⟩ := ab_sr_cons hS
  obtain ⟨v2, r2, rfl, hv2, hS2⟩ := ab_sr_cons hS1
  obtain ⟨v3, r3, rfl, hv3, hS3⟩ := ab_sr_cons hS2
  obtain ⟨v4, r4, rfl, hv4, hS4⟩ := ab_sr_cons hS3
  obtain ⟨v5, r5, rfl, hv5, hS5⟩ := ab_sr_cons hS4
  obtain rfl := ab_vr_int hv1
  obtain rfl := ab_vr_int hv2
  obtain rfl := ab_vr_int hv4
  obtain ⟨c9, n9, so9, id9, ek1⟩ := ab_len_k e3
  obtain ⟨c8, n8, so8, id8, ek0⟩ := ab_len_k e1
  obtain ⟨hi1, rfl⟩ := ab_vr_get (ab_lt ek1) hv3
  obtain ⟨hi0, rfl⟩ := ab_vr_get (ab_lt ek0) hv5
  obtain ⟨q1, hq1, hR⟩ := w3 ra ρ D dA B0 hi1 H hH
  have hsum : (r5.map fun v => v.category).sum + (nativeFrameWords "java/lang/System" "arraycopy" 5 + 11) ≤ R.locals := by
    rw [ab_sr_sum (ab_fm1 hfm) hS5, ab_nfw]
    omega
  have p1 : ¬ sp < 0 := fun z => hP (Or.inl z)
  have p2 : ¬ dp < 0 := fun z => hP (Or.inr (Or.inl z))
  have p3 : ¬ n < 0 := fun z => hP (Or.inr (Or.inr (Or.inl z)))
  have p4 : sp.toNatClampNeg + n.toNatClampNeg ≤ n0 := Nat.le_of_not_lt fun z => hP (Or.inr (Or.inr (Or.inr (Or.inl z))))
  have p5 : dp.toNatClampNeg + n.toNatClampNeg ≤ n1 := Nat.le_of_not_lt fun z => hP (Or.inr (Or.inr (Or.inr (Or.inr z))))
  rcases ab_ai_src hc.1 e1 e2 with ⟨rfl, rfl, rfl⟩ | src
  · have hi0 : i0 < 1 := hi0
    obtain rfl : i0 = 0 := by omega
    obtain ⟨scr, z1, z2⟩ := id hSF.2.2.2.2.2.2.2
    exact va_copyx hx hb (hml.trans hL.1.symm) hown (hts _ hw rfl) (hts _ ab_wc1 rfl) (hts _ ab_wc2 rfl) (hts _ ab_wc3 rfl) hKK hH.1 hH.2.1 hV hSF.2.2.2.2.2.2.2 (Array.getElem?_eq_some_iff.mp z1).1 hSF.2.2.2.2.2.2.1.out q1 0 hq1 rfl p1 p2 p3 p4 p5 hfr hsum hd (fun H1 locs1 g1 g2 g3 => hW ρ hρ H1 ls r5 locs1 (ab_lr_mono (s := s) (s' := s') w2 (fun _ _ _ _ => rfl) hL) (ab_sr_mono (s := s) (s' := s') w2 (fun _ _ _ _ => rfl) hS5) (hR H1 g1 g2) g3)
  · obtain ⟨q0, hq0⟩ := src ra ρ dA hi0
    exact va_copyi hx hb (hml.trans hL.1.symm) hown (hts _ hw rfl) (hts _ ab_wc1 rfl) (hts _ ab_wc2 rfl) (hts _ ab_wc3 rfl) hKK hH.1 hH.2.1 hV q0 q1 0 0 hq0 hq1 rfl rfl rfl p1 p2 p3 p4 p5 (fun _ _ => rfl) hfr hsum hd (fun H1 locs1 g1 g2 g3 => hW ρ hρ H1 ls r5 locs1 (ab_lr_mono (s := s) (s' := s') w2 (fun _ _ _ _ => rfl) hL) (ab_sr_mono (s := s) (s' := s') w2 (fun _ _ _ _ => rfl) hS5) (hR H1 g1 g2) g3)
