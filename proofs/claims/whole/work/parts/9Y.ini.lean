/-! The start: tokens, texts, the script; the tables' texts. -/
section INJ
variable {args : Array Value} {s : State}
theorem nw_SF0 (hts : ∀ w ∈ lw_tbl, w.before args s = true) (hg : (Jvm.Cond.and given_1 narrow_1).before args s = true) {b L : Nat} {xs : Nat → Int32} (hX : va_X b L xs s s.heap) (hL : L < 2 ^ 31) : ∃ (ra : Nat → Nat → Nat) (fm : Value), ab_SF ra fm (xs, L) (ab_A s.heap.size) s s.heap ∧ ab_CV ra s ∧ (fm = .null ∨ ∃ a : Nat, fm = .ref a) ∧ ra 14 0 = b := by
  have hA : ∀ a : Nat, a < s.heap.size → ¬ ab_A s.heap.size a := fun a h z => Nat.lt_irrefl _ (Nat.lt_of_lt_of_le h z)
  -- tokens
  have t0 : ∀ i : Nat, ∃ a : Nat, i < 33 → (nw_tS i).eval args s none [] s = some (.ref a) := fun i => by
    by_cases hi : i < 33
    · obtain ⟨a, h⟩ := nw_ref (nw_tok hg hi).1
      exact ⟨a, fun _ => h⟩
    · exact ⟨0, fun h => absurd h hi⟩
  obtain ⟨T, hT⟩ : ∃ T : Nat → Nat, ∀ i, i < 33 → (nw_tS i).eval args s none [] s = some (.ref (T i)) := ⟨fun i => (t0 i).choose, fun i hi => (t0 i).choose_spec hi⟩
  have s0 : ∀ a : Nat, ∃ q : Nat, a < 30 → (nw_sT a).eval args s none [] s = some (.ref q) := fun a => by
    by_cases hi : a < 30
    · obtain ⟨q, h⟩ := nw_ref (nw_str hg hi).1
      exact ⟨q, fun _ => h⟩
    · exact ⟨0, fun h => absurd h hi⟩
  obtain ⟨S, hS⟩ : ∃ S : Nat → Nat, ∀ a, a < 30 → (nw_sT a).eval args s none [] s = some (.ref (S a)) := ⟨fun i => (s0 i).choose, fun i hi => (s0 i).choose_spec hi⟩
  have v0 : ∀ a : Nat, ∃ q : Nat, a < 30 → (nw_vT a).eval args s none [] s = some (.ref q) ∧ va_T .byte q (ab_sl a) (fun j => .int (ab_sb a j)) (ab_A s.heap.size) s s.heap := fun a => by
    by_cases hi : a < 30
    · obtain ⟨-, -, h2, h3, h4⟩ := nw_str hg hi
      have hl : ab_sl a < 2 ^ 31 := by
        have q : (List.range 30).all (fun a => Nat.blt (ab_sl a) 100) = true := by decide +kernel
        have := Nat.le_of_ble_eq_true (List.all_eq_true.mp q a (List.mem_range.mpr hi))
        omega
      obtain ⟨t, h5, h6⟩ := va_Tof (tm := nw_vT a) (f := fun j => .int (ab_sb a j)) hl h2 (va_eqt h3) (fun j hj => va_eqt (h4 j hj)) hA
      exact ⟨t, fun _ => ⟨h5, h6⟩⟩
    · exact ⟨0, fun h => absurd h hi⟩
  obtain ⟨V, hV⟩ : ∃ V : Nat → Nat, ∀ a, a < 30 → (nw_vT a).eval args s none [] s = some (.ref (V a)) ∧ va_T .byte (V a) (ab_sl a) (fun j => .int (ab_sb a j)) (ab_A s.heap.size) s s.heap := ⟨fun i => (v0 i).choose, fun i hi => (v0 i).choose_spec hi⟩
  obtain ⟨tt, htt, hTT⟩ := va_Tof (tm := nw_TS) (ty := .object "MovingNames$Token") (N := 33) (f := fun j => .ref (T j)) (by decide) (nw_fR hg (n := 15000000) (by decide +kernel)) (va_eqt (nw_fR hg (n := 16000000) (by decide +kernel))) (fun j hj => va_eqv (nw_tok hg hj).2.2.2.2.1 (hT j hj)) hA
  have i0 : ∀ {C : String} {i : Nat}, ab_has i (.initialized C) = true → (Jvm.Cond.initialized C).before args s = true := fun {C i} h => hts _ (ab_has_in h)
  have zt : va_Z "MovingNames" "TOKENS" "[LMovingNames$Token;" (.ref tt) (ab_A s.heap.size) s s.heap := va_Zof (hts _ (ab_has_in (i := 650) (by decide +kernel))) (i0 (i := 113) (by decide +kernel)) htt hA
  have zc : va_Z "java/lang/String" "COMPACT_STRINGS" "Z" (.int 1) (ab_A s.heap.size) s s.heap := va_Zof (hts _ (ab_has_in (i := 660) (by decide +kernel))) (i0 (i := 129) (by decide +kernel)) (va_eqi (nw_fR hg (n := 17000000) (by decide +kernel))) hA
  obtain ⟨fm, hfm, hf1⟩ : ∃ fm : Value, (Term.static "jdk/internal/util/Preconditions" "SIOOBE_FORMATTER" "Ljava/util/function/BiFunction;").eval args s none [] s = some fm ∧ (fm = .null ∨ ∃ a : Nat, fm = .ref a) := by
    have h : (Jvm.Cond.isRef (.static "jdk/internal/util/Preconditions" "SIOOBE_FORMATTER" "Ljava/util/function/BiFunction;")).before args s = true := nw_fR hg (n := 18000000) (by decide +kernel)
    cases hv : (Term.static "jdk/internal/util/Preconditions" "SIOOBE_FORMATTER" "Ljava/util/function/BiFunction;").eval args s none [] s with
    | none => simp [Cond.before, Cond.holds, Cond.value, hv] at h
    | some w =>
      simp only [Cond.before, Cond.holds, Cond.value, hv] at h
      cases w with
      | null => exact ⟨.null, rfl, Or.inl rfl⟩
      | ref t => exact ⟨.ref t, rfl, Or.inr ⟨t, rfl⟩⟩
      | _ => simp at h
  have zf : va_Z "jdk/internal/util/Preconditions" "SIOOBE_FORMATTER" "Ljava/util/function/BiFunction;" fm (ab_A s.heap.size) s s.heap := va_Zof (hts _ (ab_has_in (i := 676) (by decide +kernel))) (i0 (i := 131) (by decide +kernel)) hfm hA
  have q1 : vx_Zq Bundle.tN "UNASSIGNED_STACK" Bundle.steD (ab_A s.heap.size) s s.heap := vx_Zqof (hts _ (ab_has_in (i := 580) (by decide +kernel))) (i0 (i := 124) (by decide +kernel)) (nw_fR hg (n := 13000000) (by decide +kernel)) hA
  have q2 : vx_Zq Bundle.tN "SUPPRESSED_SENTINEL" Bundle.listD (ab_A s.heap.size) s s.heap := vx_Zqof (hts _ (ab_has_in (i := 582) (by decide +kernel))) (i0 (i := 124) (by decide +kernel)) (nw_fR hg (n := 14000000) (by decide +kernel)) hA
  obtain ⟨ra, hra⟩ : ∃ ra : Nat → Nat → Nat, ra = fun K i => if K = 10 then T i else if K = 11 then S i else if K = 12 then V i else if K = 13 then tt else b := ⟨_, rfl⟩
  have r10 : ∀ i, ra 10 i = T i := fun i => by rw [hra]; rfl
  have r11 : ∀ i, ra 11 i = S i := fun i => by rw [hra]; rfl
  have r12 : ∀ i, ra 12 i = V i := fun i => by rw [hra]; rfl
  have r13 : ra 13 0 = tt := by rw [hra]; rfl
  have r14 : ra 14 0 = b := by rw [hra]; rfl
  refine ⟨ra, fm, ⟨fun i hi => ?_, fun i j hi hj e => ?_, ⟨by rw [r13]; exact zt, ?_⟩, fun i hi => ?_, ⟨zc, zf⟩, ⟨q1, q2⟩, ?_, ?_⟩, ⟨fun w hw ho _ => va_Nw.of ho (hts w hw), fun c x a hm => ?_, fun m pc ik is ic w E hm => ?_, fun e he => ?_⟩, hf1, r14⟩
  · obtain ⟨h0, h1, h2, h3, h4, h5, h6⟩ := nw_tok hg hi
    rw [r10, r11]
    exact ⟨va_Oof h0 (hT i hi) hA, nw_OF (hT i hi) (va_eqt h3) hA, nw_OF (hT i hi) (va_eqv h2 (hS _ h6)) hA, va_Zof (hts _ h5) (i0 (i := 116) (by decide +kernel)) (hT i hi) hA⟩
  · rw [r10, r10] at e
    have a1 := va_eqt (nw_tok hg hi).2.1
    have a2 := va_eqt (nw_tok hg hj).2.1
    rw [va_fe (hT i hi), e] at a1
    rw [va_fe (hT j hj), a1] at a2
    have a3 : Int32.ofNat i = Int32.ofNat j := Value.int.inj (Option.some.inj a2)
    have h := List.all_eq_true.mp (List.all_eq_true.mp nw_e7 i (List.mem_range.mpr hi)) j (List.mem_range.mpr hj)
    rw [decide_eq_true a3] at h
    exact Nat.eq_of_beq_eq_true (by simpa using h)
  · rw [r13]
    have e : (fun j => Value.ref (ra 10 j)) = fun j => Value.ref (T j) := funext fun j => by rw [r10]
    rw [e]
    exact hTT
  · obtain ⟨h0, h1, h2, h3, h4⟩ := nw_str hg hi
    rw [r11, r12]
    exact ⟨va_Oof h0 (hS i hi) hA, nw_OF (hS i hi) (va_eqt h1) hA, nw_OF (hS i hi) (hV i hi).1 hA, (hV i hi).2⟩
  · rw [r14]
    obtain ⟨scr, h1, h2, h3, h4, h5⟩ := hX
    exact ⟨scr, h1, h2, h3, Nat.le_of_eq h4.symm, by rw [h4], h5, hA _ (Array.getElem?_eq_some_iff.mp h1).1⟩
  · rw [r14]
    exact hX
  · obtain ⟨k, hk, ek⟩ := List.getElem_of_mem hm
    have hk17 : k < 17 := hk
    have h := List.all_eq_true.mp nw_e3 k (List.mem_range.mpr hk17)
    simp only [Bool.and_eq_true, Nat.blt_eq] at h
    obtain ⟨⟨h1, h2⟩, h3⟩ := h
    have b1 := nw_fR hg h1
    have b2 := hts _ (nw_fW h2)
    unfold nw_f at b1 b2
    rw [(nw_ff (n := 10000000 + k * 1000) (k := 10) (i := k) (j := 0) (by omega) (by omega) (by omega)).1, (nw_ff (n := 10000000 + k * 1000) (k := 10) (i := k) (j := 0) (by omega) (by omega) (by omega)).2.1, (nw_ff (n := 10000000 + k * 1000) (k := 10) (i := k) (j := 0) (by omega) (by omega) (by omega)).2.2] at b1
    rw [(nw_ff (n := 21000000 + k * 1000) (k := 21) (i := k) (j := 0) (by omega) (by omega) (by omega)).1, (nw_ff (n := 21000000 + k * 1000) (k := 21) (i := k) (j := 0) (by omega) (by omega) (by omega)).2.1, (nw_ff (n := 21000000 + k * 1000) (k := 21) (i := k) (j := 0) (by omega) (by omega) (by omega)).2.2] at b2
    have eg : ab_sl_.getD k [] = [c, x, a] := by rw [List.getD_eq_getElem?_getD, List.getElem?_eq_getElem hk, ek]; rfl
    rw [eg] at h3
    have b1 : (Jvm.Cond.eq (.string (ab_cnm ((ab_sl_.getD k []).getD 0 0)) ((ab_sl_.getD k []).getD 1 0)) (nw_sT ((ab_sl_.getD k []).getD 2 0))).before args s = true := b1
    have b2 : (Jvm.Cond.stringRef (ab_cnm ((ab_sl_.getD k []).getD 0 0)) ((ab_sl_.getD k []).getD 1 0) (ab_txt ((ab_sl_.getD k []).getD 2 0))).before args s = true := b2
    rw [eg] at b1 b2
    rw [r11]
    exact vk_R.of (A := args) b2 (va_eqv b1 (hS a h3))
  · have h := List.all_eq_true.mp nw_e4 _ hm
    simp only [Bool.and_eq_true, decide_eq_true_eq, List.any_eq_true, Nat.beq_eq] at h
    obtain ⟨⟨h1, h2⟩, k, hk, h3, h4⟩ := h
    have hk21 : k < 21 := List.mem_range.mp hk
    have his : is < 1000 := by
      have q : nw_tx.all (fun r => Nat.blt r.1 1000) = true := by decide +kernel
      have e : nw_tx.getD k (0, "") ∈ nw_tx := by
        rw [List.getD_eq_getElem?_getD, List.getElem?_eq_getElem (show k < nw_tx.length from hk21)]
        exact List.getElem_mem _
      have := Nat.le_of_ble_eq_true (List.all_eq_true.mp q _ e)
      omega
    have b1 := nw_fR hg h1
    have b2 := hts _ (nw_fW h4)
    unfold nw_f at b1 b2
    rw [(nw_ff (n := 11000000 + is * 1000) (k := 11) (i := is) (j := 0) (by omega) (by omega) (by omega)).1, (nw_ff (n := 11000000 + is * 1000) (k := 11) (i := is) (j := 0) (by omega) (by omega) (by omega)).2.1, (nw_ff (n := 11000000 + is * 1000) (k := 11) (i := is) (j := 0) (by omega) (by omega) (by omega)).2.2] at b1
    rw [(nw_ff (n := 22000000 + k * 1000) (k := 22) (i := k) (j := 0) (by omega) (by omega) (by omega)).1, (nw_ff (n := 22000000 + k * 1000) (k := 22) (i := k) (j := 0) (by omega) (by omega) (by omega)).2.1, (nw_ff (n := 22000000 + k * 1000) (k := 22) (i := k) (j := 0) (by omega) (by omega) (by omega)).2.2] at b2
    have b1 : (Jvm.Cond.exactly (.string "MovingNames" is) "java/lang/String").before args s = true := b1
    have b2 : (Jvm.Cond.stringRef "MovingNames" (nw_tx.getD k (0, "")).1 (nw_tx.getD k (0, "")).2).before args s = true := b2
    rw [h3] at b2
    obtain ⟨a, ha⟩ := nw_ref b1
    rw [h2]
    exact ⟨_, a, vk_R.of (A := args) b2 ha⟩
  · have h := List.all_eq_true.mp nw_e5 e he
    have b1 := nw_fR hg h
    have hE : e.1 < 4 ∧ e.2 < 4 := by
      have q : ab_ncs.all (fun e => Nat.blt e.1 4 && Nat.blt e.2 4) = true := by decide +kernel
      have := List.all_eq_true.mp q e he
      simpa only [Bool.and_eq_true, Nat.blt_eq] using this
    unfold nw_f at b1
    rw [(nw_ff (n := 12000000 + e.1 * 1000 + e.2) (k := 12) (i := e.1) (j := e.2) (by omega) (by omega) (by omega)).1, (nw_ff (n := 12000000 + e.1 * 1000 + e.2) (k := 12) (i := e.1) (j := e.2) (by omega) (by omega) (by omega)).2.1, (nw_ff (n := 12000000 + e.1 * 1000 + e.2) (k := 12) (i := e.1) (j := e.2) (by omega) (by omega) (by omega)).2.2] at b1
    exact va_Nc.of (args := args) b1
end INJ
