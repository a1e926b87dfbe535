/-! What holds at the start. -/
theorem nw_K0 {args : Array Value} {s : State} (hts : ∀ w ∈ lw_tbl, w.before args s = true) : ∃ (D : va_G) (dA : Nat → ClassId), va_K D ab_cl (ab_ty dA) s := by
  have hot : ∀ w ∈ ab_ts, w.before args s = true := ab_hts (fun w hw _ => hts w hw)
  have h1 : ∀ c : Nat, ∃ p : ClassId × (Nat → Nat), ∀ q : vw_C, ab_cl[c]? = some q → u_Kn s q.1 q.2.1 q.2.2 p.1 p.2 := by
    intro c
    by_cases hc : c < 10
    · have hl : ab_cl[c]? = some (ab_cl.getD c ("", ab_T 0, 0)) := by
        rw [List.getD_eq_getElem?_getD]
        rw [List.getElem?_eq_getElem (show c < ab_cl.length from hc)]
        rfl
      have h2 := List.all_eq_true.mp nw_e6 c (List.mem_range.mpr hc)
      have h3 := nw_fW h2
      have e : nw_f (23000000 + c * 1000) = .instantiable (ab_cl.getD c ("", ab_T 0, 0)).1 (ab_cl.getD c ("", ab_T 0, 0)).2.2 := by
        unfold nw_f
        have a1 : (23000000 + c * 1000) / 1000000 = 23 := by omega
        have a2 : (23000000 + c * 1000) / 1000 % 1000 = c := by omega
        have a3 : (23000000 + c * 1000) % 1000 = 0 := by omega
        rw [a1, a2, a3]
        rfl
      rw [e] at h3
      have hT : (ab_cl.getD c ("", ab_T 0, 0)).2.1 = ab_T c := by
        have : ∀ c, c < 10 → (ab_cl.getD c ("", ab_T 0, 0)).2.1 = ab_T c := by
          intro c hc
          match c, hc with
          | 0, _ => rfl
          | 1, _ => rfl
          | 2, _ => rfl
          | 3, _ => rfl
          | 4, _ => rfl
          | 5, _ => rfl
          | 6, _ => rfl
          | 7, _ => rfl
          | 8, _ => rfl
          | 9, _ => rfl
        exact this c hc
      obtain ⟨dc, iS, hk⟩ := u_known (ws := ab_ts) (C := (ab_cl.getD c ("", ab_T 0, 0)).1) (T := ab_T c) (N := (ab_cl.getD c ("", ab_T 0, 0)).2.2) hot (ab_lays hc (by rw [hl, ← hT])) (hts _ h3)
      refine ⟨(dc, iS), fun q hq => ?_⟩
      rw [hl] at hq
      have hq := Option.some.inj hq
      subst hq
      rw [hT]
      exact hk
    · refine ⟨(0, fun _ => 0), fun q hq => ?_⟩
      have := (List.getElem?_eq_some_iff.mp hq).1
      exact absurd (show c < 10 from this) hc
  have hp : ∀ {ty : FieldType} {c : ClassId} {k : Class} {comp : ClassId}, s.vm.classes[c]? = some k → k.kind = .array comp ty → ArrOfT s c ty := fun {ty c k comp} h2 h3 n z => ⟨(fun k h => nomatch (show VmData.none = VmData.statics k from h)), k, h2, comp, h3⟩
  obtain ⟨c0, k0, q0, a0, b0, d0⟩ := Cond.arrayClass_spec (hts _ (ab_has_in (i := 187) (w := .arrayClass .int) (by decide +kernel)))
  obtain ⟨c1, k1, q1, a1, b1, d1⟩ := Cond.arrayClass_spec (hts _ (ab_has_in (i := 360) (w := .arrayClass .long) (by decide +kernel)))
  obtain ⟨c2, k2, q2, a2, b2, d2⟩ := Cond.arrayClass_spec (hts _ (ab_has_in (i := 1641) (w := .arrayClass .boolean) (by decide +kernel)))
  obtain ⟨m3, c3, k3, a3, b3, d3, e3, f3⟩ := Cond.arrayOver_spec (hts _ (ab_has_in (i := 362) (w := .arrayOver (.object "MovingNames$Tray")) (by decide +kernel)))
  obtain ⟨m4, c4, k4, a4, b4, d4, e4, f4⟩ := Cond.arrayOver_spec (hts _ (ab_has_in (i := 363) (w := .arrayOver (.object "MovingNames$Town")) (by decide +kernel)))
  refine ⟨(fun c => (h1 c).choose.1, fun c => (h1 c).choose.2), fun k => [c0, c1, c2, c3, c4].getD k 0, fun c q hq => (h1 c).choose_spec q hq, fun k q hq => ?_⟩
  match k, hq with
  | 0, hq =>
    obtain rfl := Option.some.inj hq
    exact ⟨hp b0 d0, a0⟩
  | 1, hq =>
    obtain rfl := Option.some.inj hq
    exact ⟨hp b1 d1, a1⟩
  | 2, hq =>
    obtain rfl := Option.some.inj hq
    exact ⟨hp b2 d2, a2⟩
  | 3, hq =>
    obtain rfl := Option.some.inj hq
    exact ⟨hp d3 e3, k3, m3, d3, e3, a3, f3⟩
  | 4, hq =>
    obtain rfl := Option.some.inj hq
    exact ⟨hp d4 e4, k4, m4, d4, e4, a4, f4⟩
  | k + 5, hq => exact absurd (List.getElem?_eq_some_iff.mp hq).1 (by show ¬ k + 5 < 5; omega)
theorem nw_AO0 {args : Array Value} {s : State} (hts : ∀ w ∈ lw_tbl, w.before args s = true) : va_AO "MovingNames$Tray" s ∧ va_AO "MovingNames$Town" s := ⟨va_AO.of (hts _ (ab_has_in (i := 362) (w := .arrayOver (.object "MovingNames$Tray")) (by decide +kernel))), va_AO.of (hts _ (ab_has_in (i := 363) (w := .arrayOver (.object "MovingNames$Town")) (by decide +kernel)))⟩
theorem nw_ff {n k i j : Nat} (h : n = k * 1000000 + i * 1000 + j) (hi : i < 1000) (hj : j < 1000) : n / 1000000 = k ∧ n / 1000 % 1000 = i ∧ n % 1000 = j := by
  subst h
  omega
theorem nw_OF {args : Array Value} {s : State} {t : Term} {a : Nat} {o n d : String} {v : Value} {A : Nat → Prop} (ht : t.eval args s none [] s = some (.ref a)) (hv : (Term.field t o n d).eval args s none [] s = some v) (hA : ∀ a : Nat, a < s.heap.size → ¬ A a) : va_OF o n d v a A s s.heap := by
  cases hfo : s.fieldFound? o n d with
  | none =>
    rw [va_fe ht] at hv
    simp [State.fieldOf?, State.fieldNamed?, hfo] at hv
  | some x =>
    obtain ⟨cf, k, fi, f⟩ := x
    obtain ⟨g1, cell, g2, g3, -, -, g6⟩ := Term.field_spec hfo ht hv
    exact ⟨cf, k, fi, f, cell, hfo, g1, g2, g3, g6, hA _ (Array.getElem?_eq_some_iff.mp g2).1⟩
theorem nw_ref {args : Array Value} {s : State} {t : Term} {C : String} (h : (Jvm.Cond.exactly t C).before args s = true) : ∃ a : Nat, t.eval args s none [] s = some (.ref a) := by
  obtain ⟨a, c, cA, kA, q1, -⟩ := Cond.exactly_spec (args := args) (first := s) (o := none) (s := s) (idx := []) (t := t) (cls := C) h
  exact ⟨a, q1⟩
section INI
variable {args : Array Value} {s : State}
/-- tokens and texts, one by one -/
theorem nw_tok (hg : (Jvm.Cond.and given_1 narrow_1).before args s = true) {i : Nat} (hi : i < 33) : (Jvm.Cond.exactly (nw_tS i) "MovingNames$Token").before args s = true ∧ (Jvm.Cond.eq (.field (nw_tS i) "java/lang/Enum" "ordinal" "I") (.int (Int32.ofNat i))).before args s = true ∧ (Jvm.Cond.eq (.field (nw_tS i) "MovingNames$Token" "text" "Ljava/lang/String;") (nw_sT (ab_tx i))).before args s = true ∧ (Jvm.Cond.eq (.field (nw_tS i) "MovingNames$Token" "law" "I") (.int (ab_tl i))).before args s = true ∧ (Jvm.Cond.eq (.elem nw_TS (.int (Int32.ofNat i))) (nw_tS i)).before args s = true ∧ Jvm.Cond.laysStatic "MovingNames$Token" (ab_tn.getD i "") "LMovingNames$Token;" ∈ lw_tbl ∧ ab_tx i < 30 := by
  have h := List.all_eq_true.mp nw_e1 i (List.mem_range.mpr hi)
  simp only [Bool.and_eq_true, Nat.blt_eq] at h
  obtain ⟨⟨⟨⟨⟨⟨⟨h0, h1⟩, h2⟩, h3⟩, h4⟩, h5⟩, h6⟩, -⟩ := h
  have b0 := nw_fR hg h0
  have b1 := nw_fR hg h1
  have b2 := nw_fR hg h2
  have b3 := nw_fR hg h3
  have b4 := nw_fR hg h4
  have b5 := nw_fW h5
  unfold nw_f at b0 b1 b2 b3 b4 b5
  rw [(nw_ff (n := i * 1000) (k := 0) (i := i) (j := 0) (by omega) (by omega) (by omega)).1, (nw_ff (n := i * 1000) (k := 0) (i := i) (j := 0) (by omega) (by omega) (by omega)).2.1, (nw_ff (n := i * 1000) (k := 0) (i := i) (j := 0) (by omega) (by omega) (by omega)).2.2] at b0
  rw [(nw_ff (n := 1000000 + i * 1000) (k := 1) (i := i) (j := 0) (by omega) (by omega) (by omega)).1, (nw_ff (n := 1000000 + i * 1000) (k := 1) (i := i) (j := 0) (by omega) (by omega) (by omega)).2.1, (nw_ff (n := 1000000 + i * 1000) (k := 1) (i := i) (j := 0) (by omega) (by omega) (by omega)).2.2] at b1
  rw [(nw_ff (n := 2000000 + i * 1000) (k := 2) (i := i) (j := 0) (by omega) (by omega) (by omega)).1, (nw_ff (n := 2000000 + i * 1000) (k := 2) (i := i) (j := 0) (by omega) (by omega) (by omega)).2.1, (nw_ff (n := 2000000 + i * 1000) (k := 2) (i := i) (j := 0) (by omega) (by omega) (by omega)).2.2] at b2
  rw [(nw_ff (n := 3000000 + i * 1000) (k := 3) (i := i) (j := 0) (by omega) (by omega) (by omega)).1, (nw_ff (n := 3000000 + i * 1000) (k := 3) (i := i) (j := 0) (by omega) (by omega) (by omega)).2.1, (nw_ff (n := 3000000 + i * 1000) (k := 3) (i := i) (j := 0) (by omega) (by omega) (by omega)).2.2] at b3
  rw [(nw_ff (n := 4000000 + i * 1000) (k := 4) (i := i) (j := 0) (by omega) (by omega) (by omega)).1, (nw_ff (n := 4000000 + i * 1000) (k := 4) (i := i) (j := 0) (by omega) (by omega) (by omega)).2.1, (nw_ff (n := 4000000 + i * 1000) (k := 4) (i := i) (j := 0) (by omega) (by omega) (by omega)).2.2] at b4
  rw [(nw_ff (n := 20000000 + i * 1000) (k := 20) (i := i) (j := 0) (by omega) (by omega) (by omega)).1, (nw_ff (n := 20000000 + i * 1000) (k := 20) (i := i) (j := 0) (by omega) (by omega) (by omega)).2.1, (nw_ff (n := 20000000 + i * 1000) (k := 20) (i := i) (j := 0) (by omega) (by omega) (by omega)).2.2] at b5
  exact ⟨b0, b1, b2, b3, b4, b5, h6⟩
theorem nw_str (hg : (Jvm.Cond.and given_1 narrow_1).before args s = true) {a : Nat} (ha : a < 30) : (Jvm.Cond.exactly (nw_sT a) "java/lang/String").before args s = true ∧ (Jvm.Cond.eq (.field (nw_sT a) "java/lang/String" "coder" "B") (.int 0)).before args s = true ∧ (Jvm.Cond.arrayOf (nw_vT a) .byte).before args s = true ∧ (Jvm.Cond.eq (.length (nw_vT a)) (.int (Int32.ofNat (ab_sl a)))).before args s = true ∧ ∀ j, j < ab_sl a → (Jvm.Cond.eq (.elem (nw_vT a) (.int (Int32.ofNat j))) (.int (ab_sb a j))).before args s = true := by
  have h := List.all_eq_true.mp nw_e2 a (List.mem_range.mpr ha)
  simp only [Bool.and_eq_true] at h
  obtain ⟨⟨⟨⟨h0, h1⟩, h2⟩, h3⟩, h4⟩ := h
  have b0 := nw_fR hg h0
  have b1 := nw_fR hg h1
  have b2 := nw_fR hg h2
  have b3 := nw_fR hg h3
  unfold nw_f at b0 b1 b2 b3
  rw [(nw_ff (n := 5000000 + a * 1000) (k := 5) (i := a) (j := 0) (by omega) (by omega) (by omega)).1, (nw_ff (n := 5000000 + a * 1000) (k := 5) (i := a) (j := 0) (by omega) (by omega) (by omega)).2.1, (nw_ff (n := 5000000 + a * 1000) (k := 5) (i := a) (j := 0) (by omega) (by omega) (by omega)).2.2] at b0
  rw [(nw_ff (n := 6000000 + a * 1000) (k := 6) (i := a) (j := 0) (by omega) (by omega) (by omega)).1, (nw_ff (n := 6000000 + a * 1000) (k := 6) (i := a) (j := 0) (by omega) (by omega) (by omega)).2.1, (nw_ff (n := 6000000 + a * 1000) (k := 6) (i := a) (j := 0) (by omega) (by omega) (by omega)).2.2] at b1
  rw [(nw_ff (n := 7000000 + a * 1000) (k := 7) (i := a) (j := 0) (by omega) (by omega) (by omega)).1, (nw_ff (n := 7000000 + a * 1000) (k := 7) (i := a) (j := 0) (by omega) (by omega) (by omega)).2.1, (nw_ff (n := 7000000 + a * 1000) (k := 7) (i := a) (j := 0) (by omega) (by omega) (by omega)).2.2] at b2
  rw [(nw_ff (n := 8000000 + a * 1000) (k := 8) (i := a) (j := 0) (by omega) (by omega) (by omega)).1, (nw_ff (n := 8000000 + a * 1000) (k := 8) (i := a) (j := 0) (by omega) (by omega) (by omega)).2.1, (nw_ff (n := 8000000 + a * 1000) (k := 8) (i := a) (j := 0) (by omega) (by omega) (by omega)).2.2] at b3
  refine ⟨b0, b1, b2, b3, fun j hj => ?_⟩
  have hl : ab_sl a < 100 := by
    have q : (List.range 30).all (fun a => Nat.blt (ab_sl a) 100) = true := by decide +kernel
    exact Nat.le_of_ble_eq_true (List.all_eq_true.mp q a (List.mem_range.mpr ha))
  have b4 := nw_fR hg (List.all_eq_true.mp h4 j (List.mem_range.mpr hj))
  unfold nw_f at b4
  rw [(nw_ff (n := 9000000 + a * 1000 + j) (k := 9) (i := a) (j := j) (by omega) (by omega) (by omega)).1, (nw_ff (n := 9000000 + a * 1000 + j) (k := 9) (i := a) (j := j) (by omega) (by omega) (by omega)).2.1, (nw_ff (n := 9000000 + a * 1000 + j) (k := 9) (i := a) (j := j) (by omega) (by omega) (by omega)).2.2] at b4
  exact b4
end INI
