/-! What a method's table does with what was thrown. -/
noncomputable def ab_zOK (o : Nat) : List (Nat × Nat × Nat × Nat) → List (Nat × Nat × Nat × Nat) → Bool
  | [], [] => true
  | (a, b, h, E) :: hs, (a', b', h', t) :: hw => Nat.beq a a' && Nat.beq b b' && Nat.beq h h' && !Nat.beq t 0 && Nat.blt E 4 && lw_tbl.any (fun w => decide (w = Cond.classLink (ab_cnm o) t (ab_exn E))) && ab_zOK o hs hw
  | _, _ => false
theorem ab_hwT : (List.range 361).all (fun m => ab_zOK (ab_ow m) (ab_hs m) (ab_hw m)) = true := by decide +kernel
theorem ab_castE : (List.range 4).all (fun E => lw_tbl.any (fun w => decide (w = Cond.castable (ab_exn E) (ab_exn E)))) = true := by decide +kernel
theorem ab_ncsT : (List.range 4).all (fun E => (List.range 4).all (fun e => Nat.beq E e || ab_ncs.any (fun z => decide (z = (E, e))))) = true := by decide +kernel
/-- a row of the table that lets E pass at pc -/
def ab_lets (o pc E : Nat) (z : ExceptionTableEntry) : Prop := covers z pc = false ∨ (z.catchType ≠ 0 ∧ ∃ e : Nat, e < 4 ∧ E ≠ e ∧ Cond.classLink (ab_cnm o) z.catchType (ab_exn e) ∈ lw_tbl)
theorem ab_anyw' {w : Jvm.Cond} (h : (lw_tbl.any fun z => decide (z = w)) = true) : w ∈ lw_tbl := ab_anyw h
theorem ab_hd_spec {o pc E : Nat} : ∀ (hs hw : List (Nat × Nat × Nat × Nat)), ab_zOK o hs hw = true → (ab_hd hs pc E = none → ∀ z ∈ tableOf hw, ab_lets o pc E z) ∧ (∀ h : Nat, ab_hd hs pc E = some h → ∃ (pre : List ExceptionTableEntry) (x : ExceptionTableEntry) (suf : List ExceptionTableEntry), tableOf hw = pre ++ x :: suf ∧ (∀ z ∈ pre, ab_lets o pc E z) ∧ covers x pc = true ∧ x.catchType ≠ 0 ∧ x.handlerPc = h ∧ Cond.classLink (ab_cnm o) x.catchType (ab_exn E) ∈ lw_tbl ∧ E < 4)
  | [], [], _ => ⟨fun _ z hz => (nomatch hz), fun h e => (nomatch e)⟩
  | [], _ :: _, q => nomatch q
  | _ :: _, [], q => nomatch q
  | (a, b, h, e) :: hs, (a', b', h', t) :: hw, q => by
    rw [ab_zOK] at q
    simp only [Bool.and_eq_true, Nat.beq_eq, Nat.blt_eq, Bool.not_eq_true'] at q
    obtain ⟨⟨⟨⟨⟨⟨rfl, rfl⟩, rfl⟩, q4⟩, q5⟩, q6⟩, q7⟩ := q
    obtain ⟨i1, i2⟩ := ab_hd_spec (pc := pc) (E := E) hs hw q7
    have ht : t ≠ 0 := fun z => by rw [z] at q4; cases q4
    have hl := ab_anyw q6
    have et : tableOf ((a, b, h, t) :: hw) = (⟨a, b, h, t⟩ : ExceptionTableEntry) :: tableOf hw := rfl
    rw [et]
    by_cases hc : (Nat.ble a pc && Nat.blt pc b) = true
    · by_cases he : E = e
      · subst he
        have e1 : ab_hd ((a, b, h, E) :: hs) pc E = some h := by
          rw [ab_hd, hc, ab_cs, Nat.beq_refl]
          rfl
        refine ⟨fun z => (by rw [e1] at z; cases z), fun h9 z => ?_⟩
        rw [e1] at z
        obtain rfl := Option.some.inj z
        refine ⟨[], ⟨a, b, h, t⟩, tableOf hw, rfl, fun z hz => (nomatch hz), ?_, ht, rfl, hl, q5⟩
        rw [Bool.and_eq_true, Nat.ble_eq, Nat.blt_eq] at hc
        show (decide (a ≤ pc) && decide (pc < b)) = true
        rw [decide_eq_true hc.1, decide_eq_true hc.2]
        rfl
      · have e1 : ab_hd ((a, b, h, e) :: hs) pc E = ab_hd hs pc E := by
          rw [ab_hd, hc, ab_cs, ab_nb he]
          rfl
        rw [e1]
        have hlet : ab_lets o pc E ⟨a, b, h, t⟩ := Or.inr ⟨ht, e, q5, he, hl⟩
        refine ⟨fun z x hx => ?_, fun h9 z => ?_⟩
        · rcases List.mem_cons.mp hx with rfl | hx
          · exact hlet
          · exact i1 z x hx
        · obtain ⟨pre, x, suf, p1, p2, p3⟩ := i2 h9 z
          exact ⟨⟨a, b, h, t⟩ :: pre, x, suf, by rw [p1]; rfl, fun z hz => by
            rcases List.mem_cons.mp hz with rfl | hz
            · exact hlet
            · exact p2 z hz, p3⟩
    · have hcf : (Nat.ble a pc && Nat.blt pc b) = false := by
        cases hz : (Nat.ble a pc && Nat.blt pc b) with
        | false => rfl
        | true => exact absurd hz hc
      have e1 : ab_hd ((a, b, h, e) :: hs) pc E = ab_hd hs pc E := by
        rw [ab_hd, hcf]
        rfl
      rw [e1]
      have hlet : ab_lets o pc E ⟨a, b, h, t⟩ := Or.inl (by
        show (decide (a ≤ pc) && decide (pc < b)) = false
        cases hz : (decide (a ≤ pc) && decide (pc < b)) with
        | false => rfl
        | true =>
          rw [Bool.and_eq_true, decide_eq_true_eq, decide_eq_true_eq] at hz
          exact absurd (by rw [Bool.and_eq_true, Nat.ble_eq, Nat.blt_eq]; exact hz) hc)
      refine ⟨fun z x hx => ?_, fun h9 z => ?_⟩
      · rcases List.mem_cons.mp hx with rfl | hx
        · exact hlet
        · exact i1 z x hx
      · obtain ⟨pre, x, suf, p1, p2, p3⟩ := i2 h9 z
        exact ⟨⟨a, b, h, t⟩ :: pre, x, suf, by rw [p1]; rfl, fun z hz => by
          rcases List.mem_cons.mp hz with rfl | hz
          · exact hlet
          · exact p2 z hz, p3⟩
