/-! What the abstract machine answers when it is let run long enough. -/
section NAT
variable {α β : Type} {h : α → Option β}
theorem na_pI {K : List ab_V} {f : Int32 → List ab_V → Option α} : (ab_pI K f).bind h = ab_pI K (fun x K => (f x K).bind h) := by
  unfold ab_pI
  split <;> rfl
theorem na_pJ {K : List ab_V} {f : Int64 → List ab_V → Option α} : (ab_pJ K f).bind h = ab_pJ K (fun x K => (f x K).bind h) := by
  unfold ab_pJ
  split <;> rfl
theorem na_pR {K : List ab_V} {f : Nat → Nat → List ab_V → Option α} : (ab_pR K f).bind h = ab_pR K (fun k i K => (f k i K).bind h) := by
  unfold ab_pR
  split <;> rfl
theorem na_pA {K : List ab_V} {f : ab_V → List ab_V → Option α} : (ab_pA K f).bind h = ab_pA K (fun x K => (f x K).bind h) := by
  unfold ab_pA
  split <;> rfl
theorem na_p {K : List ab_V} {f : ab_V → List ab_V → Option α} : (ab_p K f).bind h = ab_p K (fun x K => (f x K).bind h) := by
  unfold ab_p
  split <;> rfl
theorem na_lI {L : ab_L} {i : Nat} {f : Int32 → Option α} : (ab_lI L i f).bind h = ab_lI L i (fun x => (f x).bind h) := by
  unfold ab_lI
  split <;> rfl
theorem na_lJ {L : ab_L} {i : Nat} {f : Int64 → Option α} : (ab_lJ L i f).bind h = ab_lJ L i (fun x => (f x).bind h) := by
  unfold ab_lJ
  split <;> rfl
theorem na_lA {L : ab_L} {i : Nat} {f : ab_V → Option α} : (ab_lA L i f).bind h = ab_lA L i (fun x => (f x).bind h) := by
  unfold ab_lA
  split <;> rfl
theorem na_cond {b : Bool} {x y : Option α} : (bif b then x else y).bind h = bif b then x.bind h else y.bind h := by cases b <;> rfl
theorem na_ite {c : Prop} {q : Decidable c} {x y : Option α} : (ite c x y).bind h = ite c (x.bind h) (y.bind h) := by split <;> rfl
theorem na_s1 {L : ab_L} {i : Nat} {v : Option ab_V} {f : ab_L → Option α} : (ab_s1 L i v f).bind h = ab_s1 L i v (fun L => (f L).bind h) := by
  unfold ab_s1
  rw [na_cond]
  rfl
theorem na_s2 {L : ab_L} {i : Nat} {v : ab_V} {f : ab_L → Option α} : (ab_s2 L i v f).bind h = ab_s2 L i v (fun L => (f L).bind h) := by
  unfold ab_s2
  rw [na_cond]
  rfl
theorem na_br {c : Jvm.ClassFile.Cond} {x y : Int32} {a b : Option α} : (ab_br c x y a b).bind h = ab_br c x y (a.bind h) (b.bind h) := by
  unfold ab_br
  cases c <;> exact na_ite
theorem na_rI {X : (Nat → Int32) × Nat} {k i : Nat} {j : Int32} {s : ab_S} {f : Int32 → Option α} : (ab_rI X k i j s f).bind h = ab_rI X k i j s (fun x => (f x).bind h) := by
  unfold ab_rI
  split
  · exact na_ite
  · rfl
theorem na_rL {X : (Nat → Int32) × Nat} {k i : Nat} {j : Int32} {s : ab_S} {f : Int64 → Option α} : (ab_rL X k i j s f).bind h = ab_rL X k i j s (fun x => (f x).bind h) := by
  unfold ab_rL
  split
  · exact na_ite
  · rfl
theorem na_rA {X : (Nat → Int32) × Nat} {k i : Nat} {j : Int32} {s : ab_S} {f : ab_V → Option α} : (ab_rA X k i j s f).bind h = ab_rA X k i j s (fun x => (f x).bind h) := by
  unfold ab_rA
  split
  · rw [na_ite]
    congr 1
    split
    · split <;> rfl
    · rfl
    · rfl
  · rfl
theorem na_uI {X : (Nat → Int32) × Nat} {k i : Nat} {j x : Int32} {s : ab_S} {f : ab_S → Option α} : (ab_uI X k i j x s f).bind h = ab_uI X k i j x s (fun s => (f s).bind h) := by
  unfold ab_uI
  split
  · rw [na_ite]
    congr 1
    split <;> rfl
  · rfl
theorem na_uL {X : (Nat → Int32) × Nat} {k i : Nat} {j : Int32} {x : Int64} {s : ab_S} {f : ab_S → Option α} : (ab_uL X k i j x s f).bind h = ab_uL X k i j x s (fun s => (f s).bind h) := by
  unfold ab_uL
  split
  · rw [na_ite]
    congr 1
    split <;> rfl
  · rfl
theorem na_uA {X : (Nat → Int32) × Nat} {k i : Nat} {j : Int32} {v : ab_V} {s : ab_S} {f : ab_S → Option α} : (ab_uA X k i j v s f).bind h = ab_uA X k i j v s (fun s => (f s).bind h) := by
  unfold ab_uA
  split
  · rw [na_ite]
    congr 1
    split <;> rfl
  · rfl
theorem na_n : (none : Option α).bind h = none := rfl
/-- a plain instruction asks what follows once, at one place, or answers -/
theorem ab_x_nat {X : (Nat → Int32) × Nat} {rt : Nat} {I : Instr} {n pc : Nat} {L : ab_L} {K : List ab_V} {s : ab_S} {g : Nat → ab_L → List ab_V → ab_S → Option α} {r : Option ab_V → Option α} : (ab_x X rt I n pc L K s g r).bind h = ab_x X rt I n pc L K s (fun pc L K s => (g pc L K s).bind h) (fun v => (r v).bind h) := by
  cases I
  all_goals first
    | rfl
    | (simp only [ab_x, na_pI, na_pJ, na_pR, na_pA, na_p, na_lI, na_lJ, na_lA, na_s1, na_s2, na_br, na_rI, na_rL, na_rA, na_uI, na_uL, na_uA, na_ite, na_cond, na_n]; done)
    | (simp only [ab_x]; split <;> first | rfl | (rw [na_cond]; rfl))
    | (simp only [ab_x]; split <;> first | rfl | (split <;> first | rfl | exact na_ite | exact na_cond | (rw [na_ite]; congr 1; exact na_ite)))
    | (simp only [ab_x, na_pI, na_pJ, na_pR, na_pA, na_p, na_lI, na_lJ, na_lA, na_s1, na_s2, na_br, na_rI, na_rL, na_rA, na_uI, na_uL, na_uA, na_ite, na_cond, na_n]; congr 1; funext k2 i2 K; congr 1; funext k1 i1 K; congr 1; split <;> exact na_ite)
    | (simp only [ab_x, na_pI, na_pJ, na_pR, na_pA, na_p, na_lI, na_lJ, na_lA, na_s1, na_s2, na_br, na_rI, na_rL, na_rA, na_uI, na_uL, na_uA, na_ite, na_cond, na_n]; congr 1; funext x K; congr 1; split <;> rfl)
    | (simp only [ab_x, na_pI, na_pJ, na_pR, na_pA, na_p, na_lI, na_lJ, na_lA, na_s1, na_s2, na_br, na_rI, na_rL, na_rA, na_uI, na_uL, na_uA, na_ite, na_cond, na_n]; congr 1; funext x i K; split <;> rfl)
    | skip
end NAT
/-- where a plain instruction goes on, or what it answers -/
abbrev ab_N : Type := (Nat × ab_L × List ab_V × ab_S) ⊕ Option ab_V
def ab_x1 (X : (Nat → Int32) × Nat) (rt : Nat) (I : Instr) (n pc : Nat) (L : ab_L) (K : List ab_V) (s : ab_S) : Option ab_N := ab_x X rt I n pc L K s (fun pc L K s => some (.inl (pc, L, K, s))) (fun v => some (.inr v))
theorem ab_x_eq {α : Type} {X : (Nat → Int32) × Nat} {rt : Nat} {I : Instr} {n pc : Nat} {L : ab_L} {K : List ab_V} {s : ab_S} {g : Nat → ab_L → List ab_V → ab_S → Option α} {r : Option ab_V → Option α} : ab_x X rt I n pc L K s g r = (ab_x1 X rt I n pc L K s).bind (fun z => match z with
  | .inl (pc, L, K, s) => g pc L K s
  | .inr v => r v) := by
  rw [ab_x1, ab_x_nat]
  rfl
abbrev ab_R : Type := Option (ab_O × ab_S)
/-- what follows a throw in a callee -/
noncomputable def ab_hx (m pc : Nat) (L : ab_L) (E : Nat) (s : ab_S) (G : Nat → ab_L → List ab_V → ab_S → ab_R) : ab_R := match ab_hd (ab_hs m) pc E with
  | none => some (.inr E, s)
  | some h => match ab_code m h with
    | some (.inl (.astore_n j), n) => ab_s1 L j.val none fun L => G (h + n) L [] s
    | some (.inl (.astore j), n) => ab_s1 L j none fun L => G (h + n) L [] s
    | _ => none
/-- one step: G what follows, C the calls -/
noncomputable def ab_stp (X : (Nat → Int32) × Nat) (d m pc : Nat) (L : ab_L) (K : List ab_V) (s : ab_S) (G : Nat → ab_L → List ab_V → ab_S → ab_R) (C : Nat → Nat → List ab_V → ab_S → ab_R) : ab_R :=
  match ab_code m pc with
  | some (.inl I, n) => ab_x X (ab_rt m) I n pc L K s G (fun v => some (.inl v, s))
  | some (.inr (op, a, b), n) => match op with
    | 0 => ab_pR K fun k i K => bif Nat.beq k a then (match ab_gf k i b.toNat s with
      | some v => G (pc + n) L (v :: K) s
      | none => none) else none
    | 1 => ab_p K fun v K => ab_pR K fun k i K => bif Nat.beq k a then (match ab_pf k i b.toNat v s with
      | some s => G (pc + n) L K s
      | none => none) else none
    | 2 => match d, ab_pop b.toNat K [] with
      | d' + 1, some (as, K) => bif Nat.ble (ab_sum K) 8 && Nat.ble (ab_sum as) (ab_ml a) && ab_rk (ab_2 ab_rkT a 99) as then (match C d' a as s with
        | some (.inl none, s) => G (pc + n) L K s
        | some (.inl (some v), s) => G (pc + n) L (v :: K) s
        | some (.inr E, s) => ab_hx m pc L E s G
        | none => none) else none
      | _, _ => none
    | 3 => G (pc + n) L (.inr (10, a) :: K) s
    | 4 => G (pc + n) L (.inr (13, 0) :: K) s
    | 5 => G (pc + n) L (.inl (.int (Int32.ofInt b)) :: K) s
    | 6 => G (pc + n) L (.inr (ab_fmk, 0) :: K) s
    | 7 => G (pc + n) L (.inr (11, a) :: K) s
    | 8 => G (pc + n) L (.inl (.int (Int32.ofInt b)) :: K) s
    | 9 => G (pc + n) L (.inl (.long (Int64.ofInt b)) :: K) s
    | 10 => match ab_hs m with
      | [] => bif Nat.ble (ab_sum K) 8 then some (.inr a, pn (pn s 0 (sn s 0 + 1)) 1 (sn s 1 + 6)) else none
      | _ => none
    | 11 => match a with
      | 2 => bif Nat.ble (ab_sum K) 8 then G (pc + n) L (.inr (2, sn s 2) :: K) (ab_newT s) else none
      | 8 => bif Nat.ble (ab_sum K) 8 then G (pc + n) L (.inr (8, sn s 3) :: K) (ab_newR s) else none
      | _ => none
    | 12 => match K with
      | .inl (.int c) :: .inl (.int dp) :: .inr (k1, i1) :: .inl (.int sp) :: .inr (k0, i0) :: K => match (bif Nat.ble (ab_sum K) 8 then ab_cpy X k0 i0 sp k1 i1 dp c s else none) with
        | some s => G (pc + n) L K s
        | none => none
      | _ => none
    | _ => none
  | none => none
noncomputable abbrev ab_rG (X : (Nat → Int32) × Nat) (q d m : Nat) : Nat → ab_L → List ab_V → ab_S → ab_R := fun pc L K s => ab_run X q d m pc L K s
noncomputable abbrev ab_rC (X : (Nat → Int32) × Nat) (q : Nat) : Nat → Nat → List ab_V → ab_S → ab_R := fun d a as s => ab_run X q d a 0 (ab_ent (ab_ml a) as) [] s
theorem ab_run_S {X : (Nat → Int32) × Nat} {q d m pc : Nat} {L : ab_L} {K : List ab_V} {s : ab_S} : ab_run X (q + 1) d m pc L K s = ab_stp X d m pc L K s (ab_rG X q d m) (ab_rC X q) := by
  rw [ab_run]
  rfl
theorem ab_s1_b {α : Type} {y : α} {L : ab_L} {i : Nat} {v : Option ab_V} {f : ab_L → Option α} (h : ab_s1 L i v f = some y) : Nat.blt i L.length = true ∧ f ((ab_clr L i).set i v) = some y := by
  unfold ab_s1 at h
  cases e : Nat.blt i L.length with
  | true =>
    rw [e] at h
    exact ⟨rfl, h⟩
  | false =>
    rw [e] at h
    cases h
/-- what a method may answer, by what its descriptor says -/
def ab_ro (rt : Nat) (o : ab_O) : Prop := match o with
  | .inr _ => True
  | .inl none => rt = 0
  | .inl (some (.inl (.int _))) => rt ≠ 0 ∧ rt ≠ 2 ∧ rt ≠ 3
  | .inl (some (.inl (.long _))) => rt = 2
  | .inl (some (.inr _)) => rt = 3
  | _ => False
theorem ab_x1_ro {X : (Nat → Int32) × Nat} {rt : Nat} {I : Instr} {n pc : Nat} {L : ab_L} {K : List ab_V} {s : ab_S} {v : Option ab_V} (h : ab_x1 X rt I n pc L K s = some (.inr v)) : ab_ro rt (.inl v) := by
  unfold ab_x1 at h
  cases I
  case ireturn =>
    simp only [ab_x] at h
    split at h
    · split at h
      · cases h
        exact ⟨by decide, by decide, by decide⟩
      · split at h
        · cases h
          exact ⟨by decide, by decide, by decide⟩
        · split at h
          · cases h
            exact ⟨by decide, by decide, by decide⟩
          · cases h
      · split at h
        · cases h
          exact ⟨by decide, by decide, by decide⟩
        · cases h
      · split at h
        · cases h
          exact ⟨by decide, by decide, by decide⟩
        · cases h
      · cases h
    · cases h
  case lreturn =>
    simp only [ab_x] at h
    split at h
    · split at h
      · cases h
        rfl
      · cases h
    · cases h
  case areturn =>
    simp only [ab_x] at h
    split at h
    · split at h
      · cases h
        rfl
      · cases h
    · cases h
  case return_ =>
    simp only [ab_x] at h
    split at h
    · split at h
      · cases h
        rfl
      · cases h
    · cases h
  all_goals exfalso
  all_goals simp only [ab_x, ab_pI, ab_pJ, ab_pR, ab_pA, ab_p, ab_lI, ab_lJ, ab_lA, ab_s1, ab_s2, ab_br, ab_rI, ab_rL, ab_rA, ab_uI, ab_uL, ab_uA, cond_eq_ite] at h
  all_goals first
    | (cases h; done)
    | (repeat' split at h) <;> (cases h; done)
    | skip
section TRC
variable {X : (Nat → Int32) × Nat} {d m pc : Nat} {L : ab_L} {K : List ab_V} {s : ab_S} {G : Nat → ab_L → List ab_V → ab_S → ab_R} {C : Nat → Nat → List ab_V → ab_S → ab_R} {y : ab_O × ab_S}
/-- what a step that answers has asked -/
def ab_tr (m : Nat) (G : Nat → ab_L → List ab_V → ab_S → ab_R) (C : Nat → Nat → List ab_V → ab_S → ab_R) (y : ab_O × ab_S) (F : (Nat → ab_L → List ab_V → ab_S → ab_R) → (Nat → Nat → List ab_V → ab_S → ab_R) → ab_R) : Prop :=
  ∃ (ug : Option (Nat × ab_L × List ab_V × ab_S)) (uc : Option (Nat × Nat × List ab_V × ab_S)), (∀ u, ug = some u → ∃ z, G u.1 u.2.1 u.2.2.1 u.2.2.2 = some z) ∧ (∀ u, uc = some u → ∃ z, C u.1 u.2.1 u.2.2.1 u.2.2.2 = some z) ∧ ((∃ u, ug = some u ∧ G u.1 u.2.1 u.2.2.1 u.2.2.2 = some y) ∨ ab_ro (ab_rt m) y.1) ∧
    ∀ (G' : Nat → ab_L → List ab_V → ab_S → ab_R) (C' : Nat → Nat → List ab_V → ab_S → ab_R), (∀ u, ug = some u → G' u.1 u.2.1 u.2.2.1 u.2.2.2 = G u.1 u.2.1 u.2.2.1 u.2.2.2) → (∀ u, uc = some u → C' u.1 u.2.1 u.2.2.1 u.2.2.2 = C u.1 u.2.1 u.2.2.1 u.2.2.2) → F G' C' = some y
theorem ab_tr_g {F : (Nat → ab_L → List ab_V → ab_S → ab_R) → (Nat → Nat → List ab_V → ab_S → ab_R) → ab_R} {pc : Nat} {L : ab_L} {K : List ab_V} {s : ab_S} (hF : ∀ G' C', F G' C' = G' pc L K s) (h : F G C = some y) : ab_tr m G C y F := by
  rw [hF] at h
  exact ⟨some (pc, L, K, s), none, fun u e => by cases e; exact ⟨y, h⟩, fun u e => (by cases e), Or.inl ⟨_, rfl, h⟩, fun G' C' h1 h2 => by rw [hF, h1 _ rfl]; exact h⟩
theorem ab_tr_c {F : (Nat → ab_L → List ab_V → ab_S → ab_R) → (Nat → Nat → List ab_V → ab_S → ab_R) → ab_R} (hro : ab_ro (ab_rt m) y.1) (hF : ∀ G' C', F G' C' = some y) : ab_tr m G C y F :=
  ⟨none, none, fun u e => (by cases e), fun u e => (by cases e), Or.inr hro, fun G' C' _ _ => hF G' C'⟩
theorem ab_tr_n {F : (Nat → ab_L → List ab_V → ab_S → ab_R) → (Nat → Nat → List ab_V → ab_S → ab_R) → ab_R} (hF : ∀ G' C', F G' C' = none) (h : F G C = some y) : ab_tr m G C y F := by
  rw [hF] at h
  cases h
theorem ab_hx_tr {E : Nat} (h : ab_hx m pc L E s G = some y) : ((∀ G', ab_hx m pc L E s G' = some y) ∧ ab_ro (ab_rt m) y.1) ∨ ∃ (pc' : Nat) (L' : ab_L) (K' : List ab_V) (s' : ab_S), G pc' L' K' s' = some y ∧ ∀ G', ab_hx m pc L E s G' = G' pc' L' K' s' := by
  unfold ab_hx at h ⊢
  split at h
  · refine Or.inl ⟨fun G' => h, ?_⟩
    cases h
    trivial
  · rename_i hq hh
    split at h
    · rename_i j n hcd
      obtain ⟨hj, h1⟩ := ab_s1_b h
      refine Or.inr ⟨_, _, _, _, h1, fun G' => ?_⟩
      show ab_s1 L j.val none _ = _
      unfold ab_s1
      rw [hj]
      rfl
    · rename_i j n hcd
      obtain ⟨hj, h1⟩ := ab_s1_b h
      refine Or.inr ⟨_, _, _, _, h1, fun G' => ?_⟩
      show ab_s1 L j none _ = _
      unfold ab_s1
      rw [hj]
      rfl
    · cases h
theorem ab_stp_tr (h : ab_stp X d m pc L K s G C = some y) : ab_tr m G C y (ab_stp X d m pc L K s) := by
  cases hc : ab_code m pc with
  | none =>
    unfold ab_stp at h
    rw [hc] at h
    cases h
  | some z =>
    obtain ⟨r, n⟩ := z
    rcases r with I | ⟨op, a, b⟩
    · have e : ∀ G' C', ab_stp X d m pc L K s G' C' = ab_x X (ab_rt m) I n pc L K s G' (fun v => some (.inl v, s)) := by
        intro G' C'
        unfold ab_stp
        rw [hc]
        try rfl
      cases e1 : ab_x1 X (ab_rt m) I n pc L K s with
      | none => exact ab_tr_n (fun G' C' => by rw [e, ab_x_eq, e1]; rfl) h
      | some z =>
        rcases z with ⟨pc', L', K', s'⟩ | v
        · exact ab_tr_g (pc := pc') (L := L') (K := K') (s := s') (fun G' C' => by rw [e, ab_x_eq, e1]; rfl) h
        · have h1 := h
          rw [e, ab_x_eq, e1] at h1
          refine ab_tr_c ?_ (fun G' C' => by rw [e, ab_x_eq, e1]; exact h1)
          have h2 : some (Sum.inl v, s) = some y := h1
          cases h2
          exact ab_x1_ro e1
    · rcases op with _ | _ | _ | _ | _ | _ | _ | _ | _ | _ | _ | _ | _ | op
      · have e : ∀ G' C', ab_stp X d m pc L K s G' C' = (ab_pR K fun k i K => bif Nat.beq k a then (match ab_gf k i b.toNat s with
          | some v => G' (pc + n) L (v :: K) s
          | none => none) else none) := by
          intro G' C'
          unfold ab_stp
          rw [hc]
          try rfl
        unfold ab_pR at e
        split at e
        · rename_i k i K1
          cases hb : Nat.beq k a with
          | false => exact ab_tr_n (fun G' C' => by rw [e]; show (bif Nat.beq k a then _ else _) = _; rw [hb]; rfl) h
          | true =>
            cases hg : ab_gf k i b.toNat s with
            | none => exact ab_tr_n (fun G' C' => by rw [e]; show (bif Nat.beq k a then _ else _) = _; rw [hb, hg]; rfl) h
            | some v => exact ab_tr_g (pc := pc + n) (L := L) (K := v :: K1) (s := s) (fun G' C' => by rw [e]; show (bif Nat.beq k a then _ else _) = _; rw [hb, hg]; rfl) h
        · exact ab_tr_n (fun G' C' => by rw [e]) h
      · have e : ∀ G' C', ab_stp X d m pc L K s G' C' = (ab_p K fun v K => ab_pR K fun k i K => bif Nat.beq k a then (match ab_pf k i b.toNat v s with
          | some s => G' (pc + n) L K s
          | none => none) else none) := by
          intro G' C'
          unfold ab_stp
          rw [hc]
          try rfl
        unfold ab_p ab_pR at e
        rcases K with _ | ⟨v, K1⟩
        · exact ab_tr_n (fun G' C' => by rw [e]) h
        · rcases K1 with _ | ⟨w, K2⟩
          · exact ab_tr_n (fun G' C' => by rw [e]) h
          · rcases w with w | ⟨k, i⟩
            · exact ab_tr_n (fun G' C' => by rw [e]) h
            · cases hb : Nat.beq k a with
              | false => exact ab_tr_n (fun G' C' => by rw [e]; show (bif Nat.beq k a then _ else _) = _; rw [hb]; rfl) h
              | true =>
                cases hg : ab_pf k i b.toNat v s with
                | none => exact ab_tr_n (fun G' C' => by rw [e]; show (bif Nat.beq k a then _ else _) = _; rw [hb, hg]; rfl) h
                | some s2 => exact ab_tr_g (pc := pc + n) (L := L) (K := K2) (s := s2) (fun G' C' => by rw [e]; show (bif Nat.beq k a then _ else _) = _; rw [hb, hg]; rfl) h
      · have e : ∀ G' C', ab_stp X d m pc L K s G' C' = (match (generalizing := false) d, ab_pop b.toNat K [] with
          | d' + 1, some (as, K) => bif Nat.ble (ab_sum K) 8 && Nat.ble (ab_sum as) (ab_ml a) && ab_rk (ab_2 ab_rkT a 99) as then (match C' d' a as s with
            | some (.inl none, s) => G' (pc + n) L K s
            | some (.inl (some v), s) => G' (pc + n) L (v :: K) s
            | some (.inr E, s) => ab_hx m pc L E s G'
            | none => none) else none
          | _, _ => none) := by
          intro G' C'
          unfold ab_stp
          simp only [hc]
          try rfl
        cases d with
        | zero => exact ab_tr_n (fun G' C' => by rw [e]) h
        | succ d =>
          cases hp : ab_pop b.toNat K [] with
          | none => exact ab_tr_n (fun G' C' => by rw [e, hp]) h
          | some z =>
            obtain ⟨as, K1⟩ := z
            have e2 : ∀ G' C', ab_stp X (d + 1) m pc L K s G' C' = (bif Nat.ble (ab_sum K1) 8 && Nat.ble (ab_sum as) (ab_ml a) && ab_rk (ab_2 ab_rkT a 99) as then (match C' d a as s with
              | some (.inl none, s) => G' (pc + n) L K1 s
              | some (.inl (some v), s) => G' (pc + n) L (v :: K1) s
              | some (.inr E, s) => ab_hx m pc L E s G'
              | none => none) else none) := by
              intro G' C'
              rw [e, hp]
            clear e
            cases hb : (Nat.ble (ab_sum K1) 8 && Nat.ble (ab_sum as) (ab_ml a) && ab_rk (ab_2 ab_rkT a 99) as) with
            | false => exact ab_tr_n (fun G' C' => by rw [e2, hb]; rfl) h
            | true =>
              have e3 : ∀ G' C', ab_stp X (d + 1) m pc L K s G' C' = (match C' d a as s with
                | some (.inl none, s) => G' (pc + n) L K1 s
                | some (.inl (some v), s) => G' (pc + n) L (v :: K1) s
                | some (.inr E, s) => ab_hx m pc L E s G'
                | none => none) := by
                intro G' C'
                rw [e2, hb]
                rfl
              clear e2
              cases hC : C d a as s with
              | none =>
                rw [e3, hC] at h
                cases h
              | some z =>
                obtain ⟨o1, s1⟩ := z
                have h1 := h
                rw [e3, hC] at h1
                rcases o1 with (_ | v) | E
                · refine ⟨some (pc + n, L, K1, s1), some (d, a, as, s), fun u e => by cases e; exact ⟨y, h1⟩, fun u e => by cases e; exact ⟨_, hC⟩, Or.inl ⟨_, rfl, h1⟩, fun G' C' a1 a2 => ?_⟩
                  have z1 := a1 _ rfl
                  have z2 := a2 _ rfl
                  dsimp only at z1 z2
                  rw [e3, z2, hC]
                  exact z1.trans h1
                · refine ⟨some (pc + n, L, v :: K1, s1), some (d, a, as, s), fun u e => by cases e; exact ⟨y, h1⟩, fun u e => by cases e; exact ⟨_, hC⟩, Or.inl ⟨_, rfl, h1⟩, fun G' C' a1 a2 => ?_⟩
                  have z1 := a1 _ rfl
                  have z2 := a2 _ rfl
                  dsimp only at z1 z2
                  rw [e3, z2, hC]
                  exact z1.trans h1
                · rcases ab_hx_tr h1 with ⟨h2, h9⟩ | ⟨pc', L', K', s', h2, h3⟩
                  · refine ⟨none, some (d, a, as, s), fun u e => (by cases e), fun u e => (by cases e; exact ⟨_, hC⟩), (Or.inr h9), fun G' C' a1 a2 => ?_⟩
                    have z2 := a2 _ rfl
                    dsimp only at z2
                    rw [e3, z2, hC]
                    exact h2 G'
                  · refine ⟨some (pc', L', K', s'), some (d, a, as, s), fun u e => by cases e; exact ⟨y, h2⟩, fun u e => by cases e; exact ⟨_, hC⟩, Or.inl ⟨_, rfl, h2⟩, fun G' C' a1 a2 => ?_⟩
                    have z1 := a1 _ rfl
                    have z2 := a2 _ rfl
                    dsimp only at z1 z2
                    rw [e3, z2, hC]
                    exact (h3 G').trans (z1.trans h2)
      · exact ab_tr_g (pc := pc + n) (L := L) (K := .inr (10, a) :: K) (s := s) (fun G' C' => by unfold ab_stp; rw [hc]; try rfl) h
      · exact ab_tr_g (pc := pc + n) (L := L) (K := .inr (13, 0) :: K) (s := s) (fun G' C' => by unfold ab_stp; rw [hc]; try rfl) h
      · exact ab_tr_g (pc := pc + n) (L := L) (K := .inl (.int (Int32.ofInt b)) :: K) (s := s) (fun G' C' => by unfold ab_stp; rw [hc]; try rfl) h
      · exact ab_tr_g (pc := pc + n) (L := L) (K := .inr (ab_fmk, 0) :: K) (s := s) (fun G' C' => by unfold ab_stp; rw [hc]; try rfl) h
      · exact ab_tr_g (pc := pc + n) (L := L) (K := .inr (11, a) :: K) (s := s) (fun G' C' => by unfold ab_stp; rw [hc]; try rfl) h
      · exact ab_tr_g (pc := pc + n) (L := L) (K := .inl (.int (Int32.ofInt b)) :: K) (s := s) (fun G' C' => by unfold ab_stp; rw [hc]; try rfl) h
      · exact ab_tr_g (pc := pc + n) (L := L) (K := .inl (.long (Int64.ofInt b)) :: K) (s := s) (fun G' C' => by unfold ab_stp; rw [hc]; try rfl) h
      · have e : ∀ G' C', ab_stp X d m pc L K s G' C' = ab_stp X d m pc L K s G C := by
          intro G' C'
          unfold ab_stp
          rw [hc]
          try rfl
        refine ab_tr_c ?_ (fun G' C' => (e G' C').trans h)
        unfold ab_stp at h
        rw [hc] at h
        have h8 : (match (generalizing := false) ab_hs m with
          | [] => bif Nat.ble (ab_sum K) 8 then some (.inr a, pn (pn s 0 (sn s 0 + 1)) 1 (sn s 1 + 6)) else none
          | _ => none : ab_R) = some y := h
        split at h8
        · cases hb : Nat.ble (ab_sum K) 8 with
          | false =>
            rw [hb] at h8
            cases h8
          | true =>
            rw [hb] at h8
            cases h8
            trivial
        · cases h8
      · by_cases h2 : a = 2
        · subst h2
          cases hb : Nat.ble (ab_sum K) 8 with
          | false => exact ab_tr_n (fun G' C' => by unfold ab_stp; rw [hc]; show (bif Nat.ble (ab_sum K) 8 then _ else _) = _; rw [hb]; rfl) h
          | true => exact ab_tr_g (pc := pc + n) (L := L) (K := .inr (2, sn s 2) :: K) (s := ab_newT s) (fun G' C' => by unfold ab_stp; rw [hc]; show (bif Nat.ble (ab_sum K) 8 then _ else _) = _; rw [hb]; rfl) h
        · by_cases h8 : a = 8
          · subst h8
            cases hb : Nat.ble (ab_sum K) 8 with
            | false => exact ab_tr_n (fun G' C' => by unfold ab_stp; rw [hc]; show (bif Nat.ble (ab_sum K) 8 then _ else _) = _; rw [hb]; rfl) h
            | true => exact ab_tr_g (pc := pc + n) (L := L) (K := .inr (8, sn s 3) :: K) (s := ab_newR s) (fun G' C' => by unfold ab_stp; rw [hc]; show (bif Nat.ble (ab_sum K) 8 then _ else _) = _; rw [hb]; rfl) h
          · have e : ∀ G' C', ab_stp X d m pc L K s G' C' = (match (generalizing := false) a with
              | 2 => bif Nat.ble (ab_sum K) 8 then G' (pc + n) L (.inr (2, sn s 2) :: K) (ab_newT s) else none
              | 8 => bif Nat.ble (ab_sum K) 8 then G' (pc + n) L (.inr (8, sn s 3) :: K) (ab_newR s) else none
              | _ => none) := by
              intro G' C'
              unfold ab_stp
              simp only [hc]
              try rfl
            refine ab_tr_n (fun G' C' => ?_) h
            rw [e]
            split
            · exact absurd rfl h2
            · exact absurd rfl h8
            · rfl
      · have e : ∀ G' C', ab_stp X d m pc L K s G' C' = (match (generalizing := false) K with
          | .inl (.int c) :: .inl (.int dp) :: .inr (k1, i1) :: .inl (.int sp) :: .inr (k0, i0) :: K => match (bif Nat.ble (ab_sum K) 8 then ab_cpy X k0 i0 sp k1 i1 dp c s else none) with
            | some s => G' (pc + n) L K s
            | none => none
          | _ => none) := by
          intro G' C'
          unfold ab_stp
          simp only [hc]
          try rfl
        split at e
        · rename_i c dp k1 i1 sp k0 i0 K9
          cases e9 : (bif Nat.ble (ab_sum K9) 8 then ab_cpy X k0 i0 sp k1 i1 dp c s else none) with
          | none => exact ab_tr_n (fun G' C' => by rw [e, e9]) h
          | some s9 => exact ab_tr_g (pc := pc + n) (L := L) (K := K9) (s := s9) (fun G' C' => by rw [e, e9]) h
        · exact ab_tr_n (fun G' C' => by rw [e]) h
      · exact ab_tr_n (fun G' C' => by unfold ab_stp; rw [hc]; try rfl) h
end TRC
theorem ab_run_mono {X : (Nat → Int32) × Nat} : ∀ {q q' d m pc : Nat} {L : ab_L} {K : List ab_V} {s : ab_S} {y : ab_O × ab_S}, q ≤ q' → ab_run X q d m pc L K s = some y → ab_run X q' d m pc L K s = some y
  | 0, q', d, m, pc, L, K, s, y, hq, h => by
    rw [ab_run] at h
    cases h
  | q + 1, 0, d, m, pc, L, K, s, y, hq, h => by omega
  | q + 1, q' + 1, d, m, pc, L, K, s, y, hq, h => by
    rw [ab_run_S] at h ⊢
    obtain ⟨ug, uc, h1, h2, -, h3⟩ := ab_stp_tr h
    refine h3 _ _ (fun u e => ?_) (fun u e => ?_)
    · obtain ⟨z, hz⟩ := h1 u e
      rw [hz]
      exact ab_run_mono (by omega) hz
    · obtain ⟨z, hz⟩ := h2 u e
      rw [hz]
      exact ab_run_mono (by omega) hz
noncomputable def ab_at (X : (Nat → Int32) × Nat) (d m pc : Nat) (L : ab_L) (K : List ab_V) (s : ab_S) : ab_R := @dite _ (∃ q y, ab_run X q d m pc L K s = some y) (Classical.propDecidable _) (fun h => ab_run X h.choose d m pc L K s) (fun _ => none)
theorem ab_at_of {X : (Nat → Int32) × Nat} {q d m pc : Nat} {L : ab_L} {K : List ab_V} {s : ab_S} {y : ab_O × ab_S} (h : ab_run X q d m pc L K s = some y) : ab_at X d m pc L K s = some y := by
  have h1 : ∃ q y, ab_run X q d m pc L K s = some y := ⟨q, y, h⟩
  have e : ab_at X d m pc L K s = ab_run X h1.choose d m pc L K s := by
    unfold ab_at
    rw [dif_pos h1]
  rw [e]
  obtain ⟨z, hz⟩ := h1.choose_spec
  have a := ab_run_mono (Nat.le_max_left q h1.choose) h
  have b := ab_run_mono (Nat.le_max_right q h1.choose) hz
  rw [hz, ← b, a]
theorem ab_at_ex {X : (Nat → Int32) × Nat} {d m pc : Nat} {L : ab_L} {K : List ab_V} {s : ab_S} {y : ab_O × ab_S} (h : ab_at X d m pc L K s = some y) : ∃ q, ab_run X q d m pc L K s = some y := by
  unfold ab_at at h
  split at h
  · exact ⟨_, h⟩
  · cases h
noncomputable def ab_ev (X : (Nat → Int32) × Nat) (d a : Nat) (as : List ab_V) (s : ab_S) : ab_R := ab_at X d a 0 (ab_ent (ab_ml a) as) [] s
theorem ab_at_stp {X : (Nat → Int32) × Nat} {d m pc : Nat} {L : ab_L} {K : List ab_V} {s : ab_S} : ab_at X d m pc L K s = ab_stp X d m pc L K s (fun pc L K s => ab_at X d m pc L K s) (ab_ev X) := by
  refine Option.ext (fun y => ⟨fun h => ?_, fun h => ?_⟩)
  · obtain ⟨q, hq⟩ := ab_at_ex h
    cases q with
    | zero =>
      rw [ab_run] at hq
      cases hq
    | succ q =>
      rw [ab_run_S] at hq
      obtain ⟨ug, uc, h1, h2, -, h3⟩ := ab_stp_tr hq
      refine h3 _ _ (fun u e => ?_) (fun u e => ?_)
      · obtain ⟨z, hz⟩ := h1 u e
        rw [hz]
        exact ab_at_of hz
      · obtain ⟨z, hz⟩ := h2 u e
        rw [hz]
        exact ab_at_of hz
  · obtain ⟨ug, uc, h1, h2, -, h3⟩ := ab_stp_tr h
    have g1 : ∃ q1, ∀ u, ug = some u → ∀ q, q1 ≤ q → ab_rG X q d m u.1 u.2.1 u.2.2.1 u.2.2.2 = ab_at X d m u.1 u.2.1 u.2.2.1 u.2.2.2 := by
      cases ug with
      | none => exact ⟨0, fun u e => by cases e⟩
      | some u =>
        obtain ⟨z, hz⟩ := h1 u rfl
        obtain ⟨q1, hq1⟩ := ab_at_ex hz
        exact ⟨q1, fun v e q hq => by
          cases e
          exact (ab_run_mono hq hq1).trans hz.symm⟩
    have g2 : ∃ q1, ∀ u, uc = some u → ∀ q, q1 ≤ q → ab_rC X q u.1 u.2.1 u.2.2.1 u.2.2.2 = ab_ev X u.1 u.2.1 u.2.2.1 u.2.2.2 := by
      cases uc with
      | none => exact ⟨0, fun u e => by cases e⟩
      | some u =>
        obtain ⟨z, hz⟩ := h2 u rfl
        obtain ⟨q1, hq1⟩ := ab_at_ex hz
        exact ⟨q1, fun v e q hq => by
          cases e
          exact (ab_run_mono hq hq1).trans hz.symm⟩
    obtain ⟨q1, k1⟩ := g1
    obtain ⟨q2, k2⟩ := g2
    refine ab_at_of (q := max q1 q2 + 1) ?_
    rw [ab_run_S]
    exact h3 _ _ (fun u e => k1 u e _ (Nat.le_max_left _ _)) (fun u e => k2 u e _ (Nat.le_max_right _ _))
theorem ab_run_ro {X : (Nat → Int32) × Nat} : ∀ {q d m pc : Nat} {L : ab_L} {K : List ab_V} {s s' : ab_S} {o : ab_O}, ab_run X q d m pc L K s = some (o, s') → ab_ro (ab_rt m) o := by
  intro q
  induction q with
  | zero =>
    intro d m pc L K s s' o h
    rw [ab_run] at h
    cases h
  | succ q ih =>
    intro d m pc L K s s' o h
    rw [ab_run_S] at h
    obtain ⟨ug, uc, -, -, h1, -⟩ := ab_stp_tr h
    rcases h1 with ⟨u, -, h1⟩ | h1
    · exact ih h1
    · exact h1
theorem ab_ev_ro {X : (Nat → Int32) × Nat} {d a : Nat} {as : List ab_V} {s s' : ab_S} {o : ab_O} (h : ab_ev X d a as s = some (o, s')) : ab_ro (ab_rt a) o := by
  obtain ⟨q, hq⟩ := ab_at_ex h
  exact ab_run_ro hq
/-! What follows a call, by what the callee answers. -/
def ab_bU (r : ab_R) (f : ab_S → ab_R) (h : Nat → ab_S → ab_R) : ab_R := match r with
  | some (.inl none, s) => f s
  | some (.inr E, s) => h E s
  | _ => none
def ab_bI (r : ab_R) (f : Int32 → ab_S → ab_R) (h : Nat → ab_S → ab_R) : ab_R := match r with
  | some (.inl (some (.inl (.int x))), s) => f x s
  | some (.inr E, s) => h E s
  | _ => none
def ab_bJ (r : ab_R) (f : Int64 → ab_S → ab_R) (h : Nat → ab_S → ab_R) : ab_R := match r with
  | some (.inl (some (.inl (.long x))), s) => f x s
  | some (.inr E, s) => h E s
  | _ => none
def ab_bA (r : ab_R) (f : Nat → Nat → ab_S → ab_R) (h : Nat → ab_S → ab_R) : ab_R := match r with
  | some (.inl (some (.inr (k, i))), s) => f k i s
  | some (.inr E, s) => h E s
  | _ => none
/-- a throw that nothing takes up -/
def ab_px : Nat → ab_S → ab_R := fun E s => some (.inr E, s)
def ab_oq (x : Option Nat) (a : ab_R) (f : Nat → ab_R) : ab_R := match x with
  | none => a
  | some t => f t
def ab_ol (x : Option Nat) (f : Nat → ab_R) : ab_R := match x with
  | some t => f t
  | none => none
def ab_os (x : Option ab_S) (f : ab_S → ab_R) : ab_R := match x with
  | some t => f t
  | none => none
/-- one step, the calls by what they answer -/
noncomputable def ab_stq (X : (Nat → Int32) × Nat) (d m pc : Nat) (L : ab_L) (K : List ab_V) (s : ab_S) (G : Nat → ab_L → List ab_V → ab_S → ab_R) : ab_R :=
  match ab_code m pc with
  | some (.inl I, n) => ab_x X (ab_rt m) I n pc L K s G (fun v => some (.inl v, s))
  | some (.inr (op, a, b), n) => match op with
    | 2 => match d, ab_pop b.toNat K [] with
      | d' + 1, some (as, K) => bif Nat.ble (ab_sum K) 8 && Nat.ble (ab_sum as) (ab_ml a) && ab_rk (ab_2 ab_rkT a 99) as then (match ab_rt a with
        | 0 => ab_bU (ab_ev X d' a as s) (fun s => G (pc + n) L K s) (fun E s => ab_hx m pc L E s G)
        | 2 => ab_bJ (ab_ev X d' a as s) (fun x s => G (pc + n) L (.inl (.long x) :: K) s) (fun E s => ab_hx m pc L E s G)
        | 3 => ab_bA (ab_ev X d' a as s) (fun k i s => G (pc + n) L (.inr (k, i) :: K) s) (fun E s => ab_hx m pc L E s G)
        | _ => ab_bI (ab_ev X d' a as s) (fun x s => G (pc + n) L (.inl (.int x) :: K) s) (fun E s => ab_hx m pc L E s G)) else none
      | _, _ => none
    | 12 => match K with
      | .inl (.int c) :: .inl (.int dp) :: .inr (k1, i1) :: .inl (.int sp) :: .inr (k0, i0) :: K => bif Nat.ble (ab_sum K) 8 then ab_os (ab_cpy X k0 i0 sp k1 i1 dp c s) (fun s => G (pc + n) L K s) else none
      | _ => none
    | _ => ab_stp X d m pc L K s G (ab_ev X)
  | none => none
theorem ab_stq_eq {X : (Nat → Int32) × Nat} {d m pc : Nat} {L : ab_L} {K : List ab_V} {s : ab_S} {G : Nat → ab_L → List ab_V → ab_S → ab_R} : ab_stq X d m pc L K s G = ab_stp X d m pc L K s G (ab_ev X) := by
  unfold ab_stq
  split
  · rename_i I n hc
    unfold ab_stp
    rw [hc]
  · rename_i op a b n hc
    split
    · unfold ab_stp
      simp only [hc]
      cases d with
      | zero => rfl
      | succ d' =>
        cases hp : ab_pop b.toNat K [] with
        | none => rfl
        | some z =>
          obtain ⟨as, K1⟩ := z
          cases hb : (Nat.ble (ab_sum K1) 8 && Nat.ble (ab_sum as) (ab_ml a) && ab_rk (ab_2 ab_rkT a 99) as) with
          | false =>
            dsimp only
            rw [hb]
            rfl
          | true =>
            dsimp only
            rw [hb, cond_true, cond_true]
            cases hr : ab_ev X d' a as s with
            | none => split <;> rfl
            | some z =>
              obtain ⟨o, s1⟩ := z
              have ho := ab_ev_ro hr
              rcases o with (_ | v) | E
              · have ho : ab_rt a = 0 := ho
                rw [ho]
                rfl
              · rcases v with v | ⟨k, i⟩
                · cases v with
                  | int x =>
                    obtain ⟨h0, h2, h3⟩ := ho
                    split
                    · exact absurd (by assumption) h0
                    · exact absurd (by assumption) h2
                    · exact absurd (by assumption) h3
                    · rfl
                  | long x =>
                    have ho : ab_rt a = 2 := ho
                    rw [ho]
                    rfl
                  | _ => exact False.elim ho
                · have ho : ab_rt a = 3 := ho
                  rw [ho]
                  rfl
              · split <;> rfl
    · unfold ab_stp
      rw [hc]
      dsimp only
      split
      · rename_i c dp k1 i1 sp k0 i0 K1
        cases hb : Nat.ble (ab_sum K1) 8 with
        | false => rfl
        | true =>
          show ab_os (ab_cpy X k0 i0 sp k1 i1 dp c s) _ = match ab_cpy X k0 i0 sp k1 i1 dp c s with
            | some s => _
            | none => _
          cases ab_cpy X k0 i0 sp k1 i1 dp c s <;> rfl
      · rfl
    · rfl
  · rename_i hc
    unfold ab_stp
    rw [hc]
/-- steps on, up to the places in st -/
noncomputable def ab_go (X : (Nat → Int32) × Nat) (st : List Nat) (d m : Nat) : Nat → Nat → ab_L → List ab_V → ab_S → ab_R
  | 0, pc, L, K, s => ab_at X d m pc L K s
  | n + 1, pc, L, K, s => bif st.elem pc then ab_at X d m pc L K s else ab_stq X d m pc L K s (fun pc L K s => ab_go X st d m n pc L K s)
theorem ab_go_eq {X : (Nat → Int32) × Nat} {st : List Nat} {d m : Nat} : ∀ (n pc : Nat) (L : ab_L) (K : List ab_V) (s : ab_S), ab_go X st d m n pc L K s = ab_at X d m pc L K s
  | 0, pc, L, K, s => rfl
  | n + 1, pc, L, K, s => by
    rw [ab_go]
    cases st.elem pc with
    | true => rfl
    | false =>
      show ab_stq X d m pc L K s _ = _
      rw [ab_stq_eq, ab_at_stp]
      congr 1
      funext pc L K s
      exact ab_go_eq n pc L K s
theorem ab_blk {X : (Nat → Int32) × Nat} {d m pc : Nat} {L : ab_L} {K : List ab_V} {s : ab_S} (st : List Nat) (n : Nat) : ab_at X d m pc L K s = ab_stq X d m pc L K s (fun pc L K s => ab_go X st d m n pc L K s) := by
  rw [ab_stq_eq, ab_at_stp]
  congr 1
  funext pc L K s
  exact (ab_go_eq n pc L K s).symm
theorem ab_tsw {X : (Nat → Int32) × Nat} {d m pc n : Nat} {L : ab_L} {K : List ab_V} {s : ab_S} {x : Int32} {dd lo hi : Int} {offs : Array Int} (hc : ab_code m pc = some (.inl (.tableswitch dd lo hi offs), n)) : ab_at X d m pc L (.inl (.int x) :: K) s = if x.toInt < lo ∨ hi < x.toInt then ab_at X d m (ab_tg pc dd) L K s else match offs[(x.toInt - lo).toNat]? with
  | some o => ab_at X d m (ab_tg pc o) L K s
  | none => none := by
  rw [ab_at_stp]
  unfold ab_stp
  simp only [hc]
  rfl
theorem ab_lsw {X : (Nat → Int32) × Nat} {d m pc n : Nat} {L : ab_L} {K : List ab_V} {s : ab_S} {x : Int32} {dd : Int} {ps : Array (Int × Int)} (hc : ab_code m pc = some (.inl (.lookupswitch dd ps), n)) : ab_at X d m pc L (.inl (.int x) :: K) s = ab_at X d m (ab_tg pc (Op.lookupswitch.offset ps.toList dd x.toInt)) L K s := by
  rw [ab_at_stp]
  unfold ab_stp
  simp only [hc]
  rfl
theorem ab_lsw_d {X : (Nat → Int32) × Nat} {d m pc : Nat} {L : ab_L} {K : List ab_V} {s : ab_S} {o o' : Int} (h : o = o') : ab_at X d m (ab_tg pc o) L K s = ab_at X d m (ab_tg pc o') L K s := by rw [h]
/-! One object's field, one object's row written. -/
def wi (s : ab_S) (k i : Nat) (v : Int32) : ab_S := pi s k (va_up (si s k) i v)
def wA (s : ab_S) (k i : Nat) (G : Nat → Int32) : ab_S := pA s k (va_up (sA s k) i G)
def wB (s : ab_S) (k i : Nat) (G : Nat → Int64) : ab_S := pB s k (va_up (sB s k) i G)
