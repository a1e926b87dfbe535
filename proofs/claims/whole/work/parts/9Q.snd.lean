/-- a making: from the states after it one gets those at it -/
def ab_Nw (X : (Nat → Int32) × Nat) (m pc : Nat) (L : ab_L) (K : List ab_V) (s : ab_S) (v : ab_V) (s2 : ab_S) : Prop :=
  (∀ k : Nat, sn s k ≤ sn s2 k) ∧ ∀ (ra : Nat → Nat → Nat) (fm : Value) (D : va_G) (dA : Nat → ClassId) (B0 : Nat) (p : Program) (l : Launch) (e : Env) (R : Room) (U : State) (mt : MethodId) (args : Array Value) (below : List Frame) (meth : Method) (c : Code), ab_CX ra fm D dA B0 X p l U mt args meth c m → 12 ≤ R.frames → 300 ≤ R.locals → ∀ (cells slots : Nat) (Q : State → Prop) (P : (Nat → Nat → Nat) → Prop), cells + (sn s2 0 - sn s 0) ≤ R.cells → slots + (sn s2 1 - sn s 1) ≤ R.slots → ab_clo P s → ab_G ra fm D dA B0 p l e R U mt args below meth c (cells + (sn s2 0 - sn s 0)) (slots + (sn s2 1 - sn s 1)) Q P m (pc + 7) L (v :: K) s2 → ab_G ra fm D dA B0 p l e R U mt args below meth c cells slots Q P m pc L K s
def ab_NEW (X : (Nat → Int32) × Nat) : Prop := ∀ (m pc a : Nat) (r' : List Nat) (L : ab_L) (K : List ab_V) (s : ab_S), m :: pc :: r' ∈ ab_nw → ab_okN (ab_by m) pc r' = true → r'[2]? = some a → ab_sum K ≤ 8 → (a = 2 → ab_Nw X m pc L K s (.inr (2, sn s 2)) (ab_newT s)) ∧ (a = 8 → ab_Nw X m pc L K s (.inr (8, sn s 3)) (ab_newR s))
theorem ab_snd_Nw {X : (Nat → Int32) × Nat} {d m pc : Nat} {L : ab_L} {K : List ab_V} {s s2 s' : ab_S} {v : ab_V} {o : ab_O} (h : ab_Nw X m pc L K s v s2) (h2 : ab_Snd X d m (pc + 7) L (v :: K) s2 o s') : ab_Snd X d m pc L K s o s' := by
  obtain ⟨i1, i2⟩ := h2
  obtain ⟨n1, n2⟩ := h
  refine ⟨fun k => Nat.le_trans (n1 k) (i1 k), fun ra fm D dA B0 p l e R U mt args below meth c C hf hlo mc ms cells slots c1 c2 c3 c4 P hP => ?_⟩
  have a0 := n1 0
  have a1 := n1 1
  have b0 := i1 0
  have b1 := i1 1
  exact n2 ra fm D dA B0 p l e R U mt args below meth c C (by omega) (by omega) cells slots _ P (by omega) (by omega) hP (i2 ra fm D dA B0 p l e R U mt args below meth c C hf hlo mc ms (cells + (sn s2 0 - sn s 0)) (slots + (sn s2 1 - sn s 1)) (by omega) (by omega) c3 c4 P (ab_clo_mono n1 hP))
theorem ab_oE_v {v : Option ab_V} : ab_oE (.inl v) := fun E h => nomatch h
theorem ab_st_g {β : Type} {X : (Nat → Int32) × Nat} {m pc : Nat} {L : ab_L} {K : List ab_V} {s : ab_S} {G : Nat → ab_L → List ab_V → ab_S → Option β} {y : β} (h : ab_St X m pc L K s G y) : ∃ (pc' : Nat) (L' : ab_L) (K' : List ab_V) (s' : ab_S), G pc' L' K' s' = some y := by
  obtain ⟨a, b, c, d, h1, -⟩ := h
  exact ⟨a, b, c, d, h1⟩
theorem ab_str_g {β : Type} {X : (Nat → Int32) × Nat} {m pc : Nat} {L : ab_L} {K : List ab_V} {s : ab_S} {G : Nat → ab_L → List ab_V → ab_S → Option β} {y : β} (h : ab_StR X m pc L K s G y) : ∃ (pc' : Nat) (L' : ab_L) (K' : List ab_V) (s' : ab_S), G pc' L' K' s' = some y := by
  obtain ⟨a, b, c, d, h1, -⟩ := h
  exact ⟨a, b, c, d, h1⟩
section SND
variable {X : (Nat → Int32) × Nat} {q d m pc n : Nat} {L : ab_L} {K : List ab_V} {s s' : ab_S} {o : ab_O}
theorem ab_go_St (ih : ∀ (d m pc : Nat) (L : ab_L) (K : List ab_V) (s : ab_S) (o : ab_O) (s' : ab_S), ab_run X q d m pc L K s = some (o, s') → ab_oE o ∧ ab_Snd X d m pc L K s o s') (h : ab_St X m pc L K s (fun pc L K s => ab_run X q d m pc L K s) (o, s')) : ab_oE o ∧ ab_Snd X d m pc L K s o s' := by
  obtain ⟨a1, a2, a3, a4, g⟩ := ab_st_g h
  exact ⟨(ih _ _ _ _ _ _ _ _ g).1, ab_snd_St (fun pc L K s z => (ih _ _ _ _ _ _ _ _ z).2) h⟩
theorem ab_go_StR (ih : ∀ (d m pc : Nat) (L : ab_L) (K : List ab_V) (s : ab_S) (o : ab_O) (s' : ab_S), ab_run X q d m pc L K s = some (o, s') → ab_oE o ∧ ab_Snd X d m pc L K s o s') (h : ab_StR X m pc L K s (fun pc L K s => ab_run X q d m pc L K s) (o, s')) : ab_oE o ∧ ab_Snd X d m pc L K s o s' := by
  obtain ⟨a1, a2, a3, a4, g⟩ := ab_str_g h
  exact ⟨(ih _ _ _ _ _ _ _ _ g).1, ab_snd_StR (fun pc L K s z => (ih _ _ _ _ _ _ _ _ z).2) h⟩
theorem ab_ok0 {a : Nat} {b : Int} (h : ab_okE m (pc, .inr (0, a, b), n) = true) : ∃ x : Nat, decode (ab_by m) pc = .ok (.getfield x, 3) ∧ n = 3 ∧ ab_isfl (ab_ow m) x a b.toNat = true := by
  obtain ⟨I, k, hd⟩ := ab_okD h
  unfold ab_okE at h
  have hd9 : decode (ab_by m) (pc, (Sum.inr (0, a, b) : ab_I), n).1 = .ok (I, k) := hd
  rw [hd9] at h
  cases I <;> first | cases h | skip
  rename_i x
  have h9 : (Nat.beq k 3 && Nat.beq n 3 && ab_isfl (ab_ow m) x a b.toNat) = true := h
  clear h
  simp only [Bool.and_eq_true, Nat.beq_eq] at h9
  obtain ⟨⟨rfl, rfl⟩, h⟩ := h9
  exact ⟨x, hd, rfl, h⟩
theorem ab_ok1 {a : Nat} {b : Int} (h : ab_okE m (pc, .inr (1, a, b), n) = true) : ∃ x : Nat, decode (ab_by m) pc = .ok (.putfield x, 3) ∧ n = 3 ∧ ab_isfl (ab_ow m) x a b.toNat = true ∧ a < 10 ∧ (ab_T a b.toNat).2.2.2 = false := by
  obtain ⟨I, k, hd⟩ := ab_okD h
  unfold ab_okE at h
  have hd9 : decode (ab_by m) (pc, (Sum.inr (1, a, b) : ab_I), n).1 = .ok (I, k) := hd
  rw [hd9] at h
  cases I <;> first | cases h | skip
  rename_i x
  have h9 : (Nat.beq k 3 && Nat.beq n 3 && ab_isfl (ab_ow m) x a b.toNat && Nat.blt a 10 && !(ab_T a b.toNat).2.2.2) = true := h
  clear h
  simp only [Bool.and_eq_true, Nat.beq_eq, Nat.blt_eq, Bool.not_eq_true'] at h9
  obtain ⟨⟨⟨⟨rfl, rfl⟩, h⟩, h2⟩, h3⟩ := h9
  exact ⟨x, hd, rfl, h, h2, h3⟩
theorem ab_ok3 {a : Nat} {b : Int} (h : ab_okE m (pc, .inr (3, a, b), n) = true) : ∃ x : Nat, decode (ab_by m) pc = .ok (.getstatic x, 3) ∧ n = 3 ∧ ab_isl ab_gl (ab_ow m) x a = true := by
  obtain ⟨I, k, hd⟩ := ab_okD h
  unfold ab_okE at h
  have hd9 : decode (ab_by m) (pc, (Sum.inr (3, a, b) : ab_I), n).1 = .ok (I, k) := hd
  rw [hd9] at h
  cases I <;> first | cases h | skip
  rename_i x
  have h9 : (Nat.beq k 3 && Nat.beq n 3 && ab_isl ab_gl (ab_ow m) x a) = true := h
  clear h
  simp only [Bool.and_eq_true, Nat.beq_eq] at h9
  obtain ⟨⟨rfl, rfl⟩, h⟩ := h9
  exact ⟨x, hd, rfl, h⟩
theorem ab_ok4 {a : Nat} {b : Int} (h : ab_okE m (pc, .inr (4, a, b), n) = true) : decode (ab_by m) pc = .ok (.getstatic 265, 3) ∧ n = 3 ∧ ab_ow m = 1 := by
  obtain ⟨I, k, hd⟩ := ab_okD h
  unfold ab_okE at h
  have hd9 : decode (ab_by m) (pc, (Sum.inr (4, a, b) : ab_I), n).1 = .ok (I, k) := hd
  rw [hd9] at h
  cases I <;> first | cases h | skip
  rename_i x
  have h9 : (Nat.beq k 3 && Nat.beq n 3 && Nat.beq (ab_ow m) 1 && Nat.beq x 265) = true := h
  clear h
  simp only [Bool.and_eq_true, Nat.beq_eq] at h9
  obtain ⟨⟨⟨rfl, rfl⟩, h⟩, rfl⟩ := h9
  exact ⟨hd, rfl, h⟩
theorem ab_ok5 {a : Nat} {b : Int} (h : ab_okE m (pc, .inr (5, a, b), n) = true) : decode (ab_by m) pc = .ok (.getstatic 38, 3) ∧ n = 3 ∧ ab_ow m = 9 ∧ b = 1 := by
  obtain ⟨I, k, hd⟩ := ab_okD h
  unfold ab_okE at h
  have hd9 : decode (ab_by m) (pc, (Sum.inr (5, a, b) : ab_I), n).1 = .ok (I, k) := hd
  rw [hd9] at h
  cases I <;> first | cases h | skip
  rename_i x
  have h9 : (Nat.beq k 3 && Nat.beq n 3 && Nat.beq (ab_ow m) 9 && Nat.beq x 38 && decide (b = 1)) = true := h
  clear h
  simp only [Bool.and_eq_true, Nat.beq_eq, decide_eq_true_eq] at h9
  obtain ⟨⟨⟨⟨rfl, rfl⟩, h⟩, rfl⟩, h2⟩ := h9
  exact ⟨hd, rfl, h, h2⟩
theorem ab_ok6 {a : Nat} {b : Int} (h : ab_okE m (pc, .inr (6, a, b), n) = true) : decode (ab_by m) pc = .ok (.getstatic 1053, 3) ∧ n = 3 ∧ ab_ow m = 9 := by
  obtain ⟨I, k, hd⟩ := ab_okD h
  unfold ab_okE at h
  have hd9 : decode (ab_by m) (pc, (Sum.inr (6, a, b) : ab_I), n).1 = .ok (I, k) := hd
  rw [hd9] at h
  cases I <;> first | cases h | skip
  rename_i x
  have h9 : (Nat.beq k 3 && Nat.beq n 3 && Nat.beq (ab_ow m) 9 && Nat.beq x 1053) = true := h
  clear h
  simp only [Bool.and_eq_true, Nat.beq_eq] at h9
  obtain ⟨⟨⟨rfl, rfl⟩, h⟩, rfl⟩ := h9
  exact ⟨hd, rfl, h⟩
theorem ab_ok7 {a : Nat} {b : Int} (h : ab_okE m (pc, .inr (7, a, b), n) = true) : ∃ x : Nat, decode (ab_by m) pc = .ok (.ldc x, 2) ∧ n = 2 ∧ ab_isl ab_sl_ (ab_ow m) x a = true := by
  obtain ⟨I, k, hd⟩ := ab_okD h
  unfold ab_okE at h
  have hd9 : decode (ab_by m) (pc, (Sum.inr (7, a, b) : ab_I), n).1 = .ok (I, k) := hd
  rw [hd9] at h
  cases I <;> first | cases h | skip
  rename_i x
  have h9 : (Nat.beq k 2 && Nat.beq n 2 && ab_isl ab_sl_ (ab_ow m) x a) = true := h
  clear h
  simp only [Bool.and_eq_true, Nat.beq_eq] at h9
  obtain ⟨⟨rfl, rfl⟩, h⟩ := h9
  exact ⟨x, hd, rfl, h⟩
theorem ab_ok8 {a : Nat} {b : Int} (h : ab_okE m (pc, .inr (8, a, b), n) = true) : ∃ x : Nat, ((decode (ab_by m) pc = .ok (.ldc x, 2) ∧ n = 2) ∨ (decode (ab_by m) pc = .ok (.ldc_w x, 3) ∧ n = 3)) ∧ ab_isn ab_il_ (ab_ow m) x b = true := by
  obtain ⟨I, k, hd⟩ := ab_okD h
  unfold ab_okE at h
  have hd9 : decode (ab_by m) (pc, (Sum.inr (8, a, b) : ab_I), n).1 = .ok (I, k) := hd
  rw [hd9] at h
  cases I <;> first | cases h | skip
  · rename_i x
    have h9 : (Nat.beq k 2 && Nat.beq n 2 && ab_isn ab_il_ (ab_ow m) x b) = true := h
    clear h
    simp only [Bool.and_eq_true, Nat.beq_eq] at h9
    obtain ⟨⟨rfl, rfl⟩, h⟩ := h9
    exact ⟨x, Or.inl ⟨hd, rfl⟩, h⟩
  · rename_i x
    have h9 : (Nat.beq k 3 && Nat.beq n 3 && ab_isn ab_il_ (ab_ow m) x b) = true := h
    clear h
    simp only [Bool.and_eq_true, Nat.beq_eq] at h9
    obtain ⟨⟨rfl, rfl⟩, h⟩ := h9
    exact ⟨x, Or.inr ⟨hd, rfl⟩, h⟩
theorem ab_ok9 {a : Nat} {b : Int} (h : ab_okE m (pc, .inr (9, a, b), n) = true) : ∃ x : Nat, decode (ab_by m) pc = .ok (.ldc2_w x, 3) ∧ n = 3 ∧ ab_isn ab_jl_ (ab_ow m) x b = true := by
  obtain ⟨I, k, hd⟩ := ab_okD h
  unfold ab_okE at h
  have hd9 : decode (ab_by m) (pc, (Sum.inr (9, a, b) : ab_I), n).1 = .ok (I, k) := hd
  rw [hd9] at h
  cases I <;> first | cases h | skip
  rename_i x
  have h9 : (Nat.beq k 3 && Nat.beq n 3 && ab_isn ab_jl_ (ab_ow m) x b) = true := h
  clear h
  simp only [Bool.and_eq_true, Nat.beq_eq] at h9
  obtain ⟨⟨rfl, rfl⟩, h⟩ := h9
  exact ⟨x, hd, rfl, h⟩
theorem ab_ok12 {a : Nat} {b : Int} (h : ab_okE m (pc, .inr (12, a, b), n) = true) : ∃ x : Nat, decode (ab_by m) pc = .ok (.invokestatic x, 3) ∧ n = 3 ∧ Jvm.Cond.methodLink (ab_cnm (ab_ow m)) x arraycopyName ∈ lw_tbl := by
  obtain ⟨I, k, hd⟩ := ab_okD h
  unfold ab_okE at h
  have hd9 : decode (ab_by m) (pc, (Sum.inr (12, a, b) : ab_I), n).1 = .ok (I, k) := hd
  rw [hd9] at h
  cases I <;> first | cases h | skip
  rename_i x
  have h9 : (Nat.beq k 3 && Nat.beq n 3 && ab_cp.any (fun r => match r with
          | c :: y :: _ => Nat.beq c (ab_ow m) && Nat.beq y x
          | _ => false)) = true := h
  clear h
  simp only [Bool.and_eq_true, Nat.beq_eq] at h9
  obtain ⟨⟨rfl, rfl⟩, h⟩ := h9
  refine ⟨x, hd, rfl, ?_⟩
  obtain ⟨z, hz, h9⟩ := List.any_eq_true.mp h
  have q := List.all_eq_true.mp ab_cps _ hz
  rcases z with _ | ⟨c, _ | ⟨y, _ | ⟨w, _ | ⟨_, _⟩⟩⟩⟩
  · cases h9
  · cases h9
  · cases q
  · have h8 : (Nat.beq c (ab_ow m) && Nat.beq y x) = true := h9
    rw [Bool.and_eq_true, Nat.beq_eq, Nat.beq_eq] at h8
    obtain ⟨rfl, rfl⟩ := h8
    exact ab_has_in q
  · cases q
theorem ab_ok10 {a : Nat} {b : Int} (h : ab_okE m (pc, .inr (10, a, b), n) = true) : ∃ r' : List Nat, m :: pc :: r' ∈ ab_ex ∧ ab_okX (ab_by m) pc r' = true ∧ r'[4]? = some a ∧ ab_hw m = [] := by
  obtain ⟨I, k, hd⟩ := ab_okD h
  unfold ab_okE at h
  have hd9 : decode (ab_by m) (pc, (Sum.inr (10, a, b) : ab_I), n).1 = .ok (I, k) := hd
  rw [hd9] at h
  have h : (ab_ex.any (fun r => match r with
        | m' :: p' :: r' => Nat.beq m' m && Nat.beq p' pc && ab_okX (ab_by m) pc r' && decide (r'[4]? = some a) && decide (ab_hw m = [])
        | _ => false)) = true := h
  obtain ⟨z, hz, h9⟩ := List.any_eq_true.mp h
  rcases z with _ | ⟨m1, _ | ⟨p1, r'⟩⟩
  · cases h9
  · cases h9
  · have h8 : (Nat.beq m1 m && Nat.beq p1 pc && ab_okX (ab_by m) pc r' && decide (r'[4]? = some a) && decide (ab_hw m = [])) = true := h9
    simp only [Bool.and_eq_true, Nat.beq_eq, decide_eq_true_eq] at h8
    obtain ⟨⟨⟨⟨rfl, rfl⟩, h3⟩, h4⟩, h5⟩ := h8
    exact ⟨r', hz, h3, h4, h5⟩
theorem ab_ok11 {a : Nat} {b : Int} (h : ab_okE m (pc, .inr (11, a, b), n) = true) : n = 7 ∧ ∃ r' : List Nat, m :: pc :: r' ∈ ab_nw ∧ ab_okN (ab_by m) pc r' = true ∧ r'[2]? = some a := by
  obtain ⟨I, k, hd⟩ := ab_okD h
  unfold ab_okE at h
  have hd9 : decode (ab_by m) (pc, (Sum.inr (11, a, b) : ab_I), n).1 = .ok (I, k) := hd
  rw [hd9] at h
  have h : (Nat.beq n 7 && ab_nw.any (fun r => match r with
        | m' :: p' :: r' => Nat.beq m' m && Nat.beq p' pc && ab_okN (ab_by m) pc r' && decide (r'[2]? = some a)
        | _ => false)) = true := h
  rw [Bool.and_eq_true, Nat.beq_eq] at h
  obtain ⟨rfl, h⟩ := h
  refine ⟨rfl, ?_⟩
  obtain ⟨z, hz, h9⟩ := List.any_eq_true.mp h
  rcases z with _ | ⟨m1, _ | ⟨p1, r'⟩⟩
  · cases h9
  · cases h9
  · have h8 : (Nat.beq m1 m && Nat.beq p1 pc && ab_okN (ab_by m) pc r' && decide (r'[2]? = some a)) = true := h9
    simp only [Bool.and_eq_true, Nat.beq_eq, decide_eq_true_eq] at h8
    obtain ⟨⟨⟨rfl, rfl⟩, h3⟩, h4⟩ := h8
    exact ⟨r', hz, h3, h4⟩
end SND
theorem ab_snd {X : (Nat → Int32) × Nat} (hnew : ab_NEW X) : ∀ (q d m pc : Nat) (L : ab_L) (K : List ab_V) (s : ab_S) (o : ab_O) (s' : ab_S), ab_run X q d m pc L K s = some (o, s') → ab_oE o ∧ ab_Snd X d m pc L K s o s'
  | 0, d, m, pc, L, K, s, o, s', h => by
    rw [ab_run] at h
    cases h
  | q + 1, d, m, pc, L, K, s, o, s', h => by
    have ih := ab_snd hnew q
    rw [ab_run] at h
    cases hc : ab_code m pc with
    | none =>
      rw [hc] at h
      cases h
    | some z =>
      obtain ⟨r, n⟩ := z
      have hok := ab_code_ok hc
      have hm := ab_code_lt hc
      rw [hc] at h
      rcases r with I | ⟨op, a, b⟩
      · obtain ⟨hd, hil⟩ := ab_okI hok
        rcases ab_x_snd hm hd hil h with h1 | h1
        · exact ab_go_St ih h1
        · refine ⟨?_, ab_snd_Rt h1⟩
          obtain ⟨v, e, -⟩ := h1
          obtain ⟨rfl, rfl⟩ := Prod.mk.inj (Option.some.inj e)
          exact ab_oE_v
      · rcases op with _ | _ | _ | _ | _ | _ | _ | _ | _ | _ | _ | _ | _ | op
        · obtain ⟨x, hd, rfl, hw⟩ := ab_ok0 hok
          exact ab_go_St ih (ab_getf hd hw h)
        · obtain ⟨x, hd, rfl, hw, ha, hf⟩ := ab_ok1 hok
          exact ab_go_St ih (ab_putf hd hw ha hf h)
        · exact ab_o2 ih hm hok h
        · obtain ⟨x, hd, rfl, hw⟩ := ab_ok3 hok
          exact ab_go_St ih (ab_o3 hd hw h)
        · obtain ⟨hd, rfl, ho⟩ := ab_ok4 hok
          exact ab_go_St ih (ab_o4 hd ho rfl h)
        · obtain ⟨hd, rfl, ho, hb⟩ := ab_ok5 hok
          exact ab_go_St ih (ab_o5 hd ho rfl hb h)
        · obtain ⟨hd, rfl, ho⟩ := ab_ok6 hok
          exact ab_go_St ih (ab_o6 hd ho rfl h)
        · obtain ⟨x, hd, rfl, hw⟩ := ab_ok7 hok
          exact ab_go_St ih (ab_o7 hd hw h)
        · obtain ⟨x, hd, hw⟩ := ab_ok8 hok
          rcases hd with ⟨hd, rfl⟩ | ⟨hd, rfl⟩
          · exact ab_go_St ih (ab_o8 hd hw h)
          · exact ab_go_St ih (ab_o8w hd hw h)
        · obtain ⟨x, hd, rfl, hw⟩ := ab_ok9 hok
          exact ab_go_St ih (ab_o9 hd hw h)
        · obtain ⟨r', hr, hx, hE, hh⟩ := ab_ok10 hok
          have h : (match (generalizing := false) ab_hs m with
            | [] => bif Nat.ble (ab_sum K) 8 then some (Sum.inr a, pn (pn s 0 (sn s 0 + 1)) 1 (sn s 1 + 6)) else none
            | _ => none : Option (ab_O × ab_S)) = some (o, s') := h
          split at h
          · obtain ⟨hK, h1⟩ := ab_cond_some h
            rw [Nat.ble_eq] at hK
            obtain ⟨rfl, rfl⟩ := Prod.mk.inj (Option.some.inj h1)
            refine ⟨fun E e => ?_, ab_snd_Th (ab_o10 hr hx hE hh hK)⟩
            obtain rfl := Sum.inr.inj e
            obtain ⟨ik, is, ic, w, E9, rfl, -, hx9⟩ := ab_exr hr
            have e9 : E9 = a := Option.some.inj hE
            omega
          · cases h
        · obtain ⟨rfl, r', hr, hx, hE⟩ := ab_ok11 hok
          have h : (match (generalizing := false) a with
            | 2 => bif Nat.ble (ab_sum K) 8 then ab_run X q d m (pc + 7) L (.inr (2, sn s 2) :: K) (ab_newT s) else none
            | 8 => bif Nat.ble (ab_sum K) 8 then ab_run X q d m (pc + 7) L (.inr (8, sn s 3) :: K) (ab_newR s) else none
            | _ => none) = some (o, s') := h
          split at h
          · obtain ⟨hK, h1⟩ := ab_cond_some h
            rw [Nat.ble_eq] at hK
            obtain ⟨g1, g2⟩ := ih _ _ _ _ _ _ _ _ h1
            exact ⟨g1, ab_snd_Nw ((hnew _ _ _ _ L K s hr hx hE hK).1 rfl) g2⟩
          · obtain ⟨hK, h1⟩ := ab_cond_some h
            rw [Nat.ble_eq] at hK
            obtain ⟨g1, g2⟩ := ih _ _ _ _ _ _ _ _ h1
            exact ⟨g1, ab_snd_Nw ((hnew _ _ _ _ L K s hr hx hE hK).2 rfl) g2⟩
          · cases h
        · obtain ⟨x, hd, rfl, hw⟩ := ab_ok12 hok
          have h8 : (match (generalizing := false) K with
            | .inl (.int c) :: .inl (.int dp) :: .inr (k1, i1) :: .inl (.int sp) :: .inr (k0, i0) :: K => match (bif Nat.ble (ab_sum K) 8 then ab_cpy X k0 i0 sp k1 i1 dp c s else none) with
              | some s => ab_run X q d m (pc + 3) L K s
              | none => none
            | _ => none) = some (o, s') := h
          clear h
          split at h8
          · rename_i c dp k1 i1 sp k0 i0 K9
            cases e9 : (bif Nat.ble (ab_sum K9) 8 then ab_cpy X k0 i0 sp k1 i1 dp c s else none) with
            | none =>
              rw [e9] at h8
              cases h8
            | some s9 =>
              rw [e9] at h8
              obtain ⟨hK, h1⟩ := ab_cond_some e9
              rw [Nat.ble_eq] at hK
              exact ab_go_StR ih (ab_o12 hd hw hK h1 h8)
          · cases h8
        · cases h
