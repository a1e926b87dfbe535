/-- how a run ends -/
def ab_Qc (ra : Nat → Nat → Nat) (fm : Value) (D : va_G) (dA : Nat → ClassId) (B0 : Nat) (P : (Nat → Nat → Nat) → Prop) (o : ab_O) (s' : ab_S) : Array Value → State → Outcome → State → Prop := fun _ U oc t => ∃ (v : Option ab_V) (w : Option Value) (ρ : Nat → Nat → Nat), o = .inl v ∧ oc = .returned w ∧ P ρ ∧ ab_HR ra ρ D dA B0 s' t.heap ∧ va_F (ab_A B0) U t ∧ ab_rv ra ρ fm s' v w
def ab_XC (ra : Nat → Nat → Nat) (D : va_G) (dA : Nat → ClassId) (B0 : Nat) (P : (Nat → Nat → Nat) → Prop) (o : ab_O) (s' : ab_S) : String → State → State → Prop := fun E U t => ∃ (x : Nat) (ρ : Nat → Nat → Nat), o = .inr x ∧ E = ab_exn x ∧ P ρ ∧ ab_HR ra ρ D dA B0 s' t.heap ∧ va_F (ab_A B0) U t
def ab_clo (P : (Nat → Nat → Nat) → Prop) (s : ab_S) : Prop := ∀ ρ ρ' : Nat → Nat → Nat, P ρ → (∀ K i : Nat, ab_dy K = true → i < ab_lim K s → ρ' K i = ρ K i) → P ρ'
/-- a run of the abstract machine is one of the machine -/
def ab_Snd (X : (Nat → Int32) × Nat) (d m pc : Nat) (L : ab_L) (K : List ab_V) (s : ab_S) (o : ab_O) (s' : ab_S) : Prop :=
  (∀ k : Nat, sn s k ≤ sn s' k) ∧ ∀ (ra : Nat → Nat → Nat) (fm : Value) (D : va_G) (dA : Nat → ClassId) (B0 : Nat) (p : Program) (l : Launch) (e : Env) (R : Room) (U : State) (mt : MethodId) (args : Array Value) (below : List Frame) (meth : Method) (c : Code), ab_CX ra fm D dA B0 X p l U mt args meth c m → d + 12 ≤ R.frames → 60 * d + 300 ≤ R.locals → ∀ mc ms cells slots : Nat, cells + (sn s' 0 - sn s 0) ≤ mc → slots + (sn s' 1 - sn s 1) ≤ ms → mc ≤ R.cells → ms ≤ R.slots → ∀ P : (Nat → Nat → Nat) → Prop, ab_clo P s → ab_G ra fm D dA B0 p l e R U mt args below meth c cells slots (vx_MQ below (ab_Qc ra fm D dA B0 P o s') (ab_XC ra D dA B0 P o s') args U mc ms (ab_A B0)) P m pc L K s
theorem ab_lim_mono {s s' : ab_S} (h : ∀ k : Nat, sn s k ≤ sn s' k) (K : Nat) : ab_lim K s ≤ ab_lim K s' := by
  unfold ab_lim
  split
  all_goals first | exact Nat.le_refl _ | exact h _
theorem ab_clo_mono {P : (Nat → Nat → Nat) → Prop} {s s' : ab_S} (h : ∀ k : Nat, sn s k ≤ sn s' k) (hc : ab_clo P s) : ab_clo P s' := fun ρ ρ' a b => hc ρ ρ' a (fun K i h1 h2 => b K i h1 (Nat.lt_of_lt_of_le h2 (ab_lim_mono h K)))
/-- a step of the same method -/
theorem ab_snd_St {X : (Nat → Int32) × Nat} {q d m pc : Nat} {L : ab_L} {K : List ab_V} {s : ab_S} {o : ab_O} {s' : ab_S} (ih : ∀ (pc : Nat) (L : ab_L) (K : List ab_V) (s : ab_S), ab_run X q d m pc L K s = some (o, s') → ab_Snd X d m pc L K s o s') (h : ab_St X m pc L K s (fun pc L K s => ab_run X q d m pc L K s) (o, s')) : ab_Snd X d m pc L K s o s' := by
  obtain ⟨pc1, L1, K1, s1, h1, h2, h3⟩ := h
  obtain ⟨i1, i2⟩ := ih pc1 L1 K1 s1 h1
  refine ⟨fun k => by rw [← h2 k]; exact i1 k, fun ra fm D dA B0 p l e R U mt args below meth c C hf hlo mc ms cells slots c1 c2 c3 c4 P hP => ?_⟩
  exact h3 ra fm D dA B0 p l e R U mt args below meth c C cells slots _ P (i2 ra fm D dA B0 p l e R U mt args below meth c C hf hlo mc ms cells slots (by rw [h2 0]; exact c1) (by rw [h2 1]; exact c2) c3 c4 P (ab_clo_mono (fun k => by rw [h2 k]; exact Nat.le_refl _) hP))
theorem ab_snd_StR {X : (Nat → Int32) × Nat} {q d m pc : Nat} {L : ab_L} {K : List ab_V} {s : ab_S} {o : ab_O} {s' : ab_S} (ih : ∀ (pc : Nat) (L : ab_L) (K : List ab_V) (s : ab_S), ab_run X q d m pc L K s = some (o, s') → ab_Snd X d m pc L K s o s') (h : ab_StR X m pc L K s (fun pc L K s => ab_run X q d m pc L K s) (o, s')) : ab_Snd X d m pc L K s o s' := by
  obtain ⟨pc1, L1, K1, s1, h1, h2, h3⟩ := h
  obtain ⟨i1, i2⟩ := ih pc1 L1 K1 s1 h1
  refine ⟨fun k => by rw [← h2 k]; exact i1 k, fun ra fm D dA B0 p l e R U mt args below meth c C hf hlo mc ms cells slots c1 c2 c3 c4 P hP => ?_⟩
  exact h3 ra fm D dA B0 p l e R U mt args below meth c C (by omega) (by omega) cells slots _ P (i2 ra fm D dA B0 p l e R U mt args below meth c C hf hlo mc ms cells slots (by rw [h2 0]; exact c1) (by rw [h2 1]; exact c2) c3 c4 P (ab_clo_mono (fun k => by rw [h2 k]; exact Nat.le_refl _) hP))
theorem ab_snd_Rt {X : (Nat → Int32) × Nat} {d m pc : Nat} {L : ab_L} {K : List ab_V} {s : ab_S} {o : ab_O} {s' : ab_S} (h : ab_Rt X m pc L K s (fun v => some (Sum.inl v, s)) (o, s')) : ab_Snd X d m pc L K s o s' := by
  obtain ⟨v, h1, h3⟩ := h
  obtain ⟨rfl, rfl⟩ := Prod.mk.inj (Option.some.inj h1)
  refine ⟨fun k => Nat.le_refl _, fun ra fm D dA B0 p l e R U mt args below meth c C hf hlo mc ms cells slots c1 c2 c3 c4 P hP => ?_⟩
  exact h3 ra fm D dA B0 p l e R U mt args below meth c C _ _ mc ms cells slots (by omega) (by omega) P (fun ρ H t w locs a1 a2 a3 a4 a5 a6 => ⟨v, w, ρ, rfl, rfl, a1, by rw [a4]; exact a2, a3.F a4, a6⟩)
theorem ab_snd_Th {X : (Nat → Int32) × Nat} {d m pc a : Nat} {L : ab_L} {K : List ab_V} {s : ab_S} (h : ab_Th X m pc a L K s) : ab_Snd X d m pc L K s (.inr a) (pn (pn s 0 (sn s 0 + 1)) 1 (sn s 1 + 6)) := by
  have n0 : sn (pn (pn s 0 (sn s 0 + 1)) 1 (sn s 1 + 6)) 0 = sn s 0 + 1 := rfl
  have n1 : sn (pn (pn s 0 (sn s 0 + 1)) 1 (sn s 1 + 6)) 1 = sn s 1 + 6 := rfl
  have n2 : ∀ k : Nat, sn s k ≤ sn (pn (pn s 0 (sn s 0 + 1)) 1 (sn s 1 + 6)) k := by
    intro k
    rcases k with _ | _ | k
    · show sn s 0 ≤ _
      rw [n0]
      omega
    · show sn s 1 ≤ _
      rw [n1]
      omega
    · exact Nat.le_refl _
  refine ⟨n2, fun ra fm D dA B0 p l e R U mt args below meth c C hf hlo mc ms cells slots c1 c2 c3 c4 P hP => ?_⟩
  rw [n0] at c1
  rw [n1] at c2
  refine h ra fm D dA B0 p l e R U mt args below meth c C (by omega) (by omega) _ _ mc ms cells slots (by omega) (by omega) (by omega) (by omega) P (fun ρ H t locs a1 a2 a3 a5 a6 => ⟨a, ρ, rfl, rfl, a1, ⟨?_, a2.2.1, a2.2.2⟩, Nat.le_trans a3.1 a5, fun q h1 h2 => (a6 q (Nat.lt_of_lt_of_le h1 a3.1)).trans (a3.2.1 q h1 h2)⟩)
  exact va_P.kept a2.1 (fun k x hx => a6 x.1 ((a2.1 k x hx).lt))
theorem ab_rk_tab : (List.range 360).all (fun m => match ab_kd m with
  | 0 => (Nat.blt (ab_2 ab_rkT m 99) 10 && decide ((ab_cl[ab_2 ab_rkT m 99]?).map (fun q => q.1) = some (ab_nm m).cls)) || (Nat.beq (ab_2 ab_rkT m 99) 10 && decide ((ab_nm m).cls = "MovingNames$Token")) || (Nat.beq (ab_2 ab_rkT m 99) 11 && decide ((ab_nm m).cls = "java/lang/String"))
  | _ => true) = true := by decide +kernel
theorem ab_pop_eq : ∀ {n : Nat} {K acc as K' : List ab_V}, ab_pop n K acc = some (as, K') → acc.reverse ++ K = as.reverse ++ K' ∧ as.length = acc.length + n
  | 0, K, acc, as, K', h => by
    rw [ab_pop] at h
    obtain ⟨rfl, rfl⟩ := Prod.mk.inj (Option.some.inj h)
    exact ⟨rfl, rfl⟩
  | n + 1, v :: K, acc, as, K', h => by
    rw [ab_pop] at h
    obtain ⟨h1, h2⟩ := ab_pop_eq h
    refine ⟨?_, ?_⟩
    · rw [← h1, List.reverse_cons, List.append_assoc]
      rfl
    · rw [h2, List.length_cons]
      omega
  | n + 1, [], acc, as, K', h => by
    rw [ab_pop] at h
    cases h
theorem ab_sr_split {ra ρ : Nat → Nat → Nat} {fm : Value} {s : ab_S} : ∀ {A K : List ab_V} {r : List Value}, ab_sr ra ρ fm s (A ++ K) r → ∃ r1 r2 : List Value, r = r1 ++ r2 ∧ ab_sr ra ρ fm s A r1 ∧ ab_sr ra ρ fm s K r2
  | [], K, r, h => ⟨[], r, rfl, trivial, h⟩
  | v :: A, K, [], h => h.elim
  | v :: A, K, w :: r, h => by
    obtain ⟨r1, r2, e, h1, h2⟩ := ab_sr_split (A := A) h.2
    exact ⟨w :: r1, r2, by rw [e]; rfl, ⟨h.1, h1⟩, h2⟩
theorem ab_sr_app {ra ρ : Nat → Nat → Nat} {fm : Value} {s : ab_S} : ∀ {A K : List ab_V} {r1 r2 : List Value}, ab_sr ra ρ fm s A r1 → ab_sr ra ρ fm s K r2 → ab_sr ra ρ fm s (A ++ K) (r1 ++ r2)
  | [], K, [], r2, _, h => h
  | v :: A, K, w :: r1, r2, h1, h => ⟨h1.1, ab_sr_app h1.2 h⟩
theorem ab_sr_rev {ra ρ : Nat → Nat → Nat} {fm : Value} {s : ab_S} : ∀ {A : List ab_V} {r : List Value}, ab_sr ra ρ fm s A r → ab_sr ra ρ fm s A.reverse r.reverse
  | [], [], _ => trivial
  | v :: A, w :: r, h => by
    rw [List.reverse_cons, List.reverse_cons]
    exact ab_sr_app (ab_sr_rev h.2) ⟨h.1, trivial⟩
