theorem xs_iadd {X : (Nat → Int32) × Nat} {m pc n : Nat} {L : ab_L} {K : List ab_V} {s : ab_S} {β : Type} {G : Nat → ab_L → List ab_V → ab_S → Option β} {rr : Option ab_V → Option β} {y : β}
    (hd : decode (ab_by m) pc = .ok (.iadd, n)) (hil : ab_il (.iadd) n pc = true) (h : ab_x X (ab_rt m) (.iadd) n pc L K s G rr = some y) :
    ab_St X m pc L K s G y := by
  obtain rfl : n = 1 := Nat.eq_of_beq_eq_true hil
  obtain ⟨x1, K1, eq9, h9⟩ := ab_pI_some h
  clear h
  subst eq9
  have h := h9
  clear h9
  obtain ⟨x2, K2, eq9, h9⟩ := ab_pI_some h
  clear h
  subst eq9
  have h := h9
  clear h9
  refine ⟨_, _, _, _, h, fun _ => rfl, fun ra fm D dA B0 p l e R U mt args below meth c C cells slots Q P hW ρ hρ H ls r locs hL hS hH hV => ?_⟩
  obtain ⟨hx, hlt, hb, hml, hr, hlk, hown, htb, hts, hB, hKK, hSF, hCV, hfm⟩ := C
  obtain ⟨w1, r1, er, hw1, hT⟩ := ab_sr_cons hS
  clear hS
  subst er
  have hS := hT
  clear hT
  obtain rfl := ab_vr_int hw1
  obtain ⟨w2, r2, er, hw2, hT⟩ := ab_sr_cons hS
  clear hS
  subst er
  have hS := hT
  clear hT
  obtain rfl := ab_vr_int hw2
  exact lv_iadd hx hb hd (hW ρ hρ H ls _ locs hL ⟨ab_vr_I _, hS⟩ hH hV)

theorem xs_isub {X : (Nat → Int32) × Nat} {m pc n : Nat} {L : ab_L} {K : List ab_V} {s : ab_S} {β : Type} {G : Nat → ab_L → List ab_V → ab_S → Option β} {rr : Option ab_V → Option β} {y : β}
    (hd : decode (ab_by m) pc = .ok (.isub, n)) (hil : ab_il (.isub) n pc = true) (h : ab_x X (ab_rt m) (.isub) n pc L K s G rr = some y) :
    ab_St X m pc L K s G y := by
  obtain rfl : n = 1 := Nat.eq_of_beq_eq_true hil
  obtain ⟨x1, K1, eq9, h9⟩ := ab_pI_some h
  clear h
  subst eq9
  have h := h9
  clear h9
  obtain ⟨x2, K2, eq9, h9⟩ := ab_pI_some h
  clear h
  subst eq9
  have h := h9
  clear h9
  refine ⟨_, _, _, _, h, fun _ => rfl, fun ra fm D dA B0 p l e R U mt args below meth c C cells slots Q P hW ρ hρ H ls r locs hL hS hH hV => ?_⟩
  obtain ⟨hx, hlt, hb, hml, hr, hlk, hown, htb, hts, hB, hKK, hSF, hCV, hfm⟩ := C
  obtain ⟨w1, r1, er, hw1, hT⟩ := ab_sr_cons hS
  clear hS
  subst er
  have hS := hT
  clear hT
  obtain rfl := ab_vr_int hw1
  obtain ⟨w2, r2, er, hw2, hT⟩ := ab_sr_cons hS
  clear hS
  subst er
  have hS := hT
  clear hT
  obtain rfl := ab_vr_int hw2
  exact lv_isub hx hb hd (hW ρ hρ H ls _ locs hL ⟨ab_vr_I _, hS⟩ hH hV)

theorem xs_imul {X : (Nat → Int32) × Nat} {m pc n : Nat} {L : ab_L} {K : List ab_V} {s : ab_S} {β : Type} {G : Nat → ab_L → List ab_V → ab_S → Option β} {rr : Option ab_V → Option β} {y : β}
    (hd : decode (ab_by m) pc = .ok (.imul, n)) (hil : ab_il (.imul) n pc = true) (h : ab_x X (ab_rt m) (.imul) n pc L K s G rr = some y) :
    ab_St X m pc L K s G y := by
  obtain rfl : n = 1 := Nat.eq_of_beq_eq_true hil
  obtain ⟨x1, K1, eq9, h9⟩ := ab_pI_some h
  clear h
  subst eq9
  have h := h9
  clear h9
  obtain ⟨x2, K2, eq9, h9⟩ := ab_pI_some h
  clear h
  subst eq9
  have h := h9
  clear h9
  refine ⟨_, _, _, _, h, fun _ => rfl, fun ra fm D dA B0 p l e R U mt args below meth c C cells slots Q P hW ρ hρ H ls r locs hL hS hH hV => ?_⟩
  obtain ⟨hx, hlt, hb, hml, hr, hlk, hown, htb, hts, hB, hKK, hSF, hCV, hfm⟩ := C
  obtain ⟨w1, r1, er, hw1, hT⟩ := ab_sr_cons hS
  clear hS
  subst er
  have hS := hT
  clear hT
  obtain rfl := ab_vr_int hw1
  obtain ⟨w2, r2, er, hw2, hT⟩ := ab_sr_cons hS
  clear hS
  subst er
  have hS := hT
  clear hT
  obtain rfl := ab_vr_int hw2
  exact lv_imul hx hb hd (hW ρ hρ H ls _ locs hL ⟨ab_vr_I _, hS⟩ hH hV)

theorem xs_iand {X : (Nat → Int32) × Nat} {m pc n : Nat} {L : ab_L} {K : List ab_V} {s : ab_S} {β : Type} {G : Nat → ab_L → List ab_V → ab_S → Option β} {rr : Option ab_V → Option β} {y : β}
    (hd : decode (ab_by m) pc = .ok (.iand, n)) (hil : ab_il (.iand) n pc = true) (h : ab_x X (ab_rt m) (.iand) n pc L K s G rr = some y) :
    ab_St X m pc L K s G y := by
  obtain rfl : n = 1 := Nat.eq_of_beq_eq_true hil
  obtain ⟨x1, K1, eq9, h9⟩ := ab_pI_some h
  clear h
  subst eq9
  have h := h9
  clear h9
  obtain ⟨x2, K2, eq9, h9⟩ := ab_pI_some h
  clear h
  subst eq9
  have h := h9
  clear h9
  refine ⟨_, _, _, _, h, fun _ => rfl, fun ra fm D dA B0 p l e R U mt args below meth c C cells slots Q P hW ρ hρ H ls r locs hL hS hH hV => ?_⟩
  obtain ⟨hx, hlt, hb, hml, hr, hlk, hown, htb, hts, hB, hKK, hSF, hCV, hfm⟩ := C
  obtain ⟨w1, r1, er, hw1, hT⟩ := ab_sr_cons hS
  clear hS
  subst er
  have hS := hT
  clear hT
  obtain rfl := ab_vr_int hw1
  obtain ⟨w2, r2, er, hw2, hT⟩ := ab_sr_cons hS
  clear hS
  subst er
  have hS := hT
  clear hT
  obtain rfl := ab_vr_int hw2
  exact lv_iand hx hb hd (hW ρ hρ H ls _ locs hL ⟨ab_vr_I _, hS⟩ hH hV)

theorem xs_ior {X : (Nat → Int32) × Nat} {m pc n : Nat} {L : ab_L} {K : List ab_V} {s : ab_S} {β : Type} {G : Nat → ab_L → List ab_V → ab_S → Option β} {rr : Option ab_V → Option β} {y : β}
    (hd : decode (ab_by m) pc = .ok (.ior, n)) (hil : ab_il (.ior) n pc = true) (h : ab_x X (ab_rt m) (.ior) n pc L K s G rr = some y) :
    ab_St X m pc L K s G y := by
  obtain rfl : n = 1 := Nat.eq_of_beq_eq_true hil
  obtain ⟨x1, K1, eq9, h9⟩ := ab_pI_some h
  clear h
  subst eq9
  have h := h9
  clear h9
  obtain ⟨x2, K2, eq9, h9⟩ := ab_pI_some h
  clear h
  subst eq9
  have h := h9
  clear h9
  refine ⟨_, _, _, _, h, fun _ => rfl, fun ra fm D dA B0 p l e R U mt args below meth c C cells slots Q P hW ρ hρ H ls r locs hL hS hH hV => ?_⟩
  obtain ⟨hx, hlt, hb, hml, hr, hlk, hown, htb, hts, hB, hKK, hSF, hCV, hfm⟩ := C
  obtain ⟨w1, r1, er, hw1, hT⟩ := ab_sr_cons hS
  clear hS
  subst er
  have hS := hT
  clear hT
  obtain rfl := ab_vr_int hw1
  obtain ⟨w2, r2, er, hw2, hT⟩ := ab_sr_cons hS
  clear hS
  subst er
  have hS := hT
  clear hT
  obtain rfl := ab_vr_int hw2
  exact lv_ior hx hb hd (hW ρ hρ H ls _ locs hL ⟨ab_vr_I _, hS⟩ hH hV)

theorem xs_ixor {X : (Nat → Int32) × Nat} {m pc n : Nat} {L : ab_L} {K : List ab_V} {s : ab_S} {β : Type} {G : Nat → ab_L → List ab_V → ab_S → Option β} {rr : Option ab_V → Option β} {y : β}
    (hd : decode (ab_by m) pc = .ok (.ixor, n)) (hil : ab_il (.ixor) n pc = true) (h : ab_x X (ab_rt m) (.ixor) n pc L K s G rr = some y) :
    ab_St X m pc L K s G y := by
  obtain rfl : n = 1 := Nat.eq_of_beq_eq_true hil
  obtain ⟨x1, K1, eq9, h9⟩ := ab_pI_some h
  clear h
  subst eq9
  have h := h9
  clear h9
  obtain ⟨x2, K2, eq9, h9⟩ := ab_pI_some h
  clear h
  subst eq9
  have h := h9
  clear h9
  refine ⟨_, _, _, _, h, fun _ => rfl, fun ra fm D dA B0 p l e R U mt args below meth c C cells slots Q P hW ρ hρ H ls r locs hL hS hH hV => ?_⟩
  obtain ⟨hx, hlt, hb, hml, hr, hlk, hown, htb, hts, hB, hKK, hSF, hCV, hfm⟩ := C
  obtain ⟨w1, r1, er, hw1, hT⟩ := ab_sr_cons hS
  clear hS
  subst er
  have hS := hT
  clear hT
  obtain rfl := ab_vr_int hw1
  obtain ⟨w2, r2, er, hw2, hT⟩ := ab_sr_cons hS
  clear hS
  subst er
  have hS := hT
  clear hT
  obtain rfl := ab_vr_int hw2
  exact lv_ixor hx hb hd (hW ρ hρ H ls _ locs hL ⟨ab_vr_I _, hS⟩ hH hV)

theorem xs_ishl {X : (Nat → Int32) × Nat} {m pc n : Nat} {L : ab_L} {K : List ab_V} {s : ab_S} {β : Type} {G : Nat → ab_L → List ab_V → ab_S → Option β} {rr : Option ab_V → Option β} {y : β}
    (hd : decode (ab_by m) pc = .ok (.ishl, n)) (hil : ab_il (.ishl) n pc = true) (h : ab_x X (ab_rt m) (.ishl) n pc L K s G rr = some y) :
    ab_St X m pc L K s G y := by
  obtain rfl : n = 1 := Nat.eq_of_beq_eq_true hil
  obtain ⟨x1, K1, eq9, h9⟩ := ab_pI_some h
  clear h
  subst eq9
  have h := h9
  clear h9
  obtain ⟨x2, K2, eq9, h9⟩ := ab_pI_some h
  clear h
  subst eq9
  have h := h9
  clear h9
  refine ⟨_, _, _, _, h, fun _ => rfl, fun ra fm D dA B0 p l e R U mt args below meth c C cells slots Q P hW ρ hρ H ls r locs hL hS hH hV => ?_⟩
  obtain ⟨hx, hlt, hb, hml, hr, hlk, hown, htb, hts, hB, hKK, hSF, hCV, hfm⟩ := C
  obtain ⟨w1, r1, er, hw1, hT⟩ := ab_sr_cons hS
  clear hS
  subst er
  have hS := hT
  clear hT
  obtain rfl := ab_vr_int hw1
  obtain ⟨w2, r2, er, hw2, hT⟩ := ab_sr_cons hS
  clear hS
  subst er
  have hS := hT
  clear hT
  obtain rfl := ab_vr_int hw2
  exact lv_ishl hx hb hd (hW ρ hρ H ls _ locs hL ⟨ab_vr_I _, hS⟩ hH hV)

theorem xs_ishr {X : (Nat → Int32) × Nat} {m pc n : Nat} {L : ab_L} {K : List ab_V} {s : ab_S} {β : Type} {G : Nat → ab_L → List ab_V → ab_S → Option β} {rr : Option ab_V → Option β} {y : β}
    (hd : decode (ab_by m) pc = .ok (.ishr, n)) (hil : ab_il (.ishr) n pc = true) (h : ab_x X (ab_rt m) (.ishr) n pc L K s G rr = some y) :
    ab_St X m pc L K s G y := by
  obtain rfl : n = 1 := Nat.eq_of_beq_eq_true hil
  obtain ⟨x1, K1, eq9, h9⟩ := ab_pI_some h
  clear h
  subst eq9
  have h := h9
  clear h9
  obtain ⟨x2, K2, eq9, h9⟩ := ab_pI_some h
  clear h
  subst eq9
  have h := h9
  clear h9
  refine ⟨_, _, _, _, h, fun _ => rfl, fun ra fm D dA B0 p l e R U mt args below meth c C cells slots Q P hW ρ hρ H ls r locs hL hS hH hV => ?_⟩
  obtain ⟨hx, hlt, hb, hml, hr, hlk, hown, htb, hts, hB, hKK, hSF, hCV, hfm⟩ := C
  obtain ⟨w1, r1, er, hw1, hT⟩ := ab_sr_cons hS
  clear hS
  subst er
  have hS := hT
  clear hT
  obtain rfl := ab_vr_int hw1
  obtain ⟨w2, r2, er, hw2, hT⟩ := ab_sr_cons hS
  clear hS
  subst er
  have hS := hT
  clear hT
  obtain rfl := ab_vr_int hw2
  exact lv_ishr hx hb hd (hW ρ hρ H ls _ locs hL ⟨ab_vr_I _, hS⟩ hH hV)

theorem xs_iushr {X : (Nat → Int32) × Nat} {m pc n : Nat} {L : ab_L} {K : List ab_V} {s : ab_S} {β : Type} {G : Nat → ab_L → List ab_V → ab_S → Option β} {rr : Option ab_V → Option β} {y : β}
    (hd : decode (ab_by m) pc = .ok (.iushr, n)) (hil : ab_il (.iushr) n pc = true) (h : ab_x X (ab_rt m) (.iushr) n pc L K s G rr = some y) :
    ab_St X m pc L K s G y := by
  obtain rfl : n = 1 := Nat.eq_of_beq_eq_true hil
  obtain ⟨x1, K1, eq9, h9⟩ := ab_pI_some h
  clear h
  subst eq9
  have h := h9
  clear h9
  obtain ⟨x2, K2, eq9, h9⟩ := ab_pI_some h
  clear h
  subst eq9
  have h := h9
  clear h9
  refine ⟨_, _, _, _, h, fun _ => rfl, fun ra fm D dA B0 p l e R U mt args below meth c C cells slots Q P hW ρ hρ H ls r locs hL hS hH hV => ?_⟩
  obtain ⟨hx, hlt, hb, hml, hr, hlk, hown, htb, hts, hB, hKK, hSF, hCV, hfm⟩ := C
  obtain ⟨w1, r1, er, hw1, hT⟩ := ab_sr_cons hS
  clear hS
  subst er
  have hS := hT
  clear hT
  obtain rfl := ab_vr_int hw1
  obtain ⟨w2, r2, er, hw2, hT⟩ := ab_sr_cons hS
  clear hS
  subst er
  have hS := hT
  clear hT
  obtain rfl := ab_vr_int hw2
  exact lv_iushr hx hb hd rfl (hW ρ hρ H ls _ locs hL ⟨ab_vr_I _, hS⟩ hH hV)

theorem xs_ladd {X : (Nat → Int32) × Nat} {m pc n : Nat} {L : ab_L} {K : List ab_V} {s : ab_S} {β : Type} {G : Nat → ab_L → List ab_V → ab_S → Option β} {rr : Option ab_V → Option β} {y : β}
    (hd : decode (ab_by m) pc = .ok (.ladd, n)) (hil : ab_il (.ladd) n pc = true) (h : ab_x X (ab_rt m) (.ladd) n pc L K s G rr = some y) :
    ab_St X m pc L K s G y := by
  obtain rfl : n = 1 := Nat.eq_of_beq_eq_true hil
  obtain ⟨x1, K1, eq9, h9⟩ := ab_pJ_some h
  clear h
  subst eq9
  have h := h9
  clear h9
  obtain ⟨x2, K2, eq9, h9⟩ := ab_pJ_some h
  clear h
  subst eq9
  have h := h9
  clear h9
  refine ⟨_, _, _, _, h, fun _ => rfl, fun ra fm D dA B0 p l e R U mt args below meth c C cells slots Q P hW ρ hρ H ls r locs hL hS hH hV => ?_⟩
  obtain ⟨hx, hlt, hb, hml, hr, hlk, hown, htb, hts, hB, hKK, hSF, hCV, hfm⟩ := C
  obtain ⟨w1, r1, er, hw1, hT⟩ := ab_sr_cons hS
  clear hS
  subst er
  have hS := hT
  clear hT
  obtain rfl := ab_vr_long hw1
  obtain ⟨w2, r2, er, hw2, hT⟩ := ab_sr_cons hS
  clear hS
  subst er
  have hS := hT
  clear hT
  obtain rfl := ab_vr_long hw2
  exact lv_ladd hx hb hd (hW ρ hρ H ls _ locs hL ⟨ab_vr_J _, hS⟩ hH hV)

theorem xs_lsub {X : (Nat → Int32) × Nat} {m pc n : Nat} {L : ab_L} {K : List ab_V} {s : ab_S} {β : Type} {G : Nat → ab_L → List ab_V → ab_S → Option β} {rr : Option ab_V → Option β} {y : β}
    (hd : decode (ab_by m) pc = .ok (.lsub, n)) (hil : ab_il (.lsub) n pc = true) (h : ab_x X (ab_rt m) (.lsub) n pc L K s G rr = some y) :
    ab_St X m pc L K s G y := by
  obtain rfl : n = 1 := Nat.eq_of_beq_eq_true hil
  obtain ⟨x1, K1, eq9, h9⟩ := ab_pJ_some h
  clear h
  subst eq9
  have h := h9
  clear h9
  obtain ⟨x2, K2, eq9, h9⟩ := ab_pJ_some h
  clear h
  subst eq9
  have h := h9
  clear h9
  refine ⟨_, _, _, _, h, fun _ => rfl, fun ra fm D dA B0 p l e R U mt args below meth c C cells slots Q P hW ρ hρ H ls r locs hL hS hH hV => ?_⟩
  obtain ⟨hx, hlt, hb, hml, hr, hlk, hown, htb, hts, hB, hKK, hSF, hCV, hfm⟩ := C
  obtain ⟨w1, r1, er, hw1, hT⟩ := ab_sr_cons hS
  clear hS
  subst er
  have hS := hT
  clear hT
  obtain rfl := ab_vr_long hw1
  obtain ⟨w2, r2, er, hw2, hT⟩ := ab_sr_cons hS
  clear hS
  subst er
  have hS := hT
  clear hT
  obtain rfl := ab_vr_long hw2
  exact lv_lsub hx hb hd (hW ρ hρ H ls _ locs hL ⟨ab_vr_J _, hS⟩ hH hV)

theorem xs_lmul {X : (Nat → Int32) × Nat} {m pc n : Nat} {L : ab_L} {K : List ab_V} {s : ab_S} {β : Type} {G : Nat → ab_L → List ab_V → ab_S → Option β} {rr : Option ab_V → Option β} {y : β}
    (hd : decode (ab_by m) pc = .ok (.lmul, n)) (hil : ab_il (.lmul) n pc = true) (h : ab_x X (ab_rt m) (.lmul) n pc L K s G rr = some y) :
    ab_St X m pc L K s G y := by
  obtain rfl : n = 1 := Nat.eq_of_beq_eq_true hil
  obtain ⟨x1, K1, eq9, h9⟩ := ab_pJ_some h
  clear h
  subst eq9
  have h := h9
  clear h9
  obtain ⟨x2, K2, eq9, h9⟩ := ab_pJ_some h
  clear h
  subst eq9
  have h := h9
  clear h9
  refine ⟨_, _, _, _, h, fun _ => rfl, fun ra fm D dA B0 p l e R U mt args below meth c C cells slots Q P hW ρ hρ H ls r locs hL hS hH hV => ?_⟩
  obtain ⟨hx, hlt, hb, hml, hr, hlk, hown, htb, hts, hB, hKK, hSF, hCV, hfm⟩ := C
  obtain ⟨w1, r1, er, hw1, hT⟩ := ab_sr_cons hS
  clear hS
  subst er
  have hS := hT
  clear hT
  obtain rfl := ab_vr_long hw1
  obtain ⟨w2, r2, er, hw2, hT⟩ := ab_sr_cons hS
  clear hS
  subst er
  have hS := hT
  clear hT
  obtain rfl := ab_vr_long hw2
  exact lv_lmul hx hb hd (hW ρ hρ H ls _ locs hL ⟨ab_vr_J _, hS⟩ hH hV)

theorem xs_land {X : (Nat → Int32) × Nat} {m pc n : Nat} {L : ab_L} {K : List ab_V} {s : ab_S} {β : Type} {G : Nat → ab_L → List ab_V → ab_S → Option β} {rr : Option ab_V → Option β} {y : β}
    (hd : decode (ab_by m) pc = .ok (.land, n)) (hil : ab_il (.land) n pc = true) (h : ab_x X (ab_rt m) (.land) n pc L K s G rr = some y) :
    ab_St X m pc L K s G y := by
  obtain rfl : n = 1 := Nat.eq_of_beq_eq_true hil
  obtain ⟨x1, K1, eq9, h9⟩ := ab_pJ_some h
  clear h
  subst eq9
  have h := h9
  clear h9
  obtain ⟨x2, K2, eq9, h9⟩ := ab_pJ_some h
  clear h
  subst eq9
  have h := h9
  clear h9
  refine ⟨_, _, _, _, h, fun _ => rfl, fun ra fm D dA B0 p l e R U mt args below meth c C cells slots Q P hW ρ hρ H ls r locs hL hS hH hV => ?_⟩
  obtain ⟨hx, hlt, hb, hml, hr, hlk, hown, htb, hts, hB, hKK, hSF, hCV, hfm⟩ := C
  obtain ⟨w1, r1, er, hw1, hT⟩ := ab_sr_cons hS
  clear hS
  subst er
  have hS := hT
  clear hT
  obtain rfl := ab_vr_long hw1
  obtain ⟨w2, r2, er, hw2, hT⟩ := ab_sr_cons hS
  clear hS
  subst er
  have hS := hT
  clear hT
  obtain rfl := ab_vr_long hw2
  exact lv_land hx hb hd (hW ρ hρ H ls _ locs hL ⟨ab_vr_J _, hS⟩ hH hV)

theorem xs_lor {X : (Nat → Int32) × Nat} {m pc n : Nat} {L : ab_L} {K : List ab_V} {s : ab_S} {β : Type} {G : Nat → ab_L → List ab_V → ab_S → Option β} {rr : Option ab_V → Option β} {y : β}
    (hd : decode (ab_by m) pc = .ok (.lor, n)) (hil : ab_il (.lor) n pc = true) (h : ab_x X (ab_rt m) (.lor) n pc L K s G rr = some y) :
    ab_St X m pc L K s G y := by
  obtain rfl : n = 1 := Nat.eq_of_beq_eq_true hil
  obtain ⟨x1, K1, eq9, h9⟩ := ab_pJ_some h
  clear h
  subst eq9
  have h := h9
  clear h9
  obtain ⟨x2, K2, eq9, h9⟩ := ab_pJ_some h
  clear h
  subst eq9
  have h := h9
  clear h9
  refine ⟨_, _, _, _, h, fun _ => rfl, fun ra fm D dA B0 p l e R U mt args below meth c C cells slots Q P hW ρ hρ H ls r locs hL hS hH hV => ?_⟩
  obtain ⟨hx, hlt, hb, hml, hr, hlk, hown, htb, hts, hB, hKK, hSF, hCV, hfm⟩ := C
  obtain ⟨w1, r1, er, hw1, hT⟩ := ab_sr_cons hS
  clear hS
  subst er
  have hS := hT
  clear hT
  obtain rfl := ab_vr_long hw1
  obtain ⟨w2, r2, er, hw2, hT⟩ := ab_sr_cons hS
  clear hS
  subst er
  have hS := hT
  clear hT
  obtain rfl := ab_vr_long hw2
  exact lv_lor hx hb hd (hW ρ hρ H ls _ locs hL ⟨ab_vr_J _, hS⟩ hH hV)

theorem xs_lxor {X : (Nat → Int32) × Nat} {m pc n : Nat} {L : ab_L} {K : List ab_V} {s : ab_S} {β : Type} {G : Nat → ab_L → List ab_V → ab_S → Option β} {rr : Option ab_V → Option β} {y : β}
    (hd : decode (ab_by m) pc = .ok (.lxor, n)) (hil : ab_il (.lxor) n pc = true) (h : ab_x X (ab_rt m) (.lxor) n pc L K s G rr = some y) :
    ab_St X m pc L K s G y := by
  obtain rfl : n = 1 := Nat.eq_of_beq_eq_true hil
  obtain ⟨x1, K1, eq9, h9⟩ := ab_pJ_some h
  clear h
  subst eq9
  have h := h9
  clear h9
  obtain ⟨x2, K2, eq9, h9⟩ := ab_pJ_some h
  clear h
  subst eq9
  have h := h9
  clear h9
  refine ⟨_, _, _, _, h, fun _ => rfl, fun ra fm D dA B0 p l e R U mt args below meth c C cells slots Q P hW ρ hρ H ls r locs hL hS hH hV => ?_⟩
  obtain ⟨hx, hlt, hb, hml, hr, hlk, hown, htb, hts, hB, hKK, hSF, hCV, hfm⟩ := C
  obtain ⟨w1, r1, er, hw1, hT⟩ := ab_sr_cons hS
  clear hS
  subst er
  have hS := hT
  clear hT
  obtain rfl := ab_vr_long hw1
  obtain ⟨w2, r2, er, hw2, hT⟩ := ab_sr_cons hS
  clear hS
  subst er
  have hS := hT
  clear hT
  obtain rfl := ab_vr_long hw2
  exact lv_lxor hx hb hd (hW ρ hρ H ls _ locs hL ⟨ab_vr_J _, hS⟩ hH hV)

theorem xs_idiv {X : (Nat → Int32) × Nat} {m pc n : Nat} {L : ab_L} {K : List ab_V} {s : ab_S} {β : Type} {G : Nat → ab_L → List ab_V → ab_S → Option β} {rr : Option ab_V → Option β} {y : β}
    (hd : decode (ab_by m) pc = .ok (.idiv, n)) (hil : ab_il (.idiv) n pc = true) (h : ab_x X (ab_rt m) (.idiv) n pc L K s G rr = some y) :
    ab_St X m pc L K s G y := by
  obtain rfl : n = 1 := Nat.eq_of_beq_eq_true hil
  obtain ⟨x1, K1, eq9, h9⟩ := ab_pI_some h
  clear h
  subst eq9
  have h := h9
  clear h9
  obtain ⟨x2, K2, eq9, h9⟩ := ab_pI_some h
  clear h
  subst eq9
  have h := h9
  clear h9
  by_cases h0 : x1 = 0
  · rw [if_pos h0] at h
    cases h
  rw [if_neg h0] at h
  refine ⟨_, _, _, _, h, fun _ => rfl, fun ra fm D dA B0 p l e R U mt args below meth c C cells slots Q P hW ρ hρ H ls r locs hL hS hH hV => ?_⟩
  obtain ⟨hx, hlt, hb, hml, hr, hlk, hown, htb, hts, hB, hKK, hSF, hCV, hfm⟩ := C
  obtain ⟨w1, r1, er, hw1, hT⟩ := ab_sr_cons hS
  clear hS
  subst er
  have hS := hT
  clear hT
  obtain rfl := ab_vr_int hw1
  obtain ⟨w2, r2, er, hw2, hT⟩ := ab_sr_cons hS
  clear hS
  subst er
  have hS := hT
  clear hT
  obtain rfl := ab_vr_int hw2
  exact lv_idiv hx hb hd h0 (hW ρ hρ H ls _ locs hL ⟨ab_vr_I _, hS⟩ hH hV)

theorem xs_irem {X : (Nat → Int32) × Nat} {m pc n : Nat} {L : ab_L} {K : List ab_V} {s : ab_S} {β : Type} {G : Nat → ab_L → List ab_V → ab_S → Option β} {rr : Option ab_V → Option β} {y : β}
    (hd : decode (ab_by m) pc = .ok (.irem, n)) (hil : ab_il (.irem) n pc = true) (h : ab_x X (ab_rt m) (.irem) n pc L K s G rr = some y) :
    ab_St X m pc L K s G y := by
  obtain rfl : n = 1 := Nat.eq_of_beq_eq_true hil
  obtain ⟨x1, K1, eq9, h9⟩ := ab_pI_some h
  clear h
  subst eq9
  have h := h9
  clear h9
  obtain ⟨x2, K2, eq9, h9⟩ := ab_pI_some h
  clear h
  subst eq9
  have h := h9
  clear h9
  by_cases h0 : x1 = 0
  · rw [if_pos h0] at h
    cases h
  rw [if_neg h0] at h
  refine ⟨_, _, _, _, h, fun _ => rfl, fun ra fm D dA B0 p l e R U mt args below meth c C cells slots Q P hW ρ hρ H ls r locs hL hS hH hV => ?_⟩
  obtain ⟨hx, hlt, hb, hml, hr, hlk, hown, htb, hts, hB, hKK, hSF, hCV, hfm⟩ := C
  obtain ⟨w1, r1, er, hw1, hT⟩ := ab_sr_cons hS
  clear hS
  subst er
  have hS := hT
  clear hT
  obtain rfl := ab_vr_int hw1
  obtain ⟨w2, r2, er, hw2, hT⟩ := ab_sr_cons hS
  clear hS
  subst er
  have hS := hT
  clear hT
  obtain rfl := ab_vr_int hw2
  exact lv_irem hx hb hd h0 (hW ρ hρ H ls _ locs hL ⟨ab_vr_I _, hS⟩ hH hV)

theorem xs_ldiv {X : (Nat → Int32) × Nat} {m pc n : Nat} {L : ab_L} {K : List ab_V} {s : ab_S} {β : Type} {G : Nat → ab_L → List ab_V → ab_S → Option β} {rr : Option ab_V → Option β} {y : β}
    (hd : decode (ab_by m) pc = .ok (.ldiv, n)) (hil : ab_il (.ldiv) n pc = true) (h : ab_x X (ab_rt m) (.ldiv) n pc L K s G rr = some y) :
    ab_St X m pc L K s G y := by
  obtain rfl : n = 1 := Nat.eq_of_beq_eq_true hil
  obtain ⟨x1, K1, eq9, h9⟩ := ab_pJ_some h
  clear h
  subst eq9
  have h := h9
  clear h9
  obtain ⟨x2, K2, eq9, h9⟩ := ab_pJ_some h
  clear h
  subst eq9
  have h := h9
  clear h9
  by_cases h0 : x1 = 0
  · rw [if_pos h0] at h
    cases h
  rw [if_neg h0] at h
  refine ⟨_, _, _, _, h, fun _ => rfl, fun ra fm D dA B0 p l e R U mt args below meth c C cells slots Q P hW ρ hρ H ls r locs hL hS hH hV => ?_⟩
  obtain ⟨hx, hlt, hb, hml, hr, hlk, hown, htb, hts, hB, hKK, hSF, hCV, hfm⟩ := C
  obtain ⟨w1, r1, er, hw1, hT⟩ := ab_sr_cons hS
  clear hS
  subst er
  have hS := hT
  clear hT
  obtain rfl := ab_vr_long hw1
  obtain ⟨w2, r2, er, hw2, hT⟩ := ab_sr_cons hS
  clear hS
  subst er
  have hS := hT
  clear hT
  obtain rfl := ab_vr_long hw2
  exact lv_ldiv hx hb hd h0 (hW ρ hρ H ls _ locs hL ⟨ab_vr_J _, hS⟩ hH hV)

theorem xs_lrem {X : (Nat → Int32) × Nat} {m pc n : Nat} {L : ab_L} {K : List ab_V} {s : ab_S} {β : Type} {G : Nat → ab_L → List ab_V → ab_S → Option β} {rr : Option ab_V → Option β} {y : β}
    (hd : decode (ab_by m) pc = .ok (.lrem, n)) (hil : ab_il (.lrem) n pc = true) (h : ab_x X (ab_rt m) (.lrem) n pc L K s G rr = some y) :
    ab_St X m pc L K s G y := by
  obtain rfl : n = 1 := Nat.eq_of_beq_eq_true hil
  obtain ⟨x1, K1, eq9, h9⟩ := ab_pJ_some h
  clear h
  subst eq9
  have h := h9
  clear h9
  obtain ⟨x2, K2, eq9, h9⟩ := ab_pJ_some h
  clear h
  subst eq9
  have h := h9
  clear h9
  by_cases h0 : x1 = 0
  · rw [if_pos h0] at h
    cases h
  rw [if_neg h0] at h
  refine ⟨_, _, _, _, h, fun _ => rfl, fun ra fm D dA B0 p l e R U mt args below meth c C cells slots Q P hW ρ hρ H ls r locs hL hS hH hV => ?_⟩
  obtain ⟨hx, hlt, hb, hml, hr, hlk, hown, htb, hts, hB, hKK, hSF, hCV, hfm⟩ := C
  obtain ⟨w1, r1, er, hw1, hT⟩ := ab_sr_cons hS
  clear hS
  subst er
  have hS := hT
  clear hT
  obtain rfl := ab_vr_long hw1
  obtain ⟨w2, r2, er, hw2, hT⟩ := ab_sr_cons hS
  clear hS
  subst er
  have hS := hT
  clear hT
  obtain rfl := ab_vr_long hw2
  exact lv_lrem hx hb hd h0 (hW ρ hρ H ls _ locs hL ⟨ab_vr_J _, hS⟩ hH hV)

theorem xs_ineg {X : (Nat → Int32) × Nat} {m pc n : Nat} {L : ab_L} {K : List ab_V} {s : ab_S} {β : Type} {G : Nat → ab_L → List ab_V → ab_S → Option β} {rr : Option ab_V → Option β} {y : β}
    (hd : decode (ab_by m) pc = .ok (.ineg, n)) (hil : ab_il (.ineg) n pc = true) (h : ab_x X (ab_rt m) (.ineg) n pc L K s G rr = some y) :
    ab_St X m pc L K s G y := by
  obtain rfl : n = 1 := Nat.eq_of_beq_eq_true hil
  obtain ⟨x1, K1, eq9, h9⟩ := ab_pI_some h
  clear h
  subst eq9
  have h := h9
  clear h9
  refine ⟨_, _, _, _, h, fun _ => rfl, fun ra fm D dA B0 p l e R U mt args below meth c C cells slots Q P hW ρ hρ H ls r locs hL hS hH hV => ?_⟩
  obtain ⟨hx, hlt, hb, hml, hr, hlk, hown, htb, hts, hB, hKK, hSF, hCV, hfm⟩ := C
  obtain ⟨w1, r1, er, hw1, hT⟩ := ab_sr_cons hS
  clear hS
  subst er
  have hS := hT
  clear hT
  obtain rfl := ab_vr_int hw1
  exact lv_ineg hx hb hd (hW ρ hρ H ls _ locs hL ⟨ab_vr_I _, hS⟩ hH hV)

theorem xs_lneg {X : (Nat → Int32) × Nat} {m pc n : Nat} {L : ab_L} {K : List ab_V} {s : ab_S} {β : Type} {G : Nat → ab_L → List ab_V → ab_S → Option β} {rr : Option ab_V → Option β} {y : β}
    (hd : decode (ab_by m) pc = .ok (.lneg, n)) (hil : ab_il (.lneg) n pc = true) (h : ab_x X (ab_rt m) (.lneg) n pc L K s G rr = some y) :
    ab_St X m pc L K s G y := by
  obtain rfl : n = 1 := Nat.eq_of_beq_eq_true hil
  obtain ⟨x1, K1, eq9, h9⟩ := ab_pJ_some h
  clear h
  subst eq9
  have h := h9
  clear h9
  refine ⟨_, _, _, _, h, fun _ => rfl, fun ra fm D dA B0 p l e R U mt args below meth c C cells slots Q P hW ρ hρ H ls r locs hL hS hH hV => ?_⟩
  obtain ⟨hx, hlt, hb, hml, hr, hlk, hown, htb, hts, hB, hKK, hSF, hCV, hfm⟩ := C
  obtain ⟨w1, r1, er, hw1, hT⟩ := ab_sr_cons hS
  clear hS
  subst er
  have hS := hT
  clear hT
  obtain rfl := ab_vr_long hw1
  exact lv_lneg hx hb hd (hW ρ hρ H ls _ locs hL ⟨ab_vr_J _, hS⟩ hH hV)

theorem xs_lshl {X : (Nat → Int32) × Nat} {m pc n : Nat} {L : ab_L} {K : List ab_V} {s : ab_S} {β : Type} {G : Nat → ab_L → List ab_V → ab_S → Option β} {rr : Option ab_V → Option β} {y : β}
    (hd : decode (ab_by m) pc = .ok (.lshl, n)) (hil : ab_il (.lshl) n pc = true) (h : ab_x X (ab_rt m) (.lshl) n pc L K s G rr = some y) :
    ab_St X m pc L K s G y := by
  obtain rfl : n = 1 := Nat.eq_of_beq_eq_true hil
  obtain ⟨x1, K1, eq9, h9⟩ := ab_pI_some h
  clear h
  subst eq9
  have h := h9
  clear h9
  obtain ⟨x2, K2, eq9, h9⟩ := ab_pJ_some h
  clear h
  subst eq9
  have h := h9
  clear h9
  refine ⟨_, _, _, _, h, fun _ => rfl, fun ra fm D dA B0 p l e R U mt args below meth c C cells slots Q P hW ρ hρ H ls r locs hL hS hH hV => ?_⟩
  obtain ⟨hx, hlt, hb, hml, hr, hlk, hown, htb, hts, hB, hKK, hSF, hCV, hfm⟩ := C
  obtain ⟨w1, r1, er, hw1, hT⟩ := ab_sr_cons hS
  clear hS
  subst er
  have hS := hT
  clear hT
  obtain rfl := ab_vr_int hw1
  obtain ⟨w2, r2, er, hw2, hT⟩ := ab_sr_cons hS
  clear hS
  subst er
  have hS := hT
  clear hT
  obtain rfl := ab_vr_long hw2
  exact lv_lshl hx hb hd rfl (hW ρ hρ H ls _ locs hL ⟨ab_vr_J _, hS⟩ hH hV)

theorem xs_lshr {X : (Nat → Int32) × Nat} {m pc n : Nat} {L : ab_L} {K : List ab_V} {s : ab_S} {β : Type} {G : Nat → ab_L → List ab_V → ab_S → Option β} {rr : Option ab_V → Option β} {y : β}
    (hd : decode (ab_by m) pc = .ok (.lshr, n)) (hil : ab_il (.lshr) n pc = true) (h : ab_x X (ab_rt m) (.lshr) n pc L K s G rr = some y) :
    ab_St X m pc L K s G y := by
  obtain rfl : n = 1 := Nat.eq_of_beq_eq_true hil
  obtain ⟨x1, K1, eq9, h9⟩ := ab_pI_some h
  clear h
  subst eq9
  have h := h9
  clear h9
  obtain ⟨x2, K2, eq9, h9⟩ := ab_pJ_some h
  clear h
  subst eq9
  have h := h9
  clear h9
  refine ⟨_, _, _, _, h, fun _ => rfl, fun ra fm D dA B0 p l e R U mt args below meth c C cells slots Q P hW ρ hρ H ls r locs hL hS hH hV => ?_⟩
  obtain ⟨hx, hlt, hb, hml, hr, hlk, hown, htb, hts, hB, hKK, hSF, hCV, hfm⟩ := C
  obtain ⟨w1, r1, er, hw1, hT⟩ := ab_sr_cons hS
  clear hS
  subst er
  have hS := hT
  clear hT
  obtain rfl := ab_vr_int hw1
  obtain ⟨w2, r2, er, hw2, hT⟩ := ab_sr_cons hS
  clear hS
  subst er
  have hS := hT
  clear hT
  obtain rfl := ab_vr_long hw2
  exact lv_lshr hx hb hd rfl (hW ρ hρ H ls _ locs hL ⟨ab_vr_J _, hS⟩ hH hV)

theorem xs_lushr {X : (Nat → Int32) × Nat} {m pc n : Nat} {L : ab_L} {K : List ab_V} {s : ab_S} {β : Type} {G : Nat → ab_L → List ab_V → ab_S → Option β} {rr : Option ab_V → Option β} {y : β}
    (hd : decode (ab_by m) pc = .ok (.lushr, n)) (hil : ab_il (.lushr) n pc = true) (h : ab_x X (ab_rt m) (.lushr) n pc L K s G rr = some y) :
    ab_St X m pc L K s G y := by
  obtain rfl : n = 1 := Nat.eq_of_beq_eq_true hil
  obtain ⟨x1, K1, eq9, h9⟩ := ab_pI_some h
  clear h
  subst eq9
  have h := h9
  clear h9
  obtain ⟨x2, K2, eq9, h9⟩ := ab_pJ_some h
  clear h
  subst eq9
  have h := h9
  clear h9
  refine ⟨_, _, _, _, h, fun _ => rfl, fun ra fm D dA B0 p l e R U mt args below meth c C cells slots Q P hW ρ hρ H ls r locs hL hS hH hV => ?_⟩
  obtain ⟨hx, hlt, hb, hml, hr, hlk, hown, htb, hts, hB, hKK, hSF, hCV, hfm⟩ := C
  obtain ⟨w1, r1, er, hw1, hT⟩ := ab_sr_cons hS
  clear hS
  subst er
  have hS := hT
  clear hT
  obtain rfl := ab_vr_int hw1
  obtain ⟨w2, r2, er, hw2, hT⟩ := ab_sr_cons hS
  clear hS
  subst er
  have hS := hT
  clear hT
  obtain rfl := ab_vr_long hw2
  exact lv_lushr hx hb hd rfl (hW ρ hρ H ls _ locs hL ⟨ab_vr_J _, hS⟩ hH hV)

theorem xs_lcmp {X : (Nat → Int32) × Nat} {m pc n : Nat} {L : ab_L} {K : List ab_V} {s : ab_S} {β : Type} {G : Nat → ab_L → List ab_V → ab_S → Option β} {rr : Option ab_V → Option β} {y : β}
    (hd : decode (ab_by m) pc = .ok (.lcmp, n)) (hil : ab_il (.lcmp) n pc = true) (h : ab_x X (ab_rt m) (.lcmp) n pc L K s G rr = some y) :
    ab_St X m pc L K s G y := by
  obtain rfl : n = 1 := Nat.eq_of_beq_eq_true hil
  obtain ⟨x1, K1, eq9, h9⟩ := ab_pJ_some h
  clear h
  subst eq9
  have h := h9
  clear h9
  obtain ⟨x2, K2, eq9, h9⟩ := ab_pJ_some h
  clear h
  subst eq9
  have h := h9
  clear h9
  refine ⟨_, _, _, _, h, fun _ => rfl, fun ra fm D dA B0 p l e R U mt args below meth c C cells slots Q P hW ρ hρ H ls r locs hL hS hH hV => ?_⟩
  obtain ⟨hx, hlt, hb, hml, hr, hlk, hown, htb, hts, hB, hKK, hSF, hCV, hfm⟩ := C
  obtain ⟨w1, r1, er, hw1, hT⟩ := ab_sr_cons hS
  clear hS
  subst er
  have hS := hT
  clear hT
  obtain rfl := ab_vr_long hw1
  obtain ⟨w2, r2, er, hw2, hT⟩ := ab_sr_cons hS
  clear hS
  subst er
  have hS := hT
  clear hT
  obtain rfl := ab_vr_long hw2
  exact W.lcmp hx hb hd (hW ρ hρ H ls _ locs hL ⟨ab_vr_I _, hS⟩ hH hV)

theorem xs_i2l {X : (Nat → Int32) × Nat} {m pc n : Nat} {L : ab_L} {K : List ab_V} {s : ab_S} {β : Type} {G : Nat → ab_L → List ab_V → ab_S → Option β} {rr : Option ab_V → Option β} {y : β}
    (hd : decode (ab_by m) pc = .ok (.i2l, n)) (hil : ab_il (.i2l) n pc = true) (h : ab_x X (ab_rt m) (.i2l) n pc L K s G rr = some y) :
    ab_St X m pc L K s G y := by
  obtain rfl : n = 1 := Nat.eq_of_beq_eq_true hil
  obtain ⟨x1, K1, eq9, h9⟩ := ab_pI_some h
  clear h
  subst eq9
  have h := h9
  clear h9
  refine ⟨_, _, _, _, h, fun _ => rfl, fun ra fm D dA B0 p l e R U mt args below meth c C cells slots Q P hW ρ hρ H ls r locs hL hS hH hV => ?_⟩
  obtain ⟨hx, hlt, hb, hml, hr, hlk, hown, htb, hts, hB, hKK, hSF, hCV, hfm⟩ := C
  obtain ⟨w1, r1, er, hw1, hT⟩ := ab_sr_cons hS
  clear hS
  subst er
  have hS := hT
  clear hT
  obtain rfl := ab_vr_int hw1
  exact lv_i2l hx hb hd rfl (hW ρ hρ H ls _ locs hL ⟨ab_vr_J _, hS⟩ hH hV)

theorem xs_l2i {X : (Nat → Int32) × Nat} {m pc n : Nat} {L : ab_L} {K : List ab_V} {s : ab_S} {β : Type} {G : Nat → ab_L → List ab_V → ab_S → Option β} {rr : Option ab_V → Option β} {y : β}
    (hd : decode (ab_by m) pc = .ok (.l2i, n)) (hil : ab_il (.l2i) n pc = true) (h : ab_x X (ab_rt m) (.l2i) n pc L K s G rr = some y) :
    ab_St X m pc L K s G y := by
  obtain rfl : n = 1 := Nat.eq_of_beq_eq_true hil
  obtain ⟨x1, K1, eq9, h9⟩ := ab_pJ_some h
  clear h
  subst eq9
  have h := h9
  clear h9
  refine ⟨_, _, _, _, h, fun _ => rfl, fun ra fm D dA B0 p l e R U mt args below meth c C cells slots Q P hW ρ hρ H ls r locs hL hS hH hV => ?_⟩
  obtain ⟨hx, hlt, hb, hml, hr, hlk, hown, htb, hts, hB, hKK, hSF, hCV, hfm⟩ := C
  obtain ⟨w1, r1, er, hw1, hT⟩ := ab_sr_cons hS
  clear hS
  subst er
  have hS := hT
  clear hT
  obtain rfl := ab_vr_long hw1
  exact lv_l2i hx hb hd rfl (hW ρ hρ H ls _ locs hL ⟨ab_vr_I _, hS⟩ hH hV)

theorem xs_i2b {X : (Nat → Int32) × Nat} {m pc n : Nat} {L : ab_L} {K : List ab_V} {s : ab_S} {β : Type} {G : Nat → ab_L → List ab_V → ab_S → Option β} {rr : Option ab_V → Option β} {y : β}
    (hd : decode (ab_by m) pc = .ok (.i2b, n)) (hil : ab_il (.i2b) n pc = true) (h : ab_x X (ab_rt m) (.i2b) n pc L K s G rr = some y) :
    ab_St X m pc L K s G y := by
  obtain rfl : n = 1 := Nat.eq_of_beq_eq_true hil
  obtain ⟨x1, K1, eq9, h9⟩ := ab_pI_some h
  clear h
  subst eq9
  have h := h9
  clear h9
  refine ⟨_, _, _, _, h, fun _ => rfl, fun ra fm D dA B0 p l e R U mt args below meth c C cells slots Q P hW ρ hρ H ls r locs hL hS hH hV => ?_⟩
  obtain ⟨hx, hlt, hb, hml, hr, hlk, hown, htb, hts, hB, hKK, hSF, hCV, hfm⟩ := C
  obtain ⟨w1, r1, er, hw1, hT⟩ := ab_sr_cons hS
  clear hS
  subst er
  have hS := hT
  clear hT
  obtain rfl := ab_vr_int hw1
  exact lv_i2b hx hb hd rfl (hW ρ hρ H ls _ locs hL ⟨ab_vr_I _, hS⟩ hH hV)

theorem xs_i2s {X : (Nat → Int32) × Nat} {m pc n : Nat} {L : ab_L} {K : List ab_V} {s : ab_S} {β : Type} {G : Nat → ab_L → List ab_V → ab_S → Option β} {rr : Option ab_V → Option β} {y : β}
    (hd : decode (ab_by m) pc = .ok (.i2s, n)) (hil : ab_il (.i2s) n pc = true) (h : ab_x X (ab_rt m) (.i2s) n pc L K s G rr = some y) :
    ab_St X m pc L K s G y := by
  obtain rfl : n = 1 := Nat.eq_of_beq_eq_true hil
  obtain ⟨x1, K1, eq9, h9⟩ := ab_pI_some h
  clear h
  subst eq9
  have h := h9
  clear h9
  refine ⟨_, _, _, _, h, fun _ => rfl, fun ra fm D dA B0 p l e R U mt args below meth c C cells slots Q P hW ρ hρ H ls r locs hL hS hH hV => ?_⟩
  obtain ⟨hx, hlt, hb, hml, hr, hlk, hown, htb, hts, hB, hKK, hSF, hCV, hfm⟩ := C
  obtain ⟨w1, r1, er, hw1, hT⟩ := ab_sr_cons hS
  clear hS
  subst er
  have hS := hT
  clear hT
  obtain rfl := ab_vr_int hw1
  exact lv_i2s hx hb hd rfl (hW ρ hρ H ls _ locs hL ⟨ab_vr_I _, hS⟩ hH hV)

theorem xs_i2c {X : (Nat → Int32) × Nat} {m pc n : Nat} {L : ab_L} {K : List ab_V} {s : ab_S} {β : Type} {G : Nat → ab_L → List ab_V → ab_S → Option β} {rr : Option ab_V → Option β} {y : β}
    (hd : decode (ab_by m) pc = .ok (.i2c, n)) (hil : ab_il (.i2c) n pc = true) (h : ab_x X (ab_rt m) (.i2c) n pc L K s G rr = some y) :
    ab_St X m pc L K s G y := by
  obtain rfl : n = 1 := Nat.eq_of_beq_eq_true hil
  obtain ⟨x1, K1, eq9, h9⟩ := ab_pI_some h
  clear h
  subst eq9
  have h := h9
  clear h9
  refine ⟨_, _, _, _, h, fun _ => rfl, fun ra fm D dA B0 p l e R U mt args below meth c C cells slots Q P hW ρ hρ H ls r locs hL hS hH hV => ?_⟩
  obtain ⟨hx, hlt, hb, hml, hr, hlk, hown, htb, hts, hB, hKK, hSF, hCV, hfm⟩ := C
  obtain ⟨w1, r1, er, hw1, hT⟩ := ab_sr_cons hS
  clear hS
  subst er
  have hS := hT
  clear hT
  obtain rfl := ab_vr_int hw1
  exact lv_i2c hx hb hd rfl (hW ρ hρ H ls _ locs hL ⟨ab_vr_I _, hS⟩ hH hV)

theorem xs_pop {X : (Nat → Int32) × Nat} {m pc n : Nat} {L : ab_L} {K : List ab_V} {s : ab_S} {β : Type} {G : Nat → ab_L → List ab_V → ab_S → Option β} {rr : Option ab_V → Option β} {y : β}
    (hd : decode (ab_by m) pc = .ok (.pop, n)) (hil : ab_il (.pop) n pc = true) (h : ab_x X (ab_rt m) (.pop) n pc L K s G rr = some y) :
    ab_St X m pc L K s G y := by
  obtain rfl : n = 1 := Nat.eq_of_beq_eq_true hil
  obtain ⟨x1, K1, eq9, h9⟩ := ab_pI_some h
  clear h
  subst eq9
  have h := h9
  clear h9
  refine ⟨_, _, _, _, h, fun _ => rfl, fun ra fm D dA B0 p l e R U mt args below meth c C cells slots Q P hW ρ hρ H ls r locs hL hS hH hV => ?_⟩
  obtain ⟨hx, hlt, hb, hml, hr, hlk, hown, htb, hts, hB, hKK, hSF, hCV, hfm⟩ := C
  obtain ⟨w1, r1, er, hw1, hT⟩ := ab_sr_cons hS
  clear hS
  subst er
  have hS := hT
  clear hT
  obtain rfl := ab_vr_int hw1
  exact lv_pop hx hb hd rfl (hW ρ hρ H ls _ locs hL hS hH hV)

theorem xs_pop2 {X : (Nat → Int32) × Nat} {m pc n : Nat} {L : ab_L} {K : List ab_V} {s : ab_S} {β : Type} {G : Nat → ab_L → List ab_V → ab_S → Option β} {rr : Option ab_V → Option β} {y : β}
    (hd : decode (ab_by m) pc = .ok (.pop2, n)) (hil : ab_il (.pop2) n pc = true) (h : ab_x X (ab_rt m) (.pop2) n pc L K s G rr = some y) :
    ab_St X m pc L K s G y := by
  obtain rfl : n = 1 := Nat.eq_of_beq_eq_true hil
  obtain ⟨x1, K1, eq9, h9⟩ := ab_pJ_some h
  clear h
  subst eq9
  have h := h9
  clear h9
  refine ⟨_, _, _, _, h, fun _ => rfl, fun ra fm D dA B0 p l e R U mt args below meth c C cells slots Q P hW ρ hρ H ls r locs hL hS hH hV => ?_⟩
  obtain ⟨hx, hlt, hb, hml, hr, hlk, hown, htb, hts, hB, hKK, hSF, hCV, hfm⟩ := C
  obtain ⟨w1, r1, er, hw1, hT⟩ := ab_sr_cons hS
  clear hS
  subst er
  have hS := hT
  clear hT
  obtain rfl := ab_vr_long hw1
  exact lv_pop2_2 hx hb hd rfl (hW ρ hρ H ls _ locs hL hS hH hV)

theorem xs_dup {X : (Nat → Int32) × Nat} {m pc n : Nat} {L : ab_L} {K : List ab_V} {s : ab_S} {β : Type} {G : Nat → ab_L → List ab_V → ab_S → Option β} {rr : Option ab_V → Option β} {y : β}
    (hd : decode (ab_by m) pc = .ok (.dup, n)) (hil : ab_il (.dup) n pc = true) (h : ab_x X (ab_rt m) (.dup) n pc L K s G rr = some y) :
    ab_St X m pc L K s G y := by
  obtain rfl : n = 1 := Nat.eq_of_beq_eq_true hil
  obtain ⟨v1, K1, eq9, h9⟩ := ab_p_some h
  clear h
  subst eq9
  have h := h9
  clear h9
  obtain ⟨hc, h9⟩ := ab_cond_some h
  clear h
  have h := h9
  clear h9
  refine ⟨_, _, _, _, h, fun _ => rfl, fun ra fm D dA B0 p l e R U mt args below meth c C cells slots Q P hW ρ hρ H ls r locs hL hS hH hV => ?_⟩
  obtain ⟨hx, hlt, hb, hml, hr, hlk, hown, htb, hts, hB, hKK, hSF, hCV, hfm⟩ := C
  obtain ⟨w1, r1, er, hw1, hT⟩ := ab_sr_cons hS
  clear hS
  subst er
  have hS := hT
  clear hT
  exact lv_dup hx hb hd (by rw [ab_vr_cat (ab_fm1 hfm) hw1]; exact Nat.eq_of_beq_eq_true hc) (hW ρ hρ H ls _ locs hL ⟨hw1, hw1, hS⟩ hH hV)

theorem xs_dup2 {X : (Nat → Int32) × Nat} {m pc n : Nat} {L : ab_L} {K : List ab_V} {s : ab_S} {β : Type} {G : Nat → ab_L → List ab_V → ab_S → Option β} {rr : Option ab_V → Option β} {y : β}
    (hd : decode (ab_by m) pc = .ok (.dup2, n)) (hil : ab_il (.dup2) n pc = true) (h : ab_x X (ab_rt m) (.dup2) n pc L K s G rr = some y) :
    ab_St X m pc L K s G y := by
  obtain rfl : n = 1 := Nat.eq_of_beq_eq_true hil
  obtain ⟨v1, K1, eq9, h9⟩ := ab_p_some h
  clear h
  subst eq9
  have h := h9
  clear h9
  obtain ⟨v2, K2, eq9, h9⟩ := ab_p_some h
  clear h
  subst eq9
  have h := h9
  clear h9
  obtain ⟨hc, h9⟩ := ab_cond_some h
  clear h
  have h := h9
  clear h9
  rw [Bool.and_eq_true] at hc
  refine ⟨_, _, _, _, h, fun _ => rfl, fun ra fm D dA B0 p l e R U mt args below meth c C cells slots Q P hW ρ hρ H ls r locs hL hS hH hV => ?_⟩
  obtain ⟨hx, hlt, hb, hml, hr, hlk, hown, htb, hts, hB, hKK, hSF, hCV, hfm⟩ := C
  obtain ⟨w1, r1, er, hw1, hT⟩ := ab_sr_cons hS
  clear hS
  subst er
  have hS := hT
  clear hT
  obtain ⟨w2, r2, er, hw2, hT⟩ := ab_sr_cons hS
  clear hS
  subst er
  have hS := hT
  clear hT
  exact lv_dup2_11 hx hb hd (by rw [ab_vr_cat (ab_fm1 hfm) hw1]; exact Nat.eq_of_beq_eq_true hc.1) (by rw [ab_vr_cat (ab_fm1 hfm) hw2]; exact Nat.eq_of_beq_eq_true hc.2) (hW ρ hρ H ls _ locs hL ⟨hw1, hw2, hw1, hw2, hS⟩ hH hV)

theorem xs_iconst {X : (Nat → Int32) × Nat} {m pc n : Nat} {L : ab_L} {K : List ab_V} {s : ab_S} {β : Type} {G : Nat → ab_L → List ab_V → ab_S → Option β} {rr : Option ab_V → Option β} {y : β} {v : Int}
    (hd : decode (ab_by m) pc = .ok (.iconst v, n)) (hil : ab_il (.iconst v) n pc = true) (h : ab_x X (ab_rt m) (.iconst v) n pc L K s G rr = some y) :
    ab_St X m pc L K s G y := by
  obtain rfl : n = 1 := Nat.eq_of_beq_eq_true hil
  refine ⟨_, _, _, _, h, fun _ => rfl, fun ra fm D dA B0 p l e R U mt args below meth c C cells slots Q P hW ρ hρ H ls r locs hL hS hH hV => ?_⟩
  obtain ⟨hx, hlt, hb, hml, hr, hlk, hown, htb, hts, hB, hKK, hSF, hCV, hfm⟩ := C
  exact lv_iconst hx hb hd rfl (hW ρ hρ H ls _ locs hL ⟨ab_vr_I _, hS⟩ hH hV)

theorem xs_bipush {X : (Nat → Int32) × Nat} {m pc n : Nat} {L : ab_L} {K : List ab_V} {s : ab_S} {β : Type} {G : Nat → ab_L → List ab_V → ab_S → Option β} {rr : Option ab_V → Option β} {y : β} {v : Int}
    (hd : decode (ab_by m) pc = .ok (.bipush v, n)) (hil : ab_il (.bipush v) n pc = true) (h : ab_x X (ab_rt m) (.bipush v) n pc L K s G rr = some y) :
    ab_St X m pc L K s G y := by
  have hil2 := (Bool.and_eq_true _ _).mp hil
  obtain rfl : n = 2 := Nat.eq_of_beq_eq_true hil2.1
  refine ⟨_, _, _, _, h, fun _ => rfl, fun ra fm D dA B0 p l e R U mt args below meth c C cells slots Q P hW ρ hρ H ls r locs hL hS hH hV => ?_⟩
  obtain ⟨hx, hlt, hb, hml, hr, hlk, hown, htb, hts, hB, hKK, hSF, hCV, hfm⟩ := C
  exact lv_bipush hx hb hd (of_decide_eq_true hil2.2) (hW ρ hρ H ls _ locs hL ⟨ab_vr_I _, hS⟩ hH hV)

theorem xs_sipush {X : (Nat → Int32) × Nat} {m pc n : Nat} {L : ab_L} {K : List ab_V} {s : ab_S} {β : Type} {G : Nat → ab_L → List ab_V → ab_S → Option β} {rr : Option ab_V → Option β} {y : β} {v : Int}
    (hd : decode (ab_by m) pc = .ok (.sipush v, n)) (hil : ab_il (.sipush v) n pc = true) (h : ab_x X (ab_rt m) (.sipush v) n pc L K s G rr = some y) :
    ab_St X m pc L K s G y := by
  have hil2 := (Bool.and_eq_true _ _).mp hil
  obtain rfl : n = 3 := Nat.eq_of_beq_eq_true hil2.1
  refine ⟨_, _, _, _, h, fun _ => rfl, fun ra fm D dA B0 p l e R U mt args below meth c C cells slots Q P hW ρ hρ H ls r locs hL hS hH hV => ?_⟩
  obtain ⟨hx, hlt, hb, hml, hr, hlk, hown, htb, hts, hB, hKK, hSF, hCV, hfm⟩ := C
  exact lv_sipush hx hb hd (of_decide_eq_true hil2.2) (hW ρ hρ H ls _ locs hL ⟨ab_vr_I _, hS⟩ hH hV)

theorem xs_lconst {X : (Nat → Int32) × Nat} {m pc n : Nat} {L : ab_L} {K : List ab_V} {s : ab_S} {β : Type} {G : Nat → ab_L → List ab_V → ab_S → Option β} {rr : Option ab_V → Option β} {y : β} {v : Fin 2}
    (hd : decode (ab_by m) pc = .ok (.lconst v, n)) (hil : ab_il (.lconst v) n pc = true) (h : ab_x X (ab_rt m) (.lconst v) n pc L K s G rr = some y) :
    ab_St X m pc L K s G y := by
  obtain rfl : n = 1 := Nat.eq_of_beq_eq_true hil
  refine ⟨_, _, _, _, h, fun _ => rfl, fun ra fm D dA B0 p l e R U mt args below meth c C cells slots Q P hW ρ hρ H ls r locs hL hS hH hV => ?_⟩
  obtain ⟨hx, hlt, hb, hml, hr, hlk, hown, htb, hts, hB, hKK, hSF, hCV, hfm⟩ := C
  exact lv_lconst hx hb hd rfl (hW ρ hρ H ls _ locs hL ⟨ab_vr_J _, hS⟩ hH hV)

theorem xs_iload {X : (Nat → Int32) × Nat} {m pc n : Nat} {L : ab_L} {K : List ab_V} {s : ab_S} {β : Type} {G : Nat → ab_L → List ab_V → ab_S → Option β} {rr : Option ab_V → Option β} {y : β} {i : Nat}
    (hd : decode (ab_by m) pc = .ok (.iload i, n)) (hil : ab_il (.iload i) n pc = true) (h : ab_x X (ab_rt m) (.iload i) n pc L K s G rr = some y) :
    ab_St X m pc L K s G y := by
  obtain rfl : n = 2 := Nat.eq_of_beq_eq_true hil
  obtain ⟨x1, h1, h9⟩ := ab_lI_some h
  clear h
  have h := h9
  clear h9
  refine ⟨_, _, _, _, h, fun _ => rfl, fun ra fm D dA B0 p l e R U mt args below meth c C cells slots Q P hW ρ hρ H ls r locs hL hS hH hV => ?_⟩
  obtain ⟨hx, hlt, hb, hml, hr, hlk, hown, htb, hts, hB, hKK, hSF, hCV, hfm⟩ := C
  obtain ⟨w, q1, q2⟩ := hL.2.2.2 _ _ h1
  obtain rfl := ab_vr_int q2
  exact lv_iload hx hb hd q1 (hW ρ hρ H ls _ locs hL ⟨ab_vr_I _, hS⟩ hH hV)

theorem xs_iload_n {X : (Nat → Int32) × Nat} {m pc n : Nat} {L : ab_L} {K : List ab_V} {s : ab_S} {β : Type} {G : Nat → ab_L → List ab_V → ab_S → Option β} {rr : Option ab_V → Option β} {y : β} {i : Fin 4}
    (hd : decode (ab_by m) pc = .ok (.iload_n i, n)) (hil : ab_il (.iload_n i) n pc = true) (h : ab_x X (ab_rt m) (.iload_n i) n pc L K s G rr = some y) :
    ab_St X m pc L K s G y := by
  obtain rfl : n = 1 := Nat.eq_of_beq_eq_true hil
  obtain ⟨x1, h1, h9⟩ := ab_lI_some h
  clear h
  have h := h9
  clear h9
  refine ⟨_, _, _, _, h, fun _ => rfl, fun ra fm D dA B0 p l e R U mt args below meth c C cells slots Q P hW ρ hρ H ls r locs hL hS hH hV => ?_⟩
  obtain ⟨hx, hlt, hb, hml, hr, hlk, hown, htb, hts, hB, hKK, hSF, hCV, hfm⟩ := C
  obtain ⟨w, q1, q2⟩ := hL.2.2.2 _ _ h1
  obtain rfl := ab_vr_int q2
  exact lv_iload_n hx hb hd rfl q1 (hW ρ hρ H ls _ locs hL ⟨ab_vr_I _, hS⟩ hH hV)

theorem xs_lload {X : (Nat → Int32) × Nat} {m pc n : Nat} {L : ab_L} {K : List ab_V} {s : ab_S} {β : Type} {G : Nat → ab_L → List ab_V → ab_S → Option β} {rr : Option ab_V → Option β} {y : β} {i : Nat}
    (hd : decode (ab_by m) pc = .ok (.lload i, n)) (hil : ab_il (.lload i) n pc = true) (h : ab_x X (ab_rt m) (.lload i) n pc L K s G rr = some y) :
    ab_St X m pc L K s G y := by
  obtain rfl : n = 2 := Nat.eq_of_beq_eq_true hil
  obtain ⟨x1, h1, h9⟩ := ab_lJ_some h
  clear h
  have h := h9
  clear h9
  refine ⟨_, _, _, _, h, fun _ => rfl, fun ra fm D dA B0 p l e R U mt args below meth c C cells slots Q P hW ρ hρ H ls r locs hL hS hH hV => ?_⟩
  obtain ⟨hx, hlt, hb, hml, hr, hlk, hown, htb, hts, hB, hKK, hSF, hCV, hfm⟩ := C
  obtain ⟨w, q1, q2⟩ := hL.2.2.2 _ _ h1
  obtain rfl := ab_vr_long q2
  exact lv_lload hx hb hd q1 (hW ρ hρ H ls _ locs hL ⟨ab_vr_J _, hS⟩ hH hV)

theorem xs_lload_n {X : (Nat → Int32) × Nat} {m pc n : Nat} {L : ab_L} {K : List ab_V} {s : ab_S} {β : Type} {G : Nat → ab_L → List ab_V → ab_S → Option β} {rr : Option ab_V → Option β} {y : β} {i : Fin 4}
    (hd : decode (ab_by m) pc = .ok (.lload_n i, n)) (hil : ab_il (.lload_n i) n pc = true) (h : ab_x X (ab_rt m) (.lload_n i) n pc L K s G rr = some y) :
    ab_St X m pc L K s G y := by
  obtain rfl : n = 1 := Nat.eq_of_beq_eq_true hil
  obtain ⟨x1, h1, h9⟩ := ab_lJ_some h
  clear h
  have h := h9
  clear h9
  refine ⟨_, _, _, _, h, fun _ => rfl, fun ra fm D dA B0 p l e R U mt args below meth c C cells slots Q P hW ρ hρ H ls r locs hL hS hH hV => ?_⟩
  obtain ⟨hx, hlt, hb, hml, hr, hlk, hown, htb, hts, hB, hKK, hSF, hCV, hfm⟩ := C
  obtain ⟨w, q1, q2⟩ := hL.2.2.2 _ _ h1
  obtain rfl := ab_vr_long q2
  exact lv_lload_n hx hb hd rfl q1 (hW ρ hρ H ls _ locs hL ⟨ab_vr_J _, hS⟩ hH hV)

theorem xs_aload {X : (Nat → Int32) × Nat} {m pc n : Nat} {L : ab_L} {K : List ab_V} {s : ab_S} {β : Type} {G : Nat → ab_L → List ab_V → ab_S → Option β} {rr : Option ab_V → Option β} {y : β} {i : Nat}
    (hd : decode (ab_by m) pc = .ok (.aload i, n)) (hil : ab_il (.aload i) n pc = true) (h : ab_x X (ab_rt m) (.aload i) n pc L K s G rr = some y) :
    ab_St X m pc L K s G y := by
  obtain rfl : n = 2 := Nat.eq_of_beq_eq_true hil
  have h : ab_lA L i (fun v => G (pc + 2) L (v :: K) s) = some y := h
  obtain ⟨v, h1, hv, h9⟩ := ab_lA_some h
  clear h
  have h := h9
  clear h9
  refine ⟨_, _, _, _, h, fun _ => rfl, fun ra fm D dA B0 p l e R U mt args below meth c C cells slots Q P hW ρ hρ H ls r locs hL hS hH hV => ?_⟩
  obtain ⟨hx, hlt, hb, hml, hr, hlk, hown, htb, hts, hB, hKK, hSF, hCV, hfm⟩ := C
  obtain ⟨w, q1, q2⟩ := hL.2.2.2 _ _ h1
  rcases ab_vr_ref hfm hv q2 with rfl | ⟨a, rfl⟩
  · exact lv_aloadN hx hb hd q1 (hW ρ hρ H ls _ locs hL ⟨q2, hS⟩ hH hV)
  · exact lv_aload hx hb hd q1 (hW ρ hρ H ls _ locs hL ⟨q2, hS⟩ hH hV)

theorem xs_aload_n {X : (Nat → Int32) × Nat} {m pc n : Nat} {L : ab_L} {K : List ab_V} {s : ab_S} {β : Type} {G : Nat → ab_L → List ab_V → ab_S → Option β} {rr : Option ab_V → Option β} {y : β} {i : Fin 4}
    (hd : decode (ab_by m) pc = .ok (.aload_n i, n)) (hil : ab_il (.aload_n i) n pc = true) (h : ab_x X (ab_rt m) (.aload_n i) n pc L K s G rr = some y) :
    ab_St X m pc L K s G y := by
  obtain rfl : n = 1 := Nat.eq_of_beq_eq_true hil
  have h : ab_lA L i.val (fun v => G (pc + 1) L (v :: K) s) = some y := h
  obtain ⟨v, h1, hv, h9⟩ := ab_lA_some h
  clear h
  have h := h9
  clear h9
  refine ⟨_, _, _, _, h, fun _ => rfl, fun ra fm D dA B0 p l e R U mt args below meth c C cells slots Q P hW ρ hρ H ls r locs hL hS hH hV => ?_⟩
  obtain ⟨hx, hlt, hb, hml, hr, hlk, hown, htb, hts, hB, hKK, hSF, hCV, hfm⟩ := C
  obtain ⟨w, q1, q2⟩ := hL.2.2.2 _ _ h1
  rcases ab_vr_ref hfm hv q2 with rfl | ⟨a, rfl⟩
  · exact lv_aload_nN hx hb hd rfl q1 (hW ρ hρ H ls _ locs hL ⟨q2, hS⟩ hH hV)
  · exact lv_aload_n hx hb hd rfl q1 (hW ρ hρ H ls _ locs hL ⟨q2, hS⟩ hH hV)

theorem xs_istore {X : (Nat → Int32) × Nat} {m pc n : Nat} {L : ab_L} {K : List ab_V} {s : ab_S} {β : Type} {G : Nat → ab_L → List ab_V → ab_S → Option β} {rr : Option ab_V → Option β} {y : β} {i : Nat}
    (hd : decode (ab_by m) pc = .ok (.istore i, n)) (hil : ab_il (.istore i) n pc = true) (h : ab_x X (ab_rt m) (.istore i) n pc L K s G rr = some y) :
    ab_St X m pc L K s G y := by
  obtain rfl : n = 2 := Nat.eq_of_beq_eq_true hil
  obtain ⟨x1, K1, eq9, h9⟩ := ab_pI_some h
  clear h
  subst eq9
  have h := h9
  clear h9
  obtain ⟨h1, h9⟩ := ab_s1_some h
  clear h
  have h := h9
  clear h9
  refine ⟨_, _, _, _, h, fun _ => rfl, fun ra fm D dA B0 p l e R U mt args below meth c C cells slots Q P hW ρ hρ H ls r locs hL hS hH hV => ?_⟩
  obtain ⟨hx, hlt, hb, hml, hr, hlk, hown, htb, hts, hB, hKK, hSF, hCV, hfm⟩ := C
  obtain ⟨w1, r1, er, hw1, hT⟩ := ab_sr_cons hS
  clear hS
  subst er
  have hS := hT
  clear hT
  obtain rfl := ab_vr_int hw1
  exact lv_istore hx hb hd (ab_kn_has hL) (by rw [← hL.2.2.1]; exact h1) rfl (fun ls2 hl2 => hW ρ hρ H ls2 _ locs (ab_lr_st1 (ab_fm1 hfm) hL _ (fun x hx => by cases hx; exact ab_vr_I _) hl2) hS hH hV)

theorem xs_istore_n {X : (Nat → Int32) × Nat} {m pc n : Nat} {L : ab_L} {K : List ab_V} {s : ab_S} {β : Type} {G : Nat → ab_L → List ab_V → ab_S → Option β} {rr : Option ab_V → Option β} {y : β} {i : Fin 4}
    (hd : decode (ab_by m) pc = .ok (.istore_n i, n)) (hil : ab_il (.istore_n i) n pc = true) (h : ab_x X (ab_rt m) (.istore_n i) n pc L K s G rr = some y) :
    ab_St X m pc L K s G y := by
  obtain rfl : n = 1 := Nat.eq_of_beq_eq_true hil
  obtain ⟨x1, K1, eq9, h9⟩ := ab_pI_some h
  clear h
  subst eq9
  have h := h9
  clear h9
  obtain ⟨h1, h9⟩ := ab_s1_some h
  clear h
  have h := h9
  clear h9
  refine ⟨_, _, _, _, h, fun _ => rfl, fun ra fm D dA B0 p l e R U mt args below meth c C cells slots Q P hW ρ hρ H ls r locs hL hS hH hV => ?_⟩
  obtain ⟨hx, hlt, hb, hml, hr, hlk, hown, htb, hts, hB, hKK, hSF, hCV, hfm⟩ := C
  obtain ⟨w1, r1, er, hw1, hT⟩ := ab_sr_cons hS
  clear hS
  subst er
  have hS := hT
  clear hT
  obtain rfl := ab_vr_int hw1
  exact lv_istore_n hx hb hd rfl (ab_kn_has hL) (by rw [← hL.2.2.1]; exact h1) rfl (fun ls2 hl2 => hW ρ hρ H ls2 _ locs (ab_lr_st1 (ab_fm1 hfm) hL _ (fun x hx => by cases hx; exact ab_vr_I _) hl2) hS hH hV)

theorem xs_lstore {X : (Nat → Int32) × Nat} {m pc n : Nat} {L : ab_L} {K : List ab_V} {s : ab_S} {β : Type} {G : Nat → ab_L → List ab_V → ab_S → Option β} {rr : Option ab_V → Option β} {y : β} {i : Nat}
    (hd : decode (ab_by m) pc = .ok (.lstore i, n)) (hil : ab_il (.lstore i) n pc = true) (h : ab_x X (ab_rt m) (.lstore i) n pc L K s G rr = some y) :
    ab_St X m pc L K s G y := by
  obtain rfl : n = 2 := Nat.eq_of_beq_eq_true hil
  obtain ⟨x1, K1, eq9, h9⟩ := ab_pJ_some h
  clear h
  subst eq9
  have h := h9
  clear h9
  obtain ⟨h1, h9⟩ := ab_s2_some h
  clear h
  have h := h9
  clear h9
  refine ⟨_, _, _, _, h, fun _ => rfl, fun ra fm D dA B0 p l e R U mt args below meth c C cells slots Q P hW ρ hρ H ls r locs hL hS hH hV => ?_⟩
  obtain ⟨hx, hlt, hb, hml, hr, hlk, hown, htb, hts, hB, hKK, hSF, hCV, hfm⟩ := C
  obtain ⟨w1, r1, er, hw1, hT⟩ := ab_sr_cons hS
  clear hS
  subst er
  have hS := hT
  clear hT
  obtain rfl := ab_vr_long hw1
  exact lv_lstore hx hb hd (ab_kn_has hL) (by rw [← hL.2.2.1]; exact h1) rfl (fun ls2 hl2 => hW ρ hρ H ls2 _ locs (ab_lr_st2 (ab_fm1 hfm) hL _ (ab_vr_J _) hl2) hS hH hV)

theorem xs_lstore_n {X : (Nat → Int32) × Nat} {m pc n : Nat} {L : ab_L} {K : List ab_V} {s : ab_S} {β : Type} {G : Nat → ab_L → List ab_V → ab_S → Option β} {rr : Option ab_V → Option β} {y : β} {i : Fin 4}
    (hd : decode (ab_by m) pc = .ok (.lstore_n i, n)) (hil : ab_il (.lstore_n i) n pc = true) (h : ab_x X (ab_rt m) (.lstore_n i) n pc L K s G rr = some y) :
    ab_St X m pc L K s G y := by
  obtain rfl : n = 1 := Nat.eq_of_beq_eq_true hil
  obtain ⟨x1, K1, eq9, h9⟩ := ab_pJ_some h
  clear h
  subst eq9
  have h := h9
  clear h9
  obtain ⟨h1, h9⟩ := ab_s2_some h
  clear h
  have h := h9
  clear h9
  refine ⟨_, _, _, _, h, fun _ => rfl, fun ra fm D dA B0 p l e R U mt args below meth c C cells slots Q P hW ρ hρ H ls r locs hL hS hH hV => ?_⟩
  obtain ⟨hx, hlt, hb, hml, hr, hlk, hown, htb, hts, hB, hKK, hSF, hCV, hfm⟩ := C
  obtain ⟨w1, r1, er, hw1, hT⟩ := ab_sr_cons hS
  clear hS
  subst er
  have hS := hT
  clear hT
  obtain rfl := ab_vr_long hw1
  exact lv_lstore_n hx hb hd rfl (ab_kn_has hL) (by rw [← hL.2.2.1]; exact h1) rfl (fun ls2 hl2 => hW ρ hρ H ls2 _ locs (ab_lr_st2 (ab_fm1 hfm) hL _ (ab_vr_J _) hl2) hS hH hV)

theorem xs_astore {X : (Nat → Int32) × Nat} {m pc n : Nat} {L : ab_L} {K : List ab_V} {s : ab_S} {β : Type} {G : Nat → ab_L → List ab_V → ab_S → Option β} {rr : Option ab_V → Option β} {y : β} {i : Nat}
    (hd : decode (ab_by m) pc = .ok (.astore i, n)) (hil : ab_il (.astore i) n pc = true) (h : ab_x X (ab_rt m) (.astore i) n pc L K s G rr = some y) :
    ab_St X m pc L K s G y := by
  obtain rfl : n = 2 := Nat.eq_of_beq_eq_true hil
  have h : ab_pA K (fun v K => ab_s1 L i (some v) fun L => G (pc + 2) L K s) = some y := h
  obtain ⟨v, K1, eq9, hv, h9⟩ := ab_pA_some h
  clear h
  subst eq9
  have h := h9
  clear h9
  obtain ⟨h1, h9⟩ := ab_s1_some h
  clear h
  have h := h9
  clear h9
  refine ⟨_, _, _, _, h, fun _ => rfl, fun ra fm D dA B0 p l e R U mt args below meth c C cells slots Q P hW ρ hρ H ls r locs hL hS hH hV => ?_⟩
  obtain ⟨hx, hlt, hb, hml, hr, hlk, hown, htb, hts, hB, hKK, hSF, hCV, hfm⟩ := C
  obtain ⟨w1, r1, er, hw1, hT⟩ := ab_sr_cons hS
  clear hS
  subst er
  have hS := hT
  clear hT
  have hw := ab_vr_ref hfm hv hw1
  rcases hw with rfl | ⟨a, rfl⟩
  · exact lv_astoreN hx hb hd (ab_kn_has hL) (by rw [← hL.2.2.1]; exact h1) rfl (fun ls2 hl2 => hW ρ hρ H ls2 _ locs (ab_lr_st1 (ab_fm1 hfm) hL _ (fun x hx => by cases hx; exact hw1) hl2) hS hH hV)
  · exact lv_astore hx hb hd (ab_kn_has hL) (by rw [← hL.2.2.1]; exact h1) rfl (fun ls2 hl2 => hW ρ hρ H ls2 _ locs (ab_lr_st1 (ab_fm1 hfm) hL _ (fun x hx => by cases hx; exact hw1) hl2) hS hH hV)

theorem xs_astore_n {X : (Nat → Int32) × Nat} {m pc n : Nat} {L : ab_L} {K : List ab_V} {s : ab_S} {β : Type} {G : Nat → ab_L → List ab_V → ab_S → Option β} {rr : Option ab_V → Option β} {y : β} {i : Fin 4}
    (hd : decode (ab_by m) pc = .ok (.astore_n i, n)) (hil : ab_il (.astore_n i) n pc = true) (h : ab_x X (ab_rt m) (.astore_n i) n pc L K s G rr = some y) :
    ab_St X m pc L K s G y := by
  obtain rfl : n = 1 := Nat.eq_of_beq_eq_true hil
  have h : ab_pA K (fun v K => ab_s1 L i (some v) fun L => G (pc + 1) L K s) = some y := h
  obtain ⟨v, K1, eq9, hv, h9⟩ := ab_pA_some h
  clear h
  subst eq9
  have h := h9
  clear h9
  obtain ⟨h1, h9⟩ := ab_s1_some h
  clear h
  have h := h9
  clear h9
  refine ⟨_, _, _, _, h, fun _ => rfl, fun ra fm D dA B0 p l e R U mt args below meth c C cells slots Q P hW ρ hρ H ls r locs hL hS hH hV => ?_⟩
  obtain ⟨hx, hlt, hb, hml, hr, hlk, hown, htb, hts, hB, hKK, hSF, hCV, hfm⟩ := C
  obtain ⟨w1, r1, er, hw1, hT⟩ := ab_sr_cons hS
  clear hS
  subst er
  have hS := hT
  clear hT
  have hw := ab_vr_ref hfm hv hw1
  rcases hw with rfl | ⟨a, rfl⟩
  · exact lv_astore_nN hx hb hd rfl (ab_kn_has hL) (by rw [← hL.2.2.1]; exact h1) rfl (fun ls2 hl2 => hW ρ hρ H ls2 _ locs (ab_lr_st1 (ab_fm1 hfm) hL _ (fun x hx => by cases hx; exact hw1) hl2) hS hH hV)
  · exact lv_astore_n hx hb hd rfl (ab_kn_has hL) (by rw [← hL.2.2.1]; exact h1) rfl (fun ls2 hl2 => hW ρ hρ H ls2 _ locs (ab_lr_st1 (ab_fm1 hfm) hL _ (fun x hx => by cases hx; exact hw1) hl2) hS hH hV)

theorem xs_iinc {X : (Nat → Int32) × Nat} {m pc n : Nat} {L : ab_L} {K : List ab_V} {s : ab_S} {β : Type} {G : Nat → ab_L → List ab_V → ab_S → Option β} {rr : Option ab_V → Option β} {y : β} {i : Nat} {v : Int}
    (hd : decode (ab_by m) pc = .ok (.iinc i v, n)) (hil : ab_il (.iinc i v) n pc = true) (h : ab_x X (ab_rt m) (.iinc i v) n pc L K s G rr = some y) :
    ab_St X m pc L K s G y := by
  obtain rfl : n = 3 := Nat.eq_of_beq_eq_true hil
  obtain ⟨x1, h0, h9⟩ := ab_lI_some h
  clear h
  have h := h9
  clear h9
  obtain ⟨h1, h9⟩ := ab_s1_some h
  clear h
  have h := h9
  clear h9
  refine ⟨_, _, _, _, h, fun _ => rfl, fun ra fm D dA B0 p l e R U mt args below meth c C cells slots Q P hW ρ hρ H ls r locs hL hS hH hV => ?_⟩
  obtain ⟨hx, hlt, hb, hml, hr, hlk, hown, htb, hts, hB, hKK, hSF, hCV, hfm⟩ := C
  obtain ⟨w, q0, q1, q2⟩ := ab_kn_mem hL h0
  obtain rfl := ab_vr_int q2
  obtain ⟨k, hk⟩ := List.getElem?_of_mem q0
  exact lv_iinc hx hb hd (ab_kn_has hL) hk rfl (by rw [← hL.2.2.1]; exact h1) rfl (fun ls2 hl2 => hW ρ hρ H ls2 _ locs (ab_lr_st1 (ab_fm1 hfm) hL _ (fun x hx => by cases hx; exact ab_vr_I _) hl2) hS hH hV)

theorem xs_goto {X : (Nat → Int32) × Nat} {m pc n : Nat} {L : ab_L} {K : List ab_V} {s : ab_S} {β : Type} {G : Nat → ab_L → List ab_V → ab_S → Option β} {rr : Option ab_V → Option β} {y : β} {o : Int}
    (hd : decode (ab_by m) pc = .ok (.goto o, n)) (hil : ab_il (.goto o) n pc = true) (h : ab_x X (ab_rt m) (.goto o) n pc L K s G rr = some y) :
    ab_St X m pc L K s G y := by
  have hil2 := (Bool.and_eq_true _ _).mp hil
  obtain rfl : n = 3 := Nat.eq_of_beq_eq_true hil2.1
  have ht := ab_tg_eq (of_decide_eq_true hil2.2)
  refine ⟨_, _, _, _, h, fun _ => rfl, fun ra fm D dA B0 p l e R U mt args below meth c C cells slots Q P hW ρ hρ H ls r locs hL hS hH hV => ?_⟩
  obtain ⟨hx, hlt, hb, hml, hr, hlk, hown, htb, hts, hB, hKK, hSF, hCV, hfm⟩ := C
  exact lv_goto hx hb hd ht (hW ρ hρ H ls _ locs hL hS hH hV)

theorem xs_ifCond {X : (Nat → Int32) × Nat} {m pc n : Nat} {L : ab_L} {K : List ab_V} {s : ab_S} {β : Type} {G : Nat → ab_L → List ab_V → ab_S → Option β} {rr : Option ab_V → Option β} {y : β} {cc : Jvm.ClassFile.Cond} {o : Int}
    (hd : decode (ab_by m) pc = .ok (.ifCond cc o, n)) (hil : ab_il (.ifCond cc o) n pc = true) (h : ab_x X (ab_rt m) (.ifCond cc o) n pc L K s G rr = some y) :
    ab_St X m pc L K s G y := by
  have hil2 := (Bool.and_eq_true _ _).mp hil
  obtain rfl : n = 3 := Nat.eq_of_beq_eq_true hil2.1
  have ht := ab_tg_eq (of_decide_eq_true hil2.2)
  obtain ⟨x1, K1, eq9, h9⟩ := ab_pI_some h
  clear h
  subst eq9
  have h := h9
  clear h9
  cases cc with
  | eq =>
    have h : (if x1 = 0 then G (ab_tg pc o) L K1 s else G (pc + 3) L K1 s) = some y := h
    by_cases hP : x1 = 0
    · rw [if_pos hP] at h
      refine ⟨_, _, _, _, h, fun _ => rfl, fun ra fm D dA B0 p l e R U mt args below meth c C cells slots Q P hW ρ hρ H ls r locs hL hS hH hV => ?_⟩
      obtain ⟨hx, hlt, hb, hml, hr, hlk, hown, htb, hts, hB, hKK, hSF, hCV, hfm⟩ := C
      obtain ⟨w1, r1, er, hw1, hT⟩ := ab_sr_cons hS
      clear hS
      subst er
      have hS := hT
      clear hT
      obtain rfl := ab_vr_int hw1
      exact lv_if_eq hx hb hd ht (fun _ => hW ρ hρ H ls _ locs hL hS hH hV) (fun q => absurd hP q)
    · rw [if_neg hP] at h
      refine ⟨_, _, _, _, h, fun _ => rfl, fun ra fm D dA B0 p l e R U mt args below meth c C cells slots Q P hW ρ hρ H ls r locs hL hS hH hV => ?_⟩
      obtain ⟨hx, hlt, hb, hml, hr, hlk, hown, htb, hts, hB, hKK, hSF, hCV, hfm⟩ := C
      obtain ⟨w1, r1, er, hw1, hT⟩ := ab_sr_cons hS
      clear hS
      subst er
      have hS := hT
      clear hT
      obtain rfl := ab_vr_int hw1
      exact lv_if_eq hx hb hd ht (fun q => absurd q hP) (fun _ => hW ρ hρ H ls _ locs hL hS hH hV)
  | ne =>
    have h : (if x1 = 0 then G (pc + 3) L K1 s else G (ab_tg pc o) L K1 s) = some y := h
    by_cases hP : x1 = 0
    · rw [if_pos hP] at h
      refine ⟨_, _, _, _, h, fun _ => rfl, fun ra fm D dA B0 p l e R U mt args below meth c C cells slots Q P hW ρ hρ H ls r locs hL hS hH hV => ?_⟩
      obtain ⟨hx, hlt, hb, hml, hr, hlk, hown, htb, hts, hB, hKK, hSF, hCV, hfm⟩ := C
      obtain ⟨w1, r1, er, hw1, hT⟩ := ab_sr_cons hS
      clear hS
      subst er
      have hS := hT
      clear hT
      obtain rfl := ab_vr_int hw1
      exact lv_if_ne hx hb hd ht (fun q => absurd hP q) (fun _ => hW ρ hρ H ls _ locs hL hS hH hV)
    · rw [if_neg hP] at h
      refine ⟨_, _, _, _, h, fun _ => rfl, fun ra fm D dA B0 p l e R U mt args below meth c C cells slots Q P hW ρ hρ H ls r locs hL hS hH hV => ?_⟩
      obtain ⟨hx, hlt, hb, hml, hr, hlk, hown, htb, hts, hB, hKK, hSF, hCV, hfm⟩ := C
      obtain ⟨w1, r1, er, hw1, hT⟩ := ab_sr_cons hS
      clear hS
      subst er
      have hS := hT
      clear hT
      obtain rfl := ab_vr_int hw1
      exact lv_if_ne hx hb hd ht (fun _ => hW ρ hρ H ls _ locs hL hS hH hV) (fun q => absurd q hP)
  | lt =>
    have h : (if x1 < 0 then G (ab_tg pc o) L K1 s else G (pc + 3) L K1 s) = some y := h
    by_cases hP : x1 < 0
    · rw [if_pos hP] at h
      refine ⟨_, _, _, _, h, fun _ => rfl, fun ra fm D dA B0 p l e R U mt args below meth c C cells slots Q P hW ρ hρ H ls r locs hL hS hH hV => ?_⟩
      obtain ⟨hx, hlt, hb, hml, hr, hlk, hown, htb, hts, hB, hKK, hSF, hCV, hfm⟩ := C
      obtain ⟨w1, r1, er, hw1, hT⟩ := ab_sr_cons hS
      clear hS
      subst er
      have hS := hT
      clear hT
      obtain rfl := ab_vr_int hw1
      exact lv_if_lt hx hb hd ht (fun _ => hW ρ hρ H ls _ locs hL hS hH hV) (fun q => absurd hP q)
    · rw [if_neg hP] at h
      refine ⟨_, _, _, _, h, fun _ => rfl, fun ra fm D dA B0 p l e R U mt args below meth c C cells slots Q P hW ρ hρ H ls r locs hL hS hH hV => ?_⟩
      obtain ⟨hx, hlt, hb, hml, hr, hlk, hown, htb, hts, hB, hKK, hSF, hCV, hfm⟩ := C
      obtain ⟨w1, r1, er, hw1, hT⟩ := ab_sr_cons hS
      clear hS
      subst er
      have hS := hT
      clear hT
      obtain rfl := ab_vr_int hw1
      exact lv_if_lt hx hb hd ht (fun q => absurd q hP) (fun _ => hW ρ hρ H ls _ locs hL hS hH hV)
  | ge =>
    have h : (if 0 ≤ x1 then G (ab_tg pc o) L K1 s else G (pc + 3) L K1 s) = some y := h
    by_cases hP : 0 ≤ x1
    · rw [if_pos hP] at h
      refine ⟨_, _, _, _, h, fun _ => rfl, fun ra fm D dA B0 p l e R U mt args below meth c C cells slots Q P hW ρ hρ H ls r locs hL hS hH hV => ?_⟩
      obtain ⟨hx, hlt, hb, hml, hr, hlk, hown, htb, hts, hB, hKK, hSF, hCV, hfm⟩ := C
      obtain ⟨w1, r1, er, hw1, hT⟩ := ab_sr_cons hS
      clear hS
      subst er
      have hS := hT
      clear hT
      obtain rfl := ab_vr_int hw1
      exact lv_if_ge hx hb hd ht (fun _ => hW ρ hρ H ls _ locs hL hS hH hV) (fun q => absurd hP q)
    · rw [if_neg hP] at h
      refine ⟨_, _, _, _, h, fun _ => rfl, fun ra fm D dA B0 p l e R U mt args below meth c C cells slots Q P hW ρ hρ H ls r locs hL hS hH hV => ?_⟩
      obtain ⟨hx, hlt, hb, hml, hr, hlk, hown, htb, hts, hB, hKK, hSF, hCV, hfm⟩ := C
      obtain ⟨w1, r1, er, hw1, hT⟩ := ab_sr_cons hS
      clear hS
      subst er
      have hS := hT
      clear hT
      obtain rfl := ab_vr_int hw1
      exact lv_if_ge hx hb hd ht (fun q => absurd q hP) (fun _ => hW ρ hρ H ls _ locs hL hS hH hV)
  | gt =>
    have h : (if 0 < x1 then G (ab_tg pc o) L K1 s else G (pc + 3) L K1 s) = some y := h
    by_cases hP : 0 < x1
    · rw [if_pos hP] at h
      refine ⟨_, _, _, _, h, fun _ => rfl, fun ra fm D dA B0 p l e R U mt args below meth c C cells slots Q P hW ρ hρ H ls r locs hL hS hH hV => ?_⟩
      obtain ⟨hx, hlt, hb, hml, hr, hlk, hown, htb, hts, hB, hKK, hSF, hCV, hfm⟩ := C
      obtain ⟨w1, r1, er, hw1, hT⟩ := ab_sr_cons hS
      clear hS
      subst er
      have hS := hT
      clear hT
      obtain rfl := ab_vr_int hw1
      exact lv_if_gt hx hb hd ht (fun _ => hW ρ hρ H ls _ locs hL hS hH hV) (fun q => absurd hP q)
    · rw [if_neg hP] at h
      refine ⟨_, _, _, _, h, fun _ => rfl, fun ra fm D dA B0 p l e R U mt args below meth c C cells slots Q P hW ρ hρ H ls r locs hL hS hH hV => ?_⟩
      obtain ⟨hx, hlt, hb, hml, hr, hlk, hown, htb, hts, hB, hKK, hSF, hCV, hfm⟩ := C
      obtain ⟨w1, r1, er, hw1, hT⟩ := ab_sr_cons hS
      clear hS
      subst er
      have hS := hT
      clear hT
      obtain rfl := ab_vr_int hw1
      exact lv_if_gt hx hb hd ht (fun q => absurd q hP) (fun _ => hW ρ hρ H ls _ locs hL hS hH hV)
  | le =>
    have h : (if x1 ≤ 0 then G (ab_tg pc o) L K1 s else G (pc + 3) L K1 s) = some y := h
    by_cases hP : x1 ≤ 0
    · rw [if_pos hP] at h
      refine ⟨_, _, _, _, h, fun _ => rfl, fun ra fm D dA B0 p l e R U mt args below meth c C cells slots Q P hW ρ hρ H ls r locs hL hS hH hV => ?_⟩
      obtain ⟨hx, hlt, hb, hml, hr, hlk, hown, htb, hts, hB, hKK, hSF, hCV, hfm⟩ := C
      obtain ⟨w1, r1, er, hw1, hT⟩ := ab_sr_cons hS
      clear hS
      subst er
      have hS := hT
      clear hT
      obtain rfl := ab_vr_int hw1
      exact lv_if_le hx hb hd ht (fun _ => hW ρ hρ H ls _ locs hL hS hH hV) (fun q => absurd hP q)
    · rw [if_neg hP] at h
      refine ⟨_, _, _, _, h, fun _ => rfl, fun ra fm D dA B0 p l e R U mt args below meth c C cells slots Q P hW ρ hρ H ls r locs hL hS hH hV => ?_⟩
      obtain ⟨hx, hlt, hb, hml, hr, hlk, hown, htb, hts, hB, hKK, hSF, hCV, hfm⟩ := C
      obtain ⟨w1, r1, er, hw1, hT⟩ := ab_sr_cons hS
      clear hS
      subst er
      have hS := hT
      clear hT
      obtain rfl := ab_vr_int hw1
      exact lv_if_le hx hb hd ht (fun q => absurd q hP) (fun _ => hW ρ hρ H ls _ locs hL hS hH hV)

theorem xs_if_icmp {X : (Nat → Int32) × Nat} {m pc n : Nat} {L : ab_L} {K : List ab_V} {s : ab_S} {β : Type} {G : Nat → ab_L → List ab_V → ab_S → Option β} {rr : Option ab_V → Option β} {y : β} {cc : Jvm.ClassFile.Cond} {o : Int}
    (hd : decode (ab_by m) pc = .ok (.if_icmp cc o, n)) (hil : ab_il (.if_icmp cc o) n pc = true) (h : ab_x X (ab_rt m) (.if_icmp cc o) n pc L K s G rr = some y) :
    ab_St X m pc L K s G y := by
  have hil2 := (Bool.and_eq_true _ _).mp hil
  obtain rfl : n = 3 := Nat.eq_of_beq_eq_true hil2.1
  have ht := ab_tg_eq (of_decide_eq_true hil2.2)
  obtain ⟨x1, K1, eq9, h9⟩ := ab_pI_some h
  clear h
  subst eq9
  have h := h9
  clear h9
  obtain ⟨x2, K2, eq9, h9⟩ := ab_pI_some h
  clear h
  subst eq9
  have h := h9
  clear h9
  cases cc with
  | eq =>
    have h : (if x2 = x1 then G (ab_tg pc o) L K2 s else G (pc + 3) L K2 s) = some y := h
    by_cases hP : x2 = x1
    · rw [if_pos hP] at h
      refine ⟨_, _, _, _, h, fun _ => rfl, fun ra fm D dA B0 p l e R U mt args below meth c C cells slots Q P hW ρ hρ H ls r locs hL hS hH hV => ?_⟩
      obtain ⟨hx, hlt, hb, hml, hr, hlk, hown, htb, hts, hB, hKK, hSF, hCV, hfm⟩ := C
      obtain ⟨w1, r1, er, hw1, hT⟩ := ab_sr_cons hS
      clear hS
      subst er
      have hS := hT
      clear hT
      obtain rfl := ab_vr_int hw1
      obtain ⟨w2, r2, er, hw2, hT⟩ := ab_sr_cons hS
      clear hS
      subst er
      have hS := hT
      clear hT
      obtain rfl := ab_vr_int hw2
      exact lv_icmp_eq hx hb hd ht (fun _ => hW ρ hρ H ls _ locs hL hS hH hV) (fun q => absurd hP q)
    · rw [if_neg hP] at h
      refine ⟨_, _, _, _, h, fun _ => rfl, fun ra fm D dA B0 p l e R U mt args below meth c C cells slots Q P hW ρ hρ H ls r locs hL hS hH hV => ?_⟩
      obtain ⟨hx, hlt, hb, hml, hr, hlk, hown, htb, hts, hB, hKK, hSF, hCV, hfm⟩ := C
      obtain ⟨w1, r1, er, hw1, hT⟩ := ab_sr_cons hS
      clear hS
      subst er
      have hS := hT
      clear hT
      obtain rfl := ab_vr_int hw1
      obtain ⟨w2, r2, er, hw2, hT⟩ := ab_sr_cons hS
      clear hS
      subst er
      have hS := hT
      clear hT
      obtain rfl := ab_vr_int hw2
      exact lv_icmp_eq hx hb hd ht (fun q => absurd q hP) (fun _ => hW ρ hρ H ls _ locs hL hS hH hV)
  | ne =>
    have h : (if x2 = x1 then G (pc + 3) L K2 s else G (ab_tg pc o) L K2 s) = some y := h
    by_cases hP : x2 = x1
    · rw [if_pos hP] at h
      refine ⟨_, _, _, _, h, fun _ => rfl, fun ra fm D dA B0 p l e R U mt args below meth c C cells slots Q P hW ρ hρ H ls r locs hL hS hH hV => ?_⟩
      obtain ⟨hx, hlt, hb, hml, hr, hlk, hown, htb, hts, hB, hKK, hSF, hCV, hfm⟩ := C
      obtain ⟨w1, r1, er, hw1, hT⟩ := ab_sr_cons hS
      clear hS
      subst er
      have hS := hT
      clear hT
      obtain rfl := ab_vr_int hw1
      obtain ⟨w2, r2, er, hw2, hT⟩ := ab_sr_cons hS
      clear hS
      subst er
      have hS := hT
      clear hT
      obtain rfl := ab_vr_int hw2
      exact lv_icmp_ne hx hb hd ht (fun q => absurd hP q) (fun _ => hW ρ hρ H ls _ locs hL hS hH hV)
    · rw [if_neg hP] at h
      refine ⟨_, _, _, _, h, fun _ => rfl, fun ra fm D dA B0 p l e R U mt args below meth c C cells slots Q P hW ρ hρ H ls r locs hL hS hH hV => ?_⟩
      obtain ⟨hx, hlt, hb, hml, hr, hlk, hown, htb, hts, hB, hKK, hSF, hCV, hfm⟩ := C
      obtain ⟨w1, r1, er, hw1, hT⟩ := ab_sr_cons hS
      clear hS
      subst er
      have hS := hT
      clear hT
      obtain rfl := ab_vr_int hw1
      obtain ⟨w2, r2, er, hw2, hT⟩ := ab_sr_cons hS
      clear hS
      subst er
      have hS := hT
      clear hT
      obtain rfl := ab_vr_int hw2
      exact lv_icmp_ne hx hb hd ht (fun _ => hW ρ hρ H ls _ locs hL hS hH hV) (fun q => absurd q hP)
  | lt =>
    have h : (if x2 < x1 then G (ab_tg pc o) L K2 s else G (pc + 3) L K2 s) = some y := h
    by_cases hP : x2 < x1
    · rw [if_pos hP] at h
      refine ⟨_, _, _, _, h, fun _ => rfl, fun ra fm D dA B0 p l e R U mt args below meth c C cells slots Q P hW ρ hρ H ls r locs hL hS hH hV => ?_⟩
      obtain ⟨hx, hlt, hb, hml, hr, hlk, hown, htb, hts, hB, hKK, hSF, hCV, hfm⟩ := C
      obtain ⟨w1, r1, er, hw1, hT⟩ := ab_sr_cons hS
      clear hS
      subst er
      have hS := hT
      clear hT
      obtain rfl := ab_vr_int hw1
      obtain ⟨w2, r2, er, hw2, hT⟩ := ab_sr_cons hS
      clear hS
      subst er
      have hS := hT
      clear hT
      obtain rfl := ab_vr_int hw2
      exact lv_icmp_lt hx hb hd ht (fun _ => hW ρ hρ H ls _ locs hL hS hH hV) (fun q => absurd hP q)
    · rw [if_neg hP] at h
      refine ⟨_, _, _, _, h, fun _ => rfl, fun ra fm D dA B0 p l e R U mt args below meth c C cells slots Q P hW ρ hρ H ls r locs hL hS hH hV => ?_⟩
      obtain ⟨hx, hlt, hb, hml, hr, hlk, hown, htb, hts, hB, hKK, hSF, hCV, hfm⟩ := C
      obtain ⟨w1, r1, er, hw1, hT⟩ := ab_sr_cons hS
      clear hS
      subst er
      have hS := hT
      clear hT
      obtain rfl := ab_vr_int hw1
      obtain ⟨w2, r2, er, hw2, hT⟩ := ab_sr_cons hS
      clear hS
      subst er
      have hS := hT
      clear hT
      obtain rfl := ab_vr_int hw2
      exact lv_icmp_lt hx hb hd ht (fun q => absurd q hP) (fun _ => hW ρ hρ H ls _ locs hL hS hH hV)
  | ge =>
    have h : (if x1 ≤ x2 then G (ab_tg pc o) L K2 s else G (pc + 3) L K2 s) = some y := h
    by_cases hP : x1 ≤ x2
    · rw [if_pos hP] at h
      refine ⟨_, _, _, _, h, fun _ => rfl, fun ra fm D dA B0 p l e R U mt args below meth c C cells slots Q P hW ρ hρ H ls r locs hL hS hH hV => ?_⟩
      obtain ⟨hx, hlt, hb, hml, hr, hlk, hown, htb, hts, hB, hKK, hSF, hCV, hfm⟩ := C
      obtain ⟨w1, r1, er, hw1, hT⟩ := ab_sr_cons hS
      clear hS
      subst er
      have hS := hT
      clear hT
      obtain rfl := ab_vr_int hw1
      obtain ⟨w2, r2, er, hw2, hT⟩ := ab_sr_cons hS
      clear hS
      subst er
      have hS := hT
      clear hT
      obtain rfl := ab_vr_int hw2
      exact lv_icmp_ge hx hb hd ht (fun _ => hW ρ hρ H ls _ locs hL hS hH hV) (fun q => absurd hP q)
    · rw [if_neg hP] at h
      refine ⟨_, _, _, _, h, fun _ => rfl, fun ra fm D dA B0 p l e R U mt args below meth c C cells slots Q P hW ρ hρ H ls r locs hL hS hH hV => ?_⟩
      obtain ⟨hx, hlt, hb, hml, hr, hlk, hown, htb, hts, hB, hKK, hSF, hCV, hfm⟩ := C
      obtain ⟨w1, r1, er, hw1, hT⟩ := ab_sr_cons hS
      clear hS
      subst er
      have hS := hT
      clear hT
      obtain rfl := ab_vr_int hw1
      obtain ⟨w2, r2, er, hw2, hT⟩ := ab_sr_cons hS
      clear hS
      subst er
      have hS := hT
      clear hT
      obtain rfl := ab_vr_int hw2
      exact lv_icmp_ge hx hb hd ht (fun q => absurd q hP) (fun _ => hW ρ hρ H ls _ locs hL hS hH hV)
  | gt =>
    have h : (if x1 < x2 then G (ab_tg pc o) L K2 s else G (pc + 3) L K2 s) = some y := h
    by_cases hP : x1 < x2
    · rw [if_pos hP] at h
      refine ⟨_, _, _, _, h, fun _ => rfl, fun ra fm D dA B0 p l e R U mt args below meth c C cells slots Q P hW ρ hρ H ls r locs hL hS hH hV => ?_⟩
      obtain ⟨hx, hlt, hb, hml, hr, hlk, hown, htb, hts, hB, hKK, hSF, hCV, hfm⟩ := C
      obtain ⟨w1, r1, er, hw1, hT⟩ := ab_sr_cons hS
      clear hS
      subst er
      have hS := hT
      clear hT
      obtain rfl := ab_vr_int hw1
      obtain ⟨w2, r2, er, hw2, hT⟩ := ab_sr_cons hS
      clear hS
      subst er
      have hS := hT
      clear hT
      obtain rfl := ab_vr_int hw2
      exact lv_icmp_gt hx hb hd ht (fun _ => hW ρ hρ H ls _ locs hL hS hH hV) (fun q => absurd hP q)
    · rw [if_neg hP] at h
      refine ⟨_, _, _, _, h, fun _ => rfl, fun ra fm D dA B0 p l e R U mt args below meth c C cells slots Q P hW ρ hρ H ls r locs hL hS hH hV => ?_⟩
      obtain ⟨hx, hlt, hb, hml, hr, hlk, hown, htb, hts, hB, hKK, hSF, hCV, hfm⟩ := C
      obtain ⟨w1, r1, er, hw1, hT⟩ := ab_sr_cons hS
      clear hS
      subst er
      have hS := hT
      clear hT
      obtain rfl := ab_vr_int hw1
      obtain ⟨w2, r2, er, hw2, hT⟩ := ab_sr_cons hS
      clear hS
      subst er
      have hS := hT
      clear hT
      obtain rfl := ab_vr_int hw2
      exact lv_icmp_gt hx hb hd ht (fun q => absurd q hP) (fun _ => hW ρ hρ H ls _ locs hL hS hH hV)
  | le =>
    have h : (if x2 ≤ x1 then G (ab_tg pc o) L K2 s else G (pc + 3) L K2 s) = some y := h
    by_cases hP : x2 ≤ x1
    · rw [if_pos hP] at h
      refine ⟨_, _, _, _, h, fun _ => rfl, fun ra fm D dA B0 p l e R U mt args below meth c C cells slots Q P hW ρ hρ H ls r locs hL hS hH hV => ?_⟩
      obtain ⟨hx, hlt, hb, hml, hr, hlk, hown, htb, hts, hB, hKK, hSF, hCV, hfm⟩ := C
      obtain ⟨w1, r1, er, hw1, hT⟩ := ab_sr_cons hS
      clear hS
      subst er
      have hS := hT
      clear hT
      obtain rfl := ab_vr_int hw1
      obtain ⟨w2, r2, er, hw2, hT⟩ := ab_sr_cons hS
      clear hS
      subst er
      have hS := hT
      clear hT
      obtain rfl := ab_vr_int hw2
      exact lv_icmp_le hx hb hd ht (fun _ => hW ρ hρ H ls _ locs hL hS hH hV) (fun q => absurd hP q)
    · rw [if_neg hP] at h
      refine ⟨_, _, _, _, h, fun _ => rfl, fun ra fm D dA B0 p l e R U mt args below meth c C cells slots Q P hW ρ hρ H ls r locs hL hS hH hV => ?_⟩
      obtain ⟨hx, hlt, hb, hml, hr, hlk, hown, htb, hts, hB, hKK, hSF, hCV, hfm⟩ := C
      obtain ⟨w1, r1, er, hw1, hT⟩ := ab_sr_cons hS
      clear hS
      subst er
      have hS := hT
      clear hT
      obtain rfl := ab_vr_int hw1
      obtain ⟨w2, r2, er, hw2, hT⟩ := ab_sr_cons hS
      clear hS
      subst er
      have hS := hT
      clear hT
      obtain rfl := ab_vr_int hw2
      exact lv_icmp_le hx hb hd ht (fun q => absurd q hP) (fun _ => hW ρ hρ H ls _ locs hL hS hH hV)

theorem xs_if_acmp {X : (Nat → Int32) × Nat} {m pc n : Nat} {L : ab_L} {K : List ab_V} {s : ab_S} {β : Type} {G : Nat → ab_L → List ab_V → ab_S → Option β} {rr : Option ab_V → Option β} {y : β} {cc : Jvm.ClassFile.ACond} {o : Int}
    (hd : decode (ab_by m) pc = .ok (.if_acmp cc o, n)) (hil : ab_il (.if_acmp cc o) n pc = true) (h : ab_x X (ab_rt m) (.if_acmp cc o) n pc L K s G rr = some y) :
    ab_St X m pc L K s G y := by
  have hil2 := (Bool.and_eq_true _ _).mp hil
  obtain rfl : n = 3 := Nat.eq_of_beq_eq_true hil2.1
  have ht := ab_tg_eq (of_decide_eq_true hil2.2)
  obtain ⟨k2, i2, K1, eq9, h9⟩ := ab_pR_some h
  clear h
  subst eq9
  have h := h9
  clear h9
  obtain ⟨k1, i1, K2, eq9, h9⟩ := ab_pR_some h
  clear h
  subst eq9
  have h := h9
  clear h9
  obtain ⟨hc, h9⟩ := ab_cond_some h
  clear h
  have h := h9
  clear h9
  rw [Bool.and_eq_true] at hc
  obtain rfl := Nat.eq_of_beq_eq_true hc.1
  obtain rfl := Nat.eq_of_beq_eq_true hc.2
  have key : ∀ {ra ρ : Nat → Nat → Nat} {fm : Value} {w1 w2 : Value}, ab_vr ra ρ fm s (.inr (10, i2)) w2 → ab_vr ra ρ fm s (.inr (10, i1)) w1 → w2 = va_rf (some (ra 10 i2)) ∧ w1 = va_rf (some (ra 10 i1)) ∧ i1 < 33 ∧ i2 < 33 := by
    intro ra ρ fm w1 w2 h2 h1
    rcases h1 with ⟨q, -⟩ | ⟨-, q1, rfl⟩
    · exact absurd (show (10 : Nat) = 55 from q) (by decide)
    rcases h2 with ⟨q, -⟩ | ⟨-, q2, rfl⟩
    · exact absurd (show (10 : Nat) = 55 from q) (by decide)
    exact ⟨rfl, rfl, q1, q2⟩
  cases cc with
  | eq =>
    have h : (if i1 = i2 then G (ab_tg pc o) L K2 s else G (pc + 3) L K2 s) = some y := h
    by_cases hP : i1 = i2
    · rw [if_pos hP] at h
      refine ⟨_, _, _, _, h, fun _ => rfl, fun ra fm D dA B0 p l e R U mt args below meth c C cells slots Q P hW ρ hρ H ls r locs hL hS hH hV => ?_⟩
      obtain ⟨hx, hlt, hb, hml, hr, hlk, hown, htb, hts, hB, hKK, hSF, hCV, hfm⟩ := C
      obtain ⟨w1, r1, er, hw1, hT⟩ := ab_sr_cons hS
      clear hS
      subst er
      have hS := hT
      clear hT
      obtain ⟨w2, r2, er, hw2, hT⟩ := ab_sr_cons hS
      clear hS
      subst er
      have hS := hT
      clear hT
      obtain ⟨rfl, rfl, hi1, hi2⟩ := key hw1 hw2
      exact lv_acmp_eq hx hb hd ht (fun _ => hW ρ hρ H ls _ locs hL hS hH hV) (fun q => absurd (by rw [hP]) q)
    · rw [if_neg hP] at h
      refine ⟨_, _, _, _, h, fun _ => rfl, fun ra fm D dA B0 p l e R U mt args below meth c C cells slots Q P hW ρ hρ H ls r locs hL hS hH hV => ?_⟩
      obtain ⟨hx, hlt, hb, hml, hr, hlk, hown, htb, hts, hB, hKK, hSF, hCV, hfm⟩ := C
      obtain ⟨w1, r1, er, hw1, hT⟩ := ab_sr_cons hS
      clear hS
      subst er
      have hS := hT
      clear hT
      obtain ⟨w2, r2, er, hw2, hT⟩ := ab_sr_cons hS
      clear hS
      subst er
      have hS := hT
      clear hT
      obtain ⟨rfl, rfl, hi1, hi2⟩ := key hw1 hw2
      exact lv_acmp_eq hx hb hd ht (fun q => absurd q (fun z => hP (hSF.2.1 i1 i2 hi1 hi2 (Option.some.inj z)))) (fun _ => hW ρ hρ H ls _ locs hL hS hH hV)
  | ne =>
    have h : (if i1 = i2 then G (pc + 3) L K2 s else G (ab_tg pc o) L K2 s) = some y := h
    by_cases hP : i1 = i2
    · rw [if_pos hP] at h
      refine ⟨_, _, _, _, h, fun _ => rfl, fun ra fm D dA B0 p l e R U mt args below meth c C cells slots Q P hW ρ hρ H ls r locs hL hS hH hV => ?_⟩
      obtain ⟨hx, hlt, hb, hml, hr, hlk, hown, htb, hts, hB, hKK, hSF, hCV, hfm⟩ := C
      obtain ⟨w1, r1, er, hw1, hT⟩ := ab_sr_cons hS
      clear hS
      subst er
      have hS := hT
      clear hT
      obtain ⟨w2, r2, er, hw2, hT⟩ := ab_sr_cons hS
      clear hS
      subst er
      have hS := hT
      clear hT
      obtain ⟨rfl, rfl, hi1, hi2⟩ := key hw1 hw2
      exact lv_acmp_ne hx hb hd ht (fun q => absurd (by rw [hP]) q) (fun _ => hW ρ hρ H ls _ locs hL hS hH hV)
    · rw [if_neg hP] at h
      refine ⟨_, _, _, _, h, fun _ => rfl, fun ra fm D dA B0 p l e R U mt args below meth c C cells slots Q P hW ρ hρ H ls r locs hL hS hH hV => ?_⟩
      obtain ⟨hx, hlt, hb, hml, hr, hlk, hown, htb, hts, hB, hKK, hSF, hCV, hfm⟩ := C
      obtain ⟨w1, r1, er, hw1, hT⟩ := ab_sr_cons hS
      clear hS
      subst er
      have hS := hT
      clear hT
      obtain ⟨w2, r2, er, hw2, hT⟩ := ab_sr_cons hS
      clear hS
      subst er
      have hS := hT
      clear hT
      obtain ⟨rfl, rfl, hi1, hi2⟩ := key hw1 hw2
      exact lv_acmp_ne hx hb hd ht (fun _ => hW ρ hρ H ls _ locs hL hS hH hV) (fun q => absurd q (fun z => hP (hSF.2.1 i1 i2 hi1 hi2 (Option.some.inj z))))

theorem xs_ifnull {X : (Nat → Int32) × Nat} {m pc n : Nat} {L : ab_L} {K : List ab_V} {s : ab_S} {β : Type} {G : Nat → ab_L → List ab_V → ab_S → Option β} {rr : Option ab_V → Option β} {y : β} {o : Int}
    (hd : decode (ab_by m) pc = .ok (.ifnull o, n)) (hil : ab_il (.ifnull o) n pc = true) (h : ab_x X (ab_rt m) (.ifnull o) n pc L K s G rr = some y) :
    ab_St X m pc L K s G y := by
  have hil2 := (Bool.and_eq_true _ _).mp hil
  obtain rfl : n = 3 := Nat.eq_of_beq_eq_true hil2.1
  have ht := ab_tg_eq (of_decide_eq_true hil2.2)
  cases K with
  | nil => cases h
  | cons v K2 =>
    cases v with
    | inr q =>
      have h : (bif Nat.beq q.1 55 then none else G (pc + 3) L K2 s) = some y := h
      have hq : ¬ q.1 = 55 := by
        intro z
        rw [z] at h
        cases h
      rw [ab_nb hq] at h
      refine ⟨_, _, _, _, h, fun _ => rfl, fun ra fm D dA B0 p l e R U mt args below meth c C cells slots Q P hW ρ hρ H ls r locs hL hS hH hV => ?_⟩
      obtain ⟨hx, hlt, hb, hml, hr, hlk, hown, htb, hts, hB, hKK, hSF, hCV, hfm⟩ := C
      obtain ⟨w1, r1, er, hw1, hT⟩ := ab_sr_cons hS
      clear hS
      subst er
      have hS := hT
      clear hT
      rcases hw1 with ⟨q5, rfl⟩ | ⟨-, -, rfl⟩
      · exact absurd q5 hq
      · exact lv_ifnull hx hb hd (hW ρ hρ H ls _ locs hL hS hH hV)
    | inl x =>
      cases x <;> first | (cases h; done) | skip
      have h : G (ab_tg pc o) L K2 s = some y := h
      refine ⟨_, _, _, _, h, fun _ => rfl, fun ra fm D dA B0 p l e R U mt args below meth c C cells slots Q P hW ρ hρ H ls r locs hL hS hH hV => ?_⟩
      obtain ⟨hx, hlt, hb, hml, hr, hlk, hown, htb, hts, hB, hKK, hSF, hCV, hfm⟩ := C
      obtain ⟨w1, r1, er, hw1, hT⟩ := ab_sr_cons hS
      clear hS
      subst er
      have hS := hT
      clear hT
      obtain rfl := hw1.1
      exact lv_ifnullN hx hb hd ht (hW ρ hρ H ls _ locs hL hS hH hV)

theorem xs_ifnonnull {X : (Nat → Int32) × Nat} {m pc n : Nat} {L : ab_L} {K : List ab_V} {s : ab_S} {β : Type} {G : Nat → ab_L → List ab_V → ab_S → Option β} {rr : Option ab_V → Option β} {y : β} {o : Int}
    (hd : decode (ab_by m) pc = .ok (.ifnonnull o, n)) (hil : ab_il (.ifnonnull o) n pc = true) (h : ab_x X (ab_rt m) (.ifnonnull o) n pc L K s G rr = some y) :
    ab_St X m pc L K s G y := by
  have hil2 := (Bool.and_eq_true _ _).mp hil
  obtain rfl : n = 3 := Nat.eq_of_beq_eq_true hil2.1
  have ht := ab_tg_eq (of_decide_eq_true hil2.2)
  cases K with
  | nil => cases h
  | cons v K2 =>
    cases v with
    | inr q =>
      have h : (bif Nat.beq q.1 55 then none else G (ab_tg pc o) L K2 s) = some y := h
      have hq : ¬ q.1 = 55 := by
        intro z
        rw [z] at h
        cases h
      rw [ab_nb hq] at h
      refine ⟨_, _, _, _, h, fun _ => rfl, fun ra fm D dA B0 p l e R U mt args below meth c C cells slots Q P hW ρ hρ H ls r locs hL hS hH hV => ?_⟩
      obtain ⟨hx, hlt, hb, hml, hr, hlk, hown, htb, hts, hB, hKK, hSF, hCV, hfm⟩ := C
      obtain ⟨w1, r1, er, hw1, hT⟩ := ab_sr_cons hS
      clear hS
      subst er
      have hS := hT
      clear hT
      rcases hw1 with ⟨q5, rfl⟩ | ⟨-, -, rfl⟩
      · exact absurd q5 hq
      · exact lv_ifnonnull hx hb hd ht (hW ρ hρ H ls _ locs hL hS hH hV)
    | inl x =>
      cases x <;> first | (cases h; done) | skip
      have h : G (pc + 3) L K2 s = some y := h
      refine ⟨_, _, _, _, h, fun _ => rfl, fun ra fm D dA B0 p l e R U mt args below meth c C cells slots Q P hW ρ hρ H ls r locs hL hS hH hV => ?_⟩
      obtain ⟨hx, hlt, hb, hml, hr, hlk, hown, htb, hts, hB, hKK, hSF, hCV, hfm⟩ := C
      obtain ⟨w1, r1, er, hw1, hT⟩ := ab_sr_cons hS
      clear hS
      subst er
      have hS := hT
      clear hT
      obtain rfl := hw1.1
      exact lv_ifnonnullN hx hb hd (hW ρ hρ H ls _ locs hL hS hH hV)

theorem xs_tableswitch {X : (Nat → Int32) × Nat} {m pc n : Nat} {L : ab_L} {K : List ab_V} {s : ab_S} {β : Type} {G : Nat → ab_L → List ab_V → ab_S → Option β} {rr : Option ab_V → Option β} {y : β} {d lo hi : Int} {os : Array Int}
    (hd : decode (ab_by m) pc = .ok (.tableswitch d lo hi os, n)) (hil : ab_il (.tableswitch d lo hi os) n pc = true) (h : ab_x X (ab_rt m) (.tableswitch d lo hi os) n pc L K s G rr = some y) :
    ab_St X m pc L K s G y := by
  have hil2 := (Bool.and_eq_true _ _).mp hil
  have hd0 := of_decide_eq_true hil2.1
  obtain ⟨x1, K1, eq9, h9⟩ := ab_pI_some h
  clear h
  subst eq9
  have h := h9
  clear h9
  have h : (if x1.toInt < lo ∨ hi < x1.toInt then G (ab_tg pc d) L K1 s else match os[(x1.toInt - lo).toNat]? with
    | some o => G (ab_tg pc o) L K1 s
    | none => none) = some y := h
  by_cases hP : x1.toInt < lo ∨ hi < x1.toInt
  · rw [if_pos hP] at h
    refine ⟨_, _, _, _, h, fun _ => rfl, fun ra fm D dA B0 p l e R U mt args below meth c C cells slots Q P hW ρ hρ H ls r locs hL hS hH hV => ?_⟩
    obtain ⟨hx, hlt, hb, hml, hr, hlk, hown, htb, hts, hB, hKK, hSF, hCV, hfm⟩ := C
    obtain ⟨w1, r1, er, hw1, hT⟩ := ab_sr_cons hS
    clear hS
    subst er
    have hS := hT
    clear hT
    obtain rfl := ab_vr_int hw1
    exact lv_tableOut hx hb hd hP (ab_tg_eq hd0) (hW ρ hρ H ls _ locs hL hS hH hV)
  · rw [if_neg hP] at h
    cases e1 : os[(x1.toInt - lo).toNat]? with
    | none =>
      rw [e1] at h
      cases h
    | some o =>
      rw [e1] at h
      have ho : 0 ≤ (pc : Int) + o := of_decide_eq_true (List.all_eq_true.mp hil2.2 o (Array.mem_toList_iff.mpr (Array.mem_of_getElem? e1)))
      refine ⟨_, _, _, _, h, fun _ => rfl, fun ra fm D dA B0 p l e R U mt args below meth c C cells slots Q P hW ρ hρ H ls r locs hL hS hH hV => ?_⟩
      obtain ⟨hx, hlt, hb, hml, hr, hlk, hown, htb, hts, hB, hKK, hSF, hCV, hfm⟩ := C
      obtain ⟨w1, r1, er, hw1, hT⟩ := ab_sr_cons hS
      clear hS
      subst er
      have hS := hT
      clear hT
      obtain rfl := ab_vr_int hw1
      exact lv_tableIn hx hb hd (fun q => hP (Or.inl q)) (fun q => hP (Or.inr q)) e1 (ab_tg_eq ho) (hW ρ hρ H ls _ locs hL hS hH hV)

theorem ab_look {pc : Nat} {d x : Int} : ∀ (ps : List (Int × Int)), 0 ≤ (pc : Int) + d → (∀ q ∈ ps, 0 ≤ (pc : Int) + q.2) → 0 ≤ (pc : Int) + Op.lookupswitch.offset ps d x
  | [], h, _ => h
  | q :: ps, h, h2 => by
    obtain ⟨a, b⟩ := q
    unfold Op.lookupswitch.offset
    split
    · exact h2 (a, b) List.mem_cons_self
    · exact ab_look ps h (fun z hz => h2 z (List.mem_cons_of_mem _ hz))

theorem xs_lookupswitch {X : (Nat → Int32) × Nat} {m pc n : Nat} {L : ab_L} {K : List ab_V} {s : ab_S} {β : Type} {G : Nat → ab_L → List ab_V → ab_S → Option β} {rr : Option ab_V → Option β} {y : β} {d : Int} {ps : Array (Int × Int)}
    (hd : decode (ab_by m) pc = .ok (.lookupswitch d ps, n)) (hil : ab_il (.lookupswitch d ps) n pc = true) (h : ab_x X (ab_rt m) (.lookupswitch d ps) n pc L K s G rr = some y) :
    ab_St X m pc L K s G y := by
  have hil2 := (Bool.and_eq_true _ _).mp hil
  have hil3 := (Bool.and_eq_true _ _).mp hil2.1
  have hd0 := of_decide_eq_true hil3.1
  obtain ⟨x1, K1, eq9, h9⟩ := ab_pI_some h
  clear h
  subst eq9
  have h := h9
  clear h9
  have ho := ab_look (pc := pc) (d := d) (x := x1.toInt) ps.toList hd0 (fun q hq => of_decide_eq_true (List.all_eq_true.mp hil3.2 q hq))
  refine ⟨_, _, _, _, h, fun _ => rfl, fun ra fm D dA B0 p l e R U mt args below meth c C cells slots Q P hW ρ hρ H ls r locs hL hS hH hV => ?_⟩
  obtain ⟨hx, hlt, hb, hml, hr, hlk, hown, htb, hts, hB, hKK, hSF, hCV, hfm⟩ := C
  obtain ⟨w1, r1, er, hw1, hT⟩ := ab_sr_cons hS
  clear hS
  subst er
  have hS := hT
  clear hT
  obtain rfl := ab_vr_int hw1
  exact lv_lookup hx hb hd hil2.2 rfl (ab_tg_eq ho) (hW ρ hρ H ls _ locs hL hS hH hV)

theorem ab_wd_arr {ra ρ : Nat → Nat → Nat} {dA : Nat → ClassId} {s : ab_S} {q0 K i e n so id : Nat} (hk : ab_kds[K]? = some (.inr (e, n, so, id))) (h : (ab_ob s)[q0]? = some (K, i)) : (ab_wd ra ρ dA s)[q0]? = some (ab_ad ra ρ K i, .inl (ab_ca ra ρ dA s i e n so id)) := by
  have q := ab_wd_at (ra := ra) (ρ := ρ) (dA := dA) h
  unfold ab_ct at q
  rw [hk] at q
  exact q
theorem ab_ct_arr {ra ρ : Nat → Nat → Nat} {dA : Nat → ClassId} {s : ab_S} {K i e n so id : Nat} (hk : ab_kds[K]? = some (.inr (e, n, so, id))) : ab_ct ra ρ dA s K i = .inl (ab_ca ra ρ dA s i e n so id) := by
  unfold ab_ct
  rw [hk]
/-- a reference to something that lies in the heap -/
theorem ab_vr_get {ra ρ : Nat → Nat → Nat} {fm : Value} {s : ab_S} {K i : Nat} {w : Value} (hK : K < 55) (h : ab_vr ra ρ fm s (.inr (K, i)) w) : i < ab_lim K s ∧ w = .ref (ab_ad ra ρ K i) := by
  rcases h with ⟨q, -⟩ | ⟨-, q1, q2⟩
  · have : K = 55 := q
    omega
  · exact ⟨q1, q2⟩
theorem ab_13 {s : ab_S} {i : Nat} (h : i < ab_lim 13 s) : i = 0 := by
  have h : i < 1 := h
  omega
theorem ab_14 {s : ab_S} {i : Nat} (h : i < ab_lim 14 s) : i = 0 := by
  have h : i < 1 := h
  omega
theorem ab_set_HR {ra ρ : Nat → Nat → Nat} {D : va_G} {dA : Nat → ClassId} {B0 : Nat} {s s' : ab_S} {H1 : Heap} {q0 K i : Nat} (hl : ab_ob s' = ab_ob s) (hq : (ab_ob s)[q0]? = some (K, i)) (hD : va_D (ab_A B0) (ab_wd ra ρ dA s))
    (hn : ∀ K' i' : Nat, ab_dy K' = true → i' < ab_lim K' s → (K', i') ≠ (K, i) → ab_ct ra ρ dA s' K' i' = ab_ct ra ρ dA s K' i') (hw : ab_wf s') {x : va_E} (hx : ab_ct ra ρ dA s' K i = x)
    (h1 : va_P D ab_cl ((ab_wd ra ρ dA s).set q0 (ab_ad ra ρ K i, x)) H1) (h2 : va_D (ab_A B0) ((ab_wd ra ρ dA s).set q0 (ab_ad ra ρ K i, x))) : ab_HR ra ρ D dA B0 s' H1 := by
  subst hx
  rw [ab_wd_set hl hq hD hn] at h1 h2
  exact ⟨h1, h2, hw⟩

theorem ab_ca_ty {ra ρ : Nat → Nat → Nat} {dA : Nat → ClassId} {s : ab_S} {i e n so id : Nat} (h : so < 5) (he : so ≤ 1 → e = 0 ∨ e = 2) : ∃ (t0 : Nat) (ty : FieldType), (ab_ty dA)[t0]? = some ((ab_ca ra ρ dA s i e n so id).1, ty) ∧ (ab_ca ra ρ dA s i e n so id).2.1 = n := by
  rcases so with _ | _ | _ | _ | _ | so
  · rcases he (by omega) with rfl | rfl
    · exact ⟨0, _, rfl, rfl⟩
    · exact ⟨2, _, rfl, rfl⟩
  · rcases he (by omega) with rfl | rfl
    · exact ⟨0, _, rfl, rfl⟩
    · exact ⟨2, _, rfl, rfl⟩
  · exact ⟨1, _, rfl, rfl⟩
  · exact ⟨1, _, rfl, rfl⟩
  · by_cases h8 : e = 8
    · subst h8
      exact ⟨3, _, rfl, rfl⟩
    · refine ⟨4, .object "MovingNames$Town", ?_, rfl⟩
      show some (dA 4, FieldType.object "MovingNames$Town") = some (dA (if e = 8 then 3 else 4), _)
      rw [if_neg h8]
  · omega
theorem ab_len_of {X : (Nat → Int32) × Nat} {k i N e n so id : Nat} (hk : ab_kds[k]? = some (.inr (e, n, so, id))) (h : ab_len X k i = some N) (h5 : so < 5) : n = N := by
  unfold ab_len at h
  rw [hk] at h
  rcases so with _ | _ | _ | _ | _ | so
  · exact Option.some.inj h
  · exact Option.some.inj h
  · exact Option.some.inj h
  · exact Option.some.inj h
  · exact Option.some.inj h
  · omega
theorem ab_len_k {X : (Nat → Int32) × Nat} {k i N : Nat} (h : ab_len X k i = some N) : ∃ e n so id : Nat, ab_kds[k]? = some (.inr (e, n, so, id)) := by
  unfold ab_len at h
  split at h
  · rename_i e n so id hk
    exact ⟨_, _, _, _, hk⟩
  · cases h

theorem xs_arraylength {X : (Nat → Int32) × Nat} {m pc n : Nat} {L : ab_L} {K : List ab_V} {s : ab_S} {β : Type} {G : Nat → ab_L → List ab_V → ab_S → Option β} {rr : Option ab_V → Option β} {y : β}
    (hd : decode (ab_by m) pc = .ok (.arraylength, n)) (hil : ab_il (.arraylength) n pc = true) (h : ab_x X (ab_rt m) (.arraylength) n pc L K s G rr = some y) :
    ab_St X m pc L K s G y := by
  obtain rfl : n = 1 := Nat.eq_of_beq_eq_true hil
  obtain ⟨k, i, K1, eq9, h9⟩ := ab_pR_some h
  clear h
  subst eq9
  have h := h9
  clear h9
  cases e0 : ab_len X k i with
  | none =>
    rw [e0] at h
    cases h
  | some N =>
    rw [e0] at h
    refine ⟨_, _, _, _, h, fun _ => rfl, fun ra fm D dA B0 p l e R U mt args below meth c C cells slots Q P hW ρ hρ H ls r locs hL hS hH hV => ?_⟩
    obtain ⟨hx, hlt, hb, hml, hr, hlk, hown, htb, hts, hB, hKK, hSF, hCV, hfm⟩ := C
    obtain ⟨w1, r1, er, hw1, hT⟩ := ab_sr_cons hS
    clear hS
    subst er
    have hS := hT
    clear hT
    have hW := hW ρ hρ H ls (.int (Int32.ofNat N) :: r1) locs hL ⟨ab_vr_I _, hS⟩ hH hV
    obtain ⟨e9, n9, so, id, e1⟩ := ab_len_k e0
    obtain ⟨hi, rfl⟩ := ab_vr_get (ab_lt e1) hw1
    rcases ab_arr_k e1 with ⟨h5, hdy, -, -, -, -, he⟩ | ⟨rfl, rfl, -⟩ | ⟨rfl, rfl, rfl, -⟩ | ⟨rfl, rfl, -⟩
    · obtain ⟨q0, hq⟩ := ab_ob_at hdy hi
      have hN := ab_len_of e1 e0 h5
      subst hN
      have hw := ab_wd_arr (ra := ra) (ρ := ρ) (dA := dA) e1 hq
      obtain ⟨t0, ty, ht, hn⟩ := ab_ca_ty (ra := ra) (ρ := ρ) (dA := dA) (s := s) (i := i) (n := n9) (id := id) h5 he
      exact va_alen hx hb hKK hH.1 q0 t0 hw ht (by show Int32.ofNat (ab_ca ra ρ dA s i e9 n9 so id).2.1 = _; rw [hn]) hd hW
    · unfold ab_len at e0
      rw [e1] at e0
      exact va_tlen hx hb (hSF.2.2.2.1 i hi).2.2.2 hV (by rw [Option.some.inj e0]) hd hW
    · unfold ab_len at e0
      rw [e1] at e0
      obtain rfl := ab_13 hi
      exact va_tlen hx hb hSF.2.2.1.2 hV (by rw [Option.some.inj e0]) hd hW
    · unfold ab_len at e0
      rw [e1] at e0
      obtain rfl := ab_14 hi
      exact va_tlen hx hb hSF.2.2.2.2.2.2.1 hV (by rw [Option.some.inj e0]) hd hW

theorem xs_iaload {X : (Nat → Int32) × Nat} {m pc n : Nat} {L : ab_L} {K : List ab_V} {s : ab_S} {β : Type} {G : Nat → ab_L → List ab_V → ab_S → Option β} {rr : Option ab_V → Option β} {y : β}
    (hd : decode (ab_by m) pc = .ok (.iaload, n)) (hil : ab_il (.iaload) n pc = true) (h : ab_x X (ab_rt m) (.iaload) n pc L K s G rr = some y) :
    ab_St X m pc L K s G y := by
  obtain rfl : n = 1 := Nat.eq_of_beq_eq_true hil
  obtain ⟨j, K1, eq9, h9⟩ := ab_pI_some h
  clear h
  subst eq9
  have h := h9
  clear h9
  obtain ⟨k, i, K2, eq9, h9⟩ := ab_pR_some h
  clear h
  subst eq9
  have h := h9
  clear h9
  obtain ⟨hc, h9⟩ := ab_cond_some h
  clear h
  have h := h9
  clear h9
  cases e0 : ab_len X k i with
  | none =>
    unfold ab_rI at h
    simp only [e0] at h
    cases h
  | some N =>
    cases e2 : ab_ai X k i s with
    | none =>
      unfold ab_rI at h
      simp only [e0, e2] at h
      cases h
    | some g =>
      unfold ab_rI at h
      simp only [e0, e2] at h
      by_cases hP : j < 0 ∨ N ≤ j.toNatClampNeg
      · rw [if_pos hP] at h
        cases h
      rw [if_neg hP] at h
      obtain ⟨e9, n9, so, id, e1⟩ := ab_len_k e0
      refine ⟨_, _, _, _, h, fun _ => rfl, fun ra fm D dA B0 p l e R U mt args below meth c C cells slots Q P hW ρ hρ H ls r locs hL hS hH hV => ?_⟩
      obtain ⟨hx, hlt, hb, hml, hr, hlk, hown, htb, hts, hB, hKK, hSF, hCV, hfm⟩ := C
      obtain ⟨w1, r1, er, hw1, hT⟩ := ab_sr_cons hS
      clear hS
      subst er
      have hS := hT
      clear hT
      obtain rfl := ab_vr_int hw1
      obtain ⟨w2, r2, er, hw2, hT⟩ := ab_sr_cons hS
      clear hS
      subst er
      have hS := hT
      clear hT
      obtain ⟨hi, rfl⟩ := ab_vr_get (ab_lt e1) hw2
      have hW := hW ρ hρ H ls (.int (g j.toNatClampNeg) :: r2) locs hL ⟨ab_vr_I _, hS⟩ hH hV
      unfold ab_ai at e2
      rw [e1] at e2
      rcases ab_arr_k e1 with ⟨h5, hdy, hie, -, -, -, he⟩ | ⟨rfl, rfl, hno⟩ | ⟨rfl, rfl, rfl, hno, -⟩ | ⟨rfl, rfl, -⟩
      · obtain ⟨q0, hq⟩ := ab_ob_at hdy hi
        have hN := ab_len_of e1 e0 h5
        subst hN
        have hw := ab_wd_arr (ra := ra) (ρ := ρ) (dA := dA) e1 hq
        obtain ⟨h1, rfl⟩ := hie hc
        rcases so with _ | _ | so
        · obtain rfl := Option.some.inj e2
          exact va_iald hx hb hKK hH.1 q0 0 hw rfl hP hd hW
        · obtain rfl := Option.some.inj e2
          exact va_iald hx hb hKK hH.1 q0 0 hw rfl hP hd hW
        · omega
      · rw [hno] at hc
        cases hc
      · rw [hno] at hc
        cases hc
      · unfold ab_len at e0
        rw [e1] at e0
        obtain rfl := ab_14 hi
        obtain rfl := Option.some.inj e2
        obtain rfl := Option.some.inj e0
        exact va_ti hx hb hSF.2.2.2.2.2.2.1 hV hP rfl hd hW

theorem xs_baload {X : (Nat → Int32) × Nat} {m pc n : Nat} {L : ab_L} {K : List ab_V} {s : ab_S} {β : Type} {G : Nat → ab_L → List ab_V → ab_S → Option β} {rr : Option ab_V → Option β} {y : β}
    (hd : decode (ab_by m) pc = .ok (.baload, n)) (hil : ab_il (.baload) n pc = true) (h : ab_x X (ab_rt m) (.baload) n pc L K s G rr = some y) :
    ab_St X m pc L K s G y := by
  obtain rfl : n = 1 := Nat.eq_of_beq_eq_true hil
  obtain ⟨j, K1, eq9, h9⟩ := ab_pI_some h
  clear h
  subst eq9
  have h := h9
  clear h9
  obtain ⟨k, i, K2, eq9, h9⟩ := ab_pR_some h
  clear h
  subst eq9
  have h := h9
  clear h9
  obtain ⟨hc, h9⟩ := ab_cond_some h
  clear h
  have h := h9
  clear h9
  cases e0 : ab_len X k i with
  | none =>
    unfold ab_rI at h
    simp only [e0] at h
    cases h
  | some N =>
    cases e2 : ab_ai X k i s with
    | none =>
      unfold ab_rI at h
      simp only [e0, e2] at h
      cases h
    | some g =>
      unfold ab_rI at h
      simp only [e0, e2] at h
      by_cases hP : j < 0 ∨ N ≤ j.toNatClampNeg
      · rw [if_pos hP] at h
        cases h
      rw [if_neg hP] at h
      obtain ⟨e9, n9, so, id, e1⟩ := ab_len_k e0
      refine ⟨_, _, _, _, h, fun _ => rfl, fun ra fm D dA B0 p l e R U mt args below meth c C cells slots Q P hW ρ hρ H ls r locs hL hS hH hV => ?_⟩
      obtain ⟨hx, hlt, hb, hml, hr, hlk, hown, htb, hts, hB, hKK, hSF, hCV, hfm⟩ := C
      obtain ⟨w1, r1, er, hw1, hT⟩ := ab_sr_cons hS
      clear hS
      subst er
      have hS := hT
      clear hT
      obtain rfl := ab_vr_int hw1
      obtain ⟨w2, r2, er, hw2, hT⟩ := ab_sr_cons hS
      clear hS
      subst er
      have hS := hT
      clear hT
      obtain ⟨hi, rfl⟩ := ab_vr_get (ab_lt e1) hw2
      have hW := hW ρ hρ H ls (.int (g j.toNatClampNeg) :: r2) locs hL ⟨ab_vr_I _, hS⟩ hH hV
      unfold ab_ai at e2
      rw [e1] at e2
      rcases ab_arr_k e1 with ⟨h5, hdy, -, hie, -, -, he⟩ | ⟨rfl, rfl, -⟩ | ⟨rfl, rfl, rfl, -, hno⟩ | ⟨rfl, rfl, hno⟩
      · obtain ⟨q0, hq⟩ := ab_ob_at hdy hi
        have hN := ab_len_of e1 e0 h5
        subst hN
        have hw := ab_wd_arr (ra := ra) (ρ := ρ) (dA := dA) e1 hq
        obtain ⟨rfl, rfl⟩ := hie hc
        obtain rfl := Option.some.inj e2
        exact va_zald hx hb hKK hH.1 q0 2 hw rfl hP hd hW
      · unfold ab_len at e0
        rw [e1] at e0
        obtain rfl := Option.some.inj e2
        obtain rfl := Option.some.inj e0
        exact va_tb hx hb (hSF.2.2.2.1 i hi).2.2.2 hV hP rfl hd hW
      · rw [hno] at hc
        cases hc
      · rw [hno] at hc
        cases hc

theorem xs_laload {X : (Nat → Int32) × Nat} {m pc n : Nat} {L : ab_L} {K : List ab_V} {s : ab_S} {β : Type} {G : Nat → ab_L → List ab_V → ab_S → Option β} {rr : Option ab_V → Option β} {y : β}
    (hd : decode (ab_by m) pc = .ok (.laload, n)) (hil : ab_il (.laload) n pc = true) (h : ab_x X (ab_rt m) (.laload) n pc L K s G rr = some y) :
    ab_St X m pc L K s G y := by
  obtain rfl : n = 1 := Nat.eq_of_beq_eq_true hil
  obtain ⟨j, K1, eq9, h9⟩ := ab_pI_some h
  clear h
  subst eq9
  have h := h9
  clear h9
  obtain ⟨k, i, K2, eq9, h9⟩ := ab_pR_some h
  clear h
  subst eq9
  have h := h9
  clear h9
  cases e0 : ab_len X k i with
  | none =>
    unfold ab_rL at h
    simp only [e0] at h
    cases h
  | some N =>
    cases e2 : ab_al k i s with
    | none =>
      unfold ab_rL at h
      simp only [e0, e2] at h
      cases h
    | some g =>
      unfold ab_rL at h
      simp only [e0, e2] at h
      by_cases hP : j < 0 ∨ N ≤ j.toNatClampNeg
      · rw [if_pos hP] at h
        cases h
      rw [if_neg hP] at h
      obtain ⟨e9, n9, so, id, e1⟩ := ab_len_k e0
      refine ⟨_, _, _, _, h, fun _ => rfl, fun ra fm D dA B0 p l e R U mt args below meth c C cells slots Q P hW ρ hρ H ls r locs hL hS hH hV => ?_⟩
      obtain ⟨hx, hlt, hb, hml, hr, hlk, hown, htb, hts, hB, hKK, hSF, hCV, hfm⟩ := C
      obtain ⟨w1, r1, er, hw1, hT⟩ := ab_sr_cons hS
      clear hS
      subst er
      have hS := hT
      clear hT
      obtain rfl := ab_vr_int hw1
      obtain ⟨w2, r2, er, hw2, hT⟩ := ab_sr_cons hS
      clear hS
      subst er
      have hS := hT
      clear hT
      obtain ⟨hi, rfl⟩ := ab_vr_get (ab_lt e1) hw2
      have hW := hW ρ hρ H ls (.long (g j.toNatClampNeg) :: r2) locs hL ⟨ab_vr_J _, hS⟩ hH hV
      unfold ab_al at e2
      rw [e1] at e2
      rcases ab_arr_k e1 with ⟨h5, hdy, -⟩ | ⟨rfl, rfl, -⟩ | ⟨rfl, rfl, rfl, -⟩ | ⟨rfl, rfl, -⟩
      · obtain ⟨q0, hq⟩ := ab_ob_at hdy hi
        have hN := ab_len_of e1 e0 h5
        subst hN
        have hw := ab_wd_arr (ra := ra) (ρ := ρ) (dA := dA) e1 hq
        rcases so with _ | _ | _ | _ | so
        · cases e2
        · cases e2
        · obtain rfl := Option.some.inj e2
          exact va_lald hx hb hKK hH.1 q0 1 hw rfl hP hd hW
        · obtain rfl := Option.some.inj e2
          exact va_lald hx hb hKK hH.1 q0 1 hw rfl hP hd hW
        · obtain rfl : so = 0 := by omega
          cases e2
      · cases e2
      · cases e2
      · cases e2

theorem ab_qk : (List.range 55).all (fun K => match ab_kds[K]? with
  | some (.inr (e, _, 4, id)) => (Nat.beq id 0 && Nat.beq e 8) || (Nat.beq id 1 && Nat.beq e 2)
  | _ => true) = true := by decide +kernel
theorem ab_q_lim {s : ab_S} {K e n id j t : Nat} (hk : ab_kds[K]? = some (.inr (e, n, 4, id))) (hw : ab_wf s) (h : sq s id j = some t) : t < ab_lim e s := by
  have q := List.all_eq_true.mp ab_qk K (List.mem_range.mpr (ab_lt hk))
  rw [hk] at q
  simp only [Bool.or_eq_true, Bool.and_eq_true, Nat.beq_eq] at q
  rcases q with ⟨rfl, rfl⟩ | ⟨rfl, rfl⟩
  · exact hw.2.2.1 j t h
  · exact hw.2.2.2 j t h
theorem ab_q_wf {s : ab_S} {K e n id j t : Nat} (hk : ab_kds[K]? = some (.inr (e, n, 4, id))) (hw : ab_wf s) (h : t < ab_lim e s) : ab_wf (pq s id (va_up (sq s id) j (some t))) := by
  have q := List.all_eq_true.mp ab_qk K (List.mem_range.mpr (ab_lt hk))
  rw [hk] at q
  simp only [Bool.or_eq_true, Bool.and_eq_true, Nat.beq_eq] at q
  have go : ∀ (z : Nat) (b : Nat), (∀ j' t' : Nat, sq s z j' = some t' → t' < b) → (id = z → t < b) → ∀ j' t' : Nat, sq (pq s id (va_up (sq s id) j (some t))) z j' = some t' → t' < b := by
    intro z b h1 h2 j' t' h3
    have h3 : va_up s.2.2.2.2.2.2.2.2.1 id (va_up (sq s id) j (some t)) z j' = some t' := h3
    by_cases hz : z = id
    · subst hz
      rw [va_up_self] at h3
      by_cases hj : j' = j
      · subst hj
        rw [va_up_self] at h3
        obtain rfl := Option.some.inj h3
        exact h2 rfl
      · rw [va_up_ne _ _ hj] at h3
        exact h1 j' t' h3
    · rw [va_up_ne _ _ hz] at h3
      exact h1 j' t' h3
  rcases q with ⟨rfl, rfl⟩ | ⟨rfl, rfl⟩
  · exact ⟨hw.1, hw.2.1, go 0 _ hw.2.2.1 (fun _ => h), go 1 _ hw.2.2.2 (fun z => by cases z)⟩
  · exact ⟨hw.1, hw.2.1, go 0 _ hw.2.2.1 (fun z => by cases z), go 1 _ hw.2.2.2 (fun _ => h)⟩

theorem xs_aaload {X : (Nat → Int32) × Nat} {m pc n : Nat} {L : ab_L} {K : List ab_V} {s : ab_S} {β : Type} {G : Nat → ab_L → List ab_V → ab_S → Option β} {rr : Option ab_V → Option β} {y : β}
    (hd : decode (ab_by m) pc = .ok (.aaload, n)) (hil : ab_il (.aaload) n pc = true) (h : ab_x X (ab_rt m) (.aaload) n pc L K s G rr = some y) :
    ab_St X m pc L K s G y := by
  obtain rfl : n = 1 := Nat.eq_of_beq_eq_true hil
  obtain ⟨j, K1, eq9, h9⟩ := ab_pI_some h
  clear h
  subst eq9
  have h := h9
  clear h9
  obtain ⟨k, i, K2, eq9, h9⟩ := ab_pR_some h
  clear h
  subst eq9
  have h := h9
  clear h9
  unfold ab_rA at h
  cases e0 : ab_len X k i with
  | none =>
    simp only [e0] at h
    cases h
  | some N =>
    obtain ⟨e9, n9, so, id, e1⟩ := ab_len_k e0
    simp only [e0, e1] at h
    by_cases hP : j < 0 ∨ N ≤ j.toNatClampNeg
    · rw [if_pos hP] at h
      cases h
    rw [if_neg hP] at h
    rcases ab_arr_k e1 with ⟨h5, hdy, -, -, h4, -, -⟩ | ⟨rfl, rfl, -⟩ | ⟨rfl, rfl, rfl, -⟩ | ⟨rfl, rfl, -⟩
    · rcases so with _ | _ | _ | _ | _ | so
      · cases h
      · cases h
      · cases h
      · cases h
      · have hN := ab_len_of e1 e0 h5
        subst hN
        obtain ⟨hg0, h8⟩ := h4 rfl
        have h : (match sq s id j.toNatClampNeg with
          | none => G (pc + 1) L (.inl .null :: K2) s
          | some t => G (pc + 1) L (.inr (e9, t) :: K2) s) = some y := h
        have hty : ∀ dA : Nat → ClassId, (ab_ty dA)[(if e9 = 8 then 3 else 4)]? = some (dA (if e9 = 8 then 3 else 4), .object (if e9 = 8 then "MovingNames$Tray" else "MovingNames$Town")) := by
          intro dA
          rcases h8 with rfl | rfl <;> rfl
        cases e2 : sq s id j.toNatClampNeg with
        | none =>
          rw [e2] at h
          refine ⟨_, _, _, _, h, fun _ => rfl, fun ra fm D dA B0 p l e R U mt args below meth c C cells slots Q P hW ρ hρ H ls r locs hL hS hH hV => ?_⟩
          obtain ⟨hx, hlt, hb, hml, hr, hlk, hown, htb, hts, hB, hKK, hSF, hCV, hfm⟩ := C
          obtain ⟨w1, r1, er, hw1, hT⟩ := ab_sr_cons hS
          clear hS
          subst er
          have hS := hT
          clear hT
          obtain rfl := ab_vr_int hw1
          obtain ⟨w2, r2, er, hw2, hT⟩ := ab_sr_cons hS
          clear hS
          subst er
          have hS := hT
          clear hT
          obtain ⟨hi, rfl⟩ := ab_vr_get (ab_lt e1) hw2
          obtain ⟨q0, hq⟩ := ab_ob_at hdy hi
          refine va_aldq hx hb hKK hH.1 q0 _ (ab_wd_arr (ra := ra) (ρ := ρ) (dA := dA) e1 hq) (hty dA) hP hd ?_
          show W _ _ _ _ _ _ _ _ _ _ _ _ _ _ _ (F0 _ _ _ (va_rf ((sq s id j.toNatClampNeg).map _) :: _))
          rw [e2]
          exact hW ρ hρ H ls _ locs hL ⟨ab_vr_N, hS⟩ hH hV
        | some t =>
          rw [e2] at h
          refine ⟨_, _, _, _, h, fun _ => rfl, fun ra fm D dA B0 p l e R U mt args below meth c C cells slots Q P hW ρ hρ H ls r locs hL hS hH hV => ?_⟩
          obtain ⟨hx, hlt, hb, hml, hr, hlk, hown, htb, hts, hB, hKK, hSF, hCV, hfm⟩ := C
          obtain ⟨w1, r1, er, hw1, hT⟩ := ab_sr_cons hS
          clear hS
          subst er
          have hS := hT
          clear hT
          obtain rfl := ab_vr_int hw1
          obtain ⟨w2, r2, er, hw2, hT⟩ := ab_sr_cons hS
          clear hS
          subst er
          have hS := hT
          clear hT
          obtain ⟨hi, rfl⟩ := ab_vr_get (ab_lt e1) hw2
          obtain ⟨q0, hq⟩ := ab_ob_at hdy hi
          refine va_aldq hx hb hKK hH.1 q0 _ (ab_wd_arr (ra := ra) (ρ := ρ) (dA := dA) e1 hq) (hty dA) hP hd ?_
          show W _ _ _ _ _ _ _ _ _ _ _ _ _ _ _ (F0 _ _ _ (va_rf ((sq s id j.toNatClampNeg).map _) :: _))
          rw [e2]
          exact hW ρ hρ H ls _ locs hL ⟨ab_vr_R (by rcases h8 with rfl | rfl <;> decide) (ab_q_lim e1 hH.2.2 e2), hS⟩ hH hV
      · omega
    · cases h
    · skip
      refine ⟨_, _, _, _, h, fun _ => rfl, fun ra fm D dA B0 p l e R U mt args below meth c C cells slots Q P hW ρ hρ H ls r locs hL hS hH hV => ?_⟩
      obtain ⟨hx, hlt, hb, hml, hr, hlk, hown, htb, hts, hB, hKK, hSF, hCV, hfm⟩ := C
      obtain ⟨w1, r1, er, hw1, hT⟩ := ab_sr_cons hS
      clear hS
      subst er
      have hS := hT
      clear hT
      obtain rfl := ab_vr_int hw1
      obtain ⟨w2, r2, er, hw2, hT⟩ := ab_sr_cons hS
      clear hS
      subst er
      have hS := hT
      clear hT
      obtain ⟨hi, rfl⟩ := ab_vr_get (ab_lt e1) hw2
      unfold ab_len at e0
      rw [e1] at e0
      obtain rfl := Option.some.inj e0
      obtain rfl := ab_13 hi
      have hj : j.toNatClampNeg < 33 := Nat.not_le.mp fun z => hP (Or.inr z)
      exact vb_tq hx hb hSF.2.2.1.2 hV hP rfl hd (hW ρ hρ H ls _ locs hL ⟨ab_vr_R (by decide) hj, hS⟩ hH hV)
    · cases h

theorem xs_iastore {X : (Nat → Int32) × Nat} {m pc n : Nat} {L : ab_L} {K : List ab_V} {s : ab_S} {β : Type} {G : Nat → ab_L → List ab_V → ab_S → Option β} {rr : Option ab_V → Option β} {y : β}
    (hd : decode (ab_by m) pc = .ok (.iastore, n)) (hil : ab_il (.iastore) n pc = true) (h : ab_x X (ab_rt m) (.iastore) n pc L K s G rr = some y) :
    ab_St X m pc L K s G y := by
  obtain rfl : n = 1 := Nat.eq_of_beq_eq_true hil
  obtain ⟨x, K0, eq9, h9⟩ := ab_pI_some h
  clear h
  subst eq9
  have h := h9
  clear h9
  obtain ⟨j, K1, eq9, h9⟩ := ab_pI_some h
  clear h
  subst eq9
  have h := h9
  clear h9
  obtain ⟨k, i, K2, eq9, h9⟩ := ab_pR_some h
  clear h
  subst eq9
  have h := h9
  clear h9
  obtain ⟨hc, h9⟩ := ab_cond_some h
  clear h
  have h := h9
  clear h9
  cases e0 : ab_len X k i with
  | none =>
    unfold ab_uI at h
    simp only [e0] at h
    cases h
  | some N =>
    cases e2 : ab_ai X k i s with
    | none =>
      unfold ab_uI at h
      simp only [e0, e2] at h
      cases h
    | some g =>
      unfold ab_uI at h
      simp only [e0, e2] at h
      by_cases hP : j < 0 ∨ N ≤ j.toNatClampNeg
      · rw [if_pos hP] at h
        cases h
      rw [if_neg hP] at h
      obtain ⟨e9, n9, so, id, e1⟩ := ab_len_k e0
      unfold ab_ai at e2
      rw [e1] at e2
      unfold ab_wi at h
      rw [e1] at h
      rcases ab_arr_k e1 with ⟨h5, hdy, hie, -, -, -, he⟩ | ⟨rfl, rfl, hno⟩ | ⟨rfl, rfl, rfl, hno, -⟩ | ⟨rfl, rfl, -⟩
      · have hN := ab_len_of e1 e0 h5
        subst hN
        obtain ⟨h1, rfl⟩ := hie hc
        rcases so with _ | _ | so
        · skip
          obtain rfl := Option.some.inj e2
          refine ⟨_, _, _, _, h, fun _ => rfl, fun ra fm D dA B0 p l e R U mt args below meth c C cells slots Q P hW ρ hρ H ls r locs hL hS hH hV => ?_⟩
          obtain ⟨hx, hlt, hb, hml, hr, hlk, hown, htb, hts, hB, hKK, hSF, hCV, hfm⟩ := C
          obtain ⟨w1, r1, er, hw1, hT⟩ := ab_sr_cons hS
          clear hS
          subst er
          have hS := hT
          clear hT
          obtain rfl := ab_vr_int hw1
          obtain ⟨w2, r2, er, hw2, hT⟩ := ab_sr_cons hS
          clear hS
          subst er
          have hS := hT
          clear hT
          obtain rfl := ab_vr_int hw2
          obtain ⟨w3, r3, er, hw3, hT⟩ := ab_sr_cons hS
          clear hS
          subst er
          have hS := hT
          clear hT
          obtain ⟨hi, rfl⟩ := ab_vr_get (ab_lt e1) hw3
          obtain ⟨q0, hq⟩ := ab_ob_at hdy hi
          refine va_iast hx hb hKK hH.1 hH.2.1 hV q0 0 (ab_wd_arr (ra := ra) (ρ := ρ) (dA := dA) e1 hq) rfl hP hd (fun H1 locs1 g1 g2 g3 => ?_)
          refine hW ρ hρ H1 ls r3 locs1 (ab_lr_mono (s := s) (s' := pa s id (va_up (sa s id) j.toNatClampNeg x)) (fun _ => Nat.le_refl _) (fun _ _ _ _ => rfl) hL) (ab_sr_mono (s := s) (s' := pa s id (va_up (sa s id) j.toNatClampNeg x)) (fun _ => Nat.le_refl _) (fun _ _ _ _ => rfl) hS) (ab_set_HR (s := s) (s' := pa s id (va_up (sa s id) j.toNatClampNeg x)) rfl hq hH.2.1 (ab_arrg (s := s) e1 (by decide) (fun i2 y2 => fv_pa i2 y2) (fun i2 e2 n2 so2 id2 h52 hne => ca_pa i2 e2 n2 so2 id2 h52 hne) (fun i2 hne hi2 => absurd (ab_one (ab_sing_a e1 (by decide)) hi hi2) hne)) hH.2.2 ?_ g1 g2) g3
          rw [ab_ct_arr e1]
          show Sum.inl ((dA 0, n9, Sum.inl (va_up s.2.2.2.2.1 id (va_up (sa s id) j.toNatClampNeg x) id)) : ClassId × vp_A) = _
          rw [va_up_self]
          rfl
        · skip
          obtain rfl := Option.some.inj e2
          refine ⟨_, _, _, _, h, fun _ => rfl, fun ra fm D dA B0 p l e R U mt args below meth c C cells slots Q P hW ρ hρ H ls r locs hL hS hH hV => ?_⟩
          obtain ⟨hx, hlt, hb, hml, hr, hlk, hown, htb, hts, hB, hKK, hSF, hCV, hfm⟩ := C
          obtain ⟨w1, r1, er, hw1, hT⟩ := ab_sr_cons hS
          clear hS
          subst er
          have hS := hT
          clear hT
          obtain rfl := ab_vr_int hw1
          obtain ⟨w2, r2, er, hw2, hT⟩ := ab_sr_cons hS
          clear hS
          subst er
          have hS := hT
          clear hT
          obtain rfl := ab_vr_int hw2
          obtain ⟨w3, r3, er, hw3, hT⟩ := ab_sr_cons hS
          clear hS
          subst er
          have hS := hT
          clear hT
          obtain ⟨hi, rfl⟩ := ab_vr_get (ab_lt e1) hw3
          obtain ⟨q0, hq⟩ := ab_ob_at hdy hi
          refine va_iast hx hb hKK hH.1 hH.2.1 hV q0 0 (ab_wd_arr (ra := ra) (ρ := ρ) (dA := dA) e1 hq) rfl hP hd (fun H1 locs1 g1 g2 g3 => ?_)
          refine hW ρ hρ H1 ls r3 locs1 (ab_lr_mono (s := s) (s' := pA s id (va_up (sA s id) i (va_up (sA s id i) j.toNatClampNeg x))) (fun _ => Nat.le_refl _) (fun _ _ _ _ => rfl) hL) (ab_sr_mono (s := s) (s' := pA s id (va_up (sA s id) i (va_up (sA s id i) j.toNatClampNeg x))) (fun _ => Nat.le_refl _) (fun _ _ _ _ => rfl) hS) (ab_set_HR (s := s) (s' := pA s id (va_up (sA s id) i (va_up (sA s id i) j.toNatClampNeg x))) rfl hq hH.2.1 (ab_arrg (s := s) e1 (by decide) (fun i2 y2 => fv_pA i2 y2) (fun i2 e2 n2 so2 id2 h52 hne => ca_pA i2 e2 n2 so2 id2 h52 hne) (fun i2 hne hi2 => by
              show ((dA 0, n9, Sum.inl (va_up s.2.2.2.2.2.1 id (va_up (sA s id) i (va_up (sA s id i) j.toNatClampNeg x)) id i2)) : ClassId × vp_A) = _
              rw [va_up_self, va_up_ne _ _ hne]
              rfl)) hH.2.2 ?_ g1 g2) g3
          rw [ab_ct_arr e1]
          show Sum.inl ((dA 0, n9, Sum.inl (va_up s.2.2.2.2.2.1 id (va_up (sA s id) i (va_up (sA s id i) j.toNatClampNeg x)) id i)) : ClassId × vp_A) = _
          rw [va_up_self, va_up_self]
          rfl
        · omega
      · rw [hno] at hc
        cases hc
      · rw [hno] at hc
        cases hc
      · cases h

theorem xs_bastore {X : (Nat → Int32) × Nat} {m pc n : Nat} {L : ab_L} {K : List ab_V} {s : ab_S} {β : Type} {G : Nat → ab_L → List ab_V → ab_S → Option β} {rr : Option ab_V → Option β} {y : β}
    (hd : decode (ab_by m) pc = .ok (.bastore, n)) (hil : ab_il (.bastore) n pc = true) (h : ab_x X (ab_rt m) (.bastore) n pc L K s G rr = some y) :
    ab_St X m pc L K s G y := by
  obtain rfl : n = 1 := Nat.eq_of_beq_eq_true hil
  obtain ⟨x, K0, eq9, h9⟩ := ab_pI_some h
  clear h
  subst eq9
  have h := h9
  clear h9
  obtain ⟨j, K1, eq9, h9⟩ := ab_pI_some h
  clear h
  subst eq9
  have h := h9
  clear h9
  obtain ⟨k, i, K2, eq9, h9⟩ := ab_pR_some h
  clear h
  subst eq9
  have h := h9
  clear h9
  by_cases hx1 : x = 1
  case neg =>
    rw [if_neg hx1] at h
    cases h
  rw [if_pos hx1] at h
  subst hx1
  obtain ⟨hc, h9⟩ := ab_cond_some h
  clear h
  have h := h9
  clear h9
  cases e0 : ab_len X k i with
  | none =>
    unfold ab_uI at h
    simp only [e0] at h
    cases h
  | some N =>
    cases e2 : ab_ai X k i s with
    | none =>
      unfold ab_uI at h
      simp only [e0, e2] at h
      cases h
    | some g =>
      unfold ab_uI at h
      simp only [e0, e2] at h
      by_cases hP : j < 0 ∨ N ≤ j.toNatClampNeg
      · rw [if_pos hP] at h
        cases h
      rw [if_neg hP] at h
      obtain ⟨e9, n9, so, id, e1⟩ := ab_len_k e0
      unfold ab_ai at e2
      rw [e1] at e2
      unfold ab_wi at h
      rw [e1] at h
      rcases ab_arr_k e1 with ⟨h5, hdy, -, hie, -, -, he⟩ | ⟨rfl, rfl, -⟩ | ⟨rfl, rfl, rfl, -, hno⟩ | ⟨rfl, rfl, hno⟩
      · have hN := ab_len_of e1 e0 h5
        subst hN
        obtain ⟨rfl, rfl⟩ := hie hc
        case _ =>
          obtain rfl := Option.some.inj e2
          refine ⟨_, _, _, _, h, fun _ => rfl, fun ra fm D dA B0 p l e R U mt args below meth c C cells slots Q P hW ρ hρ H ls r locs hL hS hH hV => ?_⟩
          obtain ⟨hx, hlt, hb, hml, hr, hlk, hown, htb, hts, hB, hKK, hSF, hCV, hfm⟩ := C
          obtain ⟨w1, r1, er, hw1, hT⟩ := ab_sr_cons hS
          clear hS
          subst er
          have hS := hT
          clear hT
          obtain rfl := ab_vr_int hw1
          obtain ⟨w2, r2, er, hw2, hT⟩ := ab_sr_cons hS
          clear hS
          subst er
          have hS := hT
          clear hT
          obtain rfl := ab_vr_int hw2
          obtain ⟨w3, r3, er, hw3, hT⟩ := ab_sr_cons hS
          clear hS
          subst er
          have hS := hT
          clear hT
          obtain ⟨hi, rfl⟩ := ab_vr_get (ab_lt e1) hw3
          obtain ⟨q0, hq⟩ := ab_ob_at hdy hi
          refine va_zast hx hb hKK hH.1 hH.2.1 hV q0 2 (ab_wd_arr (ra := ra) (ρ := ρ) (dA := dA) e1 hq) rfl hP hd (fun H1 locs1 g1 g2 g3 => ?_)
          refine hW ρ hρ H1 ls r3 locs1 (ab_lr_mono (s := s) (s' := pa s id (va_up (sa s id) j.toNatClampNeg 1)) (fun _ => Nat.le_refl _) (fun _ _ _ _ => rfl) hL) (ab_sr_mono (s := s) (s' := pa s id (va_up (sa s id) j.toNatClampNeg 1)) (fun _ => Nat.le_refl _) (fun _ _ _ _ => rfl) hS) (ab_set_HR (s := s) (s' := pa s id (va_up (sa s id) j.toNatClampNeg 1)) rfl hq hH.2.1 (ab_arrg (s := s) e1 (by decide) (fun i2 y2 => fv_pa i2 y2) (fun i2 e2 n2 so2 id2 h52 hne => ca_pa i2 e2 n2 so2 id2 h52 hne) (fun i2 hne hi2 => absurd (ab_one (ab_sing_a e1 (by decide)) hi hi2) hne)) hH.2.2 ?_ g1 g2) g3
          rw [ab_ct_arr e1]
          show Sum.inl ((dA 2, n9, Sum.inl (va_up s.2.2.2.2.1 id (va_up (sa s id) j.toNatClampNeg 1) id)) : ClassId × vp_A) = _
          rw [va_up_self]
          rfl
      · cases h
      · rw [hno] at hc
        cases hc
      · rw [hno] at hc
        cases hc

theorem xs_lastore {X : (Nat → Int32) × Nat} {m pc n : Nat} {L : ab_L} {K : List ab_V} {s : ab_S} {β : Type} {G : Nat → ab_L → List ab_V → ab_S → Option β} {rr : Option ab_V → Option β} {y : β}
    (hd : decode (ab_by m) pc = .ok (.lastore, n)) (hil : ab_il (.lastore) n pc = true) (h : ab_x X (ab_rt m) (.lastore) n pc L K s G rr = some y) :
    ab_St X m pc L K s G y := by
  obtain rfl : n = 1 := Nat.eq_of_beq_eq_true hil
  obtain ⟨x, K0, eq9, h9⟩ := ab_pJ_some h
  clear h
  subst eq9
  have h := h9
  clear h9
  obtain ⟨j, K1, eq9, h9⟩ := ab_pI_some h
  clear h
  subst eq9
  have h := h9
  clear h9
  obtain ⟨k, i, K2, eq9, h9⟩ := ab_pR_some h
  clear h
  subst eq9
  have h := h9
  clear h9
  cases e0 : ab_len X k i with
  | none =>
    unfold ab_uL at h
    simp only [e0] at h
    cases h
  | some N =>
    cases e2 : ab_al k i s with
    | none =>
      unfold ab_uL at h
      simp only [e0, e2] at h
      cases h
    | some g =>
      unfold ab_uL at h
      simp only [e0, e2] at h
      by_cases hP : j < 0 ∨ N ≤ j.toNatClampNeg
      · rw [if_pos hP] at h
        cases h
      rw [if_neg hP] at h
      obtain ⟨e9, n9, so, id, e1⟩ := ab_len_k e0
      unfold ab_al at e2
      rw [e1] at e2
      unfold ab_wl at h
      rw [e1] at h
      rcases ab_arr_k e1 with ⟨h5, hdy, -⟩ | ⟨rfl, rfl, -⟩ | ⟨rfl, rfl, rfl, -⟩ | ⟨rfl, rfl, -⟩
      · have hN := ab_len_of e1 e0 h5
        subst hN
        rcases so with _ | _ | _ | _ | so
        · cases e2
        · cases e2
        · skip
          obtain rfl := Option.some.inj e2
          refine ⟨_, _, _, _, h, fun _ => rfl, fun ra fm D dA B0 p l e R U mt args below meth c C cells slots Q P hW ρ hρ H ls r locs hL hS hH hV => ?_⟩
          obtain ⟨hx, hlt, hb, hml, hr, hlk, hown, htb, hts, hB, hKK, hSF, hCV, hfm⟩ := C
          obtain ⟨w1, r1, er, hw1, hT⟩ := ab_sr_cons hS
          clear hS
          subst er
          have hS := hT
          clear hT
          obtain rfl := ab_vr_long hw1
          obtain ⟨w2, r2, er, hw2, hT⟩ := ab_sr_cons hS
          clear hS
          subst er
          have hS := hT
          clear hT
          obtain rfl := ab_vr_int hw2
          obtain ⟨w3, r3, er, hw3, hT⟩ := ab_sr_cons hS
          clear hS
          subst er
          have hS := hT
          clear hT
          obtain ⟨hi, rfl⟩ := ab_vr_get (ab_lt e1) hw3
          obtain ⟨q0, hq⟩ := ab_ob_at hdy hi
          refine va_last hx hb hKK hH.1 hH.2.1 hV q0 1 (ab_wd_arr (ra := ra) (ρ := ρ) (dA := dA) e1 hq) rfl hP hd (fun H1 locs1 g1 g2 g3 => ?_)
          refine hW ρ hρ H1 ls r3 locs1 (ab_lr_mono (s := s) (s' := pb s id (va_up (sb s id) j.toNatClampNeg x)) (fun _ => Nat.le_refl _) (fun _ _ _ _ => rfl) hL) (ab_sr_mono (s := s) (s' := pb s id (va_up (sb s id) j.toNatClampNeg x)) (fun _ => Nat.le_refl _) (fun _ _ _ _ => rfl) hS) (ab_set_HR (s := s) (s' := pb s id (va_up (sb s id) j.toNatClampNeg x)) rfl hq hH.2.1 (ab_arrg (s := s) e1 (by decide) (fun i2 y2 => fv_pb i2 y2) (fun i2 e2 n2 so2 id2 h52 hne => ca_pb i2 e2 n2 so2 id2 h52 hne) (fun i2 hne hi2 => absurd (ab_one (ab_sing_a e1 (by decide)) hi hi2) hne)) hH.2.2 ?_ g1 g2) g3
          rw [ab_ct_arr e1]
          show Sum.inl ((dA 1, n9, Sum.inr (.inl (va_up s.2.2.2.2.2.2.1 id (va_up (sb s id) j.toNatClampNeg x) id))) : ClassId × vp_A) = _
          rw [va_up_self]
          rfl
        · skip
          obtain rfl := Option.some.inj e2
          refine ⟨_, _, _, _, h, fun _ => rfl, fun ra fm D dA B0 p l e R U mt args below meth c C cells slots Q P hW ρ hρ H ls r locs hL hS hH hV => ?_⟩
          obtain ⟨hx, hlt, hb, hml, hr, hlk, hown, htb, hts, hB, hKK, hSF, hCV, hfm⟩ := C
          obtain ⟨w1, r1, er, hw1, hT⟩ := ab_sr_cons hS
          clear hS
          subst er
          have hS := hT
          clear hT
          obtain rfl := ab_vr_long hw1
          obtain ⟨w2, r2, er, hw2, hT⟩ := ab_sr_cons hS
          clear hS
          subst er
          have hS := hT
          clear hT
          obtain rfl := ab_vr_int hw2
          obtain ⟨w3, r3, er, hw3, hT⟩ := ab_sr_cons hS
          clear hS
          subst er
          have hS := hT
          clear hT
          obtain ⟨hi, rfl⟩ := ab_vr_get (ab_lt e1) hw3
          obtain ⟨q0, hq⟩ := ab_ob_at hdy hi
          refine va_last hx hb hKK hH.1 hH.2.1 hV q0 1 (ab_wd_arr (ra := ra) (ρ := ρ) (dA := dA) e1 hq) rfl hP hd (fun H1 locs1 g1 g2 g3 => ?_)
          refine hW ρ hρ H1 ls r3 locs1 (ab_lr_mono (s := s) (s' := pB s id (va_up (sB s id) i (va_up (sB s id i) j.toNatClampNeg x))) (fun _ => Nat.le_refl _) (fun _ _ _ _ => rfl) hL) (ab_sr_mono (s := s) (s' := pB s id (va_up (sB s id) i (va_up (sB s id i) j.toNatClampNeg x))) (fun _ => Nat.le_refl _) (fun _ _ _ _ => rfl) hS) (ab_set_HR (s := s) (s' := pB s id (va_up (sB s id) i (va_up (sB s id i) j.toNatClampNeg x))) rfl hq hH.2.1 (ab_arrg (s := s) e1 (by decide) (fun i2 y2 => fv_pB i2 y2) (fun i2 e2 n2 so2 id2 h52 hne => ca_pB i2 e2 n2 so2 id2 h52 hne) (fun i2 hne hi2 => by
              show ((dA 1, n9, Sum.inr (.inl (va_up s.2.2.2.2.2.2.2.1 id (va_up (sB s id) i (va_up (sB s id i) j.toNatClampNeg x)) id i2))) : ClassId × vp_A) = _
              rw [va_up_self, va_up_ne _ _ hne]
              rfl)) hH.2.2 ?_ g1 g2) g3
          rw [ab_ct_arr e1]
          show Sum.inl ((dA 1, n9, Sum.inr (.inl (va_up s.2.2.2.2.2.2.2.1 id (va_up (sB s id) i (va_up (sB s id i) j.toNatClampNeg x)) id i))) : ClassId × vp_A) = _
          rw [va_up_self, va_up_self]
          rfl
        · obtain rfl : so = 0 := by omega
          cases e2
      · cases e2
      · cases e2
      · cases e2

theorem xs_aastore {X : (Nat → Int32) × Nat} {m pc n : Nat} {L : ab_L} {K : List ab_V} {s : ab_S} {β : Type} {G : Nat → ab_L → List ab_V → ab_S → Option β} {rr : Option ab_V → Option β} {y : β}
    (hd : decode (ab_by m) pc = .ok (.aastore, n)) (hil : ab_il (.aastore) n pc = true) (h : ab_x X (ab_rt m) (.aastore) n pc L K s G rr = some y) :
    ab_St X m pc L K s G y := by
  obtain rfl : n = 1 := Nat.eq_of_beq_eq_true hil
  obtain ⟨v, K0, eq9, h9⟩ := ab_p_some h
  clear h
  subst eq9
  have h := h9
  clear h9
  obtain ⟨j, K1, eq9, h9⟩ := ab_pI_some h
  clear h
  subst eq9
  have h := h9
  clear h9
  obtain ⟨k, i, K2, eq9, h9⟩ := ab_pR_some h
  clear h
  subst eq9
  have h := h9
  clear h9
  unfold ab_uA at h
  cases e0 : ab_len X k i with
  | none =>
    simp only [e0] at h
    cases h
  | some N =>
    simp only [e0] at h
    by_cases hP : j < 0 ∨ N ≤ j.toNatClampNeg
    · rw [if_pos hP] at h
      cases h
    rw [if_neg hP] at h
    obtain ⟨e9, n9, so, id, e1⟩ := ab_len_k e0
    unfold ab_wr at h
    rw [e1] at h
    rcases ab_arr_k e1 with ⟨h5, hdy, -, -, h4, -, -⟩ | ⟨rfl, rfl, -⟩ | ⟨rfl, rfl, rfl, -⟩ | ⟨rfl, rfl, -⟩
    · rcases so with _ | _ | _ | _ | _ | so
      · cases h
      · cases h
      · cases h
      · cases h
      · have hN := ab_len_of e1 e0 h5
        subst hN
        obtain ⟨hg0, h8⟩ := h4 rfl
        cases v with
        | inl x => cases h
        | inr q =>
          obtain ⟨k2, t⟩ := q
          have h' : (match (bif Nat.beq k2 e9 then some (pq s id (va_up (sq s id) j.toNatClampNeg (some t))) else none) with
            | some s' => G (pc + 1) L K2 s'
            | none => none) = some y := h
          clear h
          cases e3 : Nat.beq k2 e9 with
          | false =>
            rw [e3] at h'
            cases h'
          | true =>
            rw [e3] at h'
            have h : G (pc + 1) L K2 (pq s id (va_up (sq s id) j.toNatClampNeg (some t))) = some y := h'
            clear h'
            obtain rfl := Nat.eq_of_beq_eq_true e3
            refine ⟨_, _, _, _, h, fun _ => rfl, fun ra fm D dA B0 p l e R U mt args below meth c C cells slots Q P hW ρ hρ H ls r locs hL hS hH hV => ?_⟩
            obtain ⟨hx, hlt, hb, hml, hr, hlk, hown, htb, hts, hB, hKK, hSF, hCV, hfm⟩ := C
            obtain ⟨w1, r1, er, hw1, hT⟩ := ab_sr_cons hS
            clear hS
            subst er
            have hS := hT
            clear hT
            obtain ⟨w2, r2, er, hw2, hT⟩ := ab_sr_cons hS
            clear hS
            subst er
            have hS := hT
            clear hT
            obtain rfl := ab_vr_int hw2
            obtain ⟨w3, r3, er, hw3, hT⟩ := ab_sr_cons hS
            clear hS
            subst er
            have hS := hT
            clear hT
            obtain ⟨hi, rfl⟩ := ab_vr_get (ab_lt e1) hw3
            obtain ⟨ht, rfl⟩ := ab_vr_get (by rcases h8 with rfl | rfl <;> decide) hw1
            obtain ⟨q0, hq⟩ := ab_ob_at hdy hi
            have hd2 : ab_dy k2 = true := by rcases h8 with rfl | rfl <;> rfl
            obtain ⟨qk, hqk⟩ := ab_ob_at hd2 ht
            have hck : ∃ vs : List Value, (ab_wd ra ρ dA s)[qk]? = some (ab_ad ra ρ k2 t, .inr (k2, vs)) := by
              have q := ab_wd_at (ra := ra) (ρ := ρ) (dA := dA) hqk
              rcases h8 with rfl | rfl <;> exact ⟨_, q⟩
            obtain ⟨vs, hck⟩ := hck
            have hcl : ∃ rr2 : vw_C, ab_cl[k2]? = some rr2 ∧ (ab_ty dA)[(if k2 = 8 then 3 else 4)]? = some (dA (if k2 = 8 then 3 else 4), .object rr2.1) := by
              rcases h8 with rfl | rfl <;> exact ⟨_, rfl, rfl⟩
            obtain ⟨rr2, hc1, hc2⟩ := hcl
            refine va_astq hx hb hKK hH.1 hH.2.1 hV q0 _ qk k2 (ab_wd_arr (ra := ra) (ρ := ρ) (dA := dA) e1 hq) hc2 hck hc1 hP hd (fun H1 locs1 g1 g2 g3 => ?_)
            refine hW ρ hρ H1 ls r3 locs1 (ab_lr_mono (s := s) (s' := pq s id (va_up (sq s id) j.toNatClampNeg (some t))) (fun _ => Nat.le_refl _) (fun _ _ _ _ => rfl) hL) (ab_sr_mono (s := s) (s' := pq s id (va_up (sq s id) j.toNatClampNeg (some t))) (fun _ => Nat.le_refl _) (fun _ _ _ _ => rfl) hS) (ab_set_HR (s := s) (s' := pq s id (va_up (sq s id) j.toNatClampNeg (some t))) rfl hq hH.2.1 (ab_arrg (s := s) e1 (by decide) (fun i2 y2 => fv_pq i2 y2) (fun i2 e2 n2 so2 id2 h52 hne => ca_pq i2 e2 n2 so2 id2 h52 hne) (fun i2 hne hi2 => absurd (ab_one hg0 hi hi2) hne)) (ab_q_wf e1 hH.2.2 ht) ?_ g1 g2) g3
            rw [ab_ct_arr e1]
            show Sum.inl ((dA (if k2 = 8 then 3 else 4), n9, Sum.inr (.inr (.inr (.inr (fun z => (va_up s.2.2.2.2.2.2.2.2.1 id (va_up (sq s id) j.toNatClampNeg (some t)) id z).map (ab_ad ra ρ k2)))))) : ClassId × vp_A) = _
            rw [va_up_self]
            congr 6
            refine congrArg Sum.inr ?_
            funext z
            by_cases hz : z = j.toNatClampNeg
            · subst hz
              rw [va_up_self, va_up_self]
              rfl
            · rw [va_up_ne _ _ hz, va_up_ne _ _ hz]
      · omega
    · cases h
    · cases h
    · cases h

theorem ab_rts : (List.range 361).all (fun m => match ab_rt m with
  | 0 => decide (ab_fty m = none)
  | 1 => decide (ab_fty m = some .int)
  | 2 => decide (ab_fty m = some .long)
  | 3 => (match ab_fty m with
    | some (.object _) => true
    | _ => false)
  | 4 => decide (ab_fty m = some .boolean)
  | 5 => decide (ab_fty m = some .byte)
  | 6 => decide (ab_fty m = some .char)
  | _ => false) = true := by decide +kernel
theorem ab_ret1 {α : Type} {y : α} {K : List ab_V} {f : Int32 → Option α} (h : (match K with
  | [.inl (.int x)] => f x
  | _ => none) = some y) : ∃ x : Int32, K = [.inl (.int x)] ∧ f x = some y := by
  split at h
  · exact ⟨_, rfl, h⟩
  · cases h
theorem ab_ret2 {α : Type} {y : α} {K : List ab_V} {f : Int64 → Option α} (h : (match K with
  | [.inl (.long x)] => f x
  | _ => none) = some y) : ∃ x : Int64, K = [.inl (.long x)] ∧ f x = some y := by
  split at h
  · exact ⟨_, rfl, h⟩
  · cases h
theorem ab_ret3 {α : Type} {y : α} {K : List ab_V} {f : Nat × Nat → Option α} (h : (match K with
  | [.inr q] => f q
  | _ => none) = some y) : ∃ q : Nat × Nat, K = [.inr q] ∧ f q = some y := by
  split at h
  · exact ⟨_, rfl, h⟩
  · cases h
theorem ab_ret0 {α : Type} {y : α} {K : List ab_V} {f : Option α} (h : (match K with
  | [] => f
  | _ => none) = some y) : K = [] ∧ f = some y := by
  split at h
  · exact ⟨rfl, h⟩
  · cases h

theorem xr_return_ {X : (Nat → Int32) × Nat} {m pc n : Nat} {L : ab_L} {K : List ab_V} {s : ab_S} {β : Type} {G : Nat → ab_L → List ab_V → ab_S → Option β} {rr : Option ab_V → Option β} {y : β}
    (hm : m < 361) (hd : decode (ab_by m) pc = .ok (.return_, n)) (hil : ab_il (.return_) n pc = true) (h : ab_x X (ab_rt m) (.return_) n pc L K s G rr = some y) :
    ab_Rt X m pc L K s rr y := by
  obtain rfl : n = 1 := Nat.eq_of_beq_eq_true hil
  have hrt := List.all_eq_true.mp ab_rts m (List.mem_range.mpr hm)
  obtain ⟨eq9, h9⟩ := ab_ret0 h
  clear h
  subst eq9
  have h := h9
  clear h9
  cases e1 : ab_rt m with
  | succ k =>
    rw [e1] at h
    cases h
  | zero =>
    rw [e1] at h hrt
    have hf := of_decide_eq_true hrt
    refine ⟨_, h, fun ra fm D dA B0 p l e R U mt args below meth c C Qc XC mc ms cells slots hc hs P hQ ρ hρ H ls r locs hL hS hH hV => ?_⟩
    obtain ⟨hx, hlt, hb, hml, hr, hlk, hown, htb, hts, hB, hKK, hSF, hCV, hfm⟩ := C
    refine W.widen hc hs (vx_ret ?_)
    cases r with
    | cons _ _ => exact hS.elim
    | nil => exact W.vret hx hb (hr.trans hf) (fun t h1 h2 => hQ ρ H t _ locs hρ hH hV h1 h2 rfl) (fun q hq => hV.2.2 q hq) hd hlk

theorem xr_lreturn {X : (Nat → Int32) × Nat} {m pc n : Nat} {L : ab_L} {K : List ab_V} {s : ab_S} {β : Type} {G : Nat → ab_L → List ab_V → ab_S → Option β} {rr : Option ab_V → Option β} {y : β}
    (hm : m < 361) (hd : decode (ab_by m) pc = .ok (.lreturn, n)) (hil : ab_il (.lreturn) n pc = true) (h : ab_x X (ab_rt m) (.lreturn) n pc L K s G rr = some y) :
    ab_Rt X m pc L K s rr y := by
  obtain rfl : n = 1 := Nat.eq_of_beq_eq_true hil
  have hrt := List.all_eq_true.mp ab_rts m (List.mem_range.mpr hm)
  obtain ⟨x, eq9, h9⟩ := ab_ret2 h
  clear h
  subst eq9
  have h := h9
  clear h9
  have e1 : ab_rt m = 2 := by
    by_cases z : ab_rt m = 2
    · exact z
    · exfalso
      revert h
      generalize ab_rt m = k9 at z ⊢
      intro h
      rcases k9 with _ | _ | _ | k <;> first | exact z rfl | cases h
  rw [e1] at h hrt
  have hf := of_decide_eq_true hrt
  refine ⟨_, h, fun ra fm D dA B0 p l e R U mt args below meth c C Qc XC mc ms cells slots hc hs P hQ ρ hρ H ls r locs hL hS hH hV => ?_⟩
  obtain ⟨hx, hlt, hb, hml, hr, hlk, hown, htb, hts, hB, hKK, hSF, hCV, hfm⟩ := C
  refine W.widen hc hs (vx_ret ?_)
  obtain ⟨w1, r1, er, hw1, hT⟩ := ab_sr_cons hS
  clear hS
  subst er
  have hS := hT
  clear hT
  cases r1 with
  | cons _ _ => exact hS.elim
  | nil =>
    obtain rfl := ab_vr_long hw1
    exact W.lret hx hb (hr.trans hf) (fun t h1 h2 => hQ ρ H t _ locs hρ hH hV h1 h2 ⟨_, rfl, hw1⟩) (fun q hq => hV.2.2 q hq) hd hlk

theorem xr_areturn {X : (Nat → Int32) × Nat} {m pc n : Nat} {L : ab_L} {K : List ab_V} {s : ab_S} {β : Type} {G : Nat → ab_L → List ab_V → ab_S → Option β} {rr : Option ab_V → Option β} {y : β}
    (hm : m < 361) (hd : decode (ab_by m) pc = .ok (.areturn, n)) (hil : ab_il (.areturn) n pc = true) (h : ab_x X (ab_rt m) (.areturn) n pc L K s G rr = some y) :
    ab_Rt X m pc L K s rr y := by
  obtain rfl : n = 1 := Nat.eq_of_beq_eq_true hil
  have hrt := List.all_eq_true.mp ab_rts m (List.mem_range.mpr hm)
  obtain ⟨q, eq9, h9⟩ := ab_ret3 h
  clear h
  subst eq9
  have h := h9
  clear h9
  have e1 : ab_rt m = 3 := by
    by_cases z : ab_rt m = 3
    · exact z
    · exfalso
      revert h
      generalize ab_rt m = k9 at z ⊢
      intro h
      rcases k9 with _ | _ | _ | _ | k <;> first | exact z rfl | cases h
  rw [e1] at h hrt
  have hf : ∃ nm : String, ab_fty m = some (.object nm) := by
    cases e2 : ab_fty m with
    | none =>
      rw [e2] at hrt
      cases hrt
    | some ty =>
      rw [e2] at hrt
      cases ty <;> first | exact ⟨_, rfl⟩ | cases hrt
  obtain ⟨nm, hf⟩ := hf
  refine ⟨_, h, fun ra fm D dA B0 p l e R U mt args below meth c C Qc XC mc ms cells slots hc hs P hQ ρ hρ H ls r locs hL hS hH hV => ?_⟩
  obtain ⟨hx, hlt, hb, hml, hr, hlk, hown, htb, hts, hB, hKK, hSF, hCV, hfm⟩ := C
  refine W.widen hc hs (vx_ret ?_)
  obtain ⟨w1, r1, er, hw1, hT⟩ := ab_sr_cons hS
  clear hS
  subst er
  have hS := hT
  clear hT
  cases r1 with
  | cons _ _ => exact hS.elim
  | nil =>
    exact W.aret hx hb (hr.trans hf) (Or.inl ⟨_, rfl⟩) (ab_vr_ref hfm (Or.inr ⟨_, rfl⟩) hw1) (fun t h1 h2 => hQ ρ H t _ locs hρ hH hV h1 h2 ⟨_, rfl, hw1⟩) (fun q hq => hV.2.2 q hq) hd hlk

theorem xr_ireturn {X : (Nat → Int32) × Nat} {m pc n : Nat} {L : ab_L} {K : List ab_V} {s : ab_S} {β : Type} {G : Nat → ab_L → List ab_V → ab_S → Option β} {rr : Option ab_V → Option β} {y : β}
    (hm : m < 361) (hd : decode (ab_by m) pc = .ok (.ireturn, n)) (hil : ab_il (.ireturn) n pc = true) (h : ab_x X (ab_rt m) (.ireturn) n pc L K s G rr = some y) :
    ab_Rt X m pc L K s rr y := by
  obtain rfl : n = 1 := Nat.eq_of_beq_eq_true hil
  have hrt := List.all_eq_true.mp ab_rts m (List.mem_range.mpr hm)
  obtain ⟨x, eq9, h9⟩ := ab_ret1 h
  clear h
  subst eq9
  have h := h9
  clear h9
  have key : ∀ (ty : FieldType) (v : Int32), ab_fty m = some ty → narrow ty (.int v) = .int v → x = v → rr (some (.inl (.int v))) = some y → ab_Rt X m pc L [.inl (.int x)] s rr y := by
    intro ty v h1 h2 h3 h4
    subst h3
    refine ⟨_, h4, fun ra fm D dA B0 p l e R U mt args below meth c C Qc XC mc ms cells slots hc hs P hQ ρ hρ H ls r locs hL hS hH hV => ?_⟩
    obtain ⟨hx, hlt, hb, hml, hr, hlk, hown, htb, hts, hB, hKK, hSF, hCV, hfm⟩ := C
    refine W.widen hc hs (vx_ret ?_)
    obtain ⟨w1, r1, er, hw1, hT⟩ := ab_sr_cons hS
    clear hS
    subst er
    have hS := hT
    clear hT
    cases r1 with
    | cons _ _ => exact hS.elim
    | nil =>
      obtain rfl := ab_vr_int hw1
      exact W.zret hx hb (hr.trans h1) h2 (fun t g1 g2 => hQ ρ H t _ locs hρ hH hV g1 g2 ⟨_, rfl, hw1⟩) (fun q hq => hV.2.2 q hq) hd hlk
  rcases e1 : ab_rt m with _ | _ | _ | _ | _ | _ | _ | k
  · rw [e1] at h
    cases h
  · rw [e1] at h hrt
    exact key .int x (of_decide_eq_true hrt) rfl rfl h
  · rw [e1] at h
    cases h
  · rw [e1] at h
    cases h
  · rw [e1] at h hrt
    have h : (if x = 0 then rr (some (.inl (.int 0))) else if x = 1 then rr (some (.inl (.int 1))) else none) = some y := h
    by_cases h0 : x = 0
    · rw [if_pos h0] at h
      exact key .boolean 0 (of_decide_eq_true hrt) rfl h0 h
    · rw [if_neg h0] at h
      by_cases h1 : x = 1
      · rw [if_pos h1] at h
        exact key .boolean 1 (of_decide_eq_true hrt) rfl h1 h
      · rw [if_neg h1] at h
        cases h
  · rw [e1] at h hrt
    have h : (if x.toInt8.toInt32 = x then rr (some (.inl (.int x))) else none) = some y := h
    by_cases h0 : x.toInt8.toInt32 = x
    · rw [if_pos h0] at h
      exact key .byte x (of_decide_eq_true hrt) (by show Value.int x.toInt8.toInt32 = _; rw [h0]) rfl h
    · rw [if_neg h0] at h
      cases h
  · rw [e1] at h hrt
    have h : (if (x.toUInt32 % 65536).toInt32 = x then rr (some (.inl (.int x))) else none) = some y := h
    by_cases h0 : (x.toUInt32 % 65536).toInt32 = x
    · rw [if_pos h0] at h
      exact key .char x (of_decide_eq_true hrt) (by have q9 := pk_nc x; rw [h0] at q9; exact q9) rfl h
    · rw [if_neg h0] at h
      cases h
  · rw [e1] at h
    cases h

theorem ab_x_snd {X : (Nat → Int32) × Nat} {m pc n : Nat} {L : ab_L} {K : List ab_V} {s : ab_S} {β : Type} {G : Nat → ab_L → List ab_V → ab_S → Option β} {rr : Option ab_V → Option β} {y : β} {I : Instr}
    (hm : m < 361) (hd : decode (ab_by m) pc = .ok (I, n)) (hil : ab_il I n pc = true) (h : ab_x X (ab_rt m) I n pc L K s G rr = some y) :
    ab_St X m pc L K s G y ∨ ab_Rt X m pc L K s rr y := by
  cases I
  case iadd => exact Or.inl (xs_iadd hd hil h)
  case isub => exact Or.inl (xs_isub hd hil h)
  case imul => exact Or.inl (xs_imul hd hil h)
  case iand => exact Or.inl (xs_iand hd hil h)
  case ior => exact Or.inl (xs_ior hd hil h)
  case ixor => exact Or.inl (xs_ixor hd hil h)
  case ishl => exact Or.inl (xs_ishl hd hil h)
  case ishr => exact Or.inl (xs_ishr hd hil h)
  case iushr => exact Or.inl (xs_iushr hd hil h)
  case ladd => exact Or.inl (xs_ladd hd hil h)
  case lsub => exact Or.inl (xs_lsub hd hil h)
  case lmul => exact Or.inl (xs_lmul hd hil h)
  case land => exact Or.inl (xs_land hd hil h)
  case lor => exact Or.inl (xs_lor hd hil h)
  case lxor => exact Or.inl (xs_lxor hd hil h)
  case idiv => exact Or.inl (xs_idiv hd hil h)
  case irem => exact Or.inl (xs_irem hd hil h)
  case ldiv => exact Or.inl (xs_ldiv hd hil h)
  case lrem => exact Or.inl (xs_lrem hd hil h)
  case ineg => exact Or.inl (xs_ineg hd hil h)
  case lneg => exact Or.inl (xs_lneg hd hil h)
  case lshl => exact Or.inl (xs_lshl hd hil h)
  case lshr => exact Or.inl (xs_lshr hd hil h)
  case lushr => exact Or.inl (xs_lushr hd hil h)
  case lcmp => exact Or.inl (xs_lcmp hd hil h)
  case i2l => exact Or.inl (xs_i2l hd hil h)
  case l2i => exact Or.inl (xs_l2i hd hil h)
  case i2b => exact Or.inl (xs_i2b hd hil h)
  case i2s => exact Or.inl (xs_i2s hd hil h)
  case i2c => exact Or.inl (xs_i2c hd hil h)
  case pop => exact Or.inl (xs_pop hd hil h)
  case pop2 => exact Or.inl (xs_pop2 hd hil h)
  case dup => exact Or.inl (xs_dup hd hil h)
  case dup2 => exact Or.inl (xs_dup2 hd hil h)
  case iconst => exact Or.inl (xs_iconst hd hil h)
  case bipush => exact Or.inl (xs_bipush hd hil h)
  case sipush => exact Or.inl (xs_sipush hd hil h)
  case lconst => exact Or.inl (xs_lconst hd hil h)
  case iload => exact Or.inl (xs_iload hd hil h)
  case iload_n => exact Or.inl (xs_iload_n hd hil h)
  case lload => exact Or.inl (xs_lload hd hil h)
  case lload_n => exact Or.inl (xs_lload_n hd hil h)
  case aload => exact Or.inl (xs_aload hd hil h)
  case aload_n => exact Or.inl (xs_aload_n hd hil h)
  case istore => exact Or.inl (xs_istore hd hil h)
  case istore_n => exact Or.inl (xs_istore_n hd hil h)
  case lstore => exact Or.inl (xs_lstore hd hil h)
  case lstore_n => exact Or.inl (xs_lstore_n hd hil h)
  case astore => exact Or.inl (xs_astore hd hil h)
  case astore_n => exact Or.inl (xs_astore_n hd hil h)
  case iinc => exact Or.inl (xs_iinc hd hil h)
  case goto => exact Or.inl (xs_goto hd hil h)
  case ifCond => exact Or.inl (xs_ifCond hd hil h)
  case if_icmp => exact Or.inl (xs_if_icmp hd hil h)
  case if_acmp => exact Or.inl (xs_if_acmp hd hil h)
  case ifnull => exact Or.inl (xs_ifnull hd hil h)
  case ifnonnull => exact Or.inl (xs_ifnonnull hd hil h)
  case tableswitch => exact Or.inl (xs_tableswitch hd hil h)
  case lookupswitch => exact Or.inl (xs_lookupswitch hd hil h)
  case arraylength => exact Or.inl (xs_arraylength hd hil h)
  case iaload => exact Or.inl (xs_iaload hd hil h)
  case baload => exact Or.inl (xs_baload hd hil h)
  case laload => exact Or.inl (xs_laload hd hil h)
  case aaload => exact Or.inl (xs_aaload hd hil h)
  case iastore => exact Or.inl (xs_iastore hd hil h)
  case bastore => exact Or.inl (xs_bastore hd hil h)
  case lastore => exact Or.inl (xs_lastore hd hil h)
  case aastore => exact Or.inl (xs_aastore hd hil h)
  case return_ => exact Or.inr (xr_return_ hm hd hil h)
  case lreturn => exact Or.inr (xr_lreturn hm hd hil h)
  case areturn => exact Or.inr (xr_areturn hm hd hil h)
  case ireturn => exact Or.inr (xr_ireturn hm hd hil h)
  all_goals
    have h : (none : Option β) = some y := h
    cases h
