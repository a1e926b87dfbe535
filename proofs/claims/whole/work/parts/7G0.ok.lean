/-! Each row of the abstract machine's code is what decoding the method's bytes gives there. -/
def ab_isfl (o x K p : Nat) : Bool := ab_fl.any (fun e => match e with
  | [c, y, k, q, _] => Nat.beq c o && Nat.beq y x && Nat.beq k K && Nat.beq q p
  | _ => false)
def ab_isl (l : List (List Nat)) (o x a : Nat) : Bool := l.any (fun e => match e with
  | c :: y :: b :: _ => Nat.beq c o && Nat.beq y x && Nat.beq b a
  | _ => false)
def ab_isn (l : List (Nat × Nat × Int × Nat)) (o x : Nat) (v : Int) : Bool := l.any (fun e => Nat.beq e.1 o && Nat.beq e.2.1 x && decide (e.2.2.1 = v))
def ab_isx (l : List (List Nat)) (m pc : Nat) (r : List Nat) : Bool := l.any (fun e => match e with
  | m' :: p' :: r' => Nat.beq m' m && Nat.beq p' pc && decide (r' = r)
  | _ => false)
def ab_dc (b : ByteArray) (pc : Nat) (I : Instr) (n : Nat) : Bool := match decode b pc with
  | .ok (J, k) => decide (J = I) && Nat.beq k n
  | _ => false
/-- throws and makings of more than one row: the class' entry, the text's, the constructor's -/
def ab_okX (b : ByteArray) (pc : Nat) (r : List Nat) : Bool := match r with
  | [ik, is, ic, 0, _] => ab_dc b pc (.new ik) 3 && ab_dc b (pc + 3) .dup 1 && ab_dc b (pc + 4) (.ldc is) 2 && ab_dc b (pc + 6) (.invokespecial ic) 3 && ab_dc b (pc + 9) .athrow 1
  | [ik, is, ic, 1, _] => ab_dc b pc (.new ik) 3 && ab_dc b (pc + 3) .dup 1 && ab_dc b (pc + 4) (.ldc_w is) 3 && ab_dc b (pc + 7) (.invokespecial ic) 3 && ab_dc b (pc + 10) .athrow 1
  | _ => false
def ab_okN (b : ByteArray) (pc : Nat) (r : List Nat) : Bool := match r with
  | [ik, ic, _] => ab_dc b pc (.new ik) 3 && ab_dc b (pc + 3) .dup 1 && ab_dc b (pc + 4) (.invokespecial ic) 3
  | _ => false
noncomputable def ab_okE (m : Nat) (e : Nat × ab_I × Nat) : Bool := match decode (ab_by m) e.1 with
  | .ok (I, k) => match e.2.1 with
    | .inl J => decide (I = J) && Nat.beq k e.2.2 && ab_il I k e.1
    | .inr (op, a, b) => match op with
      | 0 => (match I with
        | .getfield x => Nat.beq k 3 && Nat.beq e.2.2 3 && ab_isfl (ab_ow m) x a b.toNat
        | _ => false)
      | 1 => (match I with
        | .putfield x => Nat.beq k 3 && Nat.beq e.2.2 3 && ab_isfl (ab_ow m) x a b.toNat && Nat.blt a 10 && !(ab_T a b.toNat).2.2.2
        | _ => false)
      | 2 => Nat.beq k 3 && Nat.beq e.2.2 3 && Nat.beq b.toNat (ab_np a + (if ab_kd a = 0 then 1 else 0)) && (match I with
        | .invokevirtual x => ab_isl ab_ml_ (ab_ow m) x a && Nat.beq (ab_kd a) 0 && !Nat.beq (ab_2 ab_iT a (0, 0, 0, 0)).2.2.1 1000000
        | .invokestatic x => ab_isl ab_ml_ (ab_ow m) x a && !Nat.beq (ab_kd a) 0
        | _ => false)
      | 3 => (match I with
        | .getstatic x => Nat.beq k 3 && Nat.beq e.2.2 3 && ab_isl ab_gl (ab_ow m) x a
        | _ => false)
      | 4 => (match I with
        | .getstatic x => Nat.beq k 3 && Nat.beq e.2.2 3 && Nat.beq (ab_ow m) 1 && Nat.beq x 265
        | _ => false)
      | 5 => (match I with
        | .getstatic x => Nat.beq k 3 && Nat.beq e.2.2 3 && Nat.beq (ab_ow m) 9 && Nat.beq x 38 && decide (b = 1)
        | _ => false)
      | 6 => (match I with
        | .getstatic x => Nat.beq k 3 && Nat.beq e.2.2 3 && Nat.beq (ab_ow m) 9 && Nat.beq x 1053
        | _ => false)
      | 7 => (match I with
        | .ldc x => Nat.beq k 2 && Nat.beq e.2.2 2 && ab_isl ab_sl_ (ab_ow m) x a
        | _ => false)
      | 8 => (match I with
        | .ldc x => Nat.beq k 2 && Nat.beq e.2.2 2 && ab_isn ab_il_ (ab_ow m) x b
        | .ldc_w x => Nat.beq k 3 && Nat.beq e.2.2 3 && ab_isn ab_il_ (ab_ow m) x b
        | _ => false)
      | 9 => (match I with
        | .ldc2_w x => Nat.beq k 3 && Nat.beq e.2.2 3 && ab_isn ab_jl_ (ab_ow m) x b
        | _ => false)
      | 10 => ab_ex.any (fun r => match r with
        | m' :: p' :: r' => Nat.beq m' m && Nat.beq p' e.1 && ab_okX (ab_by m) e.1 r' && decide (r'[4]? = some a) && decide (ab_hw m = [])
        | _ => false)
      | 11 => Nat.beq e.2.2 7 && ab_nw.any (fun r => match r with
        | m' :: p' :: r' => Nat.beq m' m && Nat.beq p' e.1 && ab_okN (ab_by m) e.1 r' && decide (r'[2]? = some a)
        | _ => false)
      | 12 => (match I with
        | .invokestatic x => Nat.beq k 3 && Nat.beq e.2.2 3 && ab_cp.any (fun r => match r with
          | c :: y :: _ => Nat.beq c (ab_ow m) && Nat.beq y x
          | _ => false)
        | _ => false)
      | _ => false
  | _ => false
noncomputable def ab_okC (m : Nat) : Bool := (ab_2 ab_cT m []).all (fun ch => ch.all (ab_okE m))
theorem ab_okC0 : (List.range 19).all (fun r => ab_okC (0 + r)) = true := by decide +kernel
theorem ab_okC1 : (List.range 19).all (fun r => ab_okC (19 + r)) = true := by decide +kernel
theorem ab_okC2 : (List.range 17).all (fun r => ab_okC (38 + r)) = true := by decide +kernel
theorem ab_okC3 : (List.range 14).all (fun r => ab_okC (55 + r)) = true := by decide +kernel
theorem ab_okC4 : (List.range 16).all (fun r => ab_okC (69 + r)) = true := by decide +kernel
theorem ab_okC5 : (List.range 24).all (fun r => ab_okC (85 + r)) = true := by decide +kernel
theorem ab_okC6 : (List.range 22).all (fun r => ab_okC (109 + r)) = true := by decide +kernel
theorem ab_okC7 : (List.range 18).all (fun r => ab_okC (131 + r)) = true := by decide +kernel
theorem ab_okC8 : (List.range 14).all (fun r => ab_okC (149 + r)) = true := by decide +kernel
theorem ab_okC9 : (List.range 15).all (fun r => ab_okC (163 + r)) = true := by decide +kernel
theorem ab_okC10 : (List.range 13).all (fun r => ab_okC (178 + r)) = true := by decide +kernel
theorem ab_okC11 : (List.range 16).all (fun r => ab_okC (191 + r)) = true := by decide +kernel
theorem ab_okC12 : (List.range 14).all (fun r => ab_okC (207 + r)) = true := by decide +kernel
theorem ab_okC13 : (List.range 13).all (fun r => ab_okC (221 + r)) = true := by decide +kernel
theorem ab_okC14 : (List.range 13).all (fun r => ab_okC (234 + r)) = true := by decide +kernel
theorem ab_okC15 : (List.range 14).all (fun r => ab_okC (247 + r)) = true := by decide +kernel
theorem ab_okC16 : (List.range 12).all (fun r => ab_okC (261 + r)) = true := by decide +kernel
theorem ab_okC17 : (List.range 16).all (fun r => ab_okC (273 + r)) = true := by decide +kernel
theorem ab_okC18 : (List.range 11).all (fun r => ab_okC (289 + r)) = true := by decide +kernel
theorem ab_okC19 : (List.range 8).all (fun r => ab_okC (300 + r)) = true := by decide +kernel
theorem ab_okC20 : (List.range 12).all (fun r => ab_okC (308 + r)) = true := by decide +kernel
theorem ab_okC21 : (List.range 11).all (fun r => ab_okC (320 + r)) = true := by decide +kernel
theorem ab_okC22 : (List.range 8).all (fun r => ab_okC (331 + r)) = true := by decide +kernel
theorem ab_okC23 : (List.range 10).all (fun r => ab_okC (339 + r)) = true := by decide +kernel
theorem ab_okC24 : (List.range 11).all (fun r => ab_okC (349 + r)) = true := by decide +kernel
