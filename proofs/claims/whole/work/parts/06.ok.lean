/-! Each row of the abstract machine's code is what decoding the method's bytes gives there. -/
def ab_il (I : Instr) (n pc : Nat) : Bool := match I with
  | .aload _ | .iload _ | .lload _ | .astore _ | .istore _ | .lstore _ => Nat.beq n 2
  | .iinc _ _ => Nat.beq n 3
  | .bipush v => Nat.beq n 2 && decide ((Int8.ofInt v).toInt32 = Int32.ofInt v)
  | .sipush v => Nat.beq n 3 && decide ((Int16.ofInt v).toInt32 = Int32.ofInt v)
  | .goto t | .ifCond _ t | .if_icmp _ t | .if_acmp _ t | .ifnull t | .ifnonnull t => Nat.beq n 3 && decide (0 ≤ (pc : Int) + t)
  | .tableswitch d _ _ os => decide (0 ≤ (pc : Int) + d) && os.toList.all (fun t => decide (0 ≤ (pc : Int) + t))
  | .lookupswitch d ps => decide (0 ≤ (pc : Int) + d) && ps.toList.all (fun t => decide (0 ≤ (pc : Int) + t.2)) && (ps.toList.zip (ps.toList.drop 1)).all (fun (a, next) => a.1 < next.1)
  | _ => Nat.beq n 1
def ab_isfl (o x K p : Nat) : Bool := ab_fl.any (fun e => match e with
  | [c, y, k, q, _] => Nat.beq c o && Nat.beq y x && Nat.beq k K && Nat.beq q p
  | _ => false)
def ab_isl (l : List (List Nat)) (o x a : Nat) : Bool := l.any (fun e => match e with
  | c :: y :: b :: _ => Nat.beq c o && Nat.beq y x && Nat.beq b a
  | _ => false)
def ab_isn (l : List (Nat × Nat × Int × Nat)) (o x : Nat) (v : Int) : Bool := l.any (fun e => Nat.beq e.1 o && Nat.beq e.2.1 x && decide (e.2.2.1 = v))
def ab_isx (l : List (List Nat)) (m pc : Nat) (r : List Nat) : Bool := l.any (fun e => match e with
  | m' :: p' :: r' => Nat.beq m' m && Nat.beq p' pc && decide (r' = r)
  | _ => false)
def ab_dc (b : ByteArray) (pc : Nat) (I : Instr) (n : Nat) : Bool := match decode b pc with
  | .ok (J, k) => decide (J = I) && Nat.beq k n
  | _ => false
/-- throws and makings of more than one row: the class' entry, the text's, the constructor's -/
def ab_okX (b : ByteArray) (pc : Nat) (r : List Nat) : Bool := match r with
  | [ik, is, ic, 0, _] => ab_dc b pc (.new ik) 3 && ab_dc b (pc + 3) .dup 1 && ab_dc b (pc + 4) (.ldc is) 2 && ab_dc b (pc + 6) (.invokespecial ic) 3 && ab_dc b (pc + 9) .athrow 1
  | [ik, is, ic, 1, _] => ab_dc b pc (.new ik) 3 && ab_dc b (pc + 3) .dup 1 && ab_dc b (pc + 4) (.ldc_w is) 3 && ab_dc b (pc + 7) (.invokespecial ic) 3 && ab_dc b (pc + 10) .athrow 1
  | _ => false
def ab_okN (b : ByteArray) (pc : Nat) (r : List Nat) : Bool := match r with
  | [ik, ic, _] => ab_dc b pc (.new ik) 3 && ab_dc b (pc + 3) .dup 1 && ab_dc b (pc + 4) (.invokespecial ic) 3
  | _ => false
noncomputable def ab_okE (m : Nat) (e : Nat × ab_I × Nat) : Bool := match decode (ab_by m) e.1 with
  | .ok (I, k) => match e.2.1 with
    | .inl J => decide (I = J) && Nat.beq k e.2.2 && ab_il I k e.1
    | .inr (op, a, b) => match op with
      | 0 => (match I with
        | .getfield x => Nat.beq k 3 && Nat.beq e.2.2 3 && ab_isfl (ab_ow m) x a b.toNat
        | _ => false)
      | 1 => (match I with
        | .putfield x => Nat.beq k 3 && Nat.beq e.2.2 3 && ab_isfl (ab_ow m) x a b.toNat && Nat.blt a 10 && !(ab_T a b.toNat).2.2.2
        | _ => false)
      | 2 => Nat.beq k 3 && Nat.beq e.2.2 3 && Nat.beq b.toNat (ab_np a + (if ab_kd a = 0 then 1 else 0)) && (match I with
        | .invokevirtual x => ab_isl ab_ml_ (ab_ow m) x a && Nat.beq (ab_kd a) 0 && !Nat.beq (ab_2 ab_iT a (0, 0, 0, 0)).2.2.1 1000000
        | .invokestatic x => ab_isl ab_ml_ (ab_ow m) x a && !Nat.beq (ab_kd a) 0
        | _ => false)
      | 3 => (match I with
        | .getstatic x => Nat.beq k 3 && Nat.beq e.2.2 3 && ab_isl ab_gl (ab_ow m) x a
        | _ => false)
      | 4 => (match I with
        | .getstatic x => Nat.beq k 3 && Nat.beq e.2.2 3 && Nat.beq (ab_ow m) 1 && Nat.beq x 268
        | _ => false)
      | 5 => (match I with
        | .getstatic x => Nat.beq k 3 && Nat.beq e.2.2 3 && Nat.beq (ab_ow m) 9 && Nat.beq x 38 && decide (b = 1)
        | _ => false)
      | 6 => (match I with
        | .getstatic x => Nat.beq k 3 && Nat.beq e.2.2 3 && Nat.beq (ab_ow m) 9 && Nat.beq x 1053
        | _ => false)
      | 7 => (match I with
        | .ldc x => Nat.beq k 2 && Nat.beq e.2.2 2 && ab_isl ab_sl_ (ab_ow m) x a
        | _ => false)
      | 8 => (match I with
        | .ldc x => Nat.beq k 2 && Nat.beq e.2.2 2 && ab_isn ab_il_ (ab_ow m) x b
        | .ldc_w x => Nat.beq k 3 && Nat.beq e.2.2 3 && ab_isn ab_il_ (ab_ow m) x b
        | _ => false)
      | 9 => (match I with
        | .ldc2_w x => Nat.beq k 3 && Nat.beq e.2.2 3 && ab_isn ab_jl_ (ab_ow m) x b
        | _ => false)
      | 10 => ab_ex.any (fun r => match r with
        | m' :: p' :: r' => Nat.beq m' m && Nat.beq p' e.1 && ab_okX (ab_by m) e.1 r' && decide (r'[4]? = some a) && decide (ab_hw m = [])
        | _ => false)
      | 11 => Nat.beq e.2.2 7 && ab_nw.any (fun r => match r with
        | m' :: p' :: r' => Nat.beq m' m && Nat.beq p' e.1 && ab_okN (ab_by m) e.1 r' && decide (r'[2]? = some a)
        | _ => false)
      | 12 => (match I with
        | .invokestatic x => Nat.beq k 3 && Nat.beq e.2.2 3 && ab_cp.any (fun r => match r with
          | c :: y :: _ => Nat.beq c (ab_ow m) && Nat.beq y x
          | _ => false)
        | _ => false)
      | _ => false
  | _ => false
noncomputable def ab_okC (m : Nat) : Bool := (ab_2 ab_cT m []).all (fun ch => ch.all (ab_okE m))
theorem ab_okC0 : (List.range 19).all (fun r => ab_okC (0 + r)) = true := by decide +kernel
theorem ab_okC1 : (List.range 19).all (fun r => ab_okC (19 + r)) = true := by decide +kernel
theorem ab_okC2 : (List.range 17).all (fun r => ab_okC (38 + r)) = true := by decide +kernel
theorem ab_okC3 : (List.range 14).all (fun r => ab_okC (55 + r)) = true := by decide +kernel
theorem ab_okC4 : (List.range 16).all (fun r => ab_okC (69 + r)) = true := by decide +kernel
theorem ab_okC5 : (List.range 24).all (fun r => ab_okC (85 + r)) = true := by decide +kernel
theorem ab_okC6 : (List.range 22).all (fun r => ab_okC (109 + r)) = true := by decide +kernel
theorem ab_okC7 : (List.range 18).all (fun r => ab_okC (131 + r)) = true := by decide +kernel
theorem ab_okC8 : (List.range 14).all (fun r => ab_okC (149 + r)) = true := by decide +kernel
theorem ab_okC9 : (List.range 15).all (fun r => ab_okC (163 + r)) = true := by decide +kernel
theorem ab_okC10 : (List.range 13).all (fun r => ab_okC (178 + r)) = true := by decide +kernel
theorem ab_okC11 : (List.range 16).all (fun r => ab_okC (191 + r)) = true := by decide +kernel
theorem ab_okC12 : (List.range 14).all (fun r => ab_okC (207 + r)) = true := by decide +kernel
theorem ab_okC13 : (List.range 13).all (fun r => ab_okC (221 + r)) = true := by decide +kernel
theorem ab_okC14 : (List.range 13).all (fun r => ab_okC (234 + r)) = true := by decide +kernel
theorem ab_okC15 : (List.range 14).all (fun r => ab_okC (247 + r)) = true := by decide +kernel
theorem ab_okC16 : (List.range 12).all (fun r => ab_okC (261 + r)) = true := by decide +kernel
theorem ab_okC17 : (List.range 16).all (fun r => ab_okC (273 + r)) = true := by decide +kernel
theorem ab_okC18 : (List.range 11).all (fun r => ab_okC (289 + r)) = true := by decide +kernel
theorem ab_okC19 : (List.range 8).all (fun r => ab_okC (300 + r)) = true := by decide +kernel
theorem ab_okC20 : (List.range 12).all (fun r => ab_okC (308 + r)) = true := by decide +kernel
theorem ab_okC21 : (List.range 11).all (fun r => ab_okC (320 + r)) = true := by decide +kernel
theorem ab_okC22 : (List.range 8).all (fun r => ab_okC (331 + r)) = true := by decide +kernel
theorem ab_okC23 : (List.range 10).all (fun r => ab_okC (339 + r)) = true := by decide +kernel
theorem ab_okC24 : (List.range 11).all (fun r => ab_okC (349 + r)) = true := by decide +kernel
theorem ab_all_td {α : Type} (p : α → Bool) (n : Nat) (l : List α) (h1 : (l.take n).all p = true) (h2 : (l.drop n).all p = true) : l.all p = true := by
  have h : (l.take n ++ l.drop n).all p = true := by rw [List.all_append, h1, h2]; rfl
  rwa [List.take_append_drop] at h
theorem ab_okL0 : ((ab_2 ab_cT 360 []).take 4).all (fun ch => ch.all (ab_okE 360)) = true := by decide +kernel
theorem ab_okL1 : (((ab_2 ab_cT 360 []).drop 4).take 4).all (fun ch => ch.all (ab_okE 360)) = true := by decide +kernel
theorem ab_okL2 : ((((ab_2 ab_cT 360 []).drop 4).drop 4).take 4).all (fun ch => ch.all (ab_okE 360)) = true := by decide +kernel
theorem ab_okL3 : (((((ab_2 ab_cT 360 []).drop 4).drop 4).drop 4).take 4).all (fun ch => ch.all (ab_okE 360)) = true := by decide +kernel
theorem ab_okL4 : ((((((ab_2 ab_cT 360 []).drop 4).drop 4).drop 4).drop 4).take 4).all (fun ch => ch.all (ab_okE 360)) = true := by decide +kernel
theorem ab_okL5 : (((((((ab_2 ab_cT 360 []).drop 4).drop 4).drop 4).drop 4).drop 4).take 4).all (fun ch => ch.all (ab_okE 360)) = true := by decide +kernel
theorem ab_okL6 : ((((((((ab_2 ab_cT 360 []).drop 4).drop 4).drop 4).drop 4).drop 4).drop 4).take 4).all (fun ch => ch.all (ab_okE 360)) = true := by decide +kernel
theorem ab_okL7 : (((((((((ab_2 ab_cT 360 []).drop 4).drop 4).drop 4).drop 4).drop 4).drop 4).drop 4).take 4).all (fun ch => ch.all (ab_okE 360)) = true := by decide +kernel
theorem ab_okL8 : ((((((((((ab_2 ab_cT 360 []).drop 4).drop 4).drop 4).drop 4).drop 4).drop 4).drop 4).drop 4).take 4).all (fun ch => ch.all (ab_okE 360)) = true := by decide +kernel
theorem ab_okL9 : (((((((((((ab_2 ab_cT 360 []).drop 4).drop 4).drop 4).drop 4).drop 4).drop 4).drop 4).drop 4).drop 4).take 4).all (fun ch => ch.all (ab_okE 360)) = true := by decide +kernel
theorem ab_okL10 : ((((((((((((ab_2 ab_cT 360 []).drop 4).drop 4).drop 4).drop 4).drop 4).drop 4).drop 4).drop 4).drop 4).drop 4).take 4).all (fun ch => ch.all (ab_okE 360)) = true := by decide +kernel
theorem ab_okL11 : (((((((((((((ab_2 ab_cT 360 []).drop 4).drop 4).drop 4).drop 4).drop 4).drop 4).drop 4).drop 4).drop 4).drop 4).drop 4).take 4).all (fun ch => ch.all (ab_okE 360)) = true := by decide +kernel
theorem ab_okL12 : ((((((((((((((ab_2 ab_cT 360 []).drop 4).drop 4).drop 4).drop 4).drop 4).drop 4).drop 4).drop 4).drop 4).drop 4).drop 4).drop 4).take 4).all (fun ch => ch.all (ab_okE 360)) = true := by decide +kernel
theorem ab_okL13 : (((((((((((((((ab_2 ab_cT 360 []).drop 4).drop 4).drop 4).drop 4).drop 4).drop 4).drop 4).drop 4).drop 4).drop 4).drop 4).drop 4).drop 4).take 4).all (fun ch => ch.all (ab_okE 360)) = true := by decide +kernel
theorem ab_okL14 : ((((((((((((((((ab_2 ab_cT 360 []).drop 4).drop 4).drop 4).drop 4).drop 4).drop 4).drop 4).drop 4).drop 4).drop 4).drop 4).drop 4).drop 4).drop 4).take 4).all (fun ch => ch.all (ab_okE 360)) = true := by decide +kernel
theorem ab_okL15 : (((((((((((((((((ab_2 ab_cT 360 []).drop 4).drop 4).drop 4).drop 4).drop 4).drop 4).drop 4).drop 4).drop 4).drop 4).drop 4).drop 4).drop 4).drop 4).drop 4).take 4).all (fun ch => ch.all (ab_okE 360)) = true := by decide +kernel
theorem ab_okL16 : ((((((((((((((((((ab_2 ab_cT 360 []).drop 4).drop 4).drop 4).drop 4).drop 4).drop 4).drop 4).drop 4).drop 4).drop 4).drop 4).drop 4).drop 4).drop 4).drop 4).drop 4).take 4).all (fun ch => ch.all (ab_okE 360)) = true := by decide +kernel
theorem ab_okL17 : (((((((((((((((((((ab_2 ab_cT 360 []).drop 4).drop 4).drop 4).drop 4).drop 4).drop 4).drop 4).drop 4).drop 4).drop 4).drop 4).drop 4).drop 4).drop 4).drop 4).drop 4).drop 4).take 4).all (fun ch => ch.all (ab_okE 360)) = true := by decide +kernel
theorem ab_okL18 : ((((((((((((((((((((ab_2 ab_cT 360 []).drop 4).drop 4).drop 4).drop 4).drop 4).drop 4).drop 4).drop 4).drop 4).drop 4).drop 4).drop 4).drop 4).drop 4).drop 4).drop 4).drop 4).drop 4).take 4).all (fun ch => ch.all (ab_okE 360)) = true := by decide +kernel
theorem ab_okL19 : (((((((((((((((((((((ab_2 ab_cT 360 []).drop 4).drop 4).drop 4).drop 4).drop 4).drop 4).drop 4).drop 4).drop 4).drop 4).drop 4).drop 4).drop 4).drop 4).drop 4).drop 4).drop 4).drop 4).drop 4).take 4).all (fun ch => ch.all (ab_okE 360)) = true := by decide +kernel
theorem ab_okL20 : ((((((((((((((((((((((ab_2 ab_cT 360 []).drop 4).drop 4).drop 4).drop 4).drop 4).drop 4).drop 4).drop 4).drop 4).drop 4).drop 4).drop 4).drop 4).drop 4).drop 4).drop 4).drop 4).drop 4).drop 4).drop 4).take 4).all (fun ch => ch.all (ab_okE 360)) = true := by decide +kernel
theorem ab_okL21 : (((((((((((((((((((((((ab_2 ab_cT 360 []).drop 4).drop 4).drop 4).drop 4).drop 4).drop 4).drop 4).drop 4).drop 4).drop 4).drop 4).drop 4).drop 4).drop 4).drop 4).drop 4).drop 4).drop 4).drop 4).drop 4).drop 4).take 4).all (fun ch => ch.all (ab_okE 360)) = true := by decide +kernel
theorem ab_okL22 : ((((((((((((((((((((((((ab_2 ab_cT 360 []).drop 4).drop 4).drop 4).drop 4).drop 4).drop 4).drop 4).drop 4).drop 4).drop 4).drop 4).drop 4).drop 4).drop 4).drop 4).drop 4).drop 4).drop 4).drop 4).drop 4).drop 4).drop 4).take 4).all (fun ch => ch.all (ab_okE 360)) = true := by decide +kernel
theorem ab_okL23 : (((((((((((((((((((((((((ab_2 ab_cT 360 []).drop 4).drop 4).drop 4).drop 4).drop 4).drop 4).drop 4).drop 4).drop 4).drop 4).drop 4).drop 4).drop 4).drop 4).drop 4).drop 4).drop 4).drop 4).drop 4).drop 4).drop 4).drop 4).drop 4).take 4).all (fun ch => ch.all (ab_okE 360)) = true := by decide +kernel
theorem ab_okL24 : ((((((((((((((((((((((((((ab_2 ab_cT 360 []).drop 4).drop 4).drop 4).drop 4).drop 4).drop 4).drop 4).drop 4).drop 4).drop 4).drop 4).drop 4).drop 4).drop 4).drop 4).drop 4).drop 4).drop 4).drop 4).drop 4).drop 4).drop 4).drop 4).drop 4).take 4).all (fun ch => ch.all (ab_okE 360)) = true := by decide +kernel
theorem ab_okL25 : (((((((((((((((((((((((((((ab_2 ab_cT 360 []).drop 4).drop 4).drop 4).drop 4).drop 4).drop 4).drop 4).drop 4).drop 4).drop 4).drop 4).drop 4).drop 4).drop 4).drop 4).drop 4).drop 4).drop 4).drop 4).drop 4).drop 4).drop 4).drop 4).drop 4).drop 4).take 4).all (fun ch => ch.all (ab_okE 360)) = true := by decide +kernel
theorem ab_okL26 : ((((((((((((((((((((((((((((ab_2 ab_cT 360 []).drop 4).drop 4).drop 4).drop 4).drop 4).drop 4).drop 4).drop 4).drop 4).drop 4).drop 4).drop 4).drop 4).drop 4).drop 4).drop 4).drop 4).drop 4).drop 4).drop 4).drop 4).drop 4).drop 4).drop 4).drop 4).drop 4).take 4).all (fun ch => ch.all (ab_okE 360)) = true := by decide +kernel
theorem ab_okL27 : (((((((((((((((((((((((((((((ab_2 ab_cT 360 []).drop 4).drop 4).drop 4).drop 4).drop 4).drop 4).drop 4).drop 4).drop 4).drop 4).drop 4).drop 4).drop 4).drop 4).drop 4).drop 4).drop 4).drop 4).drop 4).drop 4).drop 4).drop 4).drop 4).drop 4).drop 4).drop 4).drop 4).take 4).all (fun ch => ch.all (ab_okE 360)) = true := by decide +kernel
theorem ab_okL28 : ((((((((((((((((((((((((((((((ab_2 ab_cT 360 []).drop 4).drop 4).drop 4).drop 4).drop 4).drop 4).drop 4).drop 4).drop 4).drop 4).drop 4).drop 4).drop 4).drop 4).drop 4).drop 4).drop 4).drop 4).drop 4).drop 4).drop 4).drop 4).drop 4).drop 4).drop 4).drop 4).drop 4).drop 4).take 4).all (fun ch => ch.all (ab_okE 360)) = true := by decide +kernel
theorem ab_okL29 : (((((((((((((((((((((((((((((((ab_2 ab_cT 360 []).drop 4).drop 4).drop 4).drop 4).drop 4).drop 4).drop 4).drop 4).drop 4).drop 4).drop 4).drop 4).drop 4).drop 4).drop 4).drop 4).drop 4).drop 4).drop 4).drop 4).drop 4).drop 4).drop 4).drop 4).drop 4).drop 4).drop 4).drop 4).drop 4).take 4).all (fun ch => ch.all (ab_okE 360)) = true := by decide +kernel
theorem ab_okL30 : ((((((((((((((((((((((((((((((((ab_2 ab_cT 360 []).drop 4).drop 4).drop 4).drop 4).drop 4).drop 4).drop 4).drop 4).drop 4).drop 4).drop 4).drop 4).drop 4).drop 4).drop 4).drop 4).drop 4).drop 4).drop 4).drop 4).drop 4).drop 4).drop 4).drop 4).drop 4).drop 4).drop 4).drop 4).drop 4).drop 4).take 4).all (fun ch => ch.all (ab_okE 360)) = true := by decide +kernel
theorem ab_okL31 : (((((((((((((((((((((((((((((((((ab_2 ab_cT 360 []).drop 4).drop 4).drop 4).drop 4).drop 4).drop 4).drop 4).drop 4).drop 4).drop 4).drop 4).drop 4).drop 4).drop 4).drop 4).drop 4).drop 4).drop 4).drop 4).drop 4).drop 4).drop 4).drop 4).drop 4).drop 4).drop 4).drop 4).drop 4).drop 4).drop 4).drop 4).take 4).all (fun ch => ch.all (ab_okE 360)) = true := by decide +kernel
theorem ab_okL32 : ((((((((((((((((((((((((((((((((((ab_2 ab_cT 360 []).drop 4).drop 4).drop 4).drop 4).drop 4).drop 4).drop 4).drop 4).drop 4).drop 4).drop 4).drop 4).drop 4).drop 4).drop 4).drop 4).drop 4).drop 4).drop 4).drop 4).drop 4).drop 4).drop 4).drop 4).drop 4).drop 4).drop 4).drop 4).drop 4).drop 4).drop 4).drop 4).take 4).all (fun ch => ch.all (ab_okE 360)) = true := by decide +kernel
theorem ab_okL33 : (((((((((((((((((((((((((((((((((((ab_2 ab_cT 360 []).drop 4).drop 4).drop 4).drop 4).drop 4).drop 4).drop 4).drop 4).drop 4).drop 4).drop 4).drop 4).drop 4).drop 4).drop 4).drop 4).drop 4).drop 4).drop 4).drop 4).drop 4).drop 4).drop 4).drop 4).drop 4).drop 4).drop 4).drop 4).drop 4).drop 4).drop 4).drop 4).drop 4).take 4).all (fun ch => ch.all (ab_okE 360)) = true := by decide +kernel
theorem ab_okL34 : ((((((((((((((((((((((((((((((((((((ab_2 ab_cT 360 []).drop 4).drop 4).drop 4).drop 4).drop 4).drop 4).drop 4).drop 4).drop 4).drop 4).drop 4).drop 4).drop 4).drop 4).drop 4).drop 4).drop 4).drop 4).drop 4).drop 4).drop 4).drop 4).drop 4).drop 4).drop 4).drop 4).drop 4).drop 4).drop 4).drop 4).drop 4).drop 4).drop 4).drop 4).take 4).all (fun ch => ch.all (ab_okE 360)) = true := by decide +kernel
theorem ab_okL35 : (((((((((((((((((((((((((((((((((((((ab_2 ab_cT 360 []).drop 4).drop 4).drop 4).drop 4).drop 4).drop 4).drop 4).drop 4).drop 4).drop 4).drop 4).drop 4).drop 4).drop 4).drop 4).drop 4).drop 4).drop 4).drop 4).drop 4).drop 4).drop 4).drop 4).drop 4).drop 4).drop 4).drop 4).drop 4).drop 4).drop 4).drop 4).drop 4).drop 4).drop 4).drop 4).take 4).all (fun ch => ch.all (ab_okE 360)) = true := by decide +kernel
theorem ab_okL36 : ((((((((((((((((((((((((((((((((((((((ab_2 ab_cT 360 []).drop 4).drop 4).drop 4).drop 4).drop 4).drop 4).drop 4).drop 4).drop 4).drop 4).drop 4).drop 4).drop 4).drop 4).drop 4).drop 4).drop 4).drop 4).drop 4).drop 4).drop 4).drop 4).drop 4).drop 4).drop 4).drop 4).drop 4).drop 4).drop 4).drop 4).drop 4).drop 4).drop 4).drop 4).drop 4).drop 4).take 4).all (fun ch => ch.all (ab_okE 360)) = true := by decide +kernel
theorem ab_okL37 : (((((((((((((((((((((((((((((((((((((((ab_2 ab_cT 360 []).drop 4).drop 4).drop 4).drop 4).drop 4).drop 4).drop 4).drop 4).drop 4).drop 4).drop 4).drop 4).drop 4).drop 4).drop 4).drop 4).drop 4).drop 4).drop 4).drop 4).drop 4).drop 4).drop 4).drop 4).drop 4).drop 4).drop 4).drop 4).drop 4).drop 4).drop 4).drop 4).drop 4).drop 4).drop 4).drop 4).drop 4).take 4).all (fun ch => ch.all (ab_okE 360)) = true := by decide +kernel
theorem ab_okL38 : ((((((((((((((((((((((((((((((((((((((((ab_2 ab_cT 360 []).drop 4).drop 4).drop 4).drop 4).drop 4).drop 4).drop 4).drop 4).drop 4).drop 4).drop 4).drop 4).drop 4).drop 4).drop 4).drop 4).drop 4).drop 4).drop 4).drop 4).drop 4).drop 4).drop 4).drop 4).drop 4).drop 4).drop 4).drop 4).drop 4).drop 4).drop 4).drop 4).drop 4).drop 4).drop 4).drop 4).drop 4).drop 4).take 4).all (fun ch => ch.all (ab_okE 360)) = true := by decide +kernel
theorem ab_okL39 : (((((((((((((((((((((((((((((((((((((((((ab_2 ab_cT 360 []).drop 4).drop 4).drop 4).drop 4).drop 4).drop 4).drop 4).drop 4).drop 4).drop 4).drop 4).drop 4).drop 4).drop 4).drop 4).drop 4).drop 4).drop 4).drop 4).drop 4).drop 4).drop 4).drop 4).drop 4).drop 4).drop 4).drop 4).drop 4).drop 4).drop 4).drop 4).drop 4).drop 4).drop 4).drop 4).drop 4).drop 4).drop 4).drop 4).take 4).all (fun ch => ch.all (ab_okE 360)) = true := by decide +kernel
theorem ab_okL40 : ((((((((((((((((((((((((((((((((((((((((((ab_2 ab_cT 360 []).drop 4).drop 4).drop 4).drop 4).drop 4).drop 4).drop 4).drop 4).drop 4).drop 4).drop 4).drop 4).drop 4).drop 4).drop 4).drop 4).drop 4).drop 4).drop 4).drop 4).drop 4).drop 4).drop 4).drop 4).drop 4).drop 4).drop 4).drop 4).drop 4).drop 4).drop 4).drop 4).drop 4).drop 4).drop 4).drop 4).drop 4).drop 4).drop 4).drop 4).take 4).all (fun ch => ch.all (ab_okE 360)) = true := by decide +kernel
theorem ab_okL41 : (((((((((((((((((((((((((((((((((((((((((((ab_2 ab_cT 360 []).drop 4).drop 4).drop 4).drop 4).drop 4).drop 4).drop 4).drop 4).drop 4).drop 4).drop 4).drop 4).drop 4).drop 4).drop 4).drop 4).drop 4).drop 4).drop 4).drop 4).drop 4).drop 4).drop 4).drop 4).drop 4).drop 4).drop 4).drop 4).drop 4).drop 4).drop 4).drop 4).drop 4).drop 4).drop 4).drop 4).drop 4).drop 4).drop 4).drop 4).drop 4).take 4).all (fun ch => ch.all (ab_okE 360)) = true := by decide +kernel
theorem ab_okL42 : ((((((((((((((((((((((((((((((((((((((((((((ab_2 ab_cT 360 []).drop 4).drop 4).drop 4).drop 4).drop 4).drop 4).drop 4).drop 4).drop 4).drop 4).drop 4).drop 4).drop 4).drop 4).drop 4).drop 4).drop 4).drop 4).drop 4).drop 4).drop 4).drop 4).drop 4).drop 4).drop 4).drop 4).drop 4).drop 4).drop 4).drop 4).drop 4).drop 4).drop 4).drop 4).drop 4).drop 4).drop 4).drop 4).drop 4).drop 4).drop 4).drop 4).take 4).all (fun ch => ch.all (ab_okE 360)) = true := by decide +kernel
theorem ab_okL43 : (((((((((((((((((((((((((((((((((((((((((((((ab_2 ab_cT 360 []).drop 4).drop 4).drop 4).drop 4).drop 4).drop 4).drop 4).drop 4).drop 4).drop 4).drop 4).drop 4).drop 4).drop 4).drop 4).drop 4).drop 4).drop 4).drop 4).drop 4).drop 4).drop 4).drop 4).drop 4).drop 4).drop 4).drop 4).drop 4).drop 4).drop 4).drop 4).drop 4).drop 4).drop 4).drop 4).drop 4).drop 4).drop 4).drop 4).drop 4).drop 4).drop 4).drop 4).take 4).all (fun ch => ch.all (ab_okE 360)) = true := by decide +kernel
theorem ab_okL44 : ((((((((((((((((((((((((((((((((((((((((((((((ab_2 ab_cT 360 []).drop 4).drop 4).drop 4).drop 4).drop 4).drop 4).drop 4).drop 4).drop 4).drop 4).drop 4).drop 4).drop 4).drop 4).drop 4).drop 4).drop 4).drop 4).drop 4).drop 4).drop 4).drop 4).drop 4).drop 4).drop 4).drop 4).drop 4).drop 4).drop 4).drop 4).drop 4).drop 4).drop 4).drop 4).drop 4).drop 4).drop 4).drop 4).drop 4).drop 4).drop 4).drop 4).drop 4).drop 4).take 4).all (fun ch => ch.all (ab_okE 360)) = true := by decide +kernel
theorem ab_okL45 : (((((((((((((((((((((((((((((((((((((((((((((((ab_2 ab_cT 360 []).drop 4).drop 4).drop 4).drop 4).drop 4).drop 4).drop 4).drop 4).drop 4).drop 4).drop 4).drop 4).drop 4).drop 4).drop 4).drop 4).drop 4).drop 4).drop 4).drop 4).drop 4).drop 4).drop 4).drop 4).drop 4).drop 4).drop 4).drop 4).drop 4).drop 4).drop 4).drop 4).drop 4).drop 4).drop 4).drop 4).drop 4).drop 4).drop 4).drop 4).drop 4).drop 4).drop 4).drop 4).drop 4).take 4).all (fun ch => ch.all (ab_okE 360)) = true := by decide +kernel
theorem ab_okL46 : ((((((((((((((((((((((((((((((((((((((((((((((((ab_2 ab_cT 360 []).drop 4).drop 4).drop 4).drop 4).drop 4).drop 4).drop 4).drop 4).drop 4).drop 4).drop 4).drop 4).drop 4).drop 4).drop 4).drop 4).drop 4).drop 4).drop 4).drop 4).drop 4).drop 4).drop 4).drop 4).drop 4).drop 4).drop 4).drop 4).drop 4).drop 4).drop 4).drop 4).drop 4).drop 4).drop 4).drop 4).drop 4).drop 4).drop 4).drop 4).drop 4).drop 4).drop 4).drop 4).drop 4).drop 4).take 4).all (fun ch => ch.all (ab_okE 360)) = true := by decide +kernel
theorem ab_okL47 : (((((((((((((((((((((((((((((((((((((((((((((((((ab_2 ab_cT 360 []).drop 4).drop 4).drop 4).drop 4).drop 4).drop 4).drop 4).drop 4).drop 4).drop 4).drop 4).drop 4).drop 4).drop 4).drop 4).drop 4).drop 4).drop 4).drop 4).drop 4).drop 4).drop 4).drop 4).drop 4).drop 4).drop 4).drop 4).drop 4).drop 4).drop 4).drop 4).drop 4).drop 4).drop 4).drop 4).drop 4).drop 4).drop 4).drop 4).drop 4).drop 4).drop 4).drop 4).drop 4).drop 4).drop 4).drop 4).take 4).all (fun ch => ch.all (ab_okE 360)) = true := by decide +kernel
theorem ab_okL48 : ((((((((((((((((((((((((((((((((((((((((((((((((((ab_2 ab_cT 360 []).drop 4).drop 4).drop 4).drop 4).drop 4).drop 4).drop 4).drop 4).drop 4).drop 4).drop 4).drop 4).drop 4).drop 4).drop 4).drop 4).drop 4).drop 4).drop 4).drop 4).drop 4).drop 4).drop 4).drop 4).drop 4).drop 4).drop 4).drop 4).drop 4).drop 4).drop 4).drop 4).drop 4).drop 4).drop 4).drop 4).drop 4).drop 4).drop 4).drop 4).drop 4).drop 4).drop 4).drop 4).drop 4).drop 4).drop 4).drop 4).take 4).all (fun ch => ch.all (ab_okE 360)) = true := by decide +kernel
theorem ab_okL49 : ((((((((((((((((((((((((((((((((((((((((((((((((((ab_2 ab_cT 360 []).drop 4).drop 4).drop 4).drop 4).drop 4).drop 4).drop 4).drop 4).drop 4).drop 4).drop 4).drop 4).drop 4).drop 4).drop 4).drop 4).drop 4).drop 4).drop 4).drop 4).drop 4).drop 4).drop 4).drop 4).drop 4).drop 4).drop 4).drop 4).drop 4).drop 4).drop 4).drop 4).drop 4).drop 4).drop 4).drop 4).drop 4).drop 4).drop 4).drop 4).drop 4).drop 4).drop 4).drop 4).drop 4).drop 4).drop 4).drop 4).drop 4).all (fun ch => ch.all (ab_okE 360)) = true := by decide +kernel
theorem ab_okC25 : (List.range 1).all (fun r => ab_okC (360 + r)) = true := by
  refine List.all_eq_true.mpr (fun r hr => ?_)
  have e : r = 0 := by have := List.mem_range.mp hr; omega
  subst e
  exact (ab_all_td _ 4 _ ab_okL0 (ab_all_td _ 4 _ ab_okL1 (ab_all_td _ 4 _ ab_okL2 (ab_all_td _ 4 _ ab_okL3 (ab_all_td _ 4 _ ab_okL4 (ab_all_td _ 4 _ ab_okL5 (ab_all_td _ 4 _ ab_okL6 (ab_all_td _ 4 _ ab_okL7 (ab_all_td _ 4 _ ab_okL8 (ab_all_td _ 4 _ ab_okL9 (ab_all_td _ 4 _ ab_okL10 (ab_all_td _ 4 _ ab_okL11 (ab_all_td _ 4 _ ab_okL12 (ab_all_td _ 4 _ ab_okL13 (ab_all_td _ 4 _ ab_okL14 (ab_all_td _ 4 _ ab_okL15 (ab_all_td _ 4 _ ab_okL16 (ab_all_td _ 4 _ ab_okL17 (ab_all_td _ 4 _ ab_okL18 (ab_all_td _ 4 _ ab_okL19 (ab_all_td _ 4 _ ab_okL20 (ab_all_td _ 4 _ ab_okL21 (ab_all_td _ 4 _ ab_okL22 (ab_all_td _ 4 _ ab_okL23 (ab_all_td _ 4 _ ab_okL24 (ab_all_td _ 4 _ ab_okL25 (ab_all_td _ 4 _ ab_okL26 (ab_all_td _ 4 _ ab_okL27 (ab_all_td _ 4 _ ab_okL28 (ab_all_td _ 4 _ ab_okL29 (ab_all_td _ 4 _ ab_okL30 (ab_all_td _ 4 _ ab_okL31 (ab_all_td _ 4 _ ab_okL32 (ab_all_td _ 4 _ ab_okL33 (ab_all_td _ 4 _ ab_okL34 (ab_all_td _ 4 _ ab_okL35 (ab_all_td _ 4 _ ab_okL36 (ab_all_td _ 4 _ ab_okL37 (ab_all_td _ 4 _ ab_okL38 (ab_all_td _ 4 _ ab_okL39 (ab_all_td _ 4 _ ab_okL40 (ab_all_td _ 4 _ ab_okL41 (ab_all_td _ 4 _ ab_okL42 (ab_all_td _ 4 _ ab_okL43 (ab_all_td _ 4 _ ab_okL44 (ab_all_td _ 4 _ ab_okL45 (ab_all_td _ 4 _ ab_okL46 (ab_all_td _ 4 _ ab_okL47 (ab_all_td _ 4 _ ab_okL48 ab_okL49)))))))))))))))))))))))))))))))))))))))))))))))))
theorem ab_okCall {m : Nat} (h : m < 361) : ab_okC m = true := by
  rcases (show (0 ≤ m ∧ m < 19) ∨ (19 ≤ m ∧ m < 38) ∨ (38 ≤ m ∧ m < 55) ∨ (55 ≤ m ∧ m < 69) ∨ (69 ≤ m ∧ m < 85) ∨ (85 ≤ m ∧ m < 109) ∨ (109 ≤ m ∧ m < 131) ∨ (131 ≤ m ∧ m < 149) ∨ (149 ≤ m ∧ m < 163) ∨ (163 ≤ m ∧ m < 178) ∨ (178 ≤ m ∧ m < 191) ∨ (191 ≤ m ∧ m < 207) ∨ (207 ≤ m ∧ m < 221) ∨ (221 ≤ m ∧ m < 234) ∨ (234 ≤ m ∧ m < 247) ∨ (247 ≤ m ∧ m < 261) ∨ (261 ≤ m ∧ m < 273) ∨ (273 ≤ m ∧ m < 289) ∨ (289 ≤ m ∧ m < 300) ∨ (300 ≤ m ∧ m < 308) ∨ (308 ≤ m ∧ m < 320) ∨ (320 ≤ m ∧ m < 331) ∨ (331 ≤ m ∧ m < 339) ∨ (339 ≤ m ∧ m < 349) ∨ (349 ≤ m ∧ m < 360) ∨ (360 ≤ m ∧ m < 361) by omega) with h | h | h | h | h | h | h | h | h | h | h | h | h | h | h | h | h | h | h | h | h | h | h | h | h | h
  · have q := List.all_eq_true.mp ab_okC0 (m - 0) (List.mem_range.mpr (by omega))
    rwa [show 0 + (m - 0) = m by omega] at q
  · have q := List.all_eq_true.mp ab_okC1 (m - 19) (List.mem_range.mpr (by omega))
    rwa [show 19 + (m - 19) = m by omega] at q
  · have q := List.all_eq_true.mp ab_okC2 (m - 38) (List.mem_range.mpr (by omega))
    rwa [show 38 + (m - 38) = m by omega] at q
  · have q := List.all_eq_true.mp ab_okC3 (m - 55) (List.mem_range.mpr (by omega))
    rwa [show 55 + (m - 55) = m by omega] at q
  · have q := List.all_eq_true.mp ab_okC4 (m - 69) (List.mem_range.mpr (by omega))
    rwa [show 69 + (m - 69) = m by omega] at q
  · have q := List.all_eq_true.mp ab_okC5 (m - 85) (List.mem_range.mpr (by omega))
    rwa [show 85 + (m - 85) = m by omega] at q
  · have q := List.all_eq_true.mp ab_okC6 (m - 109) (List.mem_range.mpr (by omega))
    rwa [show 109 + (m - 109) = m by omega] at q
  · have q := List.all_eq_true.mp ab_okC7 (m - 131) (List.mem_range.mpr (by omega))
    rwa [show 131 + (m - 131) = m by omega] at q
  · have q := List.all_eq_true.mp ab_okC8 (m - 149) (List.mem_range.mpr (by omega))
    rwa [show 149 + (m - 149) = m by omega] at q
  · have q := List.all_eq_true.mp ab_okC9 (m - 163) (List.mem_range.mpr (by omega))
    rwa [show 163 + (m - 163) = m by omega] at q
  · have q := List.all_eq_true.mp ab_okC10 (m - 178) (List.mem_range.mpr (by omega))
    rwa [show 178 + (m - 178) = m by omega] at q
  · have q := List.all_eq_true.mp ab_okC11 (m - 191) (List.mem_range.mpr (by omega))
    rwa [show 191 + (m - 191) = m by omega] at q
  · have q := List.all_eq_true.mp ab_okC12 (m - 207) (List.mem_range.mpr (by omega))
    rwa [show 207 + (m - 207) = m by omega] at q
  · have q := List.all_eq_true.mp ab_okC13 (m - 221) (List.mem_range.mpr (by omega))
    rwa [show 221 + (m - 221) = m by omega] at q
  · have q := List.all_eq_true.mp ab_okC14 (m - 234) (List.mem_range.mpr (by omega))
    rwa [show 234 + (m - 234) = m by omega] at q
  · have q := List.all_eq_true.mp ab_okC15 (m - 247) (List.mem_range.mpr (by omega))
    rwa [show 247 + (m - 247) = m by omega] at q
  · have q := List.all_eq_true.mp ab_okC16 (m - 261) (List.mem_range.mpr (by omega))
    rwa [show 261 + (m - 261) = m by omega] at q
  · have q := List.all_eq_true.mp ab_okC17 (m - 273) (List.mem_range.mpr (by omega))
    rwa [show 273 + (m - 273) = m by omega] at q
  · have q := List.all_eq_true.mp ab_okC18 (m - 289) (List.mem_range.mpr (by omega))
    rwa [show 289 + (m - 289) = m by omega] at q
  · have q := List.all_eq_true.mp ab_okC19 (m - 300) (List.mem_range.mpr (by omega))
    rwa [show 300 + (m - 300) = m by omega] at q
  · have q := List.all_eq_true.mp ab_okC20 (m - 308) (List.mem_range.mpr (by omega))
    rwa [show 308 + (m - 308) = m by omega] at q
  · have q := List.all_eq_true.mp ab_okC21 (m - 320) (List.mem_range.mpr (by omega))
    rwa [show 320 + (m - 320) = m by omega] at q
  · have q := List.all_eq_true.mp ab_okC22 (m - 331) (List.mem_range.mpr (by omega))
    rwa [show 331 + (m - 331) = m by omega] at q
  · have q := List.all_eq_true.mp ab_okC23 (m - 339) (List.mem_range.mpr (by omega))
    rwa [show 339 + (m - 339) = m by omega] at q
  · have q := List.all_eq_true.mp ab_okC24 (m - 349) (List.mem_range.mpr (by omega))
    rwa [show 349 + (m - 349) = m by omega] at q
  · have q := List.all_eq_true.mp ab_okC25 (m - 360) (List.mem_range.mpr (by omega))
    rwa [show 360 + (m - 360) = m by omega] at q
theorem ab_lk_in {l : List (Nat × ab_I × Nat)} {pc : Nat} {r : ab_I × Nat} (h : ab_lk l pc = some r) : (pc, r) ∈ l := by
  induction l with
  | nil => simp [ab_lk] at h
  | cons x l ih =>
    obtain ⟨p, q⟩ := x
    unfold ab_lk at h
    cases e : Nat.beq p pc with
    | true =>
      rw [e] at h
      obtain rfl := Nat.eq_of_beq_eq_true e
      obtain rfl := Option.some.inj h
      exact List.mem_cons_self
    | false =>
      rw [e] at h
      exact List.mem_cons_of_mem _ (ih h)
theorem ab_code_ok {m pc : Nat} {r : ab_I} {n : Nat} (h : ab_code m pc = some (r, n)) : ab_okE m (pc, r, n) = true := by
  by_cases hm : m < 361
  · have h1 := ab_okCall hm
    unfold ab_code at h
    have h2 := ab_lk_in h
    unfold ab_okC at h1
    rw [List.getD_eq_getElem?_getD] at h2
    cases e : (ab_2 ab_cT m [])[pc / 16]? with
    | none => rw [e] at h2; exact absurd h2 List.not_mem_nil
    | some ch =>
      rw [e] at h2
      exact List.all_eq_true.mp (List.all_eq_true.mp h1 ch (List.mem_of_getElem? e)) _ h2
  · unfold ab_code ab_2 at h
    have e : ab_cT.getD (m / 20) [] = [] ∨ (ab_cT.getD (m / 20) []).getD (m % 20) [] = [] := by
      rcases Nat.lt_or_ge (m / 20) 19 with q | q
      · refine Or.inr ?_
        have e1 : m / 20 = 18 := by omega
        rw [e1]
        have e2 : (ab_cT.getD 18 []).length = 1 := rfl
        rw [List.getD_eq_getElem?_getD, List.getElem?_eq_none (by rw [e2]; omega)]
        rfl
      · refine Or.inl ?_
        have e2 : ab_cT.length = 19 := rfl
        rw [List.getD_eq_getElem?_getD, List.getElem?_eq_none (by rw [e2]; omega)]
        rfl
    have e3 : (ab_cT.getD (m / 20) []).getD (m % 20) [] = [] := by
      rcases e with q | q
      · rw [q]; rfl
      · exact q
    rw [e3] at h
    simp [ab_lk] at h
theorem ab_code_lt {m pc : Nat} {r : ab_I × Nat} (h : ab_code m pc = some r) : m < 361 := by
  rcases Nat.lt_or_ge m 361 with q | q
  · exact q
  · exfalso
    unfold ab_code ab_2 at h
    have e3 : (ab_cT.getD (m / 20) []).getD (m % 20) [] = [] := by
      rcases Nat.lt_or_ge (m / 20) 19 with q2 | q2
      · have e1 : m / 20 = 18 := by omega
        rw [e1]
        have e2 : (ab_cT.getD 18 []).length = 1 := rfl
        rw [List.getD_eq_getElem?_getD, List.getElem?_eq_none (by rw [e2]; omega)]
        rfl
      · have e2 : ab_cT.length = 19 := rfl
        have e4 : ab_cT.getD (m / 20) [] = [] := by
          rw [List.getD_eq_getElem?_getD, List.getElem?_eq_none (by rw [e2]; omega)]
          rfl
        rw [e4]; rfl
    rw [e3] at h
    simp [ab_lk] at h
