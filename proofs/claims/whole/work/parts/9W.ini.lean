/-! What holds at the start (codes printed by gen_ini.py): the tables, the tokens, the texts. -/
def nw_tk (a : Nat) : Nat := if a = 0 then 133 else 139 + 3 * a
abbrev nw_tS (i : Nat) : Term := .static "MovingNames$Token" (ab_tn.getD i "") "LMovingNames$Token;"
abbrev nw_sT (a : Nat) : Term := .string "MovingNames$Token" (nw_tk a)
abbrev nw_vT (a : Nat) : Term := .field (nw_sT a) "java/lang/String" "value" "[B"
abbrev nw_TS : Term := .static "MovingNames" "TOKENS" "[LMovingNames$Token;"
def nw_tx : List (Nat × String) := [(60, "the tape has not so many bytes"), (388, "no such street"), (117, "a street has no such thing"), (394, "no such round"), (133, "a round has no such thing"), (396, "no such person"), (148, "a person has no such thing"), (392, "no such name"), (398, "a number is out of its bounds"), (390, "both streets are one"), (202, "the street is in the round"), (209, "the street is not in the round"), (349, "no such tray"), (400, "the tray is missing"), (259, "no streets"), (404, "a number is no name and street"), (322, "no map is right for so few streets"), (406, "a number is no name"), (358, "the tray has no such place"), (368, "no such image"), (370, "no such image was made")]
noncomputable def nw_f (n : Nat) : Jvm.Cond := match n / 1000000, n / 1000 % 1000, n % 1000 with
  | 0, i, _ => .exactly (nw_tS i) "MovingNames$Token"
  | 1, i, _ => .eq (.field (nw_tS i) "java/lang/Enum" "ordinal" "I") (.int (Int32.ofNat i))
  | 2, i, _ => .eq (.field (nw_tS i) "MovingNames$Token" "text" "Ljava/lang/String;") (nw_sT (ab_tx i))
  | 3, i, _ => .eq (.field (nw_tS i) "MovingNames$Token" "law" "I") (.int (ab_tl i))
  | 4, i, _ => .eq (.elem nw_TS (.int (Int32.ofNat i))) (nw_tS i)
  | 5, i, _ => .exactly (nw_sT i) "java/lang/String"
  | 6, i, _ => .eq (.field (nw_sT i) "java/lang/String" "coder" "B") (.int 0)
  | 7, i, _ => .arrayOf (nw_vT i) .byte
  | 8, i, _ => .eq (.length (nw_vT i)) (.int (Int32.ofNat (ab_sl i)))
  | 9, i, j => .eq (.elem (nw_vT i) (.int (Int32.ofNat j))) (.int (ab_sb i j))
  | 10, i, _ => .eq (.string (ab_cnm ((ab_sl_.getD i []).getD 0 0)) ((ab_sl_.getD i []).getD 1 0)) (nw_sT ((ab_sl_.getD i []).getD 2 0))
  | 11, i, _ => .exactly (.string "MovingNames" i) "java/lang/String"
  | 12, i, j => .not (.castable (ab_exn i) (ab_exn j))
  | 13, _, _ => .isRef (.static Bundle.tN "UNASSIGNED_STACK" Bundle.steD)
  | 14, _, _ => .isRef (.static Bundle.tN "SUPPRESSED_SENTINEL" Bundle.listD)
  | 15, _, _ => .arrayOf nw_TS (.object "MovingNames$Token")
  | 16, _, _ => .eq (.length nw_TS) (.int (Int32.ofNat 33))
  | 17, _, _ => .eq (.static "java/lang/String" "COMPACT_STRINGS" "Z") (.int 1)
  | 18, _, _ => .isRef (.static "jdk/internal/util/Preconditions" "SIOOBE_FORMATTER" "Ljava/util/function/BiFunction;")
  | 20, i, _ => .laysStatic "MovingNames$Token" (ab_tn.getD i "") "LMovingNames$Token;"
  | 21, i, _ => .stringRef (ab_cnm ((ab_sl_.getD i []).getD 0 0)) ((ab_sl_.getD i []).getD 1 0) (ab_txt ((ab_sl_.getD i []).getD 2 0))
  | 22, i, _ => .stringRef "MovingNames" (nw_tx.getD i (0, "")).1 (nw_tx.getD i (0, "")).2
  | 23, i, _ => .instantiable (ab_cl.getD i ("", ab_T 0, 0)).1 (ab_cl.getD i ("", ab_T 0, 0)).2.2
  | _, _, _ => .tt
def nw_R : List Nat := [0, 1000000, 2000000, 3000000, 13000000, 14000000, 3000, 1003000, 2003000, 3003000, 15000000, 16000000, 4000000, 4001000, 4002000, 4003000, 4004000, 4005000, 4006000, 4007000, 4008000, 4009000, 4010000, 4011000, 4012000, 4013000, 4014000, 4015000, 4016000, 4017000, 4018000, 4019000, 4020000, 4021000, 4022000, 4023000, 4024000, 4025000, 4026000, 4027000, 4028000, 4029000, 4030000, 4031000, 4032000, 17000000, 18000000, 1000, 1001000, 2001000, 3001000, 2000, 1002000, 2002000, 3002000, 4000, 1004000, 2004000, 3004000, 13000, 1013000, 2013000, 3013000, 5000, 1005000, 2005000, 3005000, 6000, 1006000, 2006000, 3006000, 7000, 1007000, 2007000, 3007000, 14000, 1014000, 2014000, 3014000, 8000, 1008000, 2008000, 3008000, 9000, 1009000, 2009000, 3009000, 10000, 1010000, 2010000, 3010000, 11000, 1011000, 2011000, 3011000, 12000, 1012000, 2012000, 3012000, 21000, 1021000, 2021000, 3021000, 17000, 1017000, 2017000, 3017000, 18000, 1018000, 2018000, 3018000, 15000, 1015000, 2015000, 3015000, 16000, 1016000, 2016000, 3016000, 27000, 1027000, 2027000, 3027000, 25000, 1025000, 2025000, 3025000, 26000, 1026000, 2026000, 3026000, 20000, 1020000, 2020000, 3020000, 19000, 1019000, 2019000, 3019000, 22000, 1022000, 2022000, 3022000, 23000, 1023000, 2023000, 3023000, 24000, 1024000, 2024000, 3024000, 28000, 1028000, 2028000, 3028000, 29000, 1029000, 2029000, 3029000, 30000, 1030000, 2030000, 3030000, 31000, 1031000, 2031000, 3031000, 32000, 1032000, 2032000, 3032000, 12001000, 12002000, 12003000, 12000001, 12002001, 12003001, 12000002, 12001002, 12003002, 12000003, 12001003, 12002003, 11060000, 11388000, 11117000, 11394000, 11133000, 11396000, 11148000, 11392000, 11398000, 11390000, 11202000, 11209000, 11349000, 11400000, 11259000, 11404000, 11322000, 11406000, 11358000, 11368000, 11370000, 5000000, 6000000, 7000000, 8000000, 5001000, 6001000, 7001000, 8001000, 9001000, 9001001, 9001002, 9001003, 9001004, 9001005, 9001006, 10016000, 5010000, 6010000, 7010000, 8010000, 9010000, 5002000, 6002000, 7002000, 8002000, 9002000, 9002001, 9002002, 9002003, 9002004, 10010000, 5003000, 6003000, 7003000, 8003000, 9003000, 9003001, 9003002, 9003003, 10008000, 5004000, 6004000, 7004000, 8004000, 9004000, 9004001, 10009000, 5011000, 6011000, 7011000, 8011000, 9011000, 5005000, 6005000, 7005000, 8005000, 9005000, 9005001, 9005002, 9005003, 9005004, 10011000, 5006000, 6006000, 7006000, 8006000, 9006000, 9006001, 9006002, 9006003, 9006004, 9006005, 10012000, 5007000, 6007000, 7007000, 8007000, 9007000, 9007001, 9007002, 9007003, 10013000, 5008000, 6008000, 7008000, 8008000, 9008000, 9008001, 9008002, 9008003, 9008004, 9008005, 10014000, 5009000, 6009000, 7009000, 8009000, 9009000, 9009001, 9009002, 9009003, 10015000, 5018000, 6018000, 7018000, 8018000, 9018000, 9018001, 9018002, 10002000, 5014000, 6014000, 7014000, 8014000, 9014000, 5015000, 6015000, 7015000, 8015000, 9015000, 5012000, 6012000, 7012000, 8012000, 9012000, 5013000, 6013000, 7013000, 8013000, 9013000, 5024000, 6024000, 7024000, 8024000, 9024000, 5022000, 6022000, 7022000, 8022000, 9022000, 5023000, 6023000, 7023000, 8023000, 9023000, 5017000, 6017000, 7017000, 8017000, 9017000, 9017001, 9017002, 10001000, 5016000, 6016000, 7016000, 8016000, 9016000, 9016001, 10000000, 5019000, 6019000, 7019000, 8019000, 9019000, 5020000, 6020000, 7020000, 8020000, 9020000, 5021000, 6021000, 7021000, 8021000, 9021000, 5025000, 6025000, 7025000, 8025000, 9025000, 9025001, 9025002, 10003000, 5026000, 6026000, 7026000, 8026000, 9026000, 9026001, 9026002, 9026003, 10004000, 5027000, 6027000, 7027000, 8027000, 9027000, 9027001, 9027002, 9027003, 9027004, 10005000, 5028000, 6028000, 7028000, 8028000, 9028000, 9028001, 9028002, 9028003, 9028004, 9028005, 10006000, 5029000, 6029000, 7029000, 8029000, 9029000, 9029001, 9029002, 9029003, 9029004, 10007000]
def nw_W : List Nat := [23000000, 23001000, 20000000, 23002000, 23003000, 23004000, 23005000, 23006000, 23007000, 22000000, 20003000, 20001000, 20002000, 20004000, 20013000, 20005000, 20006000, 20007000, 20014000, 20008000, 20009000, 20010000, 20011000, 20012000, 20021000, 20017000, 20018000, 20015000, 20016000, 20027000, 20025000, 20026000, 20020000, 20019000, 22001000, 22002000, 22003000, 22004000, 22005000, 22006000, 22007000, 22008000, 22009000, 22010000, 22011000, 22012000, 22013000, 22014000, 22015000, 22016000, 22017000, 23008000, 22018000, 22019000, 22020000, 23009000, 21016000, 21010000, 21008000, 21009000, 21011000, 21012000, 21013000, 21014000, 21015000, 21002000, 21003000, 21004000, 21005000, 21006000, 21007000, 21001000, 21000000, 20022000, 20023000, 20024000, 20028000, 20029000, 20030000, 20031000, 20032000]
def nw_go : List Jvm.Cond → List Jvm.Cond → Bool
  | [], _ => true
  | _ :: _, [] => false
  | w :: ws, z :: zs => if w = z then nw_go ws zs else nw_go (w :: ws) zs
theorem nw_go_in : ∀ (zs ws : List Jvm.Cond), nw_go ws zs = true → ∀ w ∈ ws, w ∈ zs
  | _, [], _, w, hw => absurd hw List.not_mem_nil
  | [], _ :: _, h, _, _ => by
    rw [nw_go] at h
    cases h
  | z :: zs, w :: ws, h, v, hv => by
    rw [nw_go] at h
    split at h
    · rename_i e
      rcases List.mem_cons.mp hv with rfl | hv
      · rw [e]
        exact List.mem_cons_self
      · exact List.mem_cons_of_mem _ (nw_go_in zs ws h v hv)
    · exact List.mem_cons_of_mem _ (nw_go_in zs (w :: ws) h v hv)
set_option maxRecDepth 1000000 in
set_option maxHeartbeats 0 in
theorem nw_cR : nw_go (nw_R.map nw_f) (flatC (Jvm.Cond.and given_1 narrow_1)) = true := by decide +kernel
set_option maxRecDepth 1000000 in
set_option maxHeartbeats 0 in
theorem nw_cW : nw_go (nw_W.map nw_f) lw_tbl = true := by decide +kernel
theorem nw_fR {args : Array Value} {s : State} (h : (Jvm.Cond.and given_1 narrow_1).before args s = true) {n : Nat} (hn : nw_R.elem n = true) : (nw_f n).before args s = true := flat_of_before _ h _ (nw_go_in _ _ nw_cR _ (List.mem_map.mpr ⟨n, List.elem_iff.mp hn, rfl⟩))
theorem nw_fW {n : Nat} (hn : nw_W.elem n = true) : nw_f n ∈ lw_tbl := nw_go_in _ _ nw_cW _ (List.mem_map.mpr ⟨n, List.elem_iff.mp hn, rfl⟩)
theorem nw_e1 : (List.range 33).all (fun i => nw_R.elem (i * 1000) && nw_R.elem (1000000 + i * 1000) && nw_R.elem (2000000 + i * 1000) && nw_R.elem (3000000 + i * 1000) && nw_R.elem (4000000 + i * 1000) && nw_W.elem (20000000 + i * 1000) && Nat.blt (ab_tx i) 30 && Nat.blt i ab_tn.length) = true := by decide +kernel
theorem nw_e2 : (List.range 30).all (fun a => nw_R.elem (5000000 + a * 1000) && nw_R.elem (6000000 + a * 1000) && nw_R.elem (7000000 + a * 1000) && nw_R.elem (8000000 + a * 1000) && (List.range (ab_sl a)).all (fun j => nw_R.elem (9000000 + a * 1000 + j))) = true := by decide +kernel
theorem nw_e3 : (List.range 17).all (fun k => nw_R.elem (10000000 + k * 1000) && nw_W.elem (21000000 + k * 1000) && Nat.blt ((ab_sl_.getD k []).getD 2 0) 30) = true := by decide +kernel
theorem nw_e4 : ab_ex.all (fun r => match r with
  | [m, pc, ik, is, ic, w, E] => nw_R.elem (11000000 + is * 1000) && decide (ab_cnm (ab_ow m) = "MovingNames") && (List.range 21).any (fun k => Nat.beq (nw_tx.getD k (0, "")).1 is && nw_W.elem (22000000 + k * 1000))
  | _ => false) = true := by decide +kernel
theorem nw_e5 : ab_ncs.all (fun e => nw_R.elem (12000000 + e.1 * 1000 + e.2)) = true := by decide +kernel
theorem nw_e6 : (List.range 10).all (fun k => nw_W.elem (23000000 + k * 1000)) = true := by decide +kernel
theorem nw_e7 : (List.range 33).all (fun i => (List.range 33).all (fun j => !decide (Int32.ofNat i = Int32.ofNat j) || Nat.beq i j)) = true := by decide +kernel
