/-! AN ABSTRACT MACHINE over the claim's own objects: references are (kind, number), the objects' fields and arrays are plain functions. Part 'sound' shows that what it reckons the machine does. -/
abbrev ab_V : Type := Value ⊕ (Nat × Nat)
abbrev ab_L : Type := List (Option ab_V)
abbrev ab_I : Type := Instr ⊕ (Nat × Nat × Int)
/-- ints, longs, tokens of single objects; ints of many; int arrays of single objects, of many; long arrays of single objects, of many; arrays of references; counts -/
abbrev ab_S : Type := (Nat → Int32) × (Nat → Int64) × (Nat → Nat) × (Nat → Nat → Int32) × (Nat → Nat → Int32) × (Nat → Nat → Nat → Int32) × (Nat → Nat → Int64) × (Nat → Nat → Nat → Int64) × (Nat → Nat → Option Nat) × (Nat → Nat)
def sz (s : ab_S) (k : Nat) : Int32 := s.1 k
def sy (s : ab_S) (k : Nat) : Int64 := s.2.1 k
def st (s : ab_S) (k : Nat) : Nat := s.2.2.1 k
def si (s : ab_S) (k : Nat) : Nat → Int32 := s.2.2.2.1 k
def sa (s : ab_S) (k : Nat) : Nat → Int32 := s.2.2.2.2.1 k
def sA (s : ab_S) (k : Nat) : Nat → Nat → Int32 := s.2.2.2.2.2.1 k
def sb (s : ab_S) (k : Nat) : Nat → Int64 := s.2.2.2.2.2.2.1 k
def sB (s : ab_S) (k : Nat) : Nat → Nat → Int64 := s.2.2.2.2.2.2.2.1 k
def sq (s : ab_S) (k : Nat) : Nat → Option Nat := s.2.2.2.2.2.2.2.2.1 k
def sn (s : ab_S) (k : Nat) : Nat := s.2.2.2.2.2.2.2.2.2 k
def pz (s : ab_S) (k : Nat) (v : Int32) : ab_S := (va_up s.1 k v, s.2)
def py (s : ab_S) (k : Nat) (v : Int64) : ab_S := (s.1, va_up s.2.1 k v, s.2.2)
def pt (s : ab_S) (k : Nat) (v : Nat) : ab_S := (s.1, s.2.1, va_up s.2.2.1 k v, s.2.2.2)
def pi (s : ab_S) (k : Nat) (v : Nat → Int32) : ab_S := (s.1, s.2.1, s.2.2.1, va_up s.2.2.2.1 k v, s.2.2.2.2)
def pa (s : ab_S) (k : Nat) (v : Nat → Int32) : ab_S := (s.1, s.2.1, s.2.2.1, s.2.2.2.1, va_up s.2.2.2.2.1 k v, s.2.2.2.2.2)
def pA (s : ab_S) (k : Nat) (v : Nat → Nat → Int32) : ab_S := (s.1, s.2.1, s.2.2.1, s.2.2.2.1, s.2.2.2.2.1, va_up s.2.2.2.2.2.1 k v, s.2.2.2.2.2.2)
def pb (s : ab_S) (k : Nat) (v : Nat → Int64) : ab_S := (s.1, s.2.1, s.2.2.1, s.2.2.2.1, s.2.2.2.2.1, s.2.2.2.2.2.1, va_up s.2.2.2.2.2.2.1 k v, s.2.2.2.2.2.2.2)
def pB (s : ab_S) (k : Nat) (v : Nat → Nat → Int64) : ab_S := (s.1, s.2.1, s.2.2.1, s.2.2.2.1, s.2.2.2.2.1, s.2.2.2.2.2.1, s.2.2.2.2.2.2.1, va_up s.2.2.2.2.2.2.2.1 k v, s.2.2.2.2.2.2.2.2)
def pq (s : ab_S) (k : Nat) (v : Nat → Option Nat) : ab_S := (s.1, s.2.1, s.2.2.1, s.2.2.2.1, s.2.2.2.2.1, s.2.2.2.2.2.1, s.2.2.2.2.2.2.1, s.2.2.2.2.2.2.2.1, va_up s.2.2.2.2.2.2.2.2.1 k v, s.2.2.2.2.2.2.2.2.2)
def pn (s : ab_S) (k : Nat) (v : Nat) : ab_S := (s.1, s.2.1, s.2.2.1, s.2.2.2.1, s.2.2.2.2.1, s.2.2.2.2.2.1, s.2.2.2.2.2.2.1, s.2.2.2.2.2.2.2.1, s.2.2.2.2.2.2.2.2.1, va_up s.2.2.2.2.2.2.2.2.2 k v)
abbrev ab_kds : List ((Nat × List (Nat × Nat × Nat)) ⊕ (Nat × Nat × Nat × Nat)) := [
  .inl (0, [(5, 1, 0), (5, 2, 0), (5, 2, 1), (5, 6, 0), (5, 7, 0), (4, 16, 0), (4, 17, 0), (0, 0, 0)]),
  .inl (1, [(4, 18, 0), (0, 1, 0), (0, 2, 0), (0, 3, 0), (0, 4, 0), (0, 5, 0), (0, 6, 0), (0, 7, 0), (2, 0, 0)]),
  .inl (2, [(3, 0, 0), (3, 1, 0), (3, 2, 0), (3, 3, 0), (3, 4, 0), (3, 5, 0), (3, 6, 0), (4, 19, 0), (4, 20, 0), (4, 21, 0), (4, 3, 0), (4, 4, 0), (4, 5, 0)]),
  .inl (3, [(4, 22, 0), (4, 23, 0), (4, 24, 0), (3, 7, 0)]),
  .inl (4, [(4, 25, 0), (4, 26, 0), (3, 8, 0)]),
  .inl (5, [(4, 27, 0), (3, 9, 0)]),
  .inl (6, [(0, 8, 0), (0, 9, 0), (4, 28, 0), (4, 29, 0), (4, 30, 0), (4, 31, 0), (4, 32, 0), (4, 33, 0)]),
  .inl (7, [(4, 34, 0), (4, 35, 0), (0, 10, 0)]),
  .inl (8, [(4, 36, 0), (3, 10, 0), (3, 11, 0)]),
  .inl (9, [(4, 37, 0), (4, 38, 0), (4, 39, 0), (4, 40, 0), (0, 11, 0), (4, 41, 0), (0, 12, 0), (0, 13, 0), (0, 14, 0), (0, 15, 0), (0, 16, 0), (0, 17, 0), (0, 18, 0), (0, 19, 0), (0, 20, 0), (0, 21, 0), (0, 22, 0), (4, 42, 0), (4, 43, 0), (4, 44, 0), (4, 45, 0), (4, 46, 0), (4, 47, 0), (4, 48, 0), (0, 23, 0), (4, 49, 0), (4, 50, 0), (4, 51, 0), (1, 0, 0), (4, 52, 0), (4, 53, 0), (4, 54, 0)]),
  .inl (10, [(7, 0, 0), (6, 0, 0)]),
  .inl (11, [(4, 12, 0), (8, 0, 0)]),
  .inr (0, 0, 7, 0),
  .inr (10, 33, 8, 0),
  .inr (0, 0, 6, 0),
  .inr (1, 1, 2, 3),
  .inr (8, 4, 4, 0),
  .inr (2, 3, 4, 1),
  .inr (0, 900, 0, 0),
  .inr (0, 20, 1, 0),
  .inr (0, 8, 1, 1),
  .inr (0, 8, 1, 2),
  .inr (0, 80, 1, 3),
  .inr (0, 4, 1, 4),
  .inr (0, 4, 1, 5),
  .inr (0, 900, 1, 6),
  .inr (0, 40, 1, 7),
  .inr (0, 40, 1, 8),
  .inr (0, 20, 0, 1),
  .inr (0, 20, 0, 2),
  .inr (0, 20, 0, 3),
  .inr (0, 20, 0, 4),
  .inr (0, 20, 0, 5),
  .inr (0, 20, 0, 6),
  .inr (1, 8, 2, 0),
  .inr (0, 8, 0, 7),
  .inr (1, 30, 3, 0),
  .inr (0, 2300, 0, 8),
  .inr (0, 2300, 0, 9),
  .inr (0, 6900, 0, 10),
  .inr (2, 3, 0, 11),
  .inr (0, 900, 0, 12),
  .inr (0, 20, 0, 13),
  .inr (0, 20, 0, 14),
  .inr (0, 20, 0, 15),
  .inr (0, 20, 0, 16),
  .inr (0, 64, 0, 17),
  .inr (0, 123, 0, 18),
  .inr (0, 20, 0, 19),
  .inr (1, 8, 2, 1),
  .inr (0, 60, 0, 20),
  .inr (0, 8, 0, 21),
  .inr (0, 4, 0, 22),
  .inr (0, 4, 0, 23),
  .inr (1, 120, 2, 2)]
/-- the tokens' law numbers and texts -/
def ab_tl (i : Nat) : Int32 := [0, 0, 0, 0, 0, 0, 0, 0, 0, 0, 0, 0, 0, 0, 0, 0, 0, 0, 0, (-14), (-13), (-12), (-9), (-10), (-11), (-6), (-7), (-8), (-1), (-2), (-3), (-4), (-5)].getD i 0
def ab_tx (i : Nat) : Nat := [0, 0, 0, 0, 1, 2, 3, 4, 5, 6, 7, 8, 9, 10, 11, 12, 13, 14, 15, 16, 17, 18, 19, 20, 21, 22, 23, 24, 25, 26, 27, 28, 29].getD i 0
/-- the bytes of the texts -/
def ab_str : List (List Int32) := [[], [115, 116, 114, 101, 101, 116, 115], [114, 111, 117, 110, 100], [98, 97, 99, 107], [98, 121], [98, 108, 105, 110, 100], [112, 101, 114, 115, 111, 110], [115, 105, 103, 110], [104, 111, 117, 115, 101, 115], [114, 101, 115, 116], [59], [58], [40], [41], [91], [93], [111, 114], [97, 110, 100], [110, 111, 116], [61], [60], [62], [43], [45], [42], [100, 97, 121], [119, 101, 101, 107], [109, 111, 118, 101, 100], [112, 101, 111, 112, 108, 101], [119, 114, 111, 110, 103]]
def ab_sl (i : Nat) : Nat := (ab_str.getD i []).length
def ab_sb (i : Nat) (j : Nat) : Int32 := (ab_str.getD i []).getD j 0
/-- rows of ints; of bytes and booleans -/
def ab_isi (k : Nat) : Bool := [14, 18, 19, 20, 21, 22, 23, 24, 25, 26, 27, 28, 29, 30, 31, 32, 33, 35, 37, 38, 39, 41, 42, 43, 44, 45, 46, 47, 48, 50, 51, 52, 53].elem k
def ab_isb (k : Nat) : Bool := [12, 40].elem k
def ab_fmk : Nat := 55
/-- which exception a row takes up -/
def ab_cs (E e : Nat) : Bool := Nat.beq E e
/-- a new town, as its constructor makes it -/
def ab_newT (s : ab_S) : ab_S := pn (pn (pn (pA (pA (pA (pA (pA (pA (pA (pA (pA (pi (pi (pi (pi (pi (pi (pi (pi (pi (pi s 0 (va_up (si s 0) (sn s 2) 0)) 1 (va_up (si s 1) (sn s 2) 0)) 2 (va_up (si s 2) (sn s 2) 9)) 3 (va_up (si s 3) (sn s 2) 0)) 4 (va_up (si s 4) (sn s 2) 0)) 5 (va_up (si s 5) (sn s 2) 0)) 6 (va_up (si s 6) (sn s 2) 0)) 7 (va_up (si s 7) (sn s 2) 0)) 8 (va_up (si s 8) (sn s 2) 0)) 9 (va_up (si s 9) (sn s 2) 0)) 0 (va_up (sA s 0) (sn s 2) (fun _ => 0))) 1 (va_up (sA s 1) (sn s 2) (fun _ => 0))) 2 (va_up (sA s 2) (sn s 2) (fun _ => 0))) 3 (va_up (sA s 3) (sn s 2) (fun _ => 0))) 4 (va_up (sA s 4) (sn s 2) (fun _ => 0))) 5 (va_up (sA s 5) (sn s 2) (fun _ => 0))) 6 (va_up (sA s 6) (sn s 2) (fun _ => 0))) 7 (va_up (sA s 7) (sn s 2) (fun _ => 0))) 8 (va_up (sA s 8) (sn s 2) (fun _ => 0))) 0 (sn s 0 + 13)) 1 (sn s 1 + 1126)) 2 (sn s 2 + 1)
/-- a new tray -/
def ab_newR (s : ab_S) : ab_S := pn (pn (pn (pi (pi (pB s 0 (va_up (sB s 0) (sn s 3) (fun _ => 0))) 10 (va_up (si s 10) (sn s 3) 0)) 11 (va_up (si s 11) (sn s 3) 0)) 0 (sn s 0 + 2)) 1 (sn s 1 + 33)) 3 (sn s 3 + 1)
/-- how many objects of a kind there are: by its group -/
def ab_grp : List Nat := [0, 0, 1, 1, 1, 1, 0, 0, 2, 0, 3, 4, 4, 0, 0, 0, 0, 0, 0, 1, 1, 1, 1, 1, 1, 1, 1, 1, 0, 0, 0, 0, 0, 0, 0, 0, 2, 0, 0, 0, 0, 0, 0, 0, 0, 0, 0, 0, 0, 0, 0, 0, 0, 0, 0, 0]
def ab_lim (k : Nat) (s : ab_S) : Nat := match ab_grp.getD k 0 with
  | 0 => 1
  | 1 => sn s 2
  | 2 => sn s 3
  | 3 => 33
  | _ => 30
-- MovingNames.feed(IIIII)I
set_option maxRecDepth 100000 in
noncomputable def ab_c0 : List (List (Nat × ab_I × Nat)) := [[(0, .inl (.aload_n 0), 1), (1, .inr (0, 0, 0), 3), (4, .inl (.iload_n 1), 1), (5, .inl (.iload_n 2), 1), (6, .inl (.iload_n 3), 1), (7, .inl (.iload 4), 2), (9, .inl (.iload 5), 2), (11, .inr (2, 1, 6), 3), (14, .inl (.ireturn), 1)]]
-- MovingNames$Reader.append(IIIII)I
set_option maxRecDepth 100000 in
noncomputable def ab_c1 : List (List (Nat × ab_I × Nat)) := [[(0, .inl (.aload_n 0), 1), (1, .inr (0, 1, 1), 3), (4, .inl (.sipush 880), 3), (7, .inl (.if_icmp .le 5), 3), (10, .inl (.iconst (-1)), 1), (11, .inl (.ireturn), 1), (12, .inl (.aload_n 0), 1), (13, .inl (.iload_n 1), 1), (14, .inr (2, 2, 2), 3)],
  [(17, .inl (.aload_n 0), 1), (18, .inl (.iload_n 2), 1), (19, .inr (2, 2, 2), 3), (22, .inl (.aload_n 0), 1), (23, .inl (.iload_n 3), 1), (24, .inr (2, 2, 2), 3), (27, .inl (.aload_n 0), 1), (28, .inl (.iload 4), 2), (30, .inr (2, 2, 2), 3)],
  [(33, .inl (.aload_n 0), 1), (34, .inl (.iload 5), 2), (36, .inr (2, 2, 2), 3), (39, .inl (.aload_n 0), 1), (40, .inr (0, 1, 1), 3), (43, .inl (.ireturn), 1)]]
-- MovingNames$Reader.appendFour(I)V
set_option maxRecDepth 100000 in
noncomputable def ab_c2 : List (List (Nat × ab_I × Nat)) := [[(0, .inl (.bipush 24), 2), (2, .inl (.istore_n 2), 1), (3, .inl (.iload_n 2), 1), (4, .inl (.ifCond .lt 37), 3), (7, .inl (.aload_n 0), 1), (8, .inr (0, 1, 0), 3), (11, .inl (.aload_n 0), 1), (12, .inr (0, 1, 1), 3), (15, .inl (.iload_n 1), 1)],
  [(16, .inl (.iload_n 2), 1), (17, .inl (.iushr), 1), (18, .inl (.sipush 255), 3), (21, .inl (.iand), 1), (22, .inr (2, 3, 3), 3), (25, .inl (.aload_n 0), 1), (26, .inl (.dup), 1), (27, .inr (0, 1, 1), 3), (30, .inl (.iconst 1), 1), (31, .inl (.iadd), 1)],
  [(32, .inr (1, 1, 1), 3), (35, .inl (.iinc 2 (-8)), 3), (38, .inl (.goto (-35)), 3), (41, .inl (.return_), 1)]]
-- MovingNames.put([III)V
set_option maxRecDepth 100000 in
noncomputable def ab_c3 : List (List (Nat × ab_I × Nat)) := [[(0, .inl (.iload_n 1), 1), (1, .inl (.ifCond .lt 13), 3), (4, .inl (.iload_n 1), 1), (5, .inl (.aload_n 0), 1), (6, .inl (.arraylength), 1), (7, .inl (.if_icmp .ge 7), 3), (10, .inl (.aload_n 0), 1), (11, .inl (.iload_n 1), 1), (12, .inl (.iload_n 2), 1), (13, .inl (.iastore), 1), (14, .inl (.return_), 1)]]
-- MovingNames.fault(I)I
set_option maxRecDepth 100000 in
noncomputable def ab_c4 : List (List (Nat × ab_I × Nat)) := [[(0, .inl (.iload_n 1), 1), (1, .inl (.lookupswitch 43 #[(0, 27), (1, 35)]), 27)],
  [(28, .inl (.aload_n 0), 1), (29, .inr (0, 0, 0), 3)],
  [(32, .inr (0, 1, 2), 3), (35, .inl (.ireturn), 1), (36, .inl (.aload_n 0), 1), (37, .inr (0, 0, 0), 3), (40, .inr (0, 1, 3), 3), (43, .inl (.ireturn), 1), (44, .inl (.iconst (-1)), 1), (45, .inl (.ireturn), 1)]]
-- MovingNames.rests()Z
set_option maxRecDepth 100000 in
noncomputable def ab_c5 : List (List (Nat × ab_I × Nat)) := [[(0, .inl (.aload_n 0), 1), (1, .inr (0, 0, 1), 3), (4, .inl (.iconst 1), 1), (5, .inr (2, 6, 2), 3), (8, .inl (.ifCond .ne 7), 3), (11, .inl (.iconst 1), 1), (12, .inl (.goto 4), 3), (15, .inl (.iconst 0), 1)],
  [(16, .inl (.ireturn), 1)]]
-- MovingNames$Town.movesAmong(I)I
set_option maxRecDepth 100000 in
noncomputable def ab_c6 : List (List (Nat × ab_I × Nat)) := [[(0, .inl (.aload_n 0), 1), (1, .inr (2, 7, 1), 3), (4, .inl (.istore_n 2), 1), (5, .inl (.iconst 0), 1), (6, .inl (.istore_n 3), 1), (7, .inl (.iconst 0), 1), (8, .inl (.istore 4), 2), (10, .inl (.iload 4), 2), (12, .inl (.iload_n 1), 1), (13, .inl (.if_icmp .ge 40), 3)],
  [(16, .inl (.aload_n 0), 1), (17, .inr (0, 2, 11), 3), (20, .inl (.aload_n 0), 1), (21, .inr (0, 2, 4), 3), (24, .inl (.iload 4), 2), (26, .inl (.iadd), 1), (27, .inl (.aload_n 0), 1), (28, .inr (0, 2, 5), 3), (31, .inl (.iload_n 3), 1)],
  [(32, .inl (.iadd), 1), (33, .inl (.aload_n 0), 1), (34, .inr (0, 2, 3), 3), (37, .inl (.iload_n 2), 1), (38, .inr (2, 10, 5), 3), (41, .inl (.ifCond .ne 6), 3), (44, .inl (.iinc 3 1), 3), (47, .inl (.iinc 4 1), 3)],
  [(50, .inl (.goto (-40)), 3), (53, .inl (.iload_n 3), 1), (54, .inl (.ireturn), 1)]]
-- MovingNames$Town.wrongStreets()I
set_option maxRecDepth 100000 in
noncomputable def ab_c7 : List (List (Nat × ab_I × Nat)) := [[(0, .inl (.aload_n 0), 1), (1, .inr (2, 8, 1), 3), (4, .inl (.istore_n 1), 1), (5, .inl (.iconst 0), 1), (6, .inl (.istore_n 2), 1), (7, .inl (.iconst 0), 1), (8, .inl (.istore_n 3), 1), (9, .inl (.iload_n 3), 1), (10, .inl (.aload_n 0), 1), (11, .inr (0, 2, 1), 3), (14, .inl (.if_icmp .ge 24), 3)],
  [(17, .inl (.iload_n 2), 1), (18, .inl (.iload_n 1), 1), (19, .inl (.aload_n 0), 1), (20, .inr (0, 2, 7), 3), (23, .inl (.iload_n 3), 1), (24, .inr (2, 9, 2), 3), (27, .inl (.ishr), 1), (28, .inl (.iconst 1), 1), (29, .inl (.iand), 1), (30, .inl (.iadd), 1), (31, .inl (.istore_n 2), 1)],
  [(32, .inl (.iinc 3 1), 3), (35, .inl (.goto (-26)), 3), (38, .inl (.iload_n 2), 1), (39, .inl (.ireturn), 1)]]
-- MovingNames$Town.sharedNames()I
set_option maxRecDepth 100000 in
noncomputable def ab_c8 : List (List (Nat × ab_I × Nat)) := [[(0, .inl (.iconst 0), 1), (1, .inl (.istore_n 1), 1), (2, .inl (.iconst 0), 1), (3, .inl (.istore_n 2), 1), (4, .inl (.iconst 0), 1), (5, .inl (.istore_n 3), 1), (6, .inl (.iload_n 3), 1), (7, .inl (.aload_n 0), 1), (8, .inr (0, 2, 1), 3), (11, .inl (.if_icmp .ge 33), 3), (14, .inl (.iconst 1), 1), (15, .inl (.aload_n 0), 1)],
  [(16, .inr (0, 2, 7), 3), (19, .inl (.iload_n 3), 1), (20, .inr (2, 9, 2), 3), (23, .inl (.ishl), 1), (24, .inl (.istore 4), 2), (26, .inl (.iload_n 2), 1), (27, .inl (.iload_n 1), 1), (28, .inl (.iload 4), 2), (30, .inl (.iand), 1), (31, .inl (.ior), 1)],
  [(32, .inl (.istore_n 2), 1), (33, .inl (.iload_n 1), 1), (34, .inl (.iload 4), 2), (36, .inl (.ior), 1), (37, .inl (.istore_n 1), 1), (38, .inl (.iinc 3 1), 3), (41, .inl (.goto (-35)), 3), (44, .inl (.iload_n 2), 1), (45, .inl (.ireturn), 1)]]
-- MovingNames.at([II)I
set_option maxRecDepth 100000 in
noncomputable def ab_c9 : List (List (Nat × ab_I × Nat)) := [[(0, .inl (.iload_n 1), 1), (1, .inl (.ifCond .lt 15), 3), (4, .inl (.iload_n 1), 1), (5, .inl (.aload_n 0), 1), (6, .inl (.arraylength), 1), (7, .inl (.if_icmp .ge 9), 3), (10, .inl (.aload_n 0), 1), (11, .inl (.iload_n 1), 1), (12, .inl (.iaload), 1), (13, .inl (.goto 4), 3)],
  [(16, .inl (.iconst 0), 1), (17, .inl (.ireturn), 1)]]
-- MovingNames$Law.holds(IIII)Z
set_option maxRecDepth 100000 in
noncomputable def ab_c10 : List (List (Nat × ab_I × Nat)) := [[(0, .inl (.iconst 0), 1), (1, .inl (.istore 5), 2), (3, .inl (.iconst 0), 1), (4, .inl (.istore 6), 2), (6, .inl (.iload 6), 2), (8, .inl (.aload_n 0), 1), (9, .inr (0, 4, 2), 3), (12, .inl (.if_icmp .ge 143), 3), (15, .inl (.iload 6), 2)],
  [(17, .inl (.aload_n 0), 1), (18, .inr (0, 4, 0), 3), (21, .inl (.arraylength), 1), (22, .inl (.if_icmp .ge 133), 3), (25, .inl (.aload_n 0), 1), (26, .inr (0, 4, 0), 3), (29, .inl (.iload 6), 2), (31, .inl (.iaload), 1)],
  [(32, .inl (.istore 7), 2), (34, .inl (.iload 7), 2), (36, .inl (.bipush (-5)), 2), (38, .inl (.if_icmp .lt 38), 3), (41, .inl (.aload_n 0), 1), (42, .inr (0, 4, 1), 3), (45, .inl (.iload 5), 2), (47, .inl (.iload 7), 2)],
  [(49, .inl (.ifCond .lt 8), 3), (52, .inl (.iload 7), 2), (54, .inl (.goto 13), 3), (57, .inl (.iload 7), 2), (59, .inl (.iload_n 1), 1), (60, .inl (.iload_n 2), 1), (61, .inl (.iload_n 3), 1), (62, .inl (.iload 4), 2)],
  [(64, .inr (2, 11, 5), 3), (67, .inr (2, 3, 3), 3), (70, .inl (.iinc 5 1), 3), (73, .inl (.goto 76), 3), (76, .inl (.iload 7), 2), (78, .inl (.bipush (-12)), 2)],
  [(80, .inl (.if_icmp .ne 30), 3), (83, .inl (.aload_n 0), 1), (84, .inr (0, 4, 1), 3), (87, .inl (.iload 5), 2), (89, .inl (.iconst 1), 1), (90, .inl (.isub), 1), (91, .inl (.iconst 1), 1), (92, .inl (.aload_n 0), 1), (93, .inr (0, 4, 1), 3)],
  [(96, .inl (.iload 5), 2), (98, .inl (.iconst 1), 1), (99, .inl (.isub), 1), (100, .inr (2, 9, 2), 3), (103, .inl (.isub), 1), (104, .inr (2, 3, 3), 3), (107, .inl (.goto 42), 3), (110, .inl (.iinc 5 (-1)), 3)],
  [(113, .inl (.aload_n 0), 1), (114, .inr (0, 4, 1), 3), (117, .inl (.iload 5), 2), (119, .inl (.iconst 1), 1), (120, .inl (.isub), 1), (121, .inl (.iload 7), 2), (123, .inl (.aload_n 0), 1), (124, .inr (0, 4, 1), 3), (127, .inl (.iload 5), 2)],
  [(129, .inl (.iconst 1), 1), (130, .inl (.isub), 1), (131, .inr (2, 9, 2), 3), (134, .inl (.aload_n 0), 1), (135, .inr (0, 4, 1), 3), (138, .inl (.iload 5), 2), (140, .inr (2, 9, 2), 3), (143, .inr (2, 12, 3), 3)],
  [(146, .inr (2, 3, 3), 3), (149, .inl (.iinc 6 1), 3), (152, .inl (.goto (-146)), 3), (155, .inl (.iload 5), 2), (157, .inl (.ifCond .le 18), 3)],
  [(160, .inl (.aload_n 0), 1), (161, .inr (0, 4, 1), 3), (164, .inl (.iconst 0), 1), (165, .inr (2, 9, 2), 3), (168, .inl (.ifCond .eq 7), 3), (171, .inl (.iconst 1), 1), (172, .inl (.goto 4), 3), (175, .inl (.iconst 0), 1)],
  [(176, .inl (.ireturn), 1)]]
-- MovingNames$Law.reading(IIIII)I
set_option maxRecDepth 100000 in
noncomputable def ab_c11 : List (List (Nat × ab_I × Nat)) := [[(0, .inl (.iload_n 0), 1), (1, .inl (.tableswitch 46 (-4) (-1) #[44, 38, 33, 31]), 31)],
  [],
  [(32, .inl (.iload_n 1), 1), (33, .inl (.ireturn), 1), (34, .inl (.iload_n 1), 1), (35, .inl (.bipush 7), 2), (37, .inl (.irem), 1), (38, .inl (.ireturn), 1), (39, .inl (.iload_n 2), 1), (40, .inl (.sipush 1000), 3), (43, .inl (.irem), 1), (44, .inl (.ireturn), 1), (45, .inl (.iload_n 3), 1), (46, .inl (.ireturn), 1), (47, .inl (.iload 4), 2)],
  [(49, .inl (.ireturn), 1)]]
-- MovingNames$Law.reckon(III)I
set_option maxRecDepth 100000 in
noncomputable def ab_c12 : List (List (Nat × ab_I × Nat)) := [[(0, .inl (.iload_n 0), 1), (1, .inl (.tableswitch 111 (-13) (-6) #[107, 111, 96, 85, 74, 65, 56, 47]), 47)],
  [],
  [],
  [(48, .inl (.iload_n 1), 1), (49, .inl (.i2l), 1), (50, .inl (.iload_n 2), 1), (51, .inl (.i2l), 1), (52, .inl (.ladd), 1), (53, .inr (2, 13, 1), 3), (56, .inl (.ireturn), 1), (57, .inl (.iload_n 1), 1), (58, .inl (.i2l), 1), (59, .inl (.iload_n 2), 1), (60, .inl (.i2l), 1), (61, .inl (.lsub), 1), (62, .inr (2, 13, 1), 3)],
  [(65, .inl (.ireturn), 1), (66, .inl (.iload_n 1), 1), (67, .inl (.i2l), 1), (68, .inl (.iload_n 2), 1), (69, .inl (.i2l), 1), (70, .inl (.lmul), 1), (71, .inr (2, 13, 1), 3), (74, .inl (.ireturn), 1), (75, .inl (.iload_n 1), 1), (76, .inl (.iload_n 2), 1), (77, .inl (.if_icmp .ne 7), 3)],
  [(80, .inl (.iconst 1), 1), (81, .inl (.goto 4), 3), (84, .inl (.iconst 0), 1), (85, .inl (.ireturn), 1), (86, .inl (.iload_n 1), 1), (87, .inl (.iload_n 2), 1), (88, .inl (.if_icmp .ge 7), 3), (91, .inl (.iconst 1), 1), (92, .inl (.goto 4), 3), (95, .inl (.iconst 0), 1)],
  [(96, .inl (.ireturn), 1), (97, .inl (.iload_n 1), 1), (98, .inl (.iload_n 2), 1), (99, .inl (.if_icmp .le 7), 3), (102, .inl (.iconst 1), 1), (103, .inl (.goto 4), 3), (106, .inl (.iconst 0), 1), (107, .inl (.ireturn), 1), (108, .inl (.iload_n 1), 1), (109, .inl (.iload_n 2), 1), (110, .inl (.iand), 1), (111, .inl (.ireturn), 1)],
  [(112, .inl (.iload_n 1), 1), (113, .inl (.iload_n 2), 1), (114, .inl (.ior), 1), (115, .inl (.ireturn), 1)]]
-- MovingNames$Law.keep(J)I
set_option maxRecDepth 100000 in
noncomputable def ab_c13 : List (List (Nat × ab_I × Nat)) := [[(0, .inr (9, 0, (-1000000)), 3), (3, .inr (9, 0, 1000000), 3), (6, .inl (.lload_n 0), 1), (7, .inr (2, 14, 2), 3), (10, .inr (2, 15, 2), 3), (13, .inl (.l2i), 1), (14, .inl (.ireturn), 1)]]
-- java/lang/Math.min(JJ)J
set_option maxRecDepth 100000 in
noncomputable def ab_c14 : List (List (Nat × ab_I × Nat)) := [[(0, .inl (.lload_n 0), 1), (1, .inl (.lload_n 2), 1), (2, .inl (.lcmp), 1), (3, .inl (.ifCond .gt 7), 3), (6, .inl (.lload_n 0), 1), (7, .inl (.goto 4), 3), (10, .inl (.lload_n 2), 1), (11, .inl (.lreturn), 1)]]
-- java/lang/Math.max(JJ)J
set_option maxRecDepth 100000 in
noncomputable def ab_c15 : List (List (Nat × ab_I × Nat)) := [[(0, .inl (.lload_n 0), 1), (1, .inl (.lload_n 2), 1), (2, .inl (.lcmp), 1), (3, .inl (.ifCond .lt 7), 3), (6, .inl (.lload_n 0), 1), (7, .inl (.goto 4), 3), (10, .inl (.lload_n 2), 1), (11, .inl (.lreturn), 1)]]
-- MovingNames.period()J
set_option maxRecDepth 100000 in
noncomputable def ab_c16 : List (List (Nat × ab_I × Nat)) := [[(0, .inl (.aload_n 0), 1), (1, .inr (0, 0, 3), 3), (4, .inl (.aload_n 0), 1), (5, .inr (0, 0, 1), 3), (8, .inr (2, 17, 2), 3), (11, .inl (.aload_n 0), 1), (12, .inr (0, 0, 3), 3), (15, .inr (2, 26, 1), 3)],
  [(18, .inl (.i2l), 1), (19, .inl (.lreturn), 1)]]
-- MovingNames$Outlook.look(LMovingNames$Town;)V
set_option maxRecDepth 100000 in
noncomputable def ab_c17 : List (List (Nat × ab_I × Nat)) := [[(0, .inl (.aload_n 0), 1), (1, .inl (.aload_n 1), 1), (2, .inr (0, 2, 1), 3), (5, .inr (1, 6, 0), 3), (8, .inl (.aload_n 0), 1), (9, .inl (.aload_n 1), 1), (10, .inr (2, 8, 1), 3), (13, .inr (1, 6, 1), 3)],
  [(16, .inl (.aload_n 0), 1), (17, .inr (0, 6, 2), 3), (20, .inl (.aload_n 1), 1), (21, .inr (0, 2, 7), 3), (24, .inr (2, 18, 2), 3), (27, .inl (.iconst 0), 1), (28, .inl (.istore_n 2), 1), (29, .inl (.iload_n 2), 1), (30, .inl (.aload_n 0), 1), (31, .inr (0, 6, 0), 3)],
  [(34, .inl (.if_icmp .ge 27), 3), (37, .inl (.aload_n 0), 1), (38, .inr (0, 6, 5), 3), (41, .inl (.iload_n 2), 1), (42, .inl (.iload_n 2), 1), (43, .inr (2, 3, 3), 3), (46, .inl (.aload_n 0), 1), (47, .inr (0, 6, 3), 3)],
  [(50, .inl (.iload_n 2), 1), (51, .inl (.iload_n 2), 1), (52, .inr (2, 3, 3), 3), (55, .inl (.iinc 2 1), 3), (58, .inl (.goto (-29)), 3), (61, .inl (.iconst 0), 1), (62, .inl (.istore_n 2), 1), (63, .inl (.iload_n 2), 1)],
  [(64, .inl (.aload_n 1), 1), (65, .inr (0, 2, 10), 3), (68, .inr (0, 3, 3), 3), (71, .inl (.if_icmp .ge 15), 3), (74, .inl (.aload_n 0), 1), (75, .inl (.aload_n 1), 1), (76, .inl (.iload_n 2), 1), (77, .inr (2, 20, 3), 3)],
  [(80, .inl (.iinc 2 1), 3), (83, .inl (.goto (-20)), 3), (86, .inl (.iconst 0), 1), (87, .inl (.istore_n 2), 1), (88, .inl (.iload_n 2), 1), (89, .inl (.aload_n 0), 1), (90, .inr (0, 6, 0), 3), (93, .inl (.if_icmp .ge 25), 3)],
  [(96, .inl (.aload_n 0), 1), (97, .inr (0, 6, 4), 3), (100, .inl (.aload_n 0), 1), (101, .inr (0, 6, 3), 3), (104, .inl (.iload_n 2), 1), (105, .inr (2, 9, 2), 3), (108, .inl (.iload_n 2), 1), (109, .inr (2, 3, 3), 3)],
  [(112, .inl (.iinc 2 1), 3), (115, .inl (.goto (-27)), 3), (118, .inl (.return_), 1)]]
-- MovingNames.fillFrom([I[I)V
set_option maxRecDepth 100000 in
noncomputable def ab_c18 : List (List (Nat × ab_I × Nat)) := [[(0, .inl (.aload_n 1), 1), (1, .inl (.iconst 0), 1), (2, .inl (.aload_n 0), 1), (3, .inl (.iconst 0), 1), (4, .inl (.aload_n 0), 1), (5, .inl (.arraylength), 1), (6, .inl (.aload_n 1), 1), (7, .inl (.arraylength), 1), (8, .inr (2, 19, 2), 3), (11, .inr (12, 0, 0), 3), (14, .inl (.return_), 1)]]
-- java/lang/Math.min(II)I
set_option maxRecDepth 100000 in
noncomputable def ab_c19 : List (List (Nat × ab_I × Nat)) := [[(0, .inl (.iload_n 0), 1), (1, .inl (.iload_n 1), 1), (2, .inl (.if_icmp .gt 7), 3), (5, .inl (.iload_n 0), 1), (6, .inl (.goto 4), 3), (9, .inl (.iload_n 1), 1), (10, .inl (.ireturn), 1)]]
-- MovingNames$Outlook.goRound(LMovingNames$Town;I)V
set_option maxRecDepth 100000 in
noncomputable def ab_c20 : List (List (Nat × ab_I × Nat)) := [[(0, .inl (.iconst 0), 1), (1, .inl (.istore_n 3), 1), (2, .inl (.aload_n 1), 1), (3, .inr (0, 2, 10), 3), (6, .inl (.iload_n 2), 1), (7, .inr (2, 21, 2), 3), (10, .inl (.istore 4), 2), (12, .inl (.iconst 0), 1), (13, .inl (.istore 5), 2), (15, .inl (.iload 5), 2)],
  [(17, .inl (.iload 4), 2), (19, .inl (.if_icmp .ge 43), 3), (22, .inl (.aload_n 1), 1), (23, .inr (0, 2, 10), 3), (26, .inl (.iload_n 2), 1), (27, .inl (.iload 5), 2), (29, .inr (2, 22, 3), 3)],
  [(32, .inl (.istore 6), 2), (34, .inl (.aload_n 1), 1), (35, .inl (.iload 6), 2), (37, .inr (2, 23, 2), 3), (40, .inl (.ifCond .ne 16), 3), (43, .inl (.aload_n 0), 1), (44, .inr (0, 6, 6), 3), (47, .inl (.iload_n 3), 1)],
  [(48, .inl (.iload 6), 2), (50, .inr (2, 3, 3), 3), (53, .inl (.iinc 3 1), 3), (56, .inl (.iinc 5 1), 3), (59, .inl (.goto (-44)), 3), (62, .inl (.iconst 0), 1), (63, .inl (.istore 5), 2)],
  [(65, .inl (.iload 5), 2), (67, .inl (.aload_n 0), 1), (68, .inr (0, 6, 0), 3), (71, .inl (.if_icmp .ge 20), 3), (74, .inl (.aload_n 0), 1), (75, .inr (0, 6, 7), 3), (78, .inl (.iload 5), 2)],
  [(80, .inl (.iload 5), 2), (82, .inr (2, 3, 3), 3), (85, .inl (.iinc 5 1), 3), (88, .inl (.goto (-23)), 3), (91, .inl (.aload_n 1), 1), (92, .inr (0, 2, 10), 3), (95, .inl (.iload_n 2), 1)],
  [(96, .inr (2, 24, 2), 3), (99, .inl (.istore 5), 2), (101, .inl (.iconst 0), 1), (102, .inl (.istore 6), 2), (104, .inl (.iload 6), 2), (106, .inl (.iload_n 3), 1), (107, .inl (.if_icmp .ge 41), 3), (110, .inl (.aload_n 0), 1), (111, .inr (0, 6, 7), 3)],
  [(114, .inl (.aload_n 0), 1), (115, .inr (0, 6, 6), 3), (118, .inl (.iload 6), 2), (120, .inr (2, 9, 2), 3), (123, .inl (.aload_n 0), 1), (124, .inr (0, 6, 6), 3), (127, .inl (.iload 6), 2)],
  [(129, .inl (.iload 5), 2), (131, .inl (.iadd), 1), (132, .inl (.iload_n 3), 1), (133, .inr (2, 25, 2), 3), (136, .inr (2, 9, 2), 3), (139, .inr (2, 3, 3), 3), (142, .inl (.iinc 6 1), 3)],
  [(145, .inl (.goto (-41)), 3), (148, .inl (.iconst 0), 1), (149, .inl (.istore 6), 2), (151, .inl (.iload 6), 2), (153, .inl (.aload_n 0), 1), (154, .inr (0, 6, 0), 3), (157, .inl (.if_icmp .ge 34), 3)],
  [(160, .inl (.aload_n 0), 1), (161, .inr (0, 6, 3), 3), (164, .inl (.iload 6), 2), (166, .inl (.aload_n 0), 1), (167, .inr (0, 6, 7), 3), (170, .inl (.aload_n 0), 1), (171, .inr (0, 6, 3), 3), (174, .inl (.iload 6), 2)],
  [(176, .inr (2, 9, 2), 3), (179, .inr (2, 9, 2), 3), (182, .inr (2, 3, 3), 3), (185, .inl (.iinc 6 1), 3), (188, .inl (.goto (-37)), 3), (191, .inl (.return_), 1)]]
-- MovingNames$Rounds.sizeOf(I)I
set_option maxRecDepth 100000 in
noncomputable def ab_c21 : List (List (Nat × ab_I × Nat)) := [[(0, .inl (.aload_n 0), 1), (1, .inr (0, 3, 1), 3), (4, .inl (.iload_n 1), 1), (5, .inr (2, 9, 2), 3), (8, .inl (.ireturn), 1)]]
-- MovingNames$Rounds.streetAt(II)I
set_option maxRecDepth 100000 in
noncomputable def ab_c22 : List (List (Nat × ab_I × Nat)) := [[(0, .inl (.iload_n 1), 1), (1, .inl (.bipush 20), 2), (3, .inl (.imul), 1), (4, .inl (.iload_n 2), 1), (5, .inl (.iadd), 1), (6, .inl (.istore_n 3), 1), (7, .inl (.iload_n 1), 1), (8, .inl (.ifCond .lt 30), 3), (11, .inl (.iload_n 1), 1), (12, .inl (.aload_n 0), 1), (13, .inr (0, 3, 1), 3)],
  [(16, .inl (.arraylength), 1), (17, .inl (.if_icmp .ge 21), 3), (20, .inl (.iload_n 2), 1), (21, .inl (.ifCond .lt 17), 3), (24, .inl (.iload_n 2), 1), (25, .inl (.aload_n 0), 1), (26, .inr (0, 3, 1), 3), (29, .inl (.iload_n 1), 1), (30, .inl (.iaload), 1), (31, .inl (.if_icmp .ge 7), 3)],
  [(34, .inl (.iconst 1), 1), (35, .inl (.goto 4), 3), (38, .inl (.iconst 0), 1), (39, .inl (.istore 4), 2), (41, .inl (.iload 4), 2), (43, .inl (.ifCond .eq 21), 3), (46, .inl (.iload_n 3), 1), (47, .inl (.aload_n 0), 1)],
  [(48, .inr (0, 3, 0), 3), (51, .inl (.arraylength), 1), (52, .inl (.if_icmp .ge 12), 3), (55, .inl (.aload_n 0), 1), (56, .inr (0, 3, 0), 3), (59, .inl (.iload_n 3), 1), (60, .inl (.iaload), 1), (61, .inl (.goto 4), 3)],
  [(64, .inl (.iconst (-1)), 1), (65, .inl (.ireturn), 1)]]
-- MovingNames$Town.isBlind(I)Z
set_option maxRecDepth 100000 in
noncomputable def ab_c23 : List (List (Nat × ab_I × Nat)) := [[(0, .inl (.aload_n 0), 1), (1, .inr (0, 2, 6), 3), (4, .inl (.iload_n 1), 1), (5, .inl (.ishr), 1), (6, .inl (.iconst 1), 1), (7, .inl (.iand), 1), (8, .inl (.ifCond .eq 7), 3), (11, .inl (.iconst 1), 1), (12, .inl (.goto 4), 3), (15, .inl (.iconst 0), 1)],
  [(16, .inl (.ireturn), 1)]]
-- MovingNames$Rounds.byOf(I)I
set_option maxRecDepth 100000 in
noncomputable def ab_c24 : List (List (Nat × ab_I × Nat)) := [[(0, .inl (.aload_n 0), 1), (1, .inr (0, 3, 2), 3), (4, .inl (.iload_n 1), 1), (5, .inr (2, 9, 2), 3), (8, .inl (.ireturn), 1)]]
-- java/lang/Math.floorMod(II)I
set_option maxRecDepth 100000 in
noncomputable def ab_c25 : List (List (Nat × ab_I × Nat)) := [[(0, .inl (.iload_n 0), 1), (1, .inl (.iload_n 1), 1), (2, .inl (.irem), 1), (3, .inl (.istore_n 2), 1), (4, .inl (.iload_n 0), 1), (5, .inl (.iload_n 1), 1), (6, .inl (.ixor), 1), (7, .inl (.ifCond .ge 11), 3), (10, .inl (.iload_n 2), 1), (11, .inl (.ifCond .eq 7), 3), (14, .inl (.iload_n 2), 1), (15, .inl (.iload_n 1), 1)],
  [(16, .inl (.iadd), 1), (17, .inl (.ireturn), 1), (18, .inl (.iload_n 2), 1), (19, .inl (.ireturn), 1)]]
-- MovingNames$Outlook.periodLength()I
set_option maxRecDepth 100000 in
noncomputable def ab_c26 : List (List (Nat × ab_I × Nat)) := [[(0, .inl (.iconst 1), 1), (1, .inl (.istore_n 1), 1), (2, .inl (.iconst 0), 1), (3, .inl (.istore_n 2), 1), (4, .inl (.iload_n 2), 1), (5, .inl (.aload_n 0), 1), (6, .inr (0, 6, 0), 3), (9, .inl (.if_icmp .ge 19), 3), (12, .inl (.iload_n 1), 1), (13, .inl (.aload_n 0), 1), (14, .inl (.iload_n 2), 1), (15, .inr (2, 27, 2), 3)],
  [(18, .inr (2, 28, 2), 3), (21, .inl (.istore_n 1), 1), (22, .inl (.iinc 2 1), 3), (25, .inl (.goto (-21)), 3), (28, .inl (.iload_n 1), 1), (29, .inl (.ireturn), 1)]]
-- MovingNames$Outlook.cycleOf(I)I
set_option maxRecDepth 100000 in
noncomputable def ab_c27 : List (List (Nat × ab_I × Nat)) := [[(0, .inl (.aload_n 0), 1), (1, .inr (0, 6, 3), 3), (4, .inl (.iload_n 1), 1), (5, .inr (2, 9, 2), 3), (8, .inl (.istore_n 2), 1), (9, .inl (.iconst 1), 1), (10, .inl (.istore_n 3), 1), (11, .inl (.iload_n 3), 1), (12, .inl (.bipush 20), 2), (14, .inl (.if_icmp .ge 23), 3)],
  [(17, .inl (.iload_n 2), 1), (18, .inl (.iload_n 1), 1), (19, .inl (.if_icmp .eq 18), 3), (22, .inl (.aload_n 0), 1), (23, .inr (0, 6, 3), 3), (26, .inl (.iload_n 2), 1), (27, .inr (2, 9, 2), 3), (30, .inl (.istore_n 2), 1), (31, .inl (.iinc 3 1), 3)],
  [(34, .inl (.goto (-23)), 3), (37, .inl (.iload_n 3), 1), (38, .inl (.ireturn), 1)]]
-- MovingNames$Outlook.commonMultiple(II)I
set_option maxRecDepth 100000 in
noncomputable def ab_c28 : List (List (Nat × ab_I × Nat)) := [[(0, .inl (.iconst 1), 1), (1, .inl (.istore_n 2), 1), (2, .inl (.iload_n 2), 1), (3, .inl (.iload_n 1), 1), (4, .inl (.if_icmp .ge 21), 3), (7, .inl (.iload_n 0), 1), (8, .inl (.iload_n 2), 1), (9, .inl (.imul), 1), (10, .inl (.iload_n 1), 1), (11, .inl (.irem), 1), (12, .inl (.ifCond .ne 7), 3), (15, .inl (.iload_n 0), 1)],
  [(16, .inl (.iload_n 2), 1), (17, .inl (.imul), 1), (18, .inl (.ireturn), 1), (19, .inl (.iinc 2 1), 3), (22, .inl (.goto (-20)), 3), (25, .inl (.iload_n 0), 1), (26, .inl (.iload_n 1), 1), (27, .inl (.imul), 1), (28, .inl (.ireturn), 1)]]
-- MovingNames.asNow()J
set_option maxRecDepth 100000 in
noncomputable def ab_c29 : List (List (Nat × ab_I × Nat)) := [[(0, .inl (.aload_n 0), 1), (1, .inr (0, 0, 3), 3), (4, .inl (.aload_n 0), 1), (5, .inr (0, 0, 1), 3), (8, .inr (2, 17, 2), 3), (11, .inl (.aload_n 0), 1), (12, .inr (0, 0, 3), 3), (15, .inr (2, 26, 1), 3)],
  [(18, .inl (.istore_n 1), 1), (19, .inl (.iconst 1), 1), (20, .inl (.istore_n 2), 1), (21, .inl (.iload_n 2), 1), (22, .inl (.iload_n 1), 1), (23, .inl (.if_icmp .ge 36), 3), (26, .inl (.aload_n 0), 1), (27, .inr (0, 0, 3), 3), (30, .inr (2, 30, 1), 3)],
  [(33, .inl (.aload_n 0), 1), (34, .inr (0, 0, 3), 3), (37, .inr (2, 31, 1), 3), (40, .inl (.aload_n 0), 1), (41, .inr (0, 0, 1), 3), (44, .inr (0, 2, 1), 3), (47, .inl (.if_icmp .ne 6), 3)],
  [(50, .inl (.iload_n 2), 1), (51, .inl (.i2l), 1), (52, .inl (.lreturn), 1), (53, .inl (.iinc 2 1), 3), (56, .inl (.goto (-35)), 3), (59, .inl (.iload_n 1), 1), (60, .inl (.i2l), 1), (61, .inl (.lreturn), 1)]]
-- MovingNames$Outlook.step()V
set_option maxRecDepth 100000 in
noncomputable def ab_c30 : List (List (Nat × ab_I × Nat)) := [[(0, .inl (.iconst 0), 1), (1, .inl (.istore_n 1), 1), (2, .inl (.iload_n 1), 1), (3, .inl (.aload_n 0), 1), (4, .inr (0, 6, 0), 3), (7, .inl (.if_icmp .ge 32), 3), (10, .inl (.aload_n 0), 1), (11, .inr (0, 6, 5), 3), (14, .inl (.iload_n 1), 1), (15, .inl (.aload_n 0), 1)],
  [(16, .inr (0, 6, 4), 3), (19, .inl (.aload_n 0), 1), (20, .inr (0, 6, 5), 3), (23, .inl (.iload_n 1), 1), (24, .inr (2, 9, 2), 3), (27, .inr (2, 9, 2), 3), (30, .inr (2, 3, 3), 3)],
  [(33, .inl (.iinc 1 1), 3), (36, .inl (.goto (-34)), 3), (39, .inl (.return_), 1)]]
-- MovingNames$Outlook.rightStreets()I
set_option maxRecDepth 100000 in
noncomputable def ab_c31 : List (List (Nat × ab_I × Nat)) := [[(0, .inl (.iconst 0), 1), (1, .inl (.istore_n 1), 1), (2, .inl (.iconst 0), 1), (3, .inl (.istore_n 2), 1), (4, .inl (.iload_n 2), 1), (5, .inl (.aload_n 0), 1), (6, .inr (0, 6, 0), 3), (9, .inl (.if_icmp .ge 28), 3), (12, .inl (.aload_n 0), 1), (13, .inl (.iload_n 2), 1), (14, .inr (2, 32, 2), 3)],
  [(17, .inl (.aload_n 0), 1), (18, .inr (0, 6, 2), 3), (21, .inl (.iload_n 2), 1), (22, .inr (2, 9, 2), 3), (25, .inl (.if_icmp .ne 6), 3), (28, .inl (.iinc 1 1), 3), (31, .inl (.iinc 2 1), 3)],
  [(34, .inl (.goto (-30)), 3), (37, .inl (.iload_n 1), 1), (38, .inl (.ireturn), 1)]]
-- MovingNames$Outlook.nameThen(I)I
set_option maxRecDepth 100000 in
noncomputable def ab_c32 : List (List (Nat × ab_I × Nat)) := [[(0, .inl (.aload_n 0), 1), (1, .inr (0, 6, 2), 3), (4, .inl (.aload_n 0), 1), (5, .inr (0, 6, 5), 3), (8, .inl (.iload_n 1), 1), (9, .inr (2, 9, 2), 3), (12, .inr (2, 9, 2), 3), (15, .inl (.ireturn), 1)]]
-- MovingNames.twice()I
set_option maxRecDepth 100000 in
noncomputable def ab_c33 : List (List (Nat × ab_I × Nat)) := [[(0, .inl (.aload_n 0), 1), (1, .inr (0, 0, 1), 3), (4, .inr (2, 8, 1), 3), (7, .inl (.ireturn), 1)]]
-- MovingNames.lost()I
set_option maxRecDepth 100000 in
noncomputable def ab_c34 : List (List (Nat × ab_I × Nat)) := [[(0, .inl (.aload_n 0), 1), (1, .inr (0, 0, 1), 3), (4, .inr (2, 35, 1), 3), (7, .inl (.ireturn), 1)]]
-- MovingNames$Town.lostNames()I
set_option maxRecDepth 100000 in
noncomputable def ab_c35 : List (List (Nat × ab_I × Nat)) := [[(0, .inl (.iconst 1), 1), (1, .inl (.aload_n 0), 1), (2, .inr (0, 2, 1), 3), (5, .inl (.ishl), 1), (6, .inl (.iconst 1), 1), (7, .inl (.isub), 1), (8, .inl (.istore_n 1), 1), (9, .inl (.iconst 0), 1), (10, .inl (.istore_n 2), 1), (11, .inl (.iload_n 2), 1), (12, .inl (.aload_n 0), 1), (13, .inr (0, 2, 1), 3)],
  [(16, .inl (.if_icmp .ge 24), 3), (19, .inl (.iload_n 1), 1), (20, .inl (.iconst 1), 1), (21, .inl (.aload_n 0), 1), (22, .inr (0, 2, 7), 3), (25, .inl (.iload_n 2), 1), (26, .inr (2, 9, 2), 3), (29, .inl (.ishl), 1), (30, .inl (.iconst (-1)), 1), (31, .inl (.ixor), 1)],
  [(32, .inl (.iand), 1), (33, .inl (.istore_n 1), 1), (34, .inl (.iinc 2 1), 3), (37, .inl (.goto (-26)), 3), (40, .inl (.iload_n 1), 1), (41, .inl (.ireturn), 1)]]
-- MovingNames.count(I)I
set_option maxRecDepth 100000 in
noncomputable def ab_c36 : List (List (Nat × ab_I × Nat)) := [[(0, .inl (.iload_n 1), 1), (1, .inl (.tableswitch 156 0 10 #[59, 67, 75, 86, 94, 102, 110, 118, 129, 137, 148]), 59)],
  [],
  [],
  [(60, .inl (.aload_n 0), 1), (61, .inr (0, 0, 1), 3)],
  [(64, .inr (0, 2, 0), 3), (67, .inl (.ireturn), 1), (68, .inl (.aload_n 0), 1), (69, .inr (0, 0, 1), 3), (72, .inr (0, 2, 1), 3), (75, .inl (.ireturn), 1), (76, .inl (.aload_n 0), 1), (77, .inr (0, 0, 1), 3)],
  [(80, .inr (0, 2, 10), 3), (83, .inr (0, 3, 3), 3), (86, .inl (.ireturn), 1), (87, .inl (.aload_n 0), 1), (88, .inr (0, 0, 1), 3), (91, .inr (0, 2, 3), 3), (94, .inl (.ireturn), 1), (95, .inl (.aload_n 0), 1)],
  [(96, .inr (0, 0, 1), 3), (99, .inr (0, 2, 2), 3), (102, .inl (.ireturn), 1), (103, .inl (.aload_n 0), 1), (104, .inr (0, 0, 1), 3), (107, .inr (0, 2, 4), 3), (110, .inl (.ireturn), 1), (111, .inl (.aload_n 0), 1)],
  [(112, .inr (0, 0, 1), 3), (115, .inr (0, 2, 5), 3), (118, .inl (.ireturn), 1), (119, .inl (.aload_n 0), 1), (120, .inr (0, 0, 1), 3), (123, .inr (0, 2, 6), 3), (126, .inr (2, 37, 1), 3)],
  [(129, .inl (.ireturn), 1), (130, .inl (.aload_n 0), 1), (131, .inr (0, 0, 1), 3), (134, .inr (2, 7, 1), 3), (137, .inl (.ireturn), 1), (138, .inl (.aload_n 0), 1), (139, .inr (0, 0, 1), 3), (142, .inr (0, 2, 12), 3)],
  [(145, .inr (0, 5, 1), 3), (148, .inl (.ireturn), 1), (149, .inl (.aload_n 0), 1), (150, .inr (0, 0, 0), 3), (153, .inr (0, 1, 1), 3), (156, .inl (.ireturn), 1), (157, .inl (.iconst (-1)), 1), (158, .inl (.ireturn), 1)]]
-- java/lang/Integer.bitCount(I)I
set_option maxRecDepth 100000 in
noncomputable def ab_c37 : List (List (Nat × ab_I × Nat)) := [[(0, .inl (.iload_n 0), 1), (1, .inl (.iload_n 0), 1), (2, .inl (.iconst 1), 1), (3, .inl (.iushr), 1), (4, .inr (8, 0, 1431655765), 3), (7, .inl (.iand), 1), (8, .inl (.isub), 1), (9, .inl (.istore_n 0), 1), (10, .inl (.iload_n 0), 1), (11, .inr (8, 0, 858993459), 3), (14, .inl (.iand), 1), (15, .inl (.iload_n 0), 1)],
  [(16, .inl (.iconst 2), 1), (17, .inl (.iushr), 1), (18, .inr (8, 0, 858993459), 3), (21, .inl (.iand), 1), (22, .inl (.iadd), 1), (23, .inl (.istore_n 0), 1), (24, .inl (.iload_n 0), 1), (25, .inl (.iload_n 0), 1), (26, .inl (.iconst 4), 1), (27, .inl (.iushr), 1), (28, .inl (.iadd), 1), (29, .inr (8, 0, 252645135), 3)],
  [(32, .inl (.iand), 1), (33, .inl (.istore_n 0), 1), (34, .inl (.iload_n 0), 1), (35, .inl (.iload_n 0), 1), (36, .inl (.bipush 8), 2), (38, .inl (.iushr), 1), (39, .inl (.iadd), 1), (40, .inl (.istore_n 0), 1), (41, .inl (.iload_n 0), 1), (42, .inl (.iload_n 0), 1), (43, .inl (.bipush 16), 2), (45, .inl (.iushr), 1), (46, .inl (.iadd), 1), (47, .inl (.istore_n 0), 1)],
  [(48, .inl (.iload_n 0), 1), (49, .inl (.bipush 63), 2), (51, .inl (.iand), 1), (52, .inl (.ireturn), 1)]]
-- MovingNamesLaw.town(LMovingNames;I[J)I
set_option maxRecDepth 100000 in
noncomputable def ab_c38 : List (List (Nat × ab_I × Nat)) := [[(0, .inl (.aload_n 2), 1), (1, .inl (.iconst 0), 1), (2, .inl (.aload_n 0), 1), (3, .inl (.iload_n 1), 1), (4, .inr (2, 39, 2), 3), (7, .inl (.i2l), 1), (8, .inl (.lastore), 1), (9, .inl (.goto 6), 3), (12, .inl (.astore_n 3), 1), (13, .inl (.iconst 1), 1), (14, .inl (.ireturn), 1), (15, .inl (.iconst 0), 1)],
  [(16, .inl (.ireturn), 1)]]
-- MovingNames.town(I)I
set_option maxRecDepth 100000 in
noncomputable def ab_c39 : List (List (Nat × ab_I × Nat)) := [[(0, .inl (.iload_n 1), 1), (1, .inl (.ifCond .lt 14), 3), (4, .inl (.iload_n 1), 1), (5, .inl (.aload_n 0), 1), (6, .inr (0, 0, 0), 3), (9, .inr (0, 1, 1), 3), (12, .inl (.if_icmp .le 13), 3), (15, .inr (10, 0, 0), 10)],
  [(25, .inl (.aload_n 0), 1), (26, .inr (0, 0, 0), 3), (29, .inl (.iload_n 1), 1), (30, .inl (.aload_n 0), 1), (31, .inr (0, 0, 2), 3)],
  [(34, .inr (2, 40, 3), 3), (37, .inl (.aload_n 0), 1), (38, .inr (0, 0, 0), 3), (41, .inr (0, 1, 2), 3), (44, .inl (.ifCond .eq 14), 3), (47, .inl (.bipush (-10)), 2)],
  [(49, .inl (.aload_n 0), 1), (50, .inr (0, 0, 0), 3), (53, .inr (0, 1, 2), 3), (56, .inl (.isub), 1), (57, .inl (.ireturn), 1), (58, .inl (.aload_n 0), 1), (59, .inr (0, 0, 1), 3), (62, .inl (.aload_n 0), 1), (63, .inr (0, 0, 2), 3)],
  [(66, .inr (2, 80, 2), 3), (69, .inl (.aload_n 0), 1), (70, .inr (0, 0, 1), 3), (73, .inr (0, 2, 0), 3), (76, .inl (.ireturn), 1)]]
-- MovingNames$Reader.read(ILMovingNames$Town;)V
set_option maxRecDepth 100000 in
noncomputable def ab_c40 : List (List (Nat × ab_I × Nat)) := [[(0, .inl (.aload_n 0), 1), (1, .inl (.iload_n 1), 1), (2, .inl (.aload_n 0), 1), (3, .inr (0, 1, 0), 3), (6, .inl (.arraylength), 1), (7, .inr (2, 19, 2), 3), (10, .inr (1, 1, 4), 3), (13, .inl (.aload_n 0), 1), (14, .inl (.iconst 0), 1), (15, .inr (1, 1, 1), 3)],
  [(18, .inl (.aload_n 0), 1), (19, .inl (.iconst 0), 1), (20, .inr (1, 1, 6), 3), (23, .inl (.aload_n 0), 1), (24, .inl (.iconst 0), 1), (25, .inr (1, 1, 2), 3), (28, .inl (.aload_n 0), 1), (29, .inl (.iconst (-1)), 1), (30, .inr (1, 1, 3), 3)],
  [(33, .inl (.aload_n 2), 1), (34, .inr (2, 41, 1), 3), (37, .inl (.aload_n 0), 1), (38, .inr (2, 43, 1), 3), (41, .inl (.aload_n 0), 1), (42, .inr (3, 4, 0), 3), (45, .inr (2, 54, 2), 3)],
  [(48, .inl (.aload_n 2), 1), (49, .inl (.aload_n 0), 1), (50, .inl (.iconst 1), 1), (51, .inl (.bipush 20), 2), (53, .inr (2, 56, 3), 3), (56, .inr (2, 57, 2), 3), (59, .inl (.aload_n 0), 1), (60, .inl (.aload_n 2), 1), (61, .inr (2, 59, 2), 3)],
  [(64, .inl (.iconst 0), 1), (65, .inl (.istore_n 3), 1), (66, .inl (.iload_n 3), 1), (67, .inl (.sipush 900), 3), (70, .inl (.if_icmp .ge 31), 3), (73, .inl (.aload_n 0), 1), (74, .inr (0, 1, 2), 3), (77, .inl (.ifCond .ne 24), 3)],
  [(80, .inl (.aload_n 0), 1), (81, .inr (0, 1, 8), 3), (84, .inr (3, 0, 0), 3), (87, .inl (.if_acmp .eq 14), 3), (90, .inl (.aload_n 0), 1), (91, .inl (.aload_n 2), 1), (92, .inr (2, 60, 2), 3), (95, .inl (.iinc 3 1), 3)],
  [(98, .inl (.goto (-32)), 3), (101, .inl (.return_), 1)]]
-- MovingNames$Town.clear()V
set_option maxRecDepth 100000 in
noncomputable def ab_c41 : List (List (Nat × ab_I × Nat)) := [[(0, .inl (.aload_n 0), 1), (1, .inl (.iconst 0), 1), (2, .inr (1, 2, 0), 3), (5, .inl (.aload_n 0), 1), (6, .inl (.iconst 0), 1), (7, .inr (1, 2, 1), 3), (10, .inl (.aload_n 0), 1), (11, .inl (.bipush 9), 2), (13, .inr (1, 2, 2), 3)],
  [(16, .inl (.aload_n 0), 1), (17, .inl (.iconst 0), 1), (18, .inr (1, 2, 3), 3), (21, .inl (.aload_n 0), 1), (22, .inl (.iconst 0), 1), (23, .inr (1, 2, 4), 3), (26, .inl (.aload_n 0), 1), (27, .inl (.iconst 0), 1), (28, .inr (1, 2, 5), 3), (31, .inl (.aload_n 0), 1)],
  [(32, .inl (.iconst 0), 1), (33, .inr (1, 2, 6), 3), (36, .inl (.aload_n 0), 1), (37, .inr (0, 2, 10), 3), (40, .inl (.iconst 0), 1), (41, .inr (1, 3, 3), 3), (44, .inl (.aload_n 0), 1), (45, .inr (0, 2, 11), 3)],
  [(48, .inr (2, 42, 1), 3), (51, .inl (.aload_n 0), 1), (52, .inr (0, 2, 12), 3), (55, .inl (.iconst 0), 1), (56, .inr (1, 5, 1), 3), (59, .inl (.return_), 1)]]
-- MovingNames$Law.clear()V
set_option maxRecDepth 100000 in
noncomputable def ab_c42 : List (List (Nat × ab_I × Nat)) := [[(0, .inl (.aload_n 0), 1), (1, .inl (.iconst 0), 1), (2, .inr (1, 4, 2), 3), (5, .inl (.return_), 1)]]
-- MovingNames$Reader.advance()V
set_option maxRecDepth 100000 in
noncomputable def ab_c43 : List (List (Nat × ab_I × Nat)) := [[(0, .inl (.aload_n 0), 1), (1, .inr (0, 1, 2), 3), (4, .inl (.ifCond .eq 4), 3), (7, .inl (.return_), 1), (8, .inl (.aload_n 0), 1), (9, .inr (0, 1, 6), 3), (12, .inl (.aload_n 0), 1), (13, .inr (0, 1, 4), 3)],
  [(16, .inl (.if_icmp .ge 56), 3), (19, .inl (.aload_n 0), 1), (20, .inr (0, 1, 6), 3), (23, .inl (.aload_n 0), 1), (24, .inr (0, 1, 0), 3), (27, .inl (.arraylength), 1), (28, .inl (.if_icmp .ge 44), 3), (31, .inl (.aload_n 0), 1)],
  [(32, .inr (0, 1, 0), 3), (35, .inl (.aload_n 0), 1), (36, .inr (0, 1, 6), 3), (39, .inl (.iaload), 1), (40, .inl (.bipush 32), 2), (42, .inl (.if_icmp .eq 17), 3), (45, .inl (.aload_n 0), 1), (46, .inr (0, 1, 0), 3)],
  [(49, .inl (.aload_n 0), 1), (50, .inr (0, 1, 6), 3), (53, .inl (.iaload), 1), (54, .inl (.bipush 10), 2), (56, .inl (.if_icmp .ne 16), 3), (59, .inl (.aload_n 0), 1), (60, .inl (.dup), 1), (61, .inr (0, 1, 6), 3)],
  [(64, .inl (.iconst 1), 1), (65, .inl (.iadd), 1), (66, .inr (1, 1, 6), 3), (69, .inl (.goto (-61)), 3), (72, .inl (.aload_n 0), 1), (73, .inl (.aload_n 0), 1), (74, .inr (0, 1, 6), 3), (77, .inr (1, 1, 5), 3)],
  [(80, .inl (.aload_n 0), 1), (81, .inl (.bipush 97), 2), (83, .inl (.bipush 122), 2), (85, .inr (2, 44, 3), 3), (88, .inl (.istore_n 1), 1), (89, .inl (.aload_n 0), 1), (90, .inl (.bipush 48), 2), (92, .inl (.bipush 57), 2), (94, .inr (2, 44, 3), 3)],
  [(97, .inl (.istore_n 2), 1), (98, .inl (.aload_n 0), 1), (99, .inr (0, 1, 5), 3), (102, .inl (.aload_n 0), 1), (103, .inr (0, 1, 4), 3), (106, .inl (.if_icmp .lt 13), 3), (109, .inl (.aload_n 0), 1), (110, .inr (3, 0, 0), 3)],
  [(113, .inr (1, 1, 8), 3), (116, .inl (.goto 98), 3), (119, .inl (.iload_n 1), 1), (120, .inl (.aload_n 0), 1), (121, .inr (0, 1, 5), 3), (124, .inl (.if_icmp .le 22), 3), (127, .inl (.aload_n 0), 1)],
  [(128, .inl (.iload_n 1), 1), (129, .inr (1, 1, 6), 3), (132, .inl (.aload_n 0), 1), (133, .inl (.aload_n 0), 1), (134, .inr (3, 3, 0), 3), (137, .inr (2, 45, 2), 3), (140, .inr (1, 1, 8), 3), (143, .inl (.goto 71), 3)],
  [(146, .inl (.iload_n 2), 1), (147, .inl (.aload_n 0), 1), (148, .inr (0, 1, 5), 3), (151, .inl (.if_icmp .le 42), 3), (154, .inl (.aload_n 0), 1), (155, .inl (.iload_n 2), 1), (156, .inr (1, 1, 6), 3), (159, .inl (.aload_n 0), 1)],
  [(160, .inl (.iload_n 2), 1), (161, .inl (.aload_n 0), 1), (162, .inr (0, 1, 5), 3), (165, .inl (.isub), 1), (166, .inl (.iconst 3), 1), (167, .inl (.if_icmp .le 9), 3), (170, .inr (3, 1, 0), 3), (173, .inl (.goto 6), 3)],
  [(176, .inr (3, 2, 0), 3), (179, .inr (1, 1, 8), 3), (182, .inl (.aload_n 0), 1), (183, .inl (.aload_n 0), 1), (184, .inr (2, 53, 1), 3), (187, .inr (1, 1, 7), 3), (190, .inl (.goto 24), 3)],
  [(193, .inl (.aload_n 0), 1), (194, .inl (.aload_n 0), 1), (195, .inr (0, 1, 5), 3), (198, .inl (.iconst 1), 1), (199, .inl (.iadd), 1), (200, .inr (1, 1, 6), 3), (203, .inl (.aload_n 0), 1), (204, .inl (.aload_n 0), 1), (205, .inr (3, 1, 0), 3)],
  [(208, .inr (2, 45, 2), 3), (211, .inr (1, 1, 8), 3), (214, .inl (.return_), 1)]]
-- MovingNames$Reader.endOfRun(II)I
set_option maxRecDepth 100000 in
noncomputable def ab_c44 : List (List (Nat × ab_I × Nat)) := [[(0, .inl (.aload_n 0), 1), (1, .inr (0, 1, 5), 3), (4, .inl (.istore_n 3), 1), (5, .inl (.iload_n 3), 1), (6, .inl (.aload_n 0), 1), (7, .inr (0, 1, 4), 3), (10, .inl (.if_icmp .ge 38), 3), (13, .inl (.iload_n 3), 1), (14, .inl (.aload_n 0), 1), (15, .inr (0, 1, 0), 3)],
  [(18, .inl (.arraylength), 1), (19, .inl (.if_icmp .ge 29), 3), (22, .inl (.aload_n 0), 1), (23, .inr (0, 1, 0), 3), (26, .inl (.iload_n 3), 1), (27, .inl (.iaload), 1), (28, .inl (.iload_n 1), 1), (29, .inl (.if_icmp .lt 19), 3)],
  [(32, .inl (.aload_n 0), 1), (33, .inr (0, 1, 0), 3), (36, .inl (.iload_n 3), 1), (37, .inl (.iaload), 1), (38, .inl (.iload_n 2), 1), (39, .inl (.if_icmp .gt 9), 3), (42, .inl (.iinc 3 1), 3), (45, .inl (.goto (-40)), 3)],
  [(48, .inl (.iload_n 3), 1), (49, .inl (.ireturn), 1)]]
-- MovingNames$Reader.spelled(LMovingNames$Token;)LMovingNames$Token;
set_option maxRecDepth 100000 in
noncomputable def ab_c45 : List (List (Nat × ab_I × Nat)) := [[(0, .inl (.iconst 0), 1), (1, .inl (.istore_n 2), 1), (2, .inl (.iload_n 2), 1), (3, .inr (4, 0, 0), 3), (6, .inl (.arraylength), 1), (7, .inl (.if_icmp .ge 115), 3), (10, .inr (4, 0, 0), 3), (13, .inl (.iload_n 2), 1), (14, .inl (.aaload), 1), (15, .inr (0, 10, 0), 3)],
  [(18, .inl (.astore_n 3), 1), (19, .inl (.iconst 0), 1), (20, .inl (.istore 4), 2), (22, .inl (.iload 4), 2), (24, .inl (.aload_n 3), 1), (25, .inr (2, 46, 1), 3), (28, .inl (.if_icmp .ge 59), 3), (31, .inl (.aload_n 0), 1)],
  [(32, .inr (0, 1, 5), 3), (35, .inl (.iload 4), 2), (37, .inl (.iadd), 1), (38, .inl (.aload_n 0), 1), (39, .inr (0, 1, 6), 3), (42, .inl (.if_icmp .ge 45), 3), (45, .inl (.aload_n 0), 1), (46, .inr (0, 1, 5), 3)],
  [(49, .inl (.iload 4), 2), (51, .inl (.iadd), 1), (52, .inl (.aload_n 0), 1), (53, .inr (0, 1, 0), 3), (56, .inl (.arraylength), 1), (57, .inl (.if_icmp .ge 30), 3), (60, .inl (.aload_n 3), 1), (61, .inl (.iload 4), 2), (63, .inr (2, 48, 2), 3)],
  [(66, .inl (.aload_n 0), 1), (67, .inr (0, 1, 0), 3), (70, .inl (.aload_n 0), 1), (71, .inr (0, 1, 5), 3), (74, .inl (.iload 4), 2), (76, .inl (.iadd), 1), (77, .inl (.iaload), 1), (78, .inl (.if_icmp .ne 9), 3)],
  [(81, .inl (.iinc 4 1), 3), (84, .inl (.goto (-62)), 3), (87, .inl (.iload 4), 2), (89, .inl (.aload_n 3), 1), (90, .inr (2, 46, 1), 3), (93, .inl (.if_icmp .ne 23), 3)],
  [(96, .inl (.aload_n 0), 1), (97, .inr (0, 1, 5), 3), (100, .inl (.iload 4), 2), (102, .inl (.iadd), 1), (103, .inl (.aload_n 0), 1), (104, .inr (0, 1, 6), 3), (107, .inl (.if_icmp .ne 9), 3), (110, .inr (4, 0, 0), 3)],
  [(113, .inl (.iload_n 2), 1), (114, .inl (.aaload), 1), (115, .inl (.areturn), 1), (116, .inl (.iinc 2 1), 3), (119, .inl (.goto (-117)), 3), (122, .inl (.aload_n 1), 1), (123, .inl (.areturn), 1)]]
-- java/lang/String.length()I
set_option maxRecDepth 100000 in
noncomputable def ab_c46 : List (List (Nat × ab_I × Nat)) := [[(0, .inl (.aload_n 0), 1), (1, .inr (0, 11, 0), 3), (4, .inl (.arraylength), 1), (5, .inl (.aload_n 0), 1), (6, .inr (2, 47, 1), 3), (9, .inl (.ishr), 1), (10, .inl (.ireturn), 1)]]
-- java/lang/String.coder()B
set_option maxRecDepth 100000 in
noncomputable def ab_c47 : List (List (Nat × ab_I × Nat)) := [[(0, .inr (5, 0, 1), 3), (3, .inl (.ifCond .eq 10), 3), (6, .inl (.aload_n 0), 1), (7, .inr (0, 11, 1), 3), (10, .inl (.goto 4), 3), (13, .inl (.iconst 1), 1), (14, .inl (.ireturn), 1)]]
-- java/lang/String.charAt(I)C
set_option maxRecDepth 100000 in
noncomputable def ab_c48 : List (List (Nat × ab_I × Nat)) := [[(0, .inl (.aload_n 0), 1), (1, .inr (2, 49, 1), 3), (4, .inl (.ifCond .eq 12), 3), (7, .inl (.aload_n 0), 1), (8, .inr (0, 11, 0), 3), (11, .inl (.iload_n 1), 1), (12, .inr (2, 50, 2), 3), (15, .inl (.ireturn), 1)],
  [(16, .inl (.aload_n 0), 1), (17, .inr (0, 11, 0), 3), (20, .inl (.iload_n 1), 1), (24, .inl (.ireturn), 1)]]
-- java/lang/String.isLatin1()Z
set_option maxRecDepth 100000 in
noncomputable def ab_c49 : List (List (Nat × ab_I × Nat)) := [[(0, .inr (5, 0, 1), 3), (3, .inl (.ifCond .eq 14), 3), (6, .inl (.aload_n 0), 1), (7, .inr (0, 11, 1), 3), (10, .inl (.ifCond .ne 7), 3), (13, .inl (.iconst 1), 1), (14, .inl (.goto 4), 3)],
  [(17, .inl (.iconst 0), 1), (18, .inl (.ireturn), 1)]]
-- java/lang/StringLatin1.charAt([BI)C
set_option maxRecDepth 100000 in
noncomputable def ab_c50 : List (List (Nat × ab_I × Nat)) := [[(0, .inl (.iload_n 1), 1), (1, .inl (.aload_n 0), 1), (2, .inl (.arraylength), 1), (3, .inr (2, 51, 2), 3), (6, .inl (.aload_n 0), 1), (7, .inl (.iload_n 1), 1), (8, .inl (.baload), 1), (9, .inl (.sipush 255), 3), (12, .inl (.iand), 1), (13, .inl (.i2c), 1), (14, .inl (.ireturn), 1)]]
-- java/lang/String.checkIndex(II)V
set_option maxRecDepth 100000 in
noncomputable def ab_c51 : List (List (Nat × ab_I × Nat)) := [[(0, .inl (.iload_n 0), 1), (1, .inl (.iload_n 1), 1), (2, .inr (6, 0, 0), 3), (5, .inr (2, 52, 3), 3), (8, .inl (.pop), 1), (9, .inl (.return_), 1)]]
-- jdk/internal/util/Preconditions.checkIndex(IILjava/util/function/BiFunction;)I
set_option maxRecDepth 100000 in
noncomputable def ab_c52 : List (List (Nat × ab_I × Nat)) := [[(0, .inl (.iload_n 0), 1), (1, .inl (.ifCond .lt 8), 3), (4, .inl (.iload_n 0), 1), (5, .inl (.iload_n 1), 1), (6, .inl (.if_icmp .lt 10), 3), (9, .inl (.aload_n 2), 1), (10, .inl (.iload_n 0), 1), (11, .inl (.iload_n 1), 1), (15, .inl (.athrow), 1)],
  [(16, .inl (.iload_n 0), 1), (17, .inl (.ireturn), 1)]]
-- MovingNames$Reader.numberRead()I
set_option maxRecDepth 100000 in
noncomputable def ab_c53 : List (List (Nat × ab_I × Nat)) := [[(0, .inl (.iconst 0), 1), (1, .inl (.istore_n 1), 1), (2, .inl (.aload_n 0), 1), (3, .inr (0, 1, 5), 3), (6, .inl (.istore_n 2), 1), (7, .inl (.iload_n 2), 1), (8, .inl (.aload_n 0), 1), (9, .inr (0, 1, 6), 3), (12, .inl (.if_icmp .ge 43), 3), (15, .inl (.iload_n 2), 1)],
  [(16, .inl (.aload_n 0), 1), (17, .inr (0, 1, 5), 3), (20, .inl (.iconst 3), 1), (21, .inl (.iadd), 1), (22, .inl (.if_icmp .ge 33), 3), (25, .inl (.iload_n 2), 1), (26, .inl (.aload_n 0), 1), (27, .inr (0, 1, 0), 3), (30, .inl (.arraylength), 1), (31, .inl (.if_icmp .ge 24), 3)],
  [(34, .inl (.iload_n 1), 1), (35, .inl (.bipush 10), 2), (37, .inl (.imul), 1), (38, .inl (.aload_n 0), 1), (39, .inr (0, 1, 0), 3), (42, .inl (.iload_n 2), 1), (43, .inl (.iaload), 1), (44, .inl (.iadd), 1), (45, .inl (.bipush 48), 2), (47, .inl (.isub), 1)],
  [(48, .inl (.istore_n 1), 1), (49, .inl (.iinc 2 1), 3), (52, .inl (.goto (-45)), 3), (55, .inl (.iload_n 1), 1), (56, .inl (.ireturn), 1)]]
-- MovingNames$Reader.take(LMovingNames$Token;)V
set_option maxRecDepth 100000 in
noncomputable def ab_c54 : List (List (Nat × ab_I × Nat)) := [[(0, .inl (.aload_n 0), 1), (1, .inr (0, 1, 8), 3), (4, .inl (.aload_n 1), 1), (5, .inl (.if_acmp .eq 11), 3), (8, .inl (.aload_n 0), 1), (9, .inl (.iconst 2), 1), (10, .inr (2, 55, 2), 3), (13, .inl (.goto 7), 3)],
  [(16, .inl (.aload_n 0), 1), (17, .inr (2, 43, 1), 3), (20, .inl (.return_), 1)]]
-- MovingNames$Reader.refuse(I)V
set_option maxRecDepth 100000 in
noncomputable def ab_c55 : List (List (Nat × ab_I × Nat)) := [[(0, .inl (.aload_n 0), 1), (1, .inr (0, 1, 2), 3), (4, .inl (.ifCond .ne 30), 3), (7, .inl (.aload_n 0), 1), (8, .inl (.aload_n 0), 1), (9, .inr (0, 1, 8), 3), (12, .inr (3, 1, 0), 3), (15, .inl (.if_acmp .ne 7), 3)],
  [(18, .inl (.iconst 1), 1), (19, .inl (.goto 4), 3), (22, .inl (.iload_n 1), 1), (23, .inr (1, 1, 2), 3), (26, .inl (.aload_n 0), 1), (27, .inl (.aload_n 0), 1), (28, .inr (0, 1, 5), 3), (31, .inr (1, 1, 3), 3)],
  [(34, .inl (.return_), 1)]]
-- MovingNames$Reader.takeNumber(II)I
set_option maxRecDepth 100000 in
noncomputable def ab_c56 : List (List (Nat × ab_I × Nat)) := [[(0, .inl (.aload_n 0), 1), (1, .inr (0, 1, 7), 3), (4, .inl (.istore_n 3), 1), (5, .inl (.aload_n 0), 1), (6, .inr (0, 1, 8), 3), (9, .inr (3, 2, 0), 3), (12, .inl (.if_acmp .eq 11), 3), (15, .inl (.aload_n 0), 1)],
  [(16, .inl (.iconst 2), 1), (17, .inr (2, 55, 2), 3), (20, .inl (.goto 25), 3), (23, .inl (.iload_n 3), 1), (24, .inl (.iload_n 1), 1), (25, .inl (.if_icmp .lt 8), 3), (28, .inl (.iload_n 3), 1), (29, .inl (.iload_n 2), 1), (30, .inl (.if_icmp .le 11), 3)],
  [(33, .inl (.aload_n 0), 1), (34, .inl (.iconst 3), 1), (35, .inr (2, 55, 2), 3), (38, .inl (.goto 7), 3), (41, .inl (.aload_n 0), 1), (42, .inr (2, 43, 1), 3), (45, .inl (.iload_n 3), 1), (46, .inl (.ireturn), 1)]]
-- MovingNames$Town.settle(I)V
set_option maxRecDepth 100000 in
noncomputable def ab_c57 : List (List (Nat × ab_I × Nat)) := [[(0, .inl (.aload_n 0), 1), (1, .inl (.iconst 0), 1), (2, .inl (.iload_n 1), 1), (3, .inl (.bipush 20), 2), (5, .inr (2, 19, 2), 3), (8, .inr (2, 58, 2), 3), (11, .inr (1, 2, 1), 3), (14, .inl (.iconst 0), 1), (15, .inl (.istore_n 2), 1)],
  [(16, .inl (.iload_n 2), 1), (17, .inl (.aload_n 0), 1), (18, .inr (0, 2, 1), 3), (21, .inl (.if_icmp .ge 18), 3), (24, .inl (.aload_n 0), 1), (25, .inr (0, 2, 7), 3), (28, .inl (.iload_n 2), 1), (29, .inl (.iload_n 2), 1), (30, .inr (2, 3, 3), 3)],
  [(33, .inl (.iinc 2 1), 3), (36, .inl (.goto (-20)), 3), (39, .inl (.return_), 1)]]
-- java/lang/Math.max(II)I
set_option maxRecDepth 100000 in
noncomputable def ab_c58 : List (List (Nat × ab_I × Nat)) := [[(0, .inl (.iload_n 0), 1), (1, .inl (.iload_n 1), 1), (2, .inl (.if_icmp .lt 7), 3), (5, .inl (.iload_n 0), 1), (6, .inl (.goto 4), 3), (9, .inl (.iload_n 1), 1), (10, .inl (.ireturn), 1)]]
-- MovingNames$Reader.endLine(LMovingNames$Town;)V
set_option maxRecDepth 100000 in
noncomputable def ab_c59 : List (List (Nat × ab_I × Nat)) := [[(0, .inl (.aload_n 0), 1), (1, .inr (3, 13, 0), 3), (4, .inr (2, 54, 2), 3), (7, .inl (.aload_n 1), 1), (8, .inl (.dup), 1), (9, .inr (0, 2, 0), 3), (12, .inl (.iconst 1), 1), (13, .inl (.iadd), 1), (14, .inr (1, 2, 0), 3)],
  [(17, .inl (.return_), 1)]]
-- MovingNames$Reader.readLine(LMovingNames$Town;)V
set_option maxRecDepth 100000 in
noncomputable def ab_c60 : List (List (Nat × ab_I × Nat)) := [[(0, .inl (.aload_n 0), 1), (1, .inr (0, 1, 8), 3), (4, .inr (3, 5, 0), 3), (7, .inl (.if_acmp .ne 11), 3), (10, .inl (.aload_n 0), 1), (11, .inl (.aload_n 1), 1), (12, .inr (2, 61, 2), 3), (15, .inl (.goto 174), 3)],
  [(18, .inl (.aload_n 0), 1), (19, .inr (0, 1, 8), 3), (22, .inr (3, 8, 0), 3), (25, .inl (.if_acmp .ne 25), 3), (28, .inl (.aload_n 0), 1), (29, .inr (2, 43, 1), 3)],
  [(32, .inl (.aload_n 1), 1), (33, .inl (.aload_n 0), 1), (34, .inl (.iconst 0), 1), (35, .inl (.aload_n 1), 1), (36, .inr (0, 2, 1), 3), (39, .inl (.iconst 1), 1), (40, .inl (.isub), 1), (41, .inr (2, 56, 3), 3), (44, .inr (2, 66, 2), 3), (47, .inl (.goto 142), 3)],
  [(50, .inl (.aload_n 0), 1), (51, .inr (0, 1, 8), 3), (54, .inr (3, 9, 0), 3), (57, .inl (.if_acmp .ne 11), 3), (60, .inl (.aload_n 0), 1), (61, .inl (.aload_n 1), 1), (62, .inr (2, 67, 2), 3)],
  [(65, .inl (.goto 124), 3), (68, .inl (.aload_n 0), 1), (69, .inr (0, 1, 8), 3), (72, .inr (3, 10, 0), 3), (75, .inl (.if_acmp .ne 41), 3), (78, .inl (.aload_n 0), 1), (79, .inr (2, 43, 1), 3)],
  [(82, .inl (.aload_n 0), 1), (83, .inl (.iconst 0), 1), (84, .inl (.aload_n 1), 1), (85, .inr (0, 2, 1), 3), (88, .inl (.iconst 1), 1), (89, .inl (.isub), 1), (90, .inr (2, 56, 3), 3), (93, .inl (.istore_n 2), 1), (94, .inl (.aload_n 1), 1), (95, .inr (0, 2, 7), 3)],
  [(98, .inl (.iload_n 2), 1), (99, .inl (.aload_n 0), 1), (100, .inl (.iconst 0), 1), (101, .inl (.aload_n 1), 1), (102, .inr (0, 2, 1), 3), (105, .inl (.iconst 1), 1), (106, .inl (.isub), 1), (107, .inr (2, 56, 3), 3), (110, .inr (2, 3, 3), 3)],
  [(113, .inl (.goto 76), 3), (116, .inl (.aload_n 0), 1), (117, .inr (0, 1, 8), 3), (120, .inr (3, 11, 0), 3), (123, .inl (.if_acmp .ne 28), 3), (126, .inl (.aload_n 1), 1), (127, .inr (0, 2, 3), 3)],
  [(130, .inl (.ifCond .ne 21), 3), (133, .inl (.aload_n 0), 1), (134, .inr (2, 43, 1), 3), (137, .inl (.aload_n 1), 1), (138, .inl (.aload_n 0), 1), (139, .inl (.iconst 1), 1), (140, .inl (.bipush 99), 2), (142, .inr (2, 56, 3), 3)],
  [(145, .inr (1, 2, 2), 3), (148, .inl (.goto 41), 3), (151, .inl (.aload_n 0), 1), (152, .inr (0, 1, 8), 3), (155, .inr (3, 12, 0), 3), (158, .inl (.if_acmp .ne 26), 3)],
  [(161, .inl (.aload_n 0), 1), (162, .inr (2, 43, 1), 3), (165, .inl (.aload_n 1), 1), (166, .inr (0, 2, 11), 3), (169, .inr (2, 42, 1), 3), (172, .inl (.aload_n 0), 1), (173, .inl (.aload_n 1), 1), (174, .inr (0, 2, 11), 3)],
  [(177, .inl (.iconst 0), 1), (178, .inr (2, 69, 3), 3), (181, .inl (.goto 8), 3), (184, .inl (.aload_n 0), 1), (185, .inl (.iconst 2), 1), (186, .inr (2, 55, 2), 3), (189, .inl (.aload_n 0), 1), (190, .inl (.aload_n 1), 1), (191, .inr (2, 59, 2), 3)],
  [(194, .inl (.return_), 1)]]
-- MovingNames$Reader.readRound(LMovingNames$Town;)V
set_option maxRecDepth 100000 in
noncomputable def ab_c61 : List (List (Nat × ab_I × Nat)) := [[(0, .inl (.aload_n 1), 1), (1, .inr (0, 2, 10), 3), (4, .inr (0, 3, 3), 3), (7, .inl (.iconst 4), 1), (8, .inl (.if_icmp .ne 9), 3), (11, .inl (.aload_n 0), 1), (12, .inl (.iconst 4), 1), (13, .inr (2, 55, 2), 3)],
  [(16, .inl (.return_), 1), (17, .inl (.aload_n 0), 1), (18, .inr (2, 43, 1), 3), (21, .inl (.iconst 1), 1), (22, .inl (.istore_n 2), 1), (23, .inl (.aload_n 0), 1), (24, .inr (0, 1, 8), 3), (27, .inr (3, 6, 0), 3), (30, .inl (.if_acmp .ne 9), 3)],
  [(33, .inl (.aload_n 0), 1), (34, .inr (2, 43, 1), 3), (37, .inl (.iconst (-1)), 1), (38, .inl (.istore_n 2), 1), (39, .inl (.iconst 1), 1), (40, .inl (.istore_n 3), 1), (41, .inl (.aload_n 0), 1), (42, .inr (0, 1, 8), 3), (45, .inr (3, 7, 0), 3)],
  [(48, .inl (.if_acmp .ne 15), 3), (51, .inl (.aload_n 0), 1), (52, .inr (2, 43, 1), 3), (55, .inl (.aload_n 0), 1), (56, .inl (.iconst 1), 1), (57, .inl (.bipush 9), 2), (59, .inr (2, 56, 3), 3), (62, .inl (.istore_n 3), 1), (63, .inl (.aload_n 0), 1)],
  [(64, .inr (3, 14, 0), 3), (67, .inr (2, 54, 2), 3), (70, .inl (.aload_n 1), 1), (71, .inr (0, 2, 10), 3), (74, .inl (.iload_n 2), 1), (75, .inl (.iload_n 3), 1), (76, .inl (.imul), 1), (77, .inr (2, 62, 2), 3)],
  [(80, .inl (.istore 4), 2), (82, .inl (.iconst 0), 1), (83, .inl (.istore 5), 2), (85, .inl (.iload 5), 2), (87, .inl (.bipush 20), 2), (89, .inl (.if_icmp .gt 40), 3), (92, .inl (.aload_n 0), 1), (93, .inr (0, 1, 2), 3)],
  [(96, .inl (.ifCond .ne 33), 3), (99, .inl (.iload 5), 2), (101, .inl (.ifCond .eq 13), 3), (104, .inl (.aload_n 0), 1), (105, .inr (0, 1, 8), 3), (108, .inr (3, 2, 0), 3), (111, .inl (.if_acmp .ne 18), 3)],
  [(114, .inl (.aload_n 0), 1), (115, .inl (.aload_n 1), 1), (116, .inl (.iload 4), 2), (118, .inl (.iload 5), 2), (120, .inr (2, 63, 4), 3), (123, .inl (.iinc 5 1), 3), (126, .inl (.goto (-41)), 3)],
  [(129, .inl (.return_), 1)]]
-- MovingNames$Rounds.begin(I)I
set_option maxRecDepth 100000 in
noncomputable def ab_c62 : List (List (Nat × ab_I × Nat)) := [[(0, .inl (.aload_n 0), 1), (1, .inr (0, 3, 3), 3), (4, .inl (.istore_n 2), 1), (5, .inl (.aload_n 0), 1), (6, .inr (0, 3, 1), 3), (9, .inl (.iload_n 2), 1), (10, .inl (.iconst 0), 1), (11, .inr (2, 3, 3), 3), (14, .inl (.aload_n 0), 1), (15, .inr (0, 3, 2), 3)],
  [(18, .inl (.iload_n 2), 1), (19, .inl (.iload_n 1), 1), (20, .inr (2, 3, 3), 3), (23, .inl (.aload_n 0), 1), (24, .inl (.iload_n 2), 1), (25, .inl (.iconst 1), 1), (26, .inl (.iadd), 1), (27, .inl (.iconst 4), 1), (28, .inr (2, 19, 2), 3), (31, .inr (1, 3, 3), 3)],
  [(34, .inl (.iload_n 2), 1), (35, .inl (.ireturn), 1)]]
-- MovingNames$Reader.readStop(LMovingNames$Town;II)V
set_option maxRecDepth 100000 in
noncomputable def ab_c63 : List (List (Nat × ab_I × Nat)) := [[(0, .inl (.aload_n 0), 1), (1, .inr (0, 1, 7), 3), (4, .inl (.istore 4), 2), (6, .inl (.aload_n 0), 1), (7, .inr (0, 1, 8), 3), (10, .inr (3, 2, 0), 3), (13, .inl (.if_acmp .ne 21), 3)],
  [(16, .inl (.aload_n 1), 1), (17, .inr (0, 2, 10), 3), (20, .inl (.iload_n 2), 1), (21, .inl (.iload 4), 2), (23, .inr (2, 64, 3), 3), (26, .inl (.iconst (-1)), 1), (27, .inl (.if_icmp .eq 7), 3), (30, .inl (.iconst 1), 1), (31, .inl (.goto 4), 3)],
  [(34, .inl (.iconst 0), 1), (35, .inl (.istore 5), 2), (37, .inl (.iload 5), 2), (39, .inl (.ifCond .eq 9), 3), (42, .inl (.aload_n 0), 1), (43, .inl (.iconst 3), 1), (44, .inr (2, 55, 2), 3), (47, .inl (.return_), 1)],
  [(48, .inl (.aload_n 0), 1), (49, .inl (.iconst 0), 1), (50, .inl (.aload_n 1), 1), (51, .inr (0, 2, 1), 3), (54, .inl (.iconst 1), 1), (55, .inl (.isub), 1), (56, .inr (2, 56, 3), 3), (59, .inl (.pop), 1), (60, .inl (.aload_n 0), 1), (61, .inr (0, 1, 2), 3)],
  [(64, .inl (.ifCond .ne 14), 3), (67, .inl (.aload_n 1), 1), (68, .inr (0, 2, 10), 3), (71, .inl (.iload_n 2), 1), (72, .inl (.iload_n 3), 1), (73, .inl (.iload 4), 2), (75, .inr (2, 65, 4), 3), (78, .inl (.return_), 1)]]
-- MovingNames$Rounds.placeOf(II)I
set_option maxRecDepth 100000 in
noncomputable def ab_c64 : List (List (Nat × ab_I × Nat)) := [[(0, .inl (.aload_n 0), 1), (1, .inl (.iload_n 1), 1), (2, .inr (2, 21, 2), 3), (5, .inl (.istore_n 3), 1), (6, .inl (.iconst 0), 1), (7, .inl (.istore 4), 2), (9, .inl (.iload 4), 2), (11, .inl (.iload_n 3), 1), (12, .inl (.if_icmp .ge 23), 3), (15, .inl (.aload_n 0), 1)],
  [(16, .inl (.iload_n 1), 1), (17, .inl (.iload 4), 2), (19, .inr (2, 22, 3), 3), (22, .inl (.iload_n 2), 1), (23, .inl (.if_icmp .ne 6), 3), (26, .inl (.iload 4), 2), (28, .inl (.ireturn), 1), (29, .inl (.iinc 4 1), 3)],
  [(32, .inl (.goto (-23)), 3), (35, .inl (.iconst (-1)), 1), (36, .inl (.ireturn), 1)]]
-- MovingNames$Rounds.insert(III)V
set_option maxRecDepth 100000 in
noncomputable def ab_c65 : List (List (Nat × ab_I × Nat)) := [[(0, .inl (.aload_n 0), 1), (1, .inl (.iload_n 1), 1), (2, .inr (2, 21, 2), 3), (5, .inl (.istore 4), 2), (7, .inl (.iload 4), 2), (9, .inl (.bipush 20), 2), (11, .inl (.if_icmp .lt 4), 3), (14, .inl (.return_), 1), (15, .inl (.iload 4), 2)],
  [(17, .inl (.istore 5), 2), (19, .inl (.iload 5), 2), (21, .inl (.iload_n 2), 1), (22, .inl (.if_icmp .le 32), 3), (25, .inl (.aload_n 0), 1), (26, .inr (0, 3, 0), 3), (29, .inl (.iload_n 1), 1), (30, .inl (.bipush 20), 2)],
  [(32, .inl (.imul), 1), (33, .inl (.iload 5), 2), (35, .inl (.iadd), 1), (36, .inl (.aload_n 0), 1), (37, .inl (.iload_n 1), 1), (38, .inl (.iload 5), 2), (40, .inl (.iconst 1), 1), (41, .inl (.isub), 1), (42, .inr (2, 22, 3), 3), (45, .inr (2, 3, 3), 3)],
  [(48, .inl (.iinc 5 (-1)), 3), (51, .inl (.goto (-32)), 3), (54, .inl (.aload_n 0), 1), (55, .inr (0, 3, 0), 3), (58, .inl (.iload_n 1), 1), (59, .inl (.bipush 20), 2), (61, .inl (.imul), 1), (62, .inl (.iload_n 2), 1), (63, .inl (.iadd), 1)],
  [(64, .inl (.iload_n 3), 1), (65, .inr (2, 3, 3), 3), (68, .inl (.aload_n 0), 1), (69, .inr (0, 3, 1), 3), (72, .inl (.iload_n 1), 1), (73, .inl (.iload 4), 2), (75, .inl (.iconst 1), 1), (76, .inl (.iadd), 1), (77, .inr (2, 3, 3), 3)],
  [(80, .inl (.return_), 1)]]
-- MovingNames$Town.makeBlind(I)V
set_option maxRecDepth 100000 in
noncomputable def ab_c66 : List (List (Nat × ab_I × Nat)) := [[(0, .inl (.aload_n 0), 1), (1, .inl (.dup), 1), (2, .inr (0, 2, 6), 3), (5, .inl (.iconst 1), 1), (6, .inl (.iload_n 1), 1), (7, .inl (.ishl), 1), (8, .inl (.ior), 1), (9, .inr (1, 2, 6), 3), (12, .inl (.return_), 1)]]
-- MovingNames$Reader.readPerson(LMovingNames$Town;)V
set_option maxRecDepth 100000 in
noncomputable def ab_c67 : List (List (Nat × ab_I × Nat)) := [[(0, .inl (.aload_n 1), 1), (1, .inr (0, 2, 3), 3), (4, .inl (.bipush 8), 2), (6, .inl (.if_icmp .ne 9), 3), (9, .inl (.aload_n 0), 1), (10, .inl (.iconst 4), 1), (11, .inr (2, 55, 2), 3), (14, .inl (.return_), 1), (15, .inl (.aload_n 0), 1)],
  [(16, .inr (2, 43, 1), 3), (19, .inl (.aload_n 0), 1), (20, .inl (.iconst 0), 1), (21, .inl (.aload_n 1), 1), (22, .inr (0, 2, 1), 3), (25, .inl (.iconst 1), 1), (26, .inl (.isub), 1), (27, .inr (2, 56, 3), 3), (30, .inl (.istore_n 2), 1), (31, .inl (.aload_n 1), 1)],
  [(32, .inl (.iload_n 2), 1), (33, .inl (.aload_n 0), 1), (34, .inl (.iconst 1), 1), (35, .inl (.aload_n 1), 1), (36, .inr (0, 2, 2), 3), (39, .inr (2, 56, 3), 3), (42, .inr (2, 68, 3), 3), (45, .inl (.return_), 1)]]
-- MovingNames$Town.addPerson(II)V
set_option maxRecDepth 100000 in
noncomputable def ab_c68 : List (List (Nat × ab_I × Nat)) := [[(0, .inl (.aload_n 0), 1), (1, .inr (0, 2, 8), 3), (4, .inl (.aload_n 0), 1), (5, .inr (0, 2, 3), 3), (8, .inl (.iload_n 1), 1), (9, .inr (2, 3, 3), 3), (12, .inl (.aload_n 0), 1), (13, .inr (0, 2, 9), 3)],
  [(16, .inl (.aload_n 0), 1), (17, .inr (0, 2, 3), 3), (20, .inl (.iload_n 2), 1), (21, .inr (2, 3, 3), 3), (24, .inl (.aload_n 0), 1), (25, .inl (.aload_n 0), 1), (26, .inr (0, 2, 3), 3), (29, .inl (.iconst 1), 1), (30, .inl (.iadd), 1), (31, .inl (.bipush 8), 2)],
  [(33, .inr (2, 19, 2), 3), (36, .inr (1, 2, 3), 3), (39, .inl (.return_), 1)]]
-- MovingNames$Reader.readTruth(LMovingNames$Law;I)V
set_option maxRecDepth 100000 in
noncomputable def ab_c69 : List (List (Nat × ab_I × Nat)) := [[(0, .inl (.aload_n 0), 1), (1, .inl (.aload_n 1), 1), (2, .inl (.iload_n 2), 1), (3, .inr (2, 70, 3), 3), (6, .inl (.iconst 0), 1), (7, .inl (.istore_n 3), 1), (8, .inl (.iload_n 3), 1), (9, .inl (.sipush 900), 3), (12, .inl (.if_icmp .ge 42), 3), (15, .inl (.aload_n 0), 1)],
  [(16, .inr (0, 1, 2), 3), (19, .inl (.ifCond .ne 35), 3), (22, .inl (.aload_n 0), 1), (23, .inr (0, 1, 8), 3), (26, .inr (3, 19, 0), 3), (29, .inl (.if_acmp .ne 25), 3)],
  [(32, .inl (.aload_n 0), 1), (33, .inr (2, 43, 1), 3), (36, .inl (.aload_n 0), 1), (37, .inl (.aload_n 1), 1), (38, .inl (.iload_n 2), 1), (39, .inr (2, 70, 3), 3), (42, .inl (.aload_n 1), 1), (43, .inl (.bipush (-14)), 2), (45, .inr (2, 73, 2), 3)],
  [(48, .inl (.iinc 3 1), 3), (51, .inl (.goto (-43)), 3), (54, .inl (.return_), 1)]]
-- MovingNames$Reader.readBoth(LMovingNames$Law;I)V
set_option maxRecDepth 100000 in
noncomputable def ab_c70 : List (List (Nat × ab_I × Nat)) := [[(0, .inl (.aload_n 0), 1), (1, .inl (.aload_n 1), 1), (2, .inl (.iload_n 2), 1), (3, .inr (2, 71, 3), 3), (6, .inl (.iconst 0), 1), (7, .inl (.istore_n 3), 1), (8, .inl (.iload_n 3), 1), (9, .inl (.sipush 900), 3), (12, .inl (.if_icmp .ge 42), 3), (15, .inl (.aload_n 0), 1)],
  [(16, .inr (0, 1, 2), 3), (19, .inl (.ifCond .ne 35), 3), (22, .inl (.aload_n 0), 1), (23, .inr (0, 1, 8), 3), (26, .inr (3, 20, 0), 3), (29, .inl (.if_acmp .ne 25), 3)],
  [(32, .inl (.aload_n 0), 1), (33, .inr (2, 43, 1), 3), (36, .inl (.aload_n 0), 1), (37, .inl (.aload_n 1), 1), (38, .inl (.iload_n 2), 1), (39, .inr (2, 71, 3), 3), (42, .inl (.aload_n 1), 1), (43, .inl (.bipush (-13)), 2), (45, .inr (2, 73, 2), 3)],
  [(48, .inl (.iinc 3 1), 3), (51, .inl (.goto (-43)), 3), (54, .inl (.return_), 1)]]
-- MovingNames$Reader.readUnit(LMovingNames$Law;I)V
set_option maxRecDepth 100000 in
noncomputable def ab_c71 : List (List (Nat × ab_I × Nat)) := [[(0, .inl (.aload_n 0), 1), (1, .inr (0, 1, 8), 3), (4, .inr (3, 21, 0), 3), (7, .inl (.if_acmp .ne 28), 3), (10, .inl (.aload_n 0), 1), (11, .inl (.iload_n 2), 1), (12, .inr (2, 72, 2), 3), (15, .inl (.ifCond .eq 107), 3)],
  [(18, .inl (.aload_n 0), 1), (19, .inl (.aload_n 1), 1), (20, .inl (.iload_n 2), 1), (21, .inl (.iconst 1), 1), (22, .inl (.iadd), 1), (23, .inr (2, 71, 3), 3), (26, .inl (.aload_n 1), 1), (27, .inl (.bipush (-12)), 2), (29, .inr (2, 73, 2), 3)],
  [(32, .inl (.goto 90), 3), (35, .inl (.aload_n 0), 1), (36, .inr (0, 1, 8), 3), (39, .inr (3, 17, 0), 3), (42, .inl (.if_acmp .ne 29), 3), (45, .inl (.aload_n 0), 1), (46, .inl (.iload_n 2), 1), (47, .inr (2, 72, 2), 3)],
  [(50, .inl (.ifCond .eq 72), 3), (53, .inl (.aload_n 0), 1), (54, .inl (.aload_n 1), 1), (55, .inl (.iload_n 2), 1), (56, .inl (.iconst 1), 1), (57, .inl (.iadd), 1), (58, .inr (2, 69, 3), 3), (61, .inl (.aload_n 0), 1), (62, .inr (3, 18, 0), 3)],
  [(65, .inr (2, 54, 2), 3), (68, .inl (.goto 54), 3), (71, .inl (.aload_n 0), 1), (72, .inl (.aload_n 1), 1), (73, .inl (.iload_n 2), 1), (74, .inr (2, 75, 3), 3), (77, .inl (.aload_n 0), 1), (78, .inr (0, 1, 8), 3)],
  [(81, .inr (0, 10, 1), 3), (84, .inl (.istore_n 3), 1), (85, .inl (.aload_n 0), 1), (86, .inr (0, 1, 8), 3), (89, .inr (2, 79, 1), 3), (92, .inl (.ifCond .ne 8), 3), (95, .inl (.aload_n 0), 1)],
  [(96, .inl (.iconst 2), 1), (97, .inr (2, 55, 2), 3), (100, .inl (.aload_n 0), 1), (101, .inr (0, 1, 2), 3), (104, .inl (.ifCond .ne 18), 3), (107, .inl (.aload_n 0), 1), (108, .inr (2, 43, 1), 3), (111, .inl (.aload_n 0), 1)],
  [(112, .inl (.aload_n 1), 1), (113, .inl (.iload_n 2), 1), (114, .inr (2, 75, 3), 3), (117, .inl (.aload_n 1), 1), (118, .inl (.iload_n 3), 1), (119, .inr (2, 73, 2), 3), (122, .inl (.return_), 1)]]
-- MovingNames$Reader.enters(I)Z
set_option maxRecDepth 100000 in
noncomputable def ab_c72 : List (List (Nat × ab_I × Nat)) := [[(0, .inl (.iload_n 1), 1), (1, .inl (.bipush 6), 2), (3, .inl (.if_icmp .lt 10), 3), (6, .inl (.aload_n 0), 1), (7, .inl (.iconst 4), 1), (8, .inr (2, 55, 2), 3), (11, .inl (.iconst 0), 1), (12, .inl (.ireturn), 1), (13, .inl (.aload_n 0), 1), (14, .inr (2, 43, 1), 3)],
  [(17, .inl (.iconst 1), 1), (18, .inl (.ireturn), 1)]]
-- MovingNames$Law.add(I)V
set_option maxRecDepth 100000 in
noncomputable def ab_c73 : List (List (Nat × ab_I × Nat)) := [[(0, .inl (.aload_n 0), 1), (1, .inr (0, 4, 0), 3), (4, .inl (.aload_n 0), 1), (5, .inr (0, 4, 2), 3), (8, .inl (.iload_n 1), 1), (9, .inr (2, 3, 3), 3), (12, .inl (.aload_n 0), 1), (13, .inl (.aload_n 0), 1), (14, .inr (0, 4, 2), 3)],
  [(17, .inl (.iconst 1), 1), (18, .inl (.iadd), 1), (19, .inl (.aload_n 0), 1), (20, .inr (0, 4, 0), 3), (23, .inl (.arraylength), 1), (24, .inr (2, 19, 2), 3), (27, .inr (1, 4, 2), 3), (30, .inl (.return_), 1)]]
-- MovingNames$Reader.enters(I)Z
set_option maxRecDepth 100000 in
noncomputable def ab_c74 : List (List (Nat × ab_I × Nat)) := [[(0, .inl (.iload_n 1), 1), (1, .inl (.bipush 6), 2), (3, .inl (.if_icmp .lt 10), 3), (6, .inl (.aload_n 0), 1), (7, .inl (.iconst 4), 1), (8, .inr (2, 55, 2), 3), (11, .inl (.iconst 0), 1), (12, .inl (.ireturn), 1), (13, .inl (.aload_n 0), 1), (14, .inr (2, 43, 1), 3)],
  [(17, .inl (.iconst 1), 1), (18, .inl (.ireturn), 1)]]
-- MovingNames$Reader.readSum(LMovingNames$Law;I)V
set_option maxRecDepth 100000 in
noncomputable def ab_c75 : List (List (Nat × ab_I × Nat)) := [[(0, .inl (.aload_n 0), 1), (1, .inl (.aload_n 1), 1), (2, .inl (.iload_n 2), 1), (3, .inr (2, 76, 3), 3), (6, .inl (.iconst 0), 1), (7, .inl (.istore_n 3), 1), (8, .inl (.iload_n 3), 1), (9, .inl (.sipush 900), 3), (12, .inl (.if_icmp .ge 61), 3), (15, .inl (.aload_n 0), 1)],
  [(16, .inr (0, 1, 2), 3), (19, .inl (.ifCond .ne 54), 3), (22, .inl (.aload_n 0), 1), (23, .inr (0, 1, 8), 3), (26, .inr (3, 25, 0), 3), (29, .inl (.if_acmp .eq 13), 3)],
  [(32, .inl (.aload_n 0), 1), (33, .inr (0, 1, 8), 3), (36, .inr (3, 26, 0), 3), (39, .inl (.if_acmp .ne 34), 3), (42, .inl (.aload_n 0), 1), (43, .inr (0, 1, 8), 3), (46, .inr (0, 10, 1), 3)],
  [(49, .inl (.istore 4), 2), (51, .inl (.aload_n 0), 1), (52, .inr (2, 43, 1), 3), (55, .inl (.aload_n 0), 1), (56, .inl (.aload_n 1), 1), (57, .inl (.iload_n 2), 1), (58, .inr (2, 76, 3), 3), (61, .inl (.aload_n 1), 1), (62, .inl (.iload 4), 2)],
  [(64, .inr (2, 73, 2), 3), (67, .inl (.iinc 3 1), 3), (70, .inl (.goto (-62)), 3), (73, .inl (.return_), 1)]]
-- MovingNames$Reader.readTerm(LMovingNames$Law;I)V
set_option maxRecDepth 100000 in
noncomputable def ab_c76 : List (List (Nat × ab_I × Nat)) := [[(0, .inl (.aload_n 0), 1), (1, .inl (.aload_n 1), 1), (2, .inl (.iload_n 2), 1), (3, .inr (2, 77, 3), 3), (6, .inl (.iconst 0), 1), (7, .inl (.istore_n 3), 1), (8, .inl (.iload_n 3), 1), (9, .inl (.sipush 900), 3), (12, .inl (.if_icmp .ge 42), 3), (15, .inl (.aload_n 0), 1)],
  [(16, .inr (0, 1, 2), 3), (19, .inl (.ifCond .ne 35), 3), (22, .inl (.aload_n 0), 1), (23, .inr (0, 1, 8), 3), (26, .inr (3, 27, 0), 3), (29, .inl (.if_acmp .ne 25), 3)],
  [(32, .inl (.aload_n 0), 1), (33, .inr (2, 43, 1), 3), (36, .inl (.aload_n 0), 1), (37, .inl (.aload_n 1), 1), (38, .inl (.iload_n 2), 1), (39, .inr (2, 77, 3), 3), (42, .inl (.aload_n 1), 1), (43, .inl (.bipush (-8)), 2), (45, .inr (2, 73, 2), 3)],
  [(48, .inl (.iinc 3 1), 3), (51, .inl (.goto (-43)), 3), (54, .inl (.return_), 1)]]
-- MovingNames$Reader.readAtom(LMovingNames$Law;I)V
set_option maxRecDepth 100000 in
noncomputable def ab_c77 : List (List (Nat × ab_I × Nat)) := [[(0, .inl (.aload_n 0), 1), (1, .inr (0, 1, 8), 3), (4, .inr (3, 2, 0), 3), (7, .inl (.if_acmp .ne 18), 3), (10, .inl (.aload_n 1), 1), (11, .inl (.aload_n 0), 1), (12, .inr (0, 1, 7), 3), (15, .inr (2, 73, 2), 3)],
  [(18, .inl (.aload_n 0), 1), (19, .inr (2, 43, 1), 3), (22, .inl (.goto 72), 3), (25, .inl (.aload_n 0), 1), (26, .inr (0, 1, 8), 3), (29, .inr (2, 78, 1), 3)],
  [(32, .inl (.ifCond .eq 21), 3), (35, .inl (.aload_n 1), 1), (36, .inl (.aload_n 0), 1), (37, .inr (0, 1, 8), 3), (40, .inr (0, 10, 1), 3), (43, .inr (2, 73, 2), 3), (46, .inl (.aload_n 0), 1), (47, .inr (2, 43, 1), 3)],
  [(50, .inl (.goto 44), 3), (53, .inl (.aload_n 0), 1), (54, .inr (0, 1, 8), 3), (57, .inr (3, 15, 0), 3), (60, .inl (.if_acmp .eq 11), 3), (63, .inl (.aload_n 0), 1)],
  [(64, .inl (.iconst 2), 1), (65, .inr (2, 55, 2), 3), (68, .inl (.goto 26), 3), (71, .inl (.aload_n 0), 1), (72, .inl (.iload_n 2), 1), (73, .inr (2, 72, 2), 3), (76, .inl (.ifCond .eq 18), 3), (79, .inl (.aload_n 0), 1)],
  [(80, .inl (.aload_n 1), 1), (81, .inl (.iload_n 2), 1), (82, .inl (.iconst 1), 1), (83, .inl (.iadd), 1), (84, .inr (2, 75, 3), 3), (87, .inl (.aload_n 0), 1), (88, .inr (3, 16, 0), 3), (91, .inr (2, 54, 2), 3), (94, .inl (.return_), 1)]]
-- MovingNames$Token.isReading()Z
set_option maxRecDepth 100000 in
noncomputable def ab_c78 : List (List (Nat × ab_I × Nat)) := [[(0, .inl (.aload_n 0), 1), (1, .inr (0, 10, 1), 3), (4, .inl (.iconst (-1)), 1), (5, .inl (.if_icmp .gt 16), 3), (8, .inl (.aload_n 0), 1), (9, .inr (0, 10, 1), 3), (12, .inl (.bipush (-5)), 2), (14, .inl (.if_icmp .lt 7), 3)],
  [(17, .inl (.iconst 1), 1), (18, .inl (.goto 4), 3), (21, .inl (.iconst 0), 1), (22, .inl (.ireturn), 1)]]
-- MovingNames$Token.isComparison()Z
set_option maxRecDepth 100000 in
noncomputable def ab_c79 : List (List (Nat × ab_I × Nat)) := [[(0, .inl (.aload_n 0), 1), (1, .inr (0, 10, 1), 3), (4, .inl (.bipush (-9)), 2), (6, .inl (.if_icmp .gt 16), 3), (9, .inl (.aload_n 0), 1), (10, .inr (0, 10, 1), 3), (13, .inl (.bipush (-11)), 2), (15, .inl (.if_icmp .lt 7), 3)],
  [(18, .inl (.iconst 1), 1), (19, .inl (.goto 4), 3), (22, .inl (.iconst 0), 1), (23, .inl (.ireturn), 1)]]
-- MovingNames$Town.takeOver(LMovingNames$Town;)V
set_option maxRecDepth 100000 in
noncomputable def ab_c80 : List (List (Nat × ab_I × Nat)) := [[(0, .inl (.aload_n 0), 1), (1, .inl (.aload_n 1), 1), (2, .inr (0, 2, 0), 3), (5, .inr (1, 2, 0), 3), (8, .inl (.aload_n 0), 1), (9, .inl (.aload_n 1), 1), (10, .inr (0, 2, 1), 3), (13, .inr (1, 2, 1), 3)],
  [(16, .inl (.aload_n 0), 1), (17, .inl (.aload_n 1), 1), (18, .inr (0, 2, 2), 3), (21, .inr (1, 2, 2), 3), (24, .inl (.aload_n 0), 1), (25, .inl (.aload_n 1), 1), (26, .inr (0, 2, 3), 3), (29, .inr (1, 2, 3), 3)],
  [(32, .inl (.aload_n 0), 1), (33, .inl (.aload_n 1), 1), (34, .inr (0, 2, 4), 3), (37, .inr (1, 2, 4), 3), (40, .inl (.aload_n 0), 1), (41, .inl (.aload_n 1), 1), (42, .inr (0, 2, 5), 3), (45, .inr (1, 2, 5), 3)],
  [(48, .inl (.aload_n 0), 1), (49, .inl (.aload_n 1), 1), (50, .inr (0, 2, 6), 3), (53, .inr (1, 2, 6), 3), (56, .inl (.aload_n 0), 1), (57, .inr (0, 2, 7), 3), (60, .inl (.aload_n 1), 1), (61, .inr (0, 2, 7), 3)],
  [(64, .inr (2, 18, 2), 3), (67, .inl (.aload_n 0), 1), (68, .inr (0, 2, 8), 3), (71, .inl (.aload_n 1), 1), (72, .inr (0, 2, 8), 3), (75, .inr (2, 18, 2), 3), (78, .inl (.aload_n 0), 1), (79, .inr (0, 2, 9), 3)],
  [(82, .inl (.aload_n 1), 1), (83, .inr (0, 2, 9), 3), (86, .inr (2, 18, 2), 3), (89, .inl (.aload_n 0), 1), (90, .inr (0, 2, 10), 3), (93, .inl (.aload_n 1), 1), (94, .inr (0, 2, 10), 3)],
  [(97, .inr (2, 81, 2), 3), (100, .inl (.aload_n 0), 1), (101, .inr (0, 2, 11), 3), (104, .inl (.aload_n 1), 1), (105, .inr (0, 2, 11), 3), (108, .inr (2, 82, 2), 3), (111, .inl (.aload_n 0), 1)],
  [(112, .inr (0, 2, 12), 3), (115, .inl (.aload_n 1), 1), (116, .inr (0, 2, 12), 3), (119, .inr (2, 83, 2), 3), (122, .inl (.return_), 1)]]
-- MovingNames$Rounds.takeOver(LMovingNames$Rounds;)V
set_option maxRecDepth 100000 in
noncomputable def ab_c81 : List (List (Nat × ab_I × Nat)) := [[(0, .inl (.aload_n 0), 1), (1, .inr (0, 3, 0), 3), (4, .inl (.aload_n 1), 1), (5, .inr (0, 3, 0), 3), (8, .inr (2, 18, 2), 3), (11, .inl (.aload_n 0), 1), (12, .inr (0, 3, 1), 3), (15, .inl (.aload_n 1), 1)],
  [(16, .inr (0, 3, 1), 3), (19, .inr (2, 18, 2), 3), (22, .inl (.aload_n 0), 1), (23, .inr (0, 3, 2), 3), (26, .inl (.aload_n 1), 1), (27, .inr (0, 3, 2), 3), (30, .inr (2, 18, 2), 3)],
  [(33, .inl (.aload_n 0), 1), (34, .inl (.aload_n 1), 1), (35, .inr (0, 3, 3), 3), (38, .inr (1, 3, 3), 3), (41, .inl (.return_), 1)]]
-- MovingNames$Law.takeOver(LMovingNames$Law;)V
set_option maxRecDepth 100000 in
noncomputable def ab_c82 : List (List (Nat × ab_I × Nat)) := [[(0, .inl (.aload_n 1), 1), (1, .inr (0, 4, 0), 3), (4, .inl (.iconst 0), 1), (5, .inl (.aload_n 0), 1), (6, .inr (0, 4, 0), 3), (9, .inl (.iconst 0), 1), (10, .inl (.aload_n 1), 1), (11, .inr (0, 4, 2), 3), (14, .inl (.aload_n 0), 1), (15, .inr (0, 4, 0), 3)],
  [(18, .inl (.arraylength), 1), (19, .inr (2, 19, 2), 3), (22, .inr (12, 0, 0), 3), (25, .inl (.aload_n 0), 1), (26, .inl (.aload_n 1), 1), (27, .inr (0, 4, 2), 3), (30, .inr (1, 4, 2), 3)],
  [(33, .inl (.return_), 1)]]
-- MovingNames$Deeds.takeOver(LMovingNames$Deeds;)V
set_option maxRecDepth 100000 in
noncomputable def ab_c83 : List (List (Nat × ab_I × Nat)) := [[(0, .inl (.aload_n 0), 1), (1, .inr (0, 5, 0), 3), (4, .inl (.aload_n 1), 1), (5, .inr (0, 5, 0), 3), (8, .inr (2, 18, 2), 3), (11, .inl (.aload_n 0), 1), (12, .inl (.aload_n 1), 1), (13, .inr (0, 5, 1), 3)],
  [(16, .inr (1, 5, 1), 3), (19, .inl (.return_), 1)]]
-- MovingNamesLaw.street(LMovingNames;II[J)I
set_option maxRecDepth 100000 in
noncomputable def ab_c84 : List (List (Nat × ab_I × Nat)) := [[(0, .inl (.aload_n 3), 1), (1, .inl (.iconst 0), 1), (2, .inl (.aload_n 0), 1), (3, .inl (.iload_n 1), 1), (4, .inl (.iload_n 2), 1), (5, .inr (2, 85, 3), 3), (8, .inl (.i2l), 1), (9, .inl (.lastore), 1), (10, .inl (.goto 11), 3), (13, .inl (.astore 4), 2), (15, .inl (.iconst 1), 1)],
  [(16, .inl (.ireturn), 1), (17, .inl (.astore 4), 2), (19, .inl (.iconst 2), 1), (20, .inl (.ireturn), 1), (21, .inl (.iconst 0), 1), (22, .inl (.ireturn), 1)]]
-- MovingNames.street(II)I
set_option maxRecDepth 100000 in
noncomputable def ab_c85 : List (List (Nat × ab_I × Nat)) := [[(0, .inl (.aload_n 0), 1), (1, .inl (.iload_n 1), 1), (2, .inr (2, 86, 2), 3), (5, .inl (.iload_n 2), 1), (6, .inl (.tableswitch 104 0 4 #[34, 46, 63, 75, 95]), 34)],
  [],
  [(40, .inl (.aload_n 0), 1), (41, .inr (0, 0, 1), 3), (44, .inr (0, 2, 7), 3), (47, .inl (.iload_n 1), 1)],
  [(48, .inr (2, 9, 2), 3), (51, .inl (.ireturn), 1), (52, .inl (.aload_n 0), 1), (53, .inr (0, 0, 1), 3), (56, .inl (.iload_n 1), 1), (57, .inr (2, 23, 2), 3), (60, .inl (.ifCond .eq 7), 3), (63, .inl (.iconst 1), 1)],
  [(64, .inl (.goto 4), 3), (67, .inl (.iconst 0), 1), (68, .inl (.ireturn), 1), (69, .inl (.aload_n 0), 1), (70, .inr (0, 0, 1), 3), (73, .inr (0, 2, 10), 3), (76, .inl (.iload_n 1), 1), (77, .inr (2, 87, 2), 3)],
  [(80, .inl (.ireturn), 1), (81, .inl (.aload_n 0), 1), (82, .inr (0, 0, 3), 3), (85, .inl (.aload_n 0), 1), (86, .inr (0, 0, 1), 3), (89, .inr (2, 17, 2), 3), (92, .inl (.aload_n 0), 1), (93, .inr (0, 0, 3), 3)],
  [(96, .inl (.iload_n 1), 1), (97, .inr (2, 27, 2), 3), (100, .inl (.ireturn), 1), (101, .inl (.aload_n 0), 1), (102, .inr (0, 0, 1), 3), (105, .inl (.iload_n 1), 1), (106, .inr (2, 88, 2), 3), (109, .inl (.ireturn), 1), (110, .inr (10, 0, 0), 10)]]
-- MovingNames.needStreet(I)V
set_option maxRecDepth 100000 in
noncomputable def ab_c86 : List (List (Nat × ab_I × Nat)) := [[(0, .inl (.iload_n 1), 1), (1, .inl (.ifCond .lt 14), 3), (4, .inl (.iload_n 1), 1), (5, .inl (.aload_n 0), 1), (6, .inr (0, 0, 1), 3), (9, .inr (0, 2, 1), 3), (12, .inl (.if_icmp .lt 14), 3), (15, .inr (10, 1, 0), 11)],
  [(26, .inl (.return_), 1)]]
-- MovingNames$Rounds.roundsOf(I)I
set_option maxRecDepth 100000 in
noncomputable def ab_c87 : List (List (Nat × ab_I × Nat)) := [[(0, .inl (.iconst 0), 1), (1, .inl (.istore_n 2), 1), (2, .inl (.iconst 0), 1), (3, .inl (.istore_n 3), 1), (4, .inl (.iload_n 3), 1), (5, .inl (.aload_n 0), 1), (6, .inr (0, 3, 3), 3), (9, .inl (.if_icmp .ge 25), 3), (12, .inl (.aload_n 0), 1), (13, .inl (.iload_n 3), 1), (14, .inl (.iload_n 1), 1), (15, .inr (2, 64, 3), 3)],
  [(18, .inl (.iconst (-1)), 1), (19, .inl (.if_icmp .eq 9), 3), (22, .inl (.iload_n 2), 1), (23, .inl (.iconst 1), 1), (24, .inl (.iload_n 3), 1), (25, .inl (.ishl), 1), (26, .inl (.ior), 1), (27, .inl (.istore_n 2), 1), (28, .inl (.iinc 3 1), 3), (31, .inl (.goto (-27)), 3)],
  [(34, .inl (.iload_n 2), 1), (35, .inl (.ireturn), 1)]]
-- MovingNames$Town.peopleOn(I)I
set_option maxRecDepth 100000 in
noncomputable def ab_c88 : List (List (Nat × ab_I × Nat)) := [[(0, .inl (.iconst 0), 1), (1, .inl (.istore_n 2), 1), (2, .inl (.iconst 0), 1), (3, .inl (.istore_n 3), 1), (4, .inl (.iload_n 3), 1), (5, .inl (.aload_n 0), 1), (6, .inr (0, 2, 3), 3), (9, .inl (.if_icmp .ge 27), 3), (12, .inl (.aload_n 0), 1), (13, .inr (0, 2, 8), 3)],
  [(16, .inl (.iload_n 3), 1), (17, .inr (2, 9, 2), 3), (20, .inl (.iload_n 1), 1), (21, .inl (.if_icmp .ne 9), 3), (24, .inl (.iload_n 2), 1), (25, .inl (.iconst 1), 1), (26, .inl (.iload_n 3), 1), (27, .inl (.ishl), 1), (28, .inl (.ior), 1), (29, .inl (.istore_n 2), 1), (30, .inl (.iinc 3 1), 3)],
  [(33, .inl (.goto (-29)), 3), (36, .inl (.iload_n 2), 1), (37, .inl (.ireturn), 1)]]
-- MovingNamesLaw.round(LMovingNames;II[J)I
set_option maxRecDepth 100000 in
noncomputable def ab_c89 : List (List (Nat × ab_I × Nat)) := [[(0, .inl (.aload_n 3), 1), (1, .inl (.iconst 0), 1), (2, .inl (.aload_n 0), 1), (3, .inl (.iload_n 1), 1), (4, .inl (.iload_n 2), 1), (5, .inr (2, 90, 3), 3), (8, .inl (.i2l), 1), (9, .inl (.lastore), 1), (10, .inl (.goto 11), 3), (13, .inl (.astore 4), 2), (15, .inl (.iconst 1), 1)],
  [(16, .inl (.ireturn), 1), (17, .inl (.astore 4), 2), (19, .inl (.iconst 2), 1), (20, .inl (.ireturn), 1), (21, .inl (.iconst 0), 1), (22, .inl (.ireturn), 1)]]
-- MovingNames.round(II)I
set_option maxRecDepth 100000 in
noncomputable def ab_c90 : List (List (Nat × ab_I × Nat)) := [[(0, .inl (.aload_n 0), 1), (1, .inl (.iload_n 1), 1), (2, .inr (2, 91, 2), 3), (5, .inl (.iload_n 2), 1), (6, .inl (.tableswitch 73 0 2 #[26, 38, 53]), 26)],
  [],
  [(32, .inl (.aload_n 0), 1), (33, .inr (0, 0, 1), 3), (36, .inr (0, 2, 10), 3), (39, .inl (.iload_n 1), 1), (40, .inr (2, 21, 2), 3), (43, .inl (.ireturn), 1), (44, .inl (.aload_n 0), 1), (45, .inr (0, 0, 1), 3)],
  [(48, .inr (0, 2, 10), 3), (51, .inl (.iload_n 1), 1), (52, .inr (2, 24, 2), 3), (55, .inr (2, 92, 1), 3), (58, .inl (.ireturn), 1), (59, .inl (.aload_n 0), 1), (60, .inr (0, 0, 1), 3), (63, .inr (0, 2, 10), 3)],
  [(66, .inl (.iload_n 1), 1), (67, .inr (2, 24, 2), 3), (70, .inl (.ifCond .ge 7), 3), (73, .inl (.iconst 1), 1), (74, .inl (.goto 4), 3), (77, .inl (.iconst 0), 1), (78, .inl (.ireturn), 1), (79, .inl (.iload_n 2), 1)],
  [(80, .inl (.bipush 10), 2), (82, .inl (.if_icmp .lt 9), 3), (85, .inl (.iload_n 2), 1), (86, .inl (.bipush 30), 2), (88, .inl (.if_icmp .lt 13), 3), (91, .inr (10, 0, 0), 10)],
  [(101, .inl (.aload_n 0), 1), (102, .inr (0, 0, 1), 3), (105, .inr (0, 2, 10), 3), (108, .inl (.iload_n 1), 1), (109, .inl (.iload_n 2), 1), (110, .inl (.bipush 10), 2)],
  [(112, .inl (.isub), 1), (113, .inr (2, 22, 3), 3), (116, .inl (.ireturn), 1)]]
-- MovingNames.needRound(I)V
set_option maxRecDepth 100000 in
noncomputable def ab_c91 : List (List (Nat × ab_I × Nat)) := [[(0, .inl (.iload_n 1), 1), (1, .inl (.ifCond .lt 17), 3), (4, .inl (.iload_n 1), 1), (5, .inl (.aload_n 0), 1), (6, .inr (0, 0, 1), 3), (9, .inr (0, 2, 10), 3), (12, .inr (0, 3, 3), 3), (15, .inl (.if_icmp .lt 14), 3)],
  [(18, .inr (10, 1, 0), 11), (29, .inl (.return_), 1)]]
-- java/lang/Math.abs(I)I
set_option maxRecDepth 100000 in
noncomputable def ab_c92 : List (List (Nat × ab_I × Nat)) := [[(0, .inl (.iload_n 0), 1), (1, .inl (.ifCond .ge 8), 3), (4, .inl (.iload_n 0), 1), (5, .inl (.ineg), 1), (6, .inl (.goto 4), 3), (9, .inl (.iload_n 0), 1), (10, .inl (.ireturn), 1)]]
-- MovingNamesLaw.person(LMovingNames;II[J)I
set_option maxRecDepth 100000 in
noncomputable def ab_c93 : List (List (Nat × ab_I × Nat)) := [[(0, .inl (.aload_n 3), 1), (1, .inl (.iconst 0), 1), (2, .inl (.aload_n 0), 1), (3, .inl (.iload_n 1), 1), (4, .inl (.iload_n 2), 1), (5, .inr (2, 94, 3), 3), (8, .inl (.i2l), 1), (9, .inl (.lastore), 1), (10, .inl (.goto 11), 3), (13, .inl (.astore 4), 2), (15, .inl (.iconst 1), 1)],
  [(16, .inl (.ireturn), 1), (17, .inl (.astore 4), 2), (19, .inl (.iconst 2), 1), (20, .inl (.ireturn), 1), (21, .inl (.iconst 0), 1), (22, .inl (.ireturn), 1)]]
-- MovingNames.person(II)I
set_option maxRecDepth 100000 in
noncomputable def ab_c94 : List (List (Nat × ab_I × Nat)) := [[(0, .inl (.aload_n 0), 1), (1, .inl (.iload_n 1), 1), (2, .inr (2, 95, 2), 3), (5, .inl (.iload_n 2), 1), (6, .inl (.tableswitch 72 0 2 #[26, 38, 50]), 26)],
  [],
  [(32, .inl (.aload_n 0), 1), (33, .inr (0, 0, 1), 3), (36, .inr (0, 2, 8), 3), (39, .inl (.iload_n 1), 1), (40, .inr (2, 9, 2), 3), (43, .inl (.ireturn), 1), (44, .inl (.aload_n 0), 1), (45, .inr (0, 0, 1), 3)],
  [(48, .inr (0, 2, 9), 3), (51, .inl (.iload_n 1), 1), (52, .inr (2, 9, 2), 3), (55, .inl (.ireturn), 1), (56, .inl (.aload_n 0), 1), (57, .inr (0, 0, 1), 3), (60, .inr (0, 2, 7), 3), (63, .inl (.aload_n 0), 1)],
  [(64, .inr (0, 0, 1), 3), (67, .inr (0, 2, 8), 3), (70, .inl (.iload_n 1), 1), (71, .inr (2, 9, 2), 3), (74, .inr (2, 9, 2), 3), (77, .inl (.ireturn), 1), (78, .inr (10, 0, 0), 10)]]
-- MovingNames.needPerson(I)V
set_option maxRecDepth 100000 in
noncomputable def ab_c95 : List (List (Nat × ab_I × Nat)) := [[(0, .inl (.iload_n 1), 1), (1, .inl (.ifCond .lt 14), 3), (4, .inl (.iload_n 1), 1), (5, .inl (.aload_n 0), 1), (6, .inr (0, 0, 1), 3), (9, .inr (0, 2, 3), 3), (12, .inl (.if_icmp .lt 14), 3), (15, .inr (10, 1, 0), 11)],
  [(26, .inl (.return_), 1)]]
-- MovingNamesLaw.where(LMovingNames;I[J)I
set_option maxRecDepth 100000 in
noncomputable def ab_c96 : List (List (Nat × ab_I × Nat)) := [[(0, .inl (.aload_n 2), 1), (1, .inl (.iconst 0), 1), (2, .inl (.aload_n 0), 1), (3, .inl (.iload_n 1), 1), (4, .inr (2, 97, 2), 3), (7, .inl (.i2l), 1), (8, .inl (.lastore), 1), (9, .inl (.goto 6), 3), (12, .inl (.astore_n 3), 1), (13, .inl (.iconst 1), 1), (14, .inl (.ireturn), 1), (15, .inl (.iconst 0), 1)],
  [(16, .inl (.ireturn), 1)]]
-- MovingNames.where(I)I
set_option maxRecDepth 100000 in
noncomputable def ab_c97 : List (List (Nat × ab_I × Nat)) := [[(0, .inl (.aload_n 0), 1), (1, .inl (.iload_n 1), 1), (2, .inr (2, 98, 2), 3), (5, .inl (.aload_n 0), 1), (6, .inr (0, 0, 1), 3), (9, .inl (.iload_n 1), 1), (10, .inr (2, 99, 2), 3), (13, .inl (.ireturn), 1)]]
-- MovingNames.needName(I)V
set_option maxRecDepth 100000 in
noncomputable def ab_c98 : List (List (Nat × ab_I × Nat)) := [[(0, .inl (.iload_n 1), 1), (1, .inl (.ifCond .lt 14), 3), (4, .inl (.iload_n 1), 1), (5, .inl (.aload_n 0), 1), (6, .inr (0, 0, 1), 3), (9, .inr (0, 2, 1), 3), (12, .inl (.if_icmp .lt 14), 3), (15, .inr (10, 1, 0), 11)],
  [(26, .inl (.return_), 1)]]
-- MovingNames$Town.streetsOf(I)I
set_option maxRecDepth 100000 in
noncomputable def ab_c99 : List (List (Nat × ab_I × Nat)) := [[(0, .inl (.iconst 0), 1), (1, .inl (.istore_n 2), 1), (2, .inl (.iconst 0), 1), (3, .inl (.istore_n 3), 1), (4, .inl (.iload_n 3), 1), (5, .inl (.aload_n 0), 1), (6, .inr (0, 2, 1), 3), (9, .inl (.if_icmp .ge 27), 3), (12, .inl (.aload_n 0), 1), (13, .inr (0, 2, 7), 3)],
  [(16, .inl (.iload_n 3), 1), (17, .inr (2, 9, 2), 3), (20, .inl (.iload_n 1), 1), (21, .inl (.if_icmp .ne 9), 3), (24, .inl (.iload_n 2), 1), (25, .inl (.iconst 1), 1), (26, .inl (.iload_n 3), 1), (27, .inl (.ishl), 1), (28, .inl (.ior), 1), (29, .inl (.istore_n 2), 1), (30, .inl (.iinc 3 1), 3)],
  [(33, .inl (.goto (-29)), 3), (36, .inl (.iload_n 2), 1), (37, .inl (.ireturn), 1)]]
-- MovingNamesLaw.finds(LMovingNames;II[J)I
set_option maxRecDepth 100000 in
noncomputable def ab_c100 : List (List (Nat × ab_I × Nat)) := [[(0, .inl (.aload_n 3), 1), (1, .inl (.iconst 0), 1), (2, .inl (.aload_n 0), 1), (3, .inl (.iload_n 1), 1), (4, .inl (.iload_n 2), 1), (5, .inr (2, 101, 3), 3), (8, .inl (.i2l), 1), (9, .inl (.lastore), 1), (10, .inl (.goto 11), 3), (13, .inl (.astore 4), 2), (15, .inl (.iconst 1), 1)],
  [(16, .inl (.ireturn), 1), (17, .inl (.astore 4), 2), (19, .inl (.iconst 2), 1), (20, .inl (.ireturn), 1), (21, .inl (.iconst 0), 1), (22, .inl (.ireturn), 1)]]
-- MovingNames.finds(II)I
set_option maxRecDepth 100000 in
noncomputable def ab_c101 : List (List (Nat × ab_I × Nat)) := [[(0, .inl (.aload_n 0), 1), (1, .inl (.iload_n 1), 1), (2, .inr (2, 98, 2), 3), (5, .inl (.aload_n 0), 1), (6, .inl (.iload_n 2), 1), (7, .inr (2, 102, 2), 3), (10, .inl (.aload_n 0), 1), (11, .inr (0, 0, 1), 3), (14, .inl (.iload_n 2), 1), (15, .inl (.aload_n 0), 1)],
  [(16, .inr (0, 0, 1), 3), (19, .inl (.iload_n 1), 1), (20, .inr (2, 99, 2), 3), (23, .inr (2, 104, 3), 3), (26, .inl (.ireturn), 1)]]
-- MovingNames.needHouse(I)V
set_option maxRecDepth 100000 in
noncomputable def ab_c102 : List (List (Nat × ab_I × Nat)) := [[(0, .inl (.aload_n 0), 1), (1, .inl (.iload_n 1), 1), (2, .inl (.iconst 1), 1), (3, .inl (.aload_n 0), 1), (4, .inr (0, 0, 1), 3), (7, .inr (0, 2, 2), 3), (10, .inr (2, 103, 4), 3), (13, .inl (.return_), 1)]]
-- MovingNames.needWithin(III)V
set_option maxRecDepth 100000 in
noncomputable def ab_c103 : List (List (Nat × ab_I × Nat)) := [[(0, .inl (.iload_n 1), 1), (1, .inl (.iload_n 2), 1), (2, .inl (.if_icmp .lt 8), 3), (5, .inl (.iload_n 1), 1), (6, .inl (.iload_n 3), 1), (7, .inl (.if_icmp .le 14), 3), (10, .inr (10, 0, 0), 11)],
  [(21, .inl (.return_), 1)]]
-- MovingNames$Town.peopleIn(II)I
set_option maxRecDepth 100000 in
noncomputable def ab_c104 : List (List (Nat × ab_I × Nat)) := [[(0, .inl (.iconst 0), 1), (1, .inl (.istore_n 3), 1), (2, .inl (.iconst 0), 1), (3, .inl (.istore 4), 2), (5, .inl (.iload 4), 2), (7, .inl (.aload_n 0), 1), (8, .inr (0, 2, 3), 3), (11, .inl (.if_icmp .ge 45), 3), (14, .inl (.aload_n 0), 1), (15, .inr (0, 2, 9), 3)],
  [(18, .inl (.iload 4), 2), (20, .inr (2, 9, 2), 3), (23, .inl (.iload_n 1), 1), (24, .inl (.if_icmp .ne 26), 3), (27, .inl (.iload_n 2), 1), (28, .inl (.aload_n 0), 1), (29, .inr (0, 2, 8), 3)],
  [(32, .inl (.iload 4), 2), (34, .inr (2, 9, 2), 3), (37, .inl (.ishr), 1), (38, .inl (.iconst 1), 1), (39, .inl (.iand), 1), (40, .inl (.ifCond .eq 10), 3), (43, .inl (.iload_n 3), 1), (44, .inl (.iconst 1), 1), (45, .inl (.iload 4), 2), (47, .inl (.ishl), 1)],
  [(48, .inl (.ior), 1), (49, .inl (.istore_n 3), 1), (50, .inl (.iinc 4 1), 3), (53, .inl (.goto (-48)), 3), (56, .inl (.iload_n 3), 1), (57, .inl (.ireturn), 1)]]
-- MovingNamesLaw.nameIn(LMovingNames;II[J)I
set_option maxRecDepth 100000 in
noncomputable def ab_c105 : List (List (Nat × ab_I × Nat)) := [[(0, .inl (.aload_n 3), 1), (1, .inl (.iconst 0), 1), (2, .inl (.aload_n 0), 1), (3, .inl (.iload_n 1), 1), (4, .inl (.iload_n 2), 1), (5, .inr (2, 106, 3), 3), (8, .inl (.i2l), 1), (9, .inl (.lastore), 1), (10, .inl (.goto 11), 3), (13, .inl (.astore 4), 2), (15, .inl (.iconst 1), 1)],
  [(16, .inl (.ireturn), 1), (17, .inl (.astore 4), 2), (19, .inl (.iconst 2), 1), (20, .inl (.ireturn), 1), (21, .inl (.iconst 0), 1), (22, .inl (.ireturn), 1)]]
-- MovingNames.nameIn(II)I
set_option maxRecDepth 100000 in
noncomputable def ab_c106 : List (List (Nat × ab_I × Nat)) := [[(0, .inl (.aload_n 0), 1), (1, .inl (.iload_n 1), 1), (2, .inr (2, 86, 2), 3), (5, .inl (.aload_n 0), 1), (6, .inl (.iload_n 2), 1), (7, .inr (2, 107, 2), 3), (10, .inl (.aload_n 0), 1), (11, .inr (0, 0, 3), 3), (14, .inl (.aload_n 0), 1), (15, .inr (0, 0, 1), 3)],
  [(18, .inr (2, 17, 2), 3), (21, .inl (.aload_n 0), 1), (22, .inr (0, 0, 3), 3), (25, .inr (0, 6, 2), 3), (28, .inl (.aload_n 0), 1), (29, .inr (0, 0, 3), 3)],
  [(32, .inl (.iload_n 1), 1), (33, .inl (.iload_n 2), 1), (34, .inl (.ineg), 1), (35, .inr (2, 108, 3), 3), (38, .inr (2, 9, 2), 3), (41, .inl (.ireturn), 1)]]
-- MovingNames.needReach(I)V
set_option maxRecDepth 100000 in
noncomputable def ab_c107 : List (List (Nat × ab_I × Nat)) := [[(0, .inl (.aload_n 0), 1), (1, .inl (.iload_n 1), 1), (2, .inl (.sipush (-9999)), 3), (5, .inl (.sipush 9999), 3), (8, .inr (2, 103, 4), 3), (11, .inl (.return_), 1)]]
-- MovingNames$Outlook.ahead(II)I
set_option maxRecDepth 100000 in
noncomputable def ab_c108 : List (List (Nat × ab_I × Nat)) := [[(0, .inl (.aload_n 0), 1), (1, .inl (.iload_n 1), 1), (2, .inr (2, 27, 2), 3), (5, .inl (.istore_n 3), 1), (6, .inl (.iload_n 3), 1), (7, .inl (.ifCond .le 11), 3), (10, .inl (.iload_n 2), 1), (11, .inl (.iload_n 3), 1), (12, .inr (2, 25, 2), 3), (15, .inl (.goto 4), 3)],
  [(18, .inl (.iconst 0), 1), (19, .inl (.istore 4), 2), (21, .inl (.iload_n 1), 1), (22, .inl (.istore 5), 2), (24, .inl (.iconst 0), 1), (25, .inl (.istore 6), 2), (27, .inl (.iload 6), 2), (29, .inl (.iload 4), 2), (31, .inl (.if_icmp .ge 20), 3)],
  [(34, .inl (.aload_n 0), 1), (35, .inr (0, 6, 3), 3), (38, .inl (.iload 5), 2), (40, .inr (2, 9, 2), 3), (43, .inl (.istore 5), 2), (45, .inl (.iinc 6 1), 3)],
  [(48, .inl (.goto (-21)), 3), (51, .inl (.iload 5), 2), (53, .inl (.ireturn), 1)]]
-- MovingNamesLaw.goesTo(LMovingNames;II[J)I
set_option maxRecDepth 100000 in
noncomputable def ab_c109 : List (List (Nat × ab_I × Nat)) := [[(0, .inl (.aload_n 3), 1), (1, .inl (.iconst 0), 1), (2, .inl (.aload_n 0), 1), (3, .inl (.iload_n 1), 1), (4, .inl (.iload_n 2), 1), (5, .inr (2, 110, 3), 3), (8, .inl (.i2l), 1), (9, .inl (.lastore), 1), (10, .inl (.goto 11), 3), (13, .inl (.astore 4), 2), (15, .inl (.iconst 1), 1)],
  [(16, .inl (.ireturn), 1), (17, .inl (.astore 4), 2), (19, .inl (.iconst 2), 1), (20, .inl (.ireturn), 1), (21, .inl (.iconst 0), 1), (22, .inl (.ireturn), 1)]]
-- MovingNames.goesTo(II)I
set_option maxRecDepth 100000 in
noncomputable def ab_c110 : List (List (Nat × ab_I × Nat)) := [[(0, .inl (.aload_n 0), 1), (1, .inl (.iload_n 1), 1), (2, .inr (2, 86, 2), 3), (5, .inl (.aload_n 0), 1), (6, .inl (.iload_n 2), 1), (7, .inr (2, 107, 2), 3), (10, .inl (.aload_n 0), 1), (11, .inr (0, 0, 3), 3), (14, .inl (.aload_n 0), 1), (15, .inr (0, 0, 1), 3)],
  [(18, .inr (2, 17, 2), 3), (21, .inl (.aload_n 0), 1), (22, .inr (0, 0, 3), 3), (25, .inl (.iload_n 1), 1), (26, .inl (.iload_n 2), 1), (27, .inr (2, 108, 3), 3), (30, .inl (.ireturn), 1)]]
-- MovingNamesLaw.nights(LMovingNames;I[J)I
set_option maxRecDepth 100000 in
noncomputable def ab_c111 : List (List (Nat × ab_I × Nat)) := [[(0, .inl (.aload_n 2), 1), (1, .inl (.iconst 0), 1), (2, .inl (.aload_n 0), 1), (3, .inl (.iload_n 1), 1), (4, .inr (2, 112, 2), 3), (7, .inl (.i2l), 1), (8, .inl (.lastore), 1), (9, .inl (.goto 6), 3), (12, .inl (.astore_n 3), 1), (13, .inl (.iconst 1), 1), (14, .inl (.ireturn), 1), (15, .inl (.iconst 0), 1)],
  [(16, .inl (.ireturn), 1)]]
-- MovingNames.nights(I)I
set_option maxRecDepth 100000 in
noncomputable def ab_c112 : List (List (Nat × ab_I × Nat)) := [[(0, .inl (.aload_n 0), 1), (1, .inl (.iload_n 1), 1), (2, .inl (.iconst 1), 1), (3, .inl (.bipush 99), 2), (5, .inr (2, 103, 4), 3), (8, .inl (.aload_n 0), 1), (9, .inr (0, 0, 1), 3), (12, .inl (.iload_n 1), 1), (13, .inl (.aload_n 0), 1), (14, .inr (0, 0, 3), 3)],
  [(17, .inr (2, 113, 3), 3), (20, .inl (.ireturn), 1)]]
-- MovingNames$Town.passNights(ILMovingNames$Outlook;)I
set_option maxRecDepth 100000 in
noncomputable def ab_c113 : List (List (Nat × ab_I × Nat)) := [[(0, .inl (.aload_n 0), 1), (1, .inl (.iload_n 1), 1), (2, .inr (2, 6, 2), 3), (5, .inl (.istore_n 3), 1), (6, .inl (.aload_n 0), 1), (7, .inl (.iload_n 3), 1), (8, .inl (.aload_n 2), 1), (9, .inr (2, 114, 3), 3), (12, .inl (.aload_n 0), 1), (13, .inl (.dup), 1), (14, .inr (0, 2, 4), 3)],
  [(17, .inl (.iload_n 1), 1), (18, .inl (.iadd), 1), (19, .inr (1, 2, 4), 3), (22, .inl (.aload_n 0), 1), (23, .inl (.dup), 1), (24, .inr (0, 2, 5), 3), (27, .inl (.iload_n 3), 1), (28, .inl (.iadd), 1), (29, .inr (1, 2, 5), 3)],
  [(32, .inl (.aload_n 0), 1), (33, .inr (0, 2, 12), 3), (36, .inl (.iconst 1), 1), (37, .inl (.iload_n 1), 1), (38, .inl (.iload_n 3), 1), (39, .inl (.iconst 0), 1), (40, .inr (2, 116, 5), 3), (43, .inl (.iload_n 3), 1), (44, .inl (.ireturn), 1)]]
-- MovingNames$Town.goOn(ILMovingNames$Outlook;)V
set_option maxRecDepth 100000 in
noncomputable def ab_c114 : List (List (Nat × ab_I × Nat)) := [[(0, .inl (.aload_n 2), 1), (1, .inl (.aload_n 0), 1), (2, .inr (2, 17, 2), 3), (5, .inl (.aload_n 2), 1), (6, .inl (.iload_n 1), 1), (7, .inr (2, 115, 2), 3), (10, .inl (.iconst 0), 1), (11, .inl (.istore_n 3), 1), (12, .inl (.iload_n 3), 1), (13, .inl (.aload_n 0), 1), (14, .inr (0, 2, 1), 3)],
  [(17, .inl (.if_icmp .ge 22), 3), (20, .inl (.aload_n 0), 1), (21, .inr (0, 2, 7), 3), (24, .inl (.iload_n 3), 1), (25, .inl (.aload_n 2), 1), (26, .inl (.iload_n 3), 1), (27, .inr (2, 32, 2), 3), (30, .inr (2, 3, 3), 3)],
  [(33, .inl (.iinc 3 1), 3), (36, .inl (.goto (-24)), 3), (39, .inl (.return_), 1)]]
-- MovingNames$Outlook.leap(I)V
set_option maxRecDepth 100000 in
noncomputable def ab_c115 : List (List (Nat × ab_I × Nat)) := [[(0, .inl (.iconst 0), 1), (1, .inl (.istore_n 2), 1), (2, .inl (.iload_n 2), 1), (3, .inl (.aload_n 0), 1), (4, .inr (0, 6, 0), 3), (7, .inl (.if_icmp .ge 24), 3), (10, .inl (.aload_n 0), 1), (11, .inr (0, 6, 5), 3), (14, .inl (.iload_n 2), 1), (15, .inl (.aload_n 0), 1)],
  [(16, .inl (.iload_n 2), 1), (17, .inl (.iload_n 1), 1), (18, .inl (.ineg), 1), (19, .inr (2, 108, 3), 3), (22, .inr (2, 3, 3), 3), (25, .inl (.iinc 2 1), 3), (28, .inl (.goto (-26)), 3), (31, .inl (.return_), 1)]]
-- MovingNames$Deeds.note(IIII)V
set_option maxRecDepth 100000 in
noncomputable def ab_c116 : List (List (Nat × ab_I × Nat)) := [[(0, .inl (.aload_n 0), 1), (1, .inr (0, 5, 1), 3), (4, .inl (.bipush 10), 2), (6, .inl (.if_icmp .lt 29), 3), (9, .inl (.aload_n 0), 1), (10, .inr (0, 5, 0), 3), (13, .inl (.iconst 4), 1), (14, .inl (.aload_n 0), 1), (15, .inr (0, 5, 0), 3)],
  [(18, .inl (.iconst 0), 1), (19, .inl (.aload_n 0), 1), (20, .inr (0, 5, 0), 3), (23, .inl (.arraylength), 1), (24, .inl (.iconst 4), 1), (25, .inl (.isub), 1), (26, .inr (12, 0, 0), 3), (29, .inl (.aload_n 0), 1), (30, .inl (.bipush 9), 2)],
  [(32, .inr (1, 5, 1), 3), (35, .inl (.aload_n 0), 1), (36, .inr (0, 5, 0), 3), (39, .inl (.aload_n 0), 1), (40, .inr (0, 5, 1), 3), (43, .inl (.iconst 4), 1), (44, .inl (.imul), 1), (45, .inl (.iload_n 1), 1), (46, .inr (2, 3, 3), 3)],
  [(49, .inl (.aload_n 0), 1), (50, .inr (0, 5, 0), 3), (53, .inl (.aload_n 0), 1), (54, .inr (0, 5, 1), 3), (57, .inl (.iconst 4), 1), (58, .inl (.imul), 1), (59, .inl (.iconst 1), 1), (60, .inl (.iadd), 1), (61, .inl (.iload_n 2), 1), (62, .inr (2, 3, 3), 3)],
  [(65, .inl (.aload_n 0), 1), (66, .inr (0, 5, 0), 3), (69, .inl (.aload_n 0), 1), (70, .inr (0, 5, 1), 3), (73, .inl (.iconst 4), 1), (74, .inl (.imul), 1), (75, .inl (.iconst 2), 1), (76, .inl (.iadd), 1), (77, .inl (.iload_n 3), 1), (78, .inr (2, 3, 3), 3)],
  [(81, .inl (.aload_n 0), 1), (82, .inr (0, 5, 0), 3), (85, .inl (.aload_n 0), 1), (86, .inr (0, 5, 1), 3), (89, .inl (.iconst 4), 1), (90, .inl (.imul), 1), (91, .inl (.iconst 3), 1), (92, .inl (.iadd), 1), (93, .inl (.iload 4), 2), (95, .inr (2, 3, 3), 3)],
  [(98, .inl (.aload_n 0), 1), (99, .inl (.dup), 1), (100, .inr (0, 5, 1), 3), (103, .inl (.iconst 1), 1), (104, .inl (.iadd), 1), (105, .inr (1, 5, 1), 3), (108, .inl (.return_), 1)]]
-- MovingNamesLaw.movesIn(LMovingNames;I[J)I
set_option maxRecDepth 100000 in
noncomputable def ab_c117 : List (List (Nat × ab_I × Nat)) := [[(0, .inl (.aload_n 2), 1), (1, .inl (.iconst 0), 1), (2, .inl (.aload_n 0), 1), (3, .inl (.iload_n 1), 1), (4, .inr (2, 118, 2), 3), (7, .inl (.i2l), 1), (8, .inl (.lastore), 1), (9, .inl (.goto 6), 3), (12, .inl (.astore_n 3), 1), (13, .inl (.iconst 1), 1), (14, .inl (.ireturn), 1), (15, .inl (.iconst 0), 1)],
  [(16, .inl (.ireturn), 1)]]
-- MovingNames.movesIn(I)I
set_option maxRecDepth 100000 in
noncomputable def ab_c118 : List (List (Nat × ab_I × Nat)) := [[(0, .inl (.aload_n 0), 1), (1, .inl (.iload_n 1), 1), (2, .inl (.iconst 0), 1), (3, .inl (.sipush 999), 3), (6, .inr (2, 103, 4), 3), (9, .inl (.aload_n 0), 1), (10, .inr (0, 0, 1), 3), (13, .inl (.iload_n 1), 1), (14, .inr (2, 6, 2), 3)],
  [(17, .inl (.ireturn), 1)]]
-- MovingNamesLaw.nightsFor(LMovingNames;I[J)I
set_option maxRecDepth 100000 in
noncomputable def ab_c119 : List (List (Nat × ab_I × Nat)) := [[(0, .inl (.aload_n 2), 1), (1, .inl (.iconst 0), 1), (2, .inl (.aload_n 0), 1), (3, .inl (.iload_n 1), 1), (4, .inr (2, 120, 2), 3), (7, .inl (.i2l), 1), (8, .inl (.lastore), 1), (9, .inl (.goto 6), 3), (12, .inl (.astore_n 3), 1), (13, .inl (.iconst 1), 1), (14, .inl (.ireturn), 1), (15, .inl (.iconst 0), 1)],
  [(16, .inl (.ireturn), 1)]]
-- MovingNames.nightsFor(I)I
set_option maxRecDepth 100000 in
noncomputable def ab_c120 : List (List (Nat × ab_I × Nat)) := [[(0, .inl (.aload_n 0), 1), (1, .inl (.iload_n 1), 1), (2, .inl (.iconst 0), 1), (3, .inl (.sipush 999), 3), (6, .inr (2, 103, 4), 3), (9, .inl (.aload_n 0), 1), (10, .inr (0, 0, 1), 3), (13, .inl (.iload_n 1), 1), (14, .inr (2, 121, 2), 3)],
  [(17, .inl (.ireturn), 1)]]
-- MovingNames$Town.nightsTill(I)I
set_option maxRecDepth 100000 in
noncomputable def ab_c121 : List (List (Nat × ab_I × Nat)) := [[(0, .inl (.aload_n 0), 1), (1, .inr (2, 7, 1), 3), (4, .inl (.istore_n 2), 1), (5, .inl (.iconst 0), 1), (6, .inl (.istore_n 3), 1), (7, .inl (.iconst 0), 1), (8, .inl (.istore 4), 2), (10, .inl (.iload 4), 2), (12, .inl (.sipush 999), 3), (15, .inl (.if_icmp .ge 55), 3)],
  [(18, .inl (.iload_n 3), 1), (19, .inl (.iload_n 1), 1), (20, .inl (.if_icmp .ge 50), 3), (23, .inl (.aload_n 0), 1), (24, .inr (0, 2, 11), 3), (27, .inl (.aload_n 0), 1), (28, .inr (0, 2, 4), 3), (31, .inl (.iload 4), 2)],
  [(33, .inl (.iadd), 1), (34, .inl (.aload_n 0), 1), (35, .inr (0, 2, 5), 3), (38, .inl (.iload_n 3), 1), (39, .inl (.iadd), 1), (40, .inl (.aload_n 0), 1), (41, .inr (0, 2, 3), 3), (44, .inl (.iload_n 2), 1), (45, .inr (2, 10, 5), 3)],
  [(48, .inl (.ifCond .ne 16), 3), (51, .inl (.iinc 3 1), 3), (54, .inl (.iload_n 3), 1), (55, .inl (.iload_n 1), 1), (56, .inl (.if_icmp .ne 8), 3), (59, .inl (.iload 4), 2), (61, .inl (.iconst 1), 1), (62, .inl (.iadd), 1), (63, .inl (.ireturn), 1)],
  [(64, .inl (.iinc 4 1), 3), (67, .inl (.goto (-57)), 3), (70, .inl (.iload_n 1), 1), (71, .inl (.ifCond .ne 7), 3), (74, .inl (.iconst 0), 1), (75, .inl (.goto 4), 3), (78, .inl (.iconst (-1)), 1), (79, .inl (.ireturn), 1)]]
-- MovingNamesLaw.hang(LMovingNames;II[J)I
set_option maxRecDepth 100000 in
noncomputable def ab_c122 : List (List (Nat × ab_I × Nat)) := [[(0, .inl (.aload_n 3), 1), (1, .inl (.iconst 0), 1), (2, .inl (.aload_n 0), 1), (3, .inl (.iload_n 1), 1), (4, .inl (.iload_n 2), 1), (5, .inr (2, 123, 3), 3), (8, .inl (.i2l), 1), (9, .inl (.lastore), 1), (10, .inl (.goto 7), 3), (13, .inl (.astore 4), 2), (15, .inl (.iconst 1), 1)],
  [(16, .inl (.ireturn), 1), (17, .inl (.iconst 0), 1), (18, .inl (.ireturn), 1)]]
-- MovingNames.hang(II)I
set_option maxRecDepth 100000 in
noncomputable def ab_c123 : List (List (Nat × ab_I × Nat)) := [[(0, .inl (.aload_n 0), 1), (1, .inl (.iload_n 1), 1), (2, .inr (2, 86, 2), 3), (5, .inl (.aload_n 0), 1), (6, .inl (.iload_n 2), 1), (7, .inr (2, 98, 2), 3), (10, .inl (.aload_n 0), 1), (11, .inr (0, 0, 1), 3), (14, .inl (.iload_n 1), 1), (15, .inl (.iload_n 2), 1)],
  [(16, .inr (2, 124, 3), 3), (19, .inl (.ireturn), 1)]]
-- MovingNames$Town.hangSign(II)I
set_option maxRecDepth 100000 in
noncomputable def ab_c124 : List (List (Nat × ab_I × Nat)) := [[(0, .inl (.aload_n 0), 1), (1, .inr (0, 2, 7), 3), (4, .inl (.iload_n 1), 1), (5, .inr (2, 9, 2), 3), (8, .inl (.istore_n 3), 1), (9, .inl (.aload_n 0), 1), (10, .inr (0, 2, 7), 3), (13, .inl (.iload_n 1), 1), (14, .inl (.iload_n 2), 1), (15, .inr (2, 3, 3), 3)],
  [(18, .inl (.aload_n 0), 1), (19, .inr (0, 2, 12), 3), (22, .inl (.iconst 2), 1), (23, .inl (.iload_n 1), 1), (24, .inl (.iload_n 3), 1), (25, .inl (.iconst 0), 1), (26, .inr (2, 116, 5), 3), (29, .inl (.iload_n 3), 1), (30, .inl (.ireturn), 1)]]
-- MovingNamesLaw.change(LMovingNames;II[J)I
set_option maxRecDepth 100000 in
noncomputable def ab_c125 : List (List (Nat × ab_I × Nat)) := [[(0, .inl (.aload_n 3), 1), (1, .inl (.iconst 0), 1), (2, .inl (.aload_n 0), 1), (3, .inl (.iload_n 1), 1), (4, .inl (.iload_n 2), 1), (5, .inr (2, 126, 3), 3), (8, .inl (.i2l), 1), (9, .inl (.lastore), 1), (10, .inl (.goto 11), 3), (13, .inl (.astore 4), 2), (15, .inl (.iconst 1), 1)],
  [(16, .inl (.ireturn), 1), (17, .inl (.astore 4), 2), (19, .inl (.iconst 2), 1), (20, .inl (.ireturn), 1), (21, .inl (.iconst 0), 1), (22, .inl (.ireturn), 1)]]
-- MovingNames.change(II)I
set_option maxRecDepth 100000 in
noncomputable def ab_c126 : List (List (Nat × ab_I × Nat)) := [[(0, .inl (.aload_n 0), 1), (1, .inl (.iload_n 1), 1), (2, .inl (.iload_n 2), 1), (3, .inr (2, 127, 3), 3), (6, .inl (.aload_n 0), 1), (7, .inr (0, 0, 1), 3), (10, .inl (.iload_n 1), 1), (11, .inl (.iload_n 2), 1), (12, .inr (2, 128, 3), 3), (15, .inl (.aload_n 0), 1)],
  [(16, .inr (0, 0, 1), 3), (19, .inr (2, 7, 1), 3), (22, .inl (.ireturn), 1)]]
-- MovingNames.needTwoStreets(II)V
set_option maxRecDepth 100000 in
noncomputable def ab_c127 : List (List (Nat × ab_I × Nat)) := [[(0, .inl (.aload_n 0), 1), (1, .inl (.iload_n 1), 1), (2, .inr (2, 86, 2), 3), (5, .inl (.aload_n 0), 1), (6, .inl (.iload_n 2), 1), (7, .inr (2, 86, 2), 3), (10, .inl (.iload_n 1), 1), (11, .inl (.iload_n 2), 1), (12, .inl (.if_icmp .ne 14), 3), (15, .inr (10, 0, 0), 11)],
  [(26, .inl (.return_), 1)]]
-- MovingNames$Town.exchangeSigns(II)V
set_option maxRecDepth 100000 in
noncomputable def ab_c128 : List (List (Nat × ab_I × Nat)) := [[(0, .inl (.aload_n 0), 1), (1, .inl (.iload_n 1), 1), (2, .inl (.iload_n 2), 1), (3, .inr (2, 129, 3), 3), (6, .inl (.aload_n 0), 1), (7, .inr (0, 2, 12), 3), (10, .inl (.iconst 3), 1), (11, .inl (.iload_n 1), 1), (12, .inl (.iload_n 2), 1), (13, .inl (.iconst 0), 1), (14, .inr (2, 116, 5), 3)],
  [(17, .inl (.return_), 1)]]
-- MovingNames$Town.swapNames(II)V
set_option maxRecDepth 100000 in
noncomputable def ab_c129 : List (List (Nat × ab_I × Nat)) := [[(0, .inl (.aload_n 0), 1), (1, .inr (0, 2, 7), 3), (4, .inl (.iload_n 1), 1), (5, .inr (2, 9, 2), 3), (8, .inl (.istore_n 3), 1), (9, .inl (.aload_n 0), 1), (10, .inr (0, 2, 7), 3), (13, .inl (.iload_n 1), 1), (14, .inl (.aload_n 0), 1), (15, .inr (0, 2, 7), 3)],
  [(18, .inl (.iload_n 2), 1), (19, .inr (2, 9, 2), 3), (22, .inr (2, 3, 3), 3), (25, .inl (.aload_n 0), 1), (26, .inr (0, 2, 7), 3), (29, .inl (.iload_n 2), 1), (30, .inl (.iload_n 3), 1), (31, .inr (2, 3, 3), 3)],
  [(34, .inl (.return_), 1)]]
-- MovingNamesLaw.letIn(LMovingNames;III[J)I
set_option maxRecDepth 100000 in
noncomputable def ab_c130 : List (List (Nat × ab_I × Nat)) := [[(0, .inl (.aload 4), 2), (2, .inl (.iconst 0), 1), (3, .inl (.aload_n 0), 1), (4, .inl (.iload_n 1), 1), (5, .inl (.iload_n 2), 1), (6, .inl (.iload_n 3), 1), (7, .inr (2, 131, 4), 3), (10, .inl (.i2l), 1), (11, .inl (.lastore), 1), (12, .inl (.goto 15), 3), (15, .inl (.astore 5), 2)],
  [(17, .inl (.iconst 1), 1), (18, .inl (.ireturn), 1), (19, .inl (.astore 5), 2), (21, .inl (.iconst 2), 1), (22, .inl (.ireturn), 1), (23, .inl (.astore 5), 2), (25, .inl (.iconst 3), 1), (26, .inl (.ireturn), 1), (27, .inl (.iconst 0), 1), (28, .inl (.ireturn), 1)]]
-- MovingNames.letIn(III)I
set_option maxRecDepth 100000 in
noncomputable def ab_c131 : List (List (Nat × ab_I × Nat)) := [[(0, .inl (.aload_n 0), 1), (1, .inl (.iload_n 1), 1), (2, .inr (2, 86, 2), 3), (5, .inl (.aload_n 0), 1), (6, .inl (.iload_n 2), 1), (7, .inr (2, 91, 2), 3), (10, .inl (.aload_n 0), 1), (11, .inr (0, 0, 1), 3), (14, .inr (0, 2, 10), 3)],
  [(17, .inl (.iload_n 2), 1), (18, .inl (.iload_n 1), 1), (19, .inr (2, 64, 3), 3), (22, .inl (.iconst (-1)), 1), (23, .inl (.if_icmp .eq 13), 3), (26, .inr (10, 2, 0), 10)],
  [(36, .inl (.aload_n 0), 1), (37, .inl (.iload_n 3), 1), (38, .inl (.iconst 0), 1), (39, .inl (.aload_n 0), 1), (40, .inr (0, 0, 1), 3), (43, .inr (0, 2, 10), 3), (46, .inl (.iload_n 2), 1), (47, .inr (2, 21, 2), 3)],
  [(50, .inr (2, 103, 4), 3), (53, .inl (.aload_n 0), 1), (54, .inr (0, 0, 1), 3), (57, .inl (.iload_n 1), 1), (58, .inl (.iload_n 2), 1), (59, .inl (.iload_n 3), 1), (60, .inr (2, 132, 4), 3), (63, .inl (.ireturn), 1)]]
-- MovingNames$Town.join(III)I
set_option maxRecDepth 100000 in
noncomputable def ab_c132 : List (List (Nat × ab_I × Nat)) := [[(0, .inl (.aload_n 0), 1), (1, .inr (0, 2, 10), 3), (4, .inl (.iload_n 2), 1), (5, .inl (.iload_n 3), 1), (6, .inl (.iload_n 1), 1), (7, .inr (2, 65, 4), 3), (10, .inl (.aload_n 0), 1), (11, .inr (0, 2, 12), 3), (14, .inl (.iconst 4), 1), (15, .inl (.iload_n 1), 1)],
  [(16, .inl (.iload_n 2), 1), (17, .inl (.iload_n 3), 1), (18, .inr (2, 116, 5), 3), (21, .inl (.aload_n 0), 1), (22, .inr (0, 2, 10), 3), (25, .inl (.iload_n 2), 1), (26, .inr (2, 21, 2), 3), (29, .inl (.ireturn), 1)]]
-- MovingNamesLaw.takeOut(LMovingNames;II[J)I
set_option maxRecDepth 100000 in
noncomputable def ab_c133 : List (List (Nat × ab_I × Nat)) := [[(0, .inl (.aload_n 3), 1), (1, .inl (.iconst 0), 1), (2, .inl (.aload_n 0), 1), (3, .inl (.iload_n 1), 1), (4, .inl (.iload_n 2), 1), (5, .inr (2, 134, 3), 3), (8, .inl (.i2l), 1), (9, .inl (.lastore), 1), (10, .inl (.goto 11), 3), (13, .inl (.astore 4), 2), (15, .inl (.iconst 1), 1)],
  [(16, .inl (.ireturn), 1), (17, .inl (.astore 4), 2), (19, .inl (.iconst 2), 1), (20, .inl (.ireturn), 1), (21, .inl (.iconst 0), 1), (22, .inl (.ireturn), 1)]]
-- MovingNames.takeOut(II)I
set_option maxRecDepth 100000 in
noncomputable def ab_c134 : List (List (Nat × ab_I × Nat)) := [[(0, .inl (.aload_n 0), 1), (1, .inl (.iload_n 1), 1), (2, .inr (2, 86, 2), 3), (5, .inl (.aload_n 0), 1), (6, .inl (.iload_n 2), 1), (7, .inr (2, 91, 2), 3), (10, .inl (.aload_n 0), 1), (11, .inr (0, 0, 1), 3), (14, .inr (0, 2, 10), 3)],
  [(17, .inl (.iload_n 2), 1), (18, .inl (.iload_n 1), 1), (19, .inr (2, 64, 3), 3), (22, .inl (.iconst (-1)), 1), (23, .inl (.if_icmp .ne 13), 3), (26, .inr (10, 2, 0), 10)],
  [(36, .inl (.aload_n 0), 1), (37, .inr (0, 0, 1), 3), (40, .inl (.iload_n 1), 1), (41, .inl (.iload_n 2), 1), (42, .inr (2, 135, 3), 3), (45, .inl (.ireturn), 1)]]
-- MovingNames$Town.leave(II)I
set_option maxRecDepth 100000 in
noncomputable def ab_c135 : List (List (Nat × ab_I × Nat)) := [[(0, .inl (.aload_n 0), 1), (1, .inr (0, 2, 10), 3), (4, .inl (.iload_n 2), 1), (5, .inl (.iload_n 1), 1), (6, .inr (2, 64, 3), 3), (9, .inl (.istore_n 3), 1), (10, .inl (.aload_n 0), 1), (11, .inr (0, 2, 10), 3), (14, .inl (.iload_n 2), 1), (15, .inl (.iload_n 3), 1)],
  [(16, .inr (2, 136, 3), 3), (19, .inl (.aload_n 0), 1), (20, .inr (0, 2, 12), 3), (23, .inl (.iconst 5), 1), (24, .inl (.iload_n 1), 1), (25, .inl (.iload_n 2), 1), (26, .inl (.iload_n 3), 1), (27, .inr (2, 116, 5), 3), (30, .inl (.aload_n 0), 1), (31, .inr (0, 2, 10), 3)],
  [(34, .inl (.iload_n 2), 1), (35, .inr (2, 21, 2), 3), (38, .inl (.ireturn), 1)]]
-- MovingNames$Rounds.remove(II)V
set_option maxRecDepth 100000 in
noncomputable def ab_c136 : List (List (Nat × ab_I × Nat)) := [[(0, .inl (.aload_n 0), 1), (1, .inl (.iload_n 1), 1), (2, .inr (2, 21, 2), 3), (5, .inl (.istore_n 3), 1), (6, .inl (.iload_n 3), 1), (7, .inl (.ifCond .gt 4), 3), (10, .inl (.return_), 1), (11, .inl (.iload_n 2), 1), (12, .inl (.istore 4), 2), (14, .inl (.iload 4), 2)],
  [(16, .inl (.iload_n 3), 1), (17, .inl (.iconst 1), 1), (18, .inl (.isub), 1), (19, .inl (.if_icmp .ge 32), 3), (22, .inl (.aload_n 0), 1), (23, .inr (0, 3, 0), 3), (26, .inl (.iload_n 1), 1), (27, .inl (.bipush 20), 2), (29, .inl (.imul), 1), (30, .inl (.iload 4), 2)],
  [(32, .inl (.iadd), 1), (33, .inl (.aload_n 0), 1), (34, .inl (.iload_n 1), 1), (35, .inl (.iload 4), 2), (37, .inl (.iconst 1), 1), (38, .inl (.iadd), 1), (39, .inr (2, 22, 3), 3), (42, .inr (2, 3, 3), 3), (45, .inl (.iinc 4 1), 3)],
  [(48, .inl (.goto (-34)), 3), (51, .inl (.aload_n 0), 1), (52, .inr (0, 3, 1), 3), (55, .inl (.iload_n 1), 1), (56, .inl (.iload_n 3), 1), (57, .inl (.iconst 1), 1), (58, .inl (.isub), 1), (59, .inr (2, 3, 3), 3), (62, .inl (.return_), 1)]]
-- MovingNamesLaw.blind(LMovingNames;I[J)I
set_option maxRecDepth 100000 in
noncomputable def ab_c137 : List (List (Nat × ab_I × Nat)) := [[(0, .inl (.aload_n 2), 1), (1, .inl (.iconst 0), 1), (2, .inl (.aload_n 0), 1), (3, .inl (.iload_n 1), 1), (4, .inr (2, 138, 2), 3), (7, .inl (.i2l), 1), (8, .inl (.lastore), 1), (9, .inl (.goto 6), 3), (12, .inl (.astore_n 3), 1), (13, .inl (.iconst 1), 1), (14, .inl (.ireturn), 1), (15, .inl (.iconst 0), 1)],
  [(16, .inl (.ireturn), 1)]]
-- MovingNames.blind(I)I
set_option maxRecDepth 100000 in
noncomputable def ab_c138 : List (List (Nat × ab_I × Nat)) := [[(0, .inl (.aload_n 0), 1), (1, .inl (.iload_n 1), 1), (2, .inr (2, 86, 2), 3), (5, .inl (.aload_n 0), 1), (6, .inr (0, 0, 1), 3), (9, .inl (.iload_n 1), 1), (10, .inr (2, 139, 2), 3), (13, .inl (.ireturn), 1)]]
-- MovingNames$Town.turnBlind(I)I
set_option maxRecDepth 100000 in
noncomputable def ab_c139 : List (List (Nat × ab_I × Nat)) := [[(0, .inl (.aload_n 0), 1), (1, .inl (.dup), 1), (2, .inr (0, 2, 6), 3), (5, .inl (.iconst 1), 1), (6, .inl (.iload_n 1), 1), (7, .inl (.ishl), 1), (8, .inl (.ixor), 1), (9, .inr (1, 2, 6), 3), (12, .inl (.aload_n 0), 1), (13, .inr (0, 2, 12), 3)],
  [(16, .inl (.bipush 6), 2), (18, .inl (.iload_n 1), 1), (19, .inl (.iconst 0), 1), (20, .inl (.iconst 0), 1), (21, .inr (2, 116, 5), 3), (24, .inl (.aload_n 0), 1), (25, .inl (.iload_n 1), 1), (26, .inr (2, 23, 2), 3), (29, .inl (.ifCond .eq 7), 3)],
  [(32, .inl (.iconst 1), 1), (33, .inl (.goto 4), 3), (36, .inl (.iconst 0), 1), (37, .inl (.ireturn), 1)]]
-- MovingNamesLaw.moves(LMovingNames;III[J)I
set_option maxRecDepth 100000 in
noncomputable def ab_c140 : List (List (Nat × ab_I × Nat)) := [[(0, .inl (.aload 4), 2), (2, .inl (.iconst 0), 1), (3, .inl (.aload_n 0), 1), (4, .inl (.iload_n 1), 1), (5, .inl (.iload_n 2), 1), (6, .inl (.iload_n 3), 1), (7, .inr (2, 141, 4), 3), (10, .inl (.i2l), 1), (11, .inl (.lastore), 1), (12, .inl (.goto 11), 3), (15, .inl (.astore 5), 2)],
  [(17, .inl (.iconst 1), 1), (18, .inl (.ireturn), 1), (19, .inl (.astore 5), 2), (21, .inl (.iconst 2), 1), (22, .inl (.ireturn), 1), (23, .inl (.iconst 0), 1), (24, .inl (.ireturn), 1)]]
-- MovingNames.moves(III)I
set_option maxRecDepth 100000 in
noncomputable def ab_c141 : List (List (Nat × ab_I × Nat)) := [[(0, .inl (.aload_n 0), 1), (1, .inl (.iload_n 1), 1), (2, .inr (2, 95, 2), 3), (5, .inl (.aload_n 0), 1), (6, .inl (.iload_n 2), 1), (7, .inr (2, 86, 2), 3), (10, .inl (.aload_n 0), 1), (11, .inl (.iload_n 3), 1), (12, .inr (2, 102, 2), 3), (15, .inl (.aload_n 0), 1)],
  [(16, .inr (0, 0, 1), 3), (19, .inl (.iload_n 1), 1), (20, .inl (.iload_n 2), 1), (21, .inl (.iload_n 3), 1), (22, .inr (2, 142, 4), 3), (25, .inl (.ireturn), 1)]]
-- MovingNames$Town.moveHouse(III)I
set_option maxRecDepth 100000 in
noncomputable def ab_c142 : List (List (Nat × ab_I × Nat)) := [[(0, .inl (.aload_n 0), 1), (1, .inr (0, 2, 12), 3), (4, .inl (.bipush 7), 2), (6, .inl (.iload_n 1), 1), (7, .inl (.aload_n 0), 1), (8, .inr (0, 2, 8), 3), (11, .inl (.iload_n 1), 1), (12, .inr (2, 9, 2), 3), (15, .inl (.aload_n 0), 1)],
  [(16, .inr (0, 2, 9), 3), (19, .inl (.iload_n 1), 1), (20, .inr (2, 9, 2), 3), (23, .inr (2, 116, 5), 3), (26, .inl (.aload_n 0), 1), (27, .inr (0, 2, 8), 3), (30, .inl (.iload_n 1), 1), (31, .inl (.iload_n 2), 1)],
  [(32, .inr (2, 3, 3), 3), (35, .inl (.aload_n 0), 1), (36, .inr (0, 2, 9), 3), (39, .inl (.iload_n 1), 1), (40, .inl (.iload_n 3), 1), (41, .inr (2, 3, 3), 3), (44, .inl (.aload_n 0), 1), (45, .inr (0, 2, 7), 3)],
  [(48, .inl (.iload_n 2), 1), (49, .inr (2, 9, 2), 3), (52, .inl (.ireturn), 1)]]
-- MovingNamesLaw.undo(LMovingNames;I[J)I
set_option maxRecDepth 100000 in
noncomputable def ab_c143 : List (List (Nat × ab_I × Nat)) := [[(0, .inl (.aload_n 2), 1), (1, .inl (.iconst 0), 1), (2, .inl (.aload_n 0), 1), (3, .inl (.iload_n 1), 1), (4, .inr (2, 144, 2), 3), (7, .inl (.i2l), 1), (8, .inl (.lastore), 1), (9, .inl (.goto 6), 3), (12, .inl (.astore_n 3), 1), (13, .inl (.iconst 1), 1), (14, .inl (.ireturn), 1), (15, .inl (.iconst 0), 1)],
  [(16, .inl (.ireturn), 1)]]
-- MovingNames.undo(I)I
set_option maxRecDepth 100000 in
noncomputable def ab_c144 : List (List (Nat × ab_I × Nat)) := [[(0, .inl (.aload_n 0), 1), (1, .inl (.iload_n 1), 1), (2, .inl (.iconst 1), 1), (3, .inl (.aload_n 0), 1), (4, .inr (0, 0, 1), 3), (7, .inr (0, 2, 12), 3), (10, .inr (0, 5, 1), 3), (13, .inr (2, 103, 4), 3)],
  [(16, .inl (.iconst 0), 1), (17, .inl (.istore_n 2), 1), (18, .inl (.iload_n 2), 1), (19, .inl (.iload_n 1), 1), (20, .inl (.if_icmp .ge 20), 3), (23, .inl (.aload_n 0), 1), (24, .inr (0, 0, 1), 3), (27, .inl (.aload_n 0), 1), (28, .inr (0, 0, 3), 3), (31, .inr (2, 145, 2), 3)],
  [(34, .inl (.iinc 2 1), 3), (37, .inl (.goto (-19)), 3), (40, .inl (.aload_n 0), 1), (41, .inr (0, 0, 1), 3), (44, .inr (0, 2, 12), 3), (47, .inr (0, 5, 1), 3)],
  [(50, .inl (.ireturn), 1)]]
-- MovingNames$Town.undoLatest(LMovingNames$Outlook;)V
set_option maxRecDepth 100000 in
noncomputable def ab_c145 : List (List (Nat × ab_I × Nat)) := [[(0, .inl (.aload_n 0), 1), (1, .inr (0, 2, 12), 3), (4, .inl (.iconst 1), 1), (5, .inr (2, 146, 2), 3), (8, .inl (.istore_n 2), 1), (9, .inl (.aload_n 0), 1), (10, .inr (0, 2, 12), 3), (13, .inl (.iconst 2), 1), (14, .inr (2, 146, 2), 3)],
  [(17, .inl (.istore_n 3), 1), (18, .inl (.aload_n 0), 1), (19, .inr (0, 2, 12), 3), (22, .inl (.iconst 3), 1), (23, .inr (2, 146, 2), 3), (26, .inl (.istore 4), 2), (28, .inl (.aload_n 0), 1), (29, .inr (0, 2, 12), 3)],
  [(32, .inl (.iconst 0), 1), (33, .inr (2, 146, 2), 3), (36, .inl (.tableswitch 159 1 7 #[44, 74, 86, 95, 108, 122, 137]), 44)],
  [],
  [],
  [(80, .inl (.aload_n 0), 1), (81, .inl (.iload_n 3), 1), (82, .inl (.ineg), 1), (83, .inl (.aload_n 1), 1), (84, .inr (2, 114, 3), 3), (87, .inl (.aload_n 0), 1), (88, .inl (.dup), 1), (89, .inr (0, 2, 4), 3), (92, .inl (.iload_n 2), 1), (93, .inl (.isub), 1), (94, .inr (1, 2, 4), 3)],
  [(97, .inl (.aload_n 0), 1), (98, .inl (.dup), 1), (99, .inr (0, 2, 5), 3), (102, .inl (.iload_n 3), 1), (103, .inl (.isub), 1), (104, .inr (1, 2, 5), 3), (107, .inl (.goto 88), 3), (110, .inl (.aload_n 0), 1), (111, .inr (0, 2, 7), 3)],
  [(114, .inl (.iload_n 2), 1), (115, .inl (.iload_n 3), 1), (116, .inr (2, 3, 3), 3), (119, .inl (.goto 76), 3), (122, .inl (.aload_n 0), 1), (123, .inl (.iload_n 2), 1), (124, .inl (.iload_n 3), 1), (125, .inr (2, 129, 3), 3)],
  [(128, .inl (.goto 67), 3), (131, .inl (.aload_n 0), 1), (132, .inr (0, 2, 10), 3), (135, .inl (.iload_n 3), 1), (136, .inl (.iload 4), 2), (138, .inr (2, 136, 3), 3), (141, .inl (.goto 54), 3)],
  [(144, .inl (.aload_n 0), 1), (145, .inr (0, 2, 10), 3), (148, .inl (.iload_n 3), 1), (149, .inl (.iload 4), 2), (151, .inl (.iload_n 2), 1), (152, .inr (2, 65, 4), 3), (155, .inl (.goto 40), 3), (158, .inl (.aload_n 0), 1), (159, .inl (.dup), 1)],
  [(160, .inr (0, 2, 6), 3), (163, .inl (.iconst 1), 1), (164, .inl (.iload_n 2), 1), (165, .inl (.ishl), 1), (166, .inl (.ixor), 1), (167, .inr (1, 2, 6), 3), (170, .inl (.goto 25), 3), (173, .inl (.aload_n 0), 1), (174, .inr (0, 2, 8), 3)],
  [(177, .inl (.iload_n 2), 1), (178, .inl (.iload_n 3), 1), (179, .inr (2, 3, 3), 3), (182, .inl (.aload_n 0), 1), (183, .inr (0, 2, 9), 3), (186, .inl (.iload_n 2), 1), (187, .inl (.iload 4), 2), (189, .inr (2, 3, 3), 3)],
  [(192, .inl (.goto 3), 3), (195, .inl (.aload_n 0), 1), (196, .inr (0, 2, 12), 3), (199, .inr (2, 147, 1), 3), (202, .inl (.return_), 1)]]
-- MovingNames$Deeds.ofLatest(I)I
set_option maxRecDepth 100000 in
noncomputable def ab_c146 : List (List (Nat × ab_I × Nat)) := [[(0, .inl (.aload_n 0), 1), (1, .inr (0, 5, 0), 3), (4, .inl (.aload_n 0), 1), (5, .inr (0, 5, 1), 3), (8, .inl (.iconst 1), 1), (9, .inl (.isub), 1), (10, .inl (.iconst 4), 1), (11, .inl (.imul), 1), (12, .inl (.iload_n 1), 1), (13, .inl (.iadd), 1), (14, .inr (2, 9, 2), 3)],
  [(17, .inl (.ireturn), 1)]]
-- MovingNames$Deeds.dropLatest()V
set_option maxRecDepth 100000 in
noncomputable def ab_c147 : List (List (Nat × ab_I × Nat)) := [[(0, .inl (.aload_n 0), 1), (1, .inl (.iconst 0), 1), (2, .inl (.aload_n 0), 1), (3, .inr (0, 5, 1), 3), (6, .inl (.iconst 1), 1), (7, .inl (.isub), 1), (8, .inr (2, 58, 2), 3), (11, .inr (1, 5, 1), 3), (14, .inl (.return_), 1)]]
-- MovingNamesLaw.judge(LMovingNames;II[J)I
set_option maxRecDepth 100000 in
noncomputable def ab_c148 : List (List (Nat × ab_I × Nat)) := [[(0, .inl (.aload_n 3), 1), (1, .inl (.iconst 0), 1), (2, .inl (.aload_n 0), 1), (3, .inl (.iload_n 1), 1), (4, .inl (.iload_n 2), 1), (5, .inr (2, 149, 3), 3), (8, .inl (.i2l), 1), (9, .inl (.lastore), 1), (10, .inl (.goto 15), 3), (13, .inl (.astore 4), 2), (15, .inl (.iconst 1), 1)],
  [(16, .inl (.ireturn), 1), (17, .inl (.astore 4), 2), (19, .inl (.iconst 2), 1), (20, .inl (.ireturn), 1), (21, .inl (.astore 4), 2), (23, .inl (.iconst 3), 1), (24, .inl (.ireturn), 1), (25, .inl (.iconst 0), 1), (26, .inl (.ireturn), 1)]]
-- MovingNames.judge(II)I
set_option maxRecDepth 100000 in
noncomputable def ab_c149 : List (List (Nat × ab_I × Nat)) := [[(0, .inl (.aload_n 0), 1), (1, .inl (.iload_n 1), 1), (2, .inr (2, 150, 2), 3), (5, .inl (.astore_n 3), 1), (6, .inl (.aload_n 0), 1), (7, .inl (.iload_n 2), 1), (8, .inl (.iconst 0), 1), (9, .inl (.iconst 3), 1), (10, .inr (2, 103, 4), 3), (13, .inl (.aload_n 0), 1), (14, .inl (.aload_n 3), 1), (15, .inr (2, 151, 2), 3)],
  [(18, .inl (.istore 4), 2), (20, .inl (.aload_n 0), 1), (21, .inr (0, 0, 2), 3), (24, .inl (.aload_n 0), 1), (25, .inr (0, 0, 1), 3), (28, .inr (2, 80, 2), 3), (31, .inl (.aload_n 0), 1)],
  [(32, .inl (.aload_n 3), 1), (33, .inl (.iload 4), 2), (35, .inl (.aload_n 0), 1), (36, .inr (0, 0, 2), 3), (39, .inr (2, 154, 4), 3), (42, .inl (.istore 5), 2), (44, .inl (.iload 4), 2), (46, .inl (.aload_n 3), 1), (47, .inr (0, 8, 2), 3)],
  [(50, .inl (.if_icmp .ne 7), 3), (53, .inl (.iconst 1), 1), (54, .inl (.goto 4), 3), (57, .inl (.iconst 0), 1), (58, .inl (.istore 6), 2), (60, .inl (.iload_n 2), 1), (61, .inl (.tableswitch 65 0 2 #[27, 39, 62]), 27)],
  [],
  [(88, .inl (.iload 6), 2), (90, .inl (.ifCond .eq 7), 3), (93, .inl (.iconst (-1)), 1), (94, .inl (.goto 5), 3)],
  [(97, .inl (.iload 4), 2), (99, .inl (.ireturn), 1), (100, .inl (.iload 6), 2), (102, .inl (.ifCond .eq 7), 3), (105, .inl (.iconst 0), 1), (106, .inl (.goto 16), 3), (109, .inl (.aload_n 0), 1), (110, .inr (0, 0, 1), 3)],
  [(113, .inl (.aload_n 3), 1), (114, .inl (.iload 4), 2), (116, .inr (2, 152, 2), 3), (119, .inr (2, 153, 2), 3), (122, .inl (.ireturn), 1), (123, .inl (.iload 5), 2), (125, .inl (.ireturn), 1), (126, .inl (.aload_n 0), 1), (127, .inr (0, 0, 2), 3)],
  [(130, .inr (2, 7, 1), 3), (133, .inl (.ireturn), 1)]]
-- MovingNames.needTray(I)LMovingNames$Tray;
set_option maxRecDepth 100000 in
noncomputable def ab_c150 : List (List (Nat × ab_I × Nat)) := [[(0, .inl (.iload_n 1), 1), (1, .inl (.ifCond .lt 12), 3), (4, .inl (.iload_n 1), 1), (5, .inl (.aload_n 0), 1), (6, .inr (0, 0, 5), 3), (9, .inl (.arraylength), 1), (10, .inl (.if_icmp .lt 14), 3), (13, .inr (10, 1, 0), 11)],
  [(24, .inl (.aload_n 0), 1), (25, .inr (0, 0, 5), 3), (28, .inl (.iload_n 1), 1), (29, .inl (.aaload), 1), (30, .inl (.astore_n 2), 1), (31, .inl (.aload_n 2), 1)],
  [(32, .inl (.ifnonnull 14), 3), (35, .inr (10, 2, 0), 11), (46, .inl (.aload_n 2), 1), (47, .inl (.areturn), 1)]]
-- MovingNames.doable(LMovingNames$Tray;)I
set_option maxRecDepth 100000 in
noncomputable def ab_c151 : List (List (Nat × ab_I × Nat)) := [[(0, .inl (.iconst 0), 1), (1, .inl (.istore_n 2), 1), (2, .inl (.iload_n 2), 1), (3, .inl (.aload_n 1), 1), (4, .inr (0, 8, 2), 3), (7, .inl (.if_icmp .ge 24), 3), (10, .inl (.aload_n 0), 1), (11, .inr (0, 0, 1), 3), (14, .inl (.aload_n 1), 1), (15, .inl (.iload_n 2), 1)],
  [(16, .inr (2, 152, 2), 3), (19, .inr (2, 153, 2), 3), (22, .inl (.ifCond .ne 9), 3), (25, .inl (.iinc 2 1), 3), (28, .inl (.goto (-26)), 3), (31, .inl (.iload_n 2), 1)],
  [(32, .inl (.ireturn), 1)]]
-- MovingNames$Tray.get(I)J
set_option maxRecDepth 100000 in
noncomputable def ab_c152 : List (List (Nat × ab_I × Nat)) := [[(0, .inl (.iload_n 1), 1), (1, .inl (.ifCond .lt 29), 3), (4, .inl (.iload_n 1), 1), (5, .inl (.aload_n 0), 1), (6, .inr (0, 8, 2), 3), (9, .inl (.if_icmp .ge 21), 3), (12, .inl (.iload_n 1), 1), (13, .inl (.aload_n 0), 1), (14, .inr (0, 8, 0), 3)],
  [(17, .inl (.arraylength), 1), (18, .inl (.if_icmp .ge 12), 3), (21, .inl (.aload_n 0), 1), (22, .inr (0, 8, 0), 3), (25, .inl (.iload_n 1), 1), (26, .inl (.laload), 1), (27, .inl (.goto 4), 3), (30, .inl (.lconst 0), 1), (31, .inl (.lreturn), 1)]]
-- MovingNames$Town.troubleOf(J)I
set_option maxRecDepth 100000 in
noncomputable def ab_c153 : List (List (Nat × ab_I × Nat)) := [[(0, .inl (.lload_n 1), 1), (1, .inr (9, 0, (-1)), 3), (4, .inl (.lcmp), 1), (5, .inl (.ifCond .ne 5), 3), (8, .inl (.iconst 0), 1), (9, .inl (.ireturn), 1), (10, .inl (.lload_n 1), 1), (11, .inl (.lconst 0), 1), (12, .inl (.lcmp), 1), (13, .inl (.ifCond .lt 11), 3)],
  [(16, .inl (.lload_n 1), 1), (17, .inr (9, 0, 800), 3), (20, .inl (.lcmp), 1), (21, .inl (.ifCond .lt 5), 3), (24, .inl (.iconst 1), 1), (25, .inl (.ireturn), 1), (26, .inl (.lload_n 1), 1), (27, .inr (9, 0, 400), 3), (30, .inl (.lrem), 1), (31, .inr (9, 0, 20), 3)],
  [(34, .inl (.lrem), 1), (35, .inl (.lstore_n 3), 1), (36, .inl (.lload_n 1), 1), (37, .inr (9, 0, 400), 3), (40, .inl (.lrem), 1), (41, .inr (9, 0, 20), 3), (44, .inl (.ldiv), 1), (45, .inl (.lstore 5), 2), (47, .inl (.lload_n 3), 1)],
  [(48, .inl (.aload_n 0), 1), (49, .inr (0, 2, 1), 3), (52, .inl (.i2l), 1), (53, .inl (.lcmp), 1), (54, .inl (.ifCond .ge 14), 3), (57, .inl (.lload 5), 2), (59, .inl (.aload_n 0), 1), (60, .inr (0, 2, 1), 3), (63, .inl (.i2l), 1)],
  [(64, .inl (.lcmp), 1), (65, .inl (.ifCond .lt 5), 3), (68, .inl (.iconst 1), 1), (69, .inl (.ireturn), 1), (70, .inl (.lload_n 1), 1), (71, .inr (9, 0, 400), 3), (74, .inl (.lcmp), 1), (75, .inl (.ifCond .lt 14), 3), (78, .inl (.lload_n 3), 1), (79, .inl (.lload 5), 2)],
  [(81, .inl (.lcmp), 1), (82, .inl (.ifCond .ne 7), 3), (85, .inl (.iconst 2), 1), (86, .inl (.goto 4), 3), (89, .inl (.iconst 0), 1), (90, .inl (.ireturn), 1)]]
-- MovingNames.doTold(LMovingNames$Tray;ILMovingNames$Town;)I
set_option maxRecDepth 100000 in
noncomputable def ab_c154 : List (List (Nat × ab_I × Nat)) := [[(0, .inl (.iconst 0), 1), (1, .inl (.istore 4), 2), (3, .inl (.iconst 0), 1), (4, .inl (.istore 5), 2), (6, .inl (.iload 5), 2), (8, .inl (.iload_n 2), 1), (9, .inl (.if_icmp .ge 91), 3), (12, .inl (.aload_n 1), 1), (13, .inl (.iload 5), 2), (15, .inr (2, 152, 2), 3)],
  [(18, .inl (.l2i), 1), (19, .inl (.istore 6), 2), (21, .inl (.iload 6), 2), (23, .inl (.sipush 400), 3), (26, .inl (.irem), 1), (27, .inl (.bipush 20), 2), (29, .inl (.irem), 1), (30, .inl (.istore 7), 2)],
  [(32, .inl (.iload 6), 2), (34, .inl (.sipush 400), 3), (37, .inl (.irem), 1), (38, .inl (.bipush 20), 2), (40, .inl (.idiv), 1), (41, .inl (.istore 8), 2), (43, .inl (.iload 6), 2), (45, .inl (.iconst (-1)), 1), (46, .inl (.if_icmp .ne 20), 3)],
  [(49, .inl (.iload 4), 2), (51, .inl (.aload_n 3), 1), (52, .inl (.iconst 1), 1), (53, .inl (.aload_n 0), 1), (54, .inr (0, 0, 3), 3), (57, .inr (2, 113, 3), 3), (60, .inl (.iadd), 1), (61, .inl (.istore 4), 2), (63, .inl (.goto 31), 3)],
  [(66, .inl (.iload 6), 2), (68, .inl (.sipush 400), 3), (71, .inl (.if_icmp .ge 15), 3), (74, .inl (.aload_n 3), 1), (75, .inl (.iload 7), 2), (77, .inl (.iload 8), 2), (79, .inr (2, 124, 3), 3)],
  [(82, .inl (.pop), 1), (83, .inl (.goto 11), 3), (86, .inl (.aload_n 3), 1), (87, .inl (.iload 7), 2), (89, .inl (.iload 8), 2), (91, .inr (2, 128, 3), 3), (94, .inl (.iinc 5 1), 3)],
  [(97, .inl (.goto (-91)), 3), (100, .inl (.iload 4), 2), (102, .inl (.ireturn), 1)]]
-- MovingNamesLaw.perform(LMovingNames;I[J)I
set_option maxRecDepth 100000 in
noncomputable def ab_c155 : List (List (Nat × ab_I × Nat)) := [[(0, .inl (.aload_n 2), 1), (1, .inl (.iconst 0), 1), (2, .inl (.aload_n 0), 1), (3, .inl (.iload_n 1), 1), (4, .inr (2, 156, 2), 3), (7, .inl (.i2l), 1), (8, .inl (.lastore), 1), (9, .inl (.goto 9), 3), (12, .inl (.astore_n 3), 1), (13, .inl (.iconst 1), 1), (14, .inl (.ireturn), 1), (15, .inl (.astore_n 3), 1)],
  [(16, .inl (.iconst 2), 1), (17, .inl (.ireturn), 1), (18, .inl (.iconst 0), 1), (19, .inl (.ireturn), 1)]]
-- MovingNames.perform(I)I
set_option maxRecDepth 100000 in
noncomputable def ab_c156 : List (List (Nat × ab_I × Nat)) := [[(0, .inl (.aload_n 0), 1), (1, .inl (.iload_n 1), 1), (2, .inr (2, 150, 2), 3), (5, .inl (.astore_n 2), 1), (6, .inl (.aload_n 0), 1), (7, .inl (.aload_n 2), 1), (8, .inr (2, 151, 2), 3), (11, .inl (.istore_n 3), 1), (12, .inl (.aload_n 0), 1), (13, .inl (.aload_n 2), 1), (14, .inl (.iload_n 3), 1), (15, .inl (.aload_n 0), 1)],
  [(16, .inr (0, 0, 1), 3), (19, .inr (2, 154, 4), 3), (22, .inl (.pop), 1), (23, .inl (.iload_n 3), 1), (24, .inl (.ireturn), 1)]]
-- MovingNamesLaw.month(LMovingNames;II[J)I
set_option maxRecDepth 100000 in
noncomputable def ab_c157 : List (List (Nat × ab_I × Nat)) := [[(0, .inl (.aload_n 3), 1), (1, .inl (.iconst 0), 1), (2, .inl (.aload_n 0), 1), (3, .inl (.iload_n 1), 1), (4, .inl (.iload_n 2), 1), (5, .inr (2, 158, 3), 3), (8, .inl (.i2l), 1), (9, .inl (.lastore), 1), (10, .inl (.goto 11), 3), (13, .inl (.astore 4), 2), (15, .inl (.iconst 1), 1)],
  [(16, .inl (.ireturn), 1), (17, .inl (.astore 4), 2), (19, .inl (.iconst 2), 1), (20, .inl (.ireturn), 1), (21, .inl (.iconst 0), 1), (22, .inl (.ireturn), 1)]]
-- MovingNames.month(II)I
set_option maxRecDepth 100000 in
noncomputable def ab_c158 : List (List (Nat × ab_I × Nat)) := [[(0, .inl (.aload_n 0), 1), (1, .inl (.iload_n 2), 1), (2, .inl (.iconst 1), 1), (3, .inl (.bipush 30), 2), (5, .inr (2, 103, 4), 3), (8, .inl (.aload_n 0), 1), (9, .inr (0, 0, 1), 3), (12, .inr (0, 2, 1), 3), (15, .inl (.ifCond .ne 14), 3)],
  [(18, .inr (10, 2, 0), 11), (29, .inl (.aload_n 0), 1), (30, .inl (.iload_n 1), 1), (31, .inr (1, 0, 7), 3)],
  [(34, .inl (.iconst 0), 1), (35, .inl (.istore_n 3), 1), (36, .inl (.iconst 0), 1), (37, .inl (.istore 4), 2), (39, .inl (.iload 4), 2), (41, .inl (.iload_n 2), 1), (42, .inl (.if_icmp .ge 19), 3), (45, .inl (.aload_n 0), 1), (46, .inr (2, 159, 1), 3)],
  [(49, .inl (.ifCond .eq 6), 3), (52, .inl (.iinc 3 1), 3), (55, .inl (.iinc 4 1), 3), (58, .inl (.goto (-19)), 3), (61, .inl (.iload_n 3), 1), (62, .inl (.ireturn), 1)]]
-- MovingNames.doDrawn()Z
set_option maxRecDepth 100000 in
noncomputable def ab_c159 : List (List (Nat × ab_I × Nat)) := [[(0, .inl (.aload_n 0), 1), (1, .inl (.iconst 4), 1), (2, .inr (2, 160, 2), 3), (5, .inl (.istore_n 1), 1), (6, .inl (.iload_n 1), 1), (7, .inl (.iconst 2), 1), (8, .inl (.if_icmp .ge 18), 3), (11, .inl (.aload_n 0), 1), (12, .inr (0, 0, 1), 3), (15, .inl (.iconst 1), 1)],
  [(16, .inl (.aload_n 0), 1), (17, .inr (0, 0, 3), 3), (20, .inr (2, 113, 3), 3), (23, .inl (.pop), 1), (24, .inl (.iconst 1), 1), (25, .inl (.ireturn), 1), (26, .inl (.aload_n 0), 1), (27, .inl (.aload_n 0), 1), (28, .inr (0, 0, 1), 3), (31, .inr (0, 2, 1), 3)],
  [(34, .inr (2, 160, 2), 3), (37, .inl (.istore_n 2), 1), (38, .inl (.aload_n 0), 1), (39, .inl (.aload_n 0), 1), (40, .inr (0, 0, 1), 3), (43, .inr (0, 2, 1), 3), (46, .inr (2, 160, 2), 3)],
  [(49, .inl (.istore_n 3), 1), (50, .inl (.iload_n 1), 1), (51, .inl (.iconst 2), 1), (52, .inl (.if_icmp .ne 15), 3), (55, .inl (.aload_n 0), 1), (56, .inr (0, 0, 1), 3), (59, .inl (.iload_n 2), 1), (60, .inl (.iload_n 3), 1), (61, .inr (2, 124, 3), 3)],
  [(64, .inl (.pop), 1), (65, .inl (.iconst 1), 1), (66, .inl (.ireturn), 1), (67, .inl (.iload_n 2), 1), (68, .inl (.iload_n 3), 1), (69, .inl (.if_icmp .ne 5), 3), (72, .inl (.iconst 0), 1), (73, .inl (.ireturn), 1), (74, .inl (.aload_n 0), 1), (75, .inr (0, 0, 1), 3), (78, .inl (.iload_n 2), 1), (79, .inl (.iload_n 3), 1)],
  [(80, .inr (2, 128, 3), 3), (83, .inl (.iconst 1), 1), (84, .inl (.ireturn), 1)]]
-- MovingNames.drawBelow(I)I
set_option maxRecDepth 100000 in
noncomputable def ab_c160 : List (List (Nat × ab_I × Nat)) := [[(0, .inl (.aload_n 0), 1), (1, .inr (8, 0, 1103515245), 3), (4, .inl (.aload_n 0), 1), (5, .inr (0, 0, 7), 3), (8, .inl (.imul), 1), (9, .inl (.sipush 12345), 3), (12, .inl (.iadd), 1), (13, .inr (1, 0, 7), 3)],
  [(16, .inl (.iload_n 1), 1), (17, .inl (.ifCond .le 15), 3), (20, .inl (.aload_n 0), 1), (21, .inr (0, 0, 7), 3), (24, .inl (.bipush 16), 2), (26, .inl (.iushr), 1), (27, .inl (.iload_n 1), 1), (28, .inl (.irem), 1), (29, .inl (.goto 4), 3)],
  [(32, .inl (.iconst 0), 1), (33, .inl (.ireturn), 1)]]
-- MovingNamesLaw.when(LMovingNames;I[J)I
set_option maxRecDepth 100000 in
noncomputable def ab_c161 : List (List (Nat × ab_I × Nat)) := [[(0, .inl (.aload_n 2), 1), (1, .inl (.iconst 0), 1), (2, .inl (.aload_n 0), 1), (3, .inl (.iload_n 1), 1), (4, .inr (2, 162, 2), 3), (7, .inl (.lastore), 1), (8, .inl (.goto 12), 3), (11, .inl (.astore_n 3), 1), (12, .inl (.iconst 1), 1), (13, .inl (.ireturn), 1), (14, .inl (.astore_n 3), 1), (15, .inl (.iconst 2), 1)],
  [(16, .inl (.ireturn), 1), (17, .inl (.astore_n 3), 1), (18, .inl (.iconst 3), 1), (19, .inl (.ireturn), 1), (20, .inl (.iconst 0), 1), (21, .inl (.ireturn), 1)]]
-- MovingNames.when(I)J
set_option maxRecDepth 100000 in
noncomputable def ab_c162 : List (List (Nat × ab_I × Nat)) := [[(0, .inl (.aload_n 0), 1), (1, .inl (.iload_n 1), 1), (2, .inr (2, 150, 2), 3), (5, .inl (.astore_n 2), 1), (6, .inl (.aload_n 0), 1), (7, .inl (.aload_n 2), 1), (8, .inl (.bipush 10), 2), (10, .inr (2, 163, 3), 3), (13, .inl (.aload_n 0), 1), (14, .inr (0, 0, 3), 3)],
  [(17, .inl (.aload_n 0), 1), (18, .inr (0, 0, 1), 3), (21, .inr (2, 17, 2), 3), (24, .inl (.aload_n 0), 1), (25, .inr (0, 0, 3), 3), (28, .inr (2, 26, 1), 3), (31, .inl (.istore_n 3), 1)],
  [(32, .inl (.iconst 0), 1), (33, .inl (.istore 4), 2), (35, .inl (.iload 4), 2), (37, .inl (.iload_n 3), 1), (38, .inl (.if_icmp .ge 31), 3), (41, .inl (.aload_n 0), 1), (42, .inr (0, 0, 3), 3), (45, .inl (.aload_n 2), 1), (46, .inr (2, 164, 2), 3)],
  [(49, .inl (.ifCond .eq 7), 3), (52, .inl (.iload 4), 2), (54, .inl (.i2l), 1), (55, .inl (.lreturn), 1), (56, .inl (.aload_n 0), 1), (57, .inr (0, 0, 3), 3), (60, .inr (2, 30, 1), 3), (63, .inl (.iinc 4 1), 3)],
  [(66, .inl (.goto (-31)), 3), (69, .inr (9, 0, (-1)), 3), (72, .inl (.lreturn), 1)]]
-- MovingNames.needToldSigns(LMovingNames$Tray;I)V
set_option maxRecDepth 100000 in
noncomputable def ab_c163 : List (List (Nat × ab_I × Nat)) := [[(0, .inl (.aload_n 0), 1), (1, .inl (.aload_n 1), 1), (2, .inr (0, 8, 2), 3), (5, .inl (.iconst 1), 1), (6, .inl (.iload_n 2), 1), (7, .inr (2, 103, 4), 3), (10, .inl (.iconst 0), 1), (11, .inl (.istore_n 3), 1), (12, .inl (.iload_n 3), 1), (13, .inl (.aload_n 1), 1), (14, .inr (0, 8, 2), 3)],
  [(17, .inl (.if_icmp .ge 70), 3), (20, .inl (.aload_n 1), 1), (21, .inl (.iload_n 3), 1), (22, .inr (2, 152, 2), 3), (25, .inl (.lstore 4), 2), (27, .inl (.lload 4), 2), (29, .inl (.lconst 0), 1), (30, .inl (.lcmp), 1), (31, .inl (.ifCond .lt 39), 3)],
  [(34, .inl (.lload 4), 2), (36, .inr (9, 0, 20), 3), (39, .inl (.lrem), 1), (40, .inl (.aload_n 0), 1), (41, .inr (0, 0, 1), 3), (44, .inr (0, 2, 1), 3), (47, .inl (.i2l), 1)],
  [(48, .inl (.lcmp), 1), (49, .inl (.ifCond .ge 21), 3), (52, .inl (.lload 4), 2), (54, .inr (9, 0, 20), 3), (57, .inl (.ldiv), 1), (58, .inl (.aload_n 0), 1), (59, .inr (0, 0, 1), 3), (62, .inr (0, 2, 1), 3)],
  [(65, .inl (.i2l), 1), (66, .inl (.lcmp), 1), (67, .inl (.ifCond .lt 14), 3), (70, .inr (10, 0, 0), 11)],
  [(81, .inl (.iinc 3 1), 3), (84, .inl (.goto (-72)), 3), (87, .inl (.return_), 1)]]
-- MovingNames$Outlook.allHang(LMovingNames$Tray;)Z
set_option maxRecDepth 100000 in
noncomputable def ab_c164 : List (List (Nat × ab_I × Nat)) := [[(0, .inl (.iconst 0), 1), (1, .inl (.istore_n 2), 1), (2, .inl (.iload_n 2), 1), (3, .inl (.aload_n 1), 1), (4, .inr (0, 8, 2), 3), (7, .inl (.if_icmp .ge 33), 3), (10, .inl (.aload_n 1), 1), (11, .inl (.iload_n 2), 1), (12, .inr (2, 152, 2), 3), (15, .inl (.l2i), 1)],
  [(16, .inl (.istore_n 3), 1), (17, .inl (.aload_n 0), 1), (18, .inl (.iload_n 3), 1), (19, .inl (.bipush 20), 2), (21, .inl (.irem), 1), (22, .inr (2, 32, 2), 3), (25, .inl (.iload_n 3), 1), (26, .inl (.bipush 20), 2), (28, .inl (.idiv), 1), (29, .inl (.if_icmp .eq 5), 3)],
  [(32, .inl (.iconst 0), 1), (33, .inl (.ireturn), 1), (34, .inl (.iinc 2 1), 3), (37, .inl (.goto (-35)), 3), (40, .inl (.iconst 1), 1), (41, .inl (.ireturn), 1)]]
-- MovingNamesLaw.follows(LMovingNames;II[J)I
set_option maxRecDepth 100000 in
noncomputable def ab_c165 : List (List (Nat × ab_I × Nat)) := [[(0, .inl (.aload_n 3), 1), (1, .inl (.iconst 0), 1), (2, .inl (.aload_n 0), 1), (3, .inl (.iload_n 1), 1), (4, .inl (.iload_n 2), 1), (5, .inr (2, 166, 3), 3), (8, .inl (.lastore), 1), (9, .inl (.goto 11), 3), (12, .inl (.astore 4), 2), (14, .inl (.iconst 1), 1), (15, .inl (.ireturn), 1)],
  [(16, .inl (.astore 4), 2), (18, .inl (.iconst 2), 1), (19, .inl (.ireturn), 1), (20, .inl (.iconst 0), 1), (21, .inl (.ireturn), 1)]]
-- MovingNames.follows(II)J
set_option maxRecDepth 100000 in
noncomputable def ab_c166 : List (List (Nat × ab_I × Nat)) := [[(0, .inl (.aload_n 0), 1), (1, .inl (.iload_n 1), 1), (2, .inl (.iload_n 2), 1), (3, .inr (2, 127, 3), 3), (6, .inl (.aload_n 0), 1), (7, .inr (0, 0, 3), 3), (10, .inl (.aload_n 0), 1), (11, .inr (0, 0, 1), 3), (14, .inr (2, 17, 2), 3)],
  [(17, .inl (.aload_n 0), 1), (18, .inr (0, 0, 3), 3), (21, .inl (.iload_n 2), 1), (22, .inl (.iconst 1), 1), (23, .inr (2, 108, 3), 3), (26, .inl (.iload_n 1), 1), (27, .inl (.if_icmp .ne 7), 3), (30, .inl (.lconst 0), 1), (31, .inl (.goto 6), 3)],
  [(34, .inr (9, 0, (-1)), 3), (37, .inl (.lreturn), 1)]]
-- MovingNamesLaw.again(LMovingNames;I[J)I
set_option maxRecDepth 100000 in
noncomputable def ab_c167 : List (List (Nat × ab_I × Nat)) := [[(0, .inl (.aload_n 2), 1), (1, .inl (.iconst 0), 1), (2, .inl (.aload_n 0), 1), (3, .inl (.iload_n 1), 1), (4, .inr (2, 168, 2), 3), (7, .inl (.i2l), 1), (8, .inl (.lastore), 1), (9, .inl (.goto 6), 3), (12, .inl (.astore_n 3), 1), (13, .inl (.iconst 1), 1), (14, .inl (.ireturn), 1), (15, .inl (.iconst 0), 1)],
  [(16, .inl (.ireturn), 1)]]
-- MovingNames.again(I)I
set_option maxRecDepth 100000 in
noncomputable def ab_c168 : List (List (Nat × ab_I × Nat)) := [[(0, .inl (.aload_n 0), 1), (1, .inl (.iload_n 1), 1), (2, .inr (2, 86, 2), 3), (5, .inl (.aload_n 0), 1), (6, .inr (0, 0, 3), 3), (9, .inl (.aload_n 0), 1), (10, .inr (0, 0, 1), 3), (13, .inr (2, 17, 2), 3)],
  [(16, .inl (.aload_n 0), 1), (17, .inr (0, 0, 3), 3), (20, .inr (0, 6, 2), 3), (23, .inl (.iload_n 1), 1), (24, .inr (2, 9, 2), 3), (27, .inl (.istore_n 2), 1), (28, .inl (.aload_n 0), 1), (29, .inr (0, 0, 3), 3)],
  [(32, .inr (0, 6, 4), 3), (35, .inl (.iload_n 1), 1), (36, .inr (2, 9, 2), 3), (39, .inl (.istore_n 3), 1), (40, .inl (.iconst 1), 1), (41, .inl (.istore 4), 2), (43, .inl (.iload 4), 2), (45, .inl (.bipush 20), 2), (47, .inl (.if_icmp .ge 36), 3)],
  [(50, .inl (.aload_n 0), 1), (51, .inr (0, 0, 3), 3), (54, .inr (0, 6, 2), 3), (57, .inl (.iload_n 3), 1), (58, .inr (2, 9, 2), 3), (61, .inl (.iload_n 2), 1), (62, .inl (.if_icmp .eq 21), 3)],
  [(65, .inl (.aload_n 0), 1), (66, .inr (0, 0, 3), 3), (69, .inr (0, 6, 4), 3), (72, .inl (.iload_n 3), 1), (73, .inr (2, 9, 2), 3), (76, .inl (.istore_n 3), 1), (77, .inl (.iinc 4 1), 3)],
  [(80, .inl (.goto (-37)), 3), (83, .inl (.iload 4), 2), (85, .inl (.ireturn), 1)]]
-- MovingNamesLaw.beside(LMovingNames;II[J)I
set_option maxRecDepth 100000 in
noncomputable def ab_c169 : List (List (Nat × ab_I × Nat)) := [[(0, .inl (.aload_n 3), 1), (1, .inl (.iconst 0), 1), (2, .inl (.aload_n 0), 1), (3, .inl (.iload_n 1), 1), (4, .inl (.iload_n 2), 1), (5, .inr (2, 170, 3), 3), (8, .inl (.i2l), 1), (9, .inl (.lastore), 1), (10, .inl (.goto 11), 3), (13, .inl (.astore 4), 2), (15, .inl (.iconst 1), 1)],
  [(16, .inl (.ireturn), 1), (17, .inl (.astore 4), 2), (19, .inl (.iconst 2), 1), (20, .inl (.ireturn), 1), (21, .inl (.iconst 0), 1), (22, .inl (.ireturn), 1)]]
-- MovingNames.beside(II)I
set_option maxRecDepth 100000 in
noncomputable def ab_c170 : List (List (Nat × ab_I × Nat)) := [[(0, .inl (.aload_n 0), 1), (1, .inl (.iload_n 1), 1), (2, .inl (.iload_n 2), 1), (3, .inr (2, 127, 3), 3), (6, .inl (.aload_n 0), 1), (7, .inr (0, 0, 3), 3), (10, .inl (.aload_n 0), 1), (11, .inr (0, 0, 1), 3), (14, .inr (2, 17, 2), 3)],
  [(17, .inl (.aload_n 0), 1), (18, .inr (0, 0, 3), 3), (21, .inr (2, 26, 1), 3), (24, .inl (.istore_n 3), 1), (25, .inl (.iload_n 1), 1), (26, .inl (.istore 4), 2), (28, .inl (.iload_n 2), 1), (29, .inl (.istore 5), 2), (31, .inl (.iconst 0), 1)],
  [(32, .inl (.istore 6), 2), (34, .inl (.iconst 0), 1), (35, .inl (.istore 7), 2), (37, .inl (.iload 7), 2), (39, .inl (.iload_n 3), 1), (40, .inl (.if_icmp .ge 52), 3), (43, .inl (.iload 4), 2), (45, .inl (.iload 5), 2), (47, .inl (.isub), 1)],
  [(48, .inr (2, 92, 1), 3), (51, .inl (.iconst 1), 1), (52, .inl (.if_icmp .ne 6), 3), (55, .inl (.iinc 6 1), 3), (58, .inl (.aload_n 0), 1), (59, .inr (0, 0, 3), 3), (62, .inr (0, 6, 3), 3)],
  [(65, .inl (.iload 4), 2), (67, .inr (2, 9, 2), 3), (70, .inl (.istore 4), 2), (72, .inl (.aload_n 0), 1), (73, .inr (0, 0, 3), 3), (76, .inr (0, 6, 3), 3), (79, .inl (.iload 5), 2)],
  [(81, .inr (2, 9, 2), 3), (84, .inl (.istore 5), 2), (86, .inl (.iinc 7 1), 3), (89, .inl (.goto (-52)), 3), (92, .inl (.iload 6), 2), (94, .inl (.ireturn), 1)]]
-- MovingNamesLaw.visits(LMovingNames;II[J)I
set_option maxRecDepth 100000 in
noncomputable def ab_c171 : List (List (Nat × ab_I × Nat)) := [[(0, .inl (.aload_n 3), 1), (1, .inl (.iconst 0), 1), (2, .inl (.aload_n 0), 1), (3, .inl (.iload_n 1), 1), (4, .inl (.iload_n 2), 1), (5, .inr (2, 172, 3), 3), (8, .inl (.i2l), 1), (9, .inl (.lastore), 1), (10, .inl (.goto 11), 3), (13, .inl (.astore 4), 2), (15, .inl (.iconst 1), 1)],
  [(16, .inl (.ireturn), 1), (17, .inl (.astore 4), 2), (19, .inl (.iconst 2), 1), (20, .inl (.ireturn), 1), (21, .inl (.iconst 0), 1), (22, .inl (.ireturn), 1)]]
-- MovingNames.visits(II)I
set_option maxRecDepth 100000 in
noncomputable def ab_c172 : List (List (Nat × ab_I × Nat)) := [[(0, .inl (.aload_n 0), 1), (1, .inl (.iload_n 1), 1), (2, .inr (2, 98, 2), 3), (5, .inl (.aload_n 0), 1), (6, .inl (.iload_n 2), 1), (7, .inl (.iconst 0), 1), (8, .inl (.sipush 999), 3), (11, .inr (2, 103, 4), 3), (14, .inl (.aload_n 0), 1), (15, .inr (0, 0, 3), 3)],
  [(18, .inl (.aload_n 0), 1), (19, .inr (0, 0, 1), 3), (22, .inr (2, 17, 2), 3), (25, .inl (.iconst 0), 1), (26, .inl (.istore_n 3), 1), (27, .inl (.iconst 0), 1), (28, .inl (.istore 4), 2), (30, .inl (.iload 4), 2)],
  [(32, .inl (.aload_n 0), 1), (33, .inr (0, 0, 1), 3), (36, .inr (0, 2, 1), 3), (39, .inl (.if_icmp .ge 38), 3), (42, .inl (.aload_n 0), 1), (43, .inr (0, 0, 1), 3), (46, .inr (0, 2, 7), 3)],
  [(49, .inl (.iload 4), 2), (51, .inr (2, 9, 2), 3), (54, .inl (.iload_n 1), 1), (55, .inl (.if_icmp .ne 16), 3), (58, .inl (.iload_n 3), 1), (59, .inl (.aload_n 0), 1), (60, .inr (0, 0, 3), 3), (63, .inl (.iload 4), 2)],
  [(65, .inl (.iload_n 2), 1), (66, .inr (2, 173, 3), 3), (69, .inl (.ior), 1), (70, .inl (.istore_n 3), 1), (71, .inl (.iinc 4 1), 3), (74, .inl (.goto (-44)), 3), (77, .inl (.iload_n 3), 1), (78, .inl (.ireturn), 1)]]
-- MovingNames$Outlook.visitedBy(II)I
set_option maxRecDepth 100000 in
noncomputable def ab_c173 : List (List (Nat × ab_I × Nat)) := [[(0, .inl (.iconst 0), 1), (1, .inl (.istore_n 3), 1), (2, .inl (.iload_n 1), 1), (3, .inl (.istore 4), 2), (5, .inl (.iconst 0), 1), (6, .inl (.istore 5), 2), (8, .inl (.iload 5), 2), (10, .inl (.iload_n 2), 1), (11, .inl (.if_icmp .gt 34), 3), (14, .inl (.iload 5), 2)],
  [(16, .inl (.bipush 20), 2), (18, .inl (.if_icmp .ge 27), 3), (21, .inl (.iload_n 3), 1), (22, .inl (.iconst 1), 1), (23, .inl (.iload 4), 2), (25, .inl (.ishl), 1), (26, .inl (.ior), 1), (27, .inl (.istore_n 3), 1), (28, .inl (.aload_n 0), 1), (29, .inr (0, 6, 3), 3)],
  [(32, .inl (.iload 4), 2), (34, .inr (2, 9, 2), 3), (37, .inl (.istore 4), 2), (39, .inl (.iinc 5 1), 3), (42, .inl (.goto (-34)), 3), (45, .inl (.iload_n 3), 1), (46, .inl (.ireturn), 1)]]
-- MovingNamesLaw.under(LMovingNames;II[J)I
set_option maxRecDepth 100000 in
noncomputable def ab_c174 : List (List (Nat × ab_I × Nat)) := [[(0, .inl (.aload_n 3), 1), (1, .inl (.iconst 0), 1), (2, .inl (.aload_n 0), 1), (3, .inl (.iload_n 1), 1), (4, .inl (.iload_n 2), 1), (5, .inr (2, 175, 3), 3), (8, .inl (.i2l), 1), (9, .inl (.lastore), 1), (10, .inl (.goto 11), 3), (13, .inl (.astore 4), 2), (15, .inl (.iconst 1), 1)],
  [(16, .inl (.ireturn), 1), (17, .inl (.astore 4), 2), (19, .inl (.iconst 2), 1), (20, .inl (.ireturn), 1), (21, .inl (.iconst 0), 1), (22, .inl (.ireturn), 1)]]
-- MovingNames.under(II)I
set_option maxRecDepth 100000 in
noncomputable def ab_c175 : List (List (Nat × ab_I × Nat)) := [[(0, .inl (.aload_n 0), 1), (1, .inl (.iload_n 1), 1), (2, .inr (2, 95, 2), 3), (5, .inl (.aload_n 0), 1), (6, .inl (.iload_n 2), 1), (7, .inl (.iconst 0), 1), (8, .inl (.sipush 999), 3), (11, .inr (2, 103, 4), 3), (14, .inl (.aload_n 0), 1), (15, .inr (0, 0, 3), 3)],
  [(18, .inl (.aload_n 0), 1), (19, .inr (0, 0, 1), 3), (22, .inr (2, 17, 2), 3), (25, .inl (.aload_n 0), 1), (26, .inr (0, 0, 3), 3), (29, .inl (.aload_n 0), 1), (30, .inr (0, 0, 1), 3)],
  [(33, .inr (0, 2, 8), 3), (36, .inl (.iload_n 1), 1), (37, .inr (2, 9, 2), 3), (40, .inl (.iload_n 2), 1), (41, .inr (2, 176, 3), 3), (44, .inl (.ireturn), 1)]]
-- MovingNames$Outlook.namesOn(II)I
set_option maxRecDepth 100000 in
noncomputable def ab_c176 : List (List (Nat × ab_I × Nat)) := [[(0, .inl (.iconst 0), 1), (1, .inl (.istore_n 3), 1), (2, .inl (.iload_n 1), 1), (3, .inl (.istore 4), 2), (5, .inl (.iconst 0), 1), (6, .inl (.istore 5), 2), (8, .inl (.iload 5), 2), (10, .inl (.iload_n 2), 1), (11, .inl (.if_icmp .gt 41), 3), (14, .inl (.iload 5), 2)],
  [(16, .inl (.bipush 20), 2), (18, .inl (.if_icmp .ge 34), 3), (21, .inl (.iload_n 3), 1), (22, .inl (.iconst 1), 1), (23, .inl (.aload_n 0), 1), (24, .inr (0, 6, 2), 3), (27, .inl (.iload 4), 2), (29, .inr (2, 9, 2), 3)],
  [(32, .inl (.ishl), 1), (33, .inl (.ior), 1), (34, .inl (.istore_n 3), 1), (35, .inl (.aload_n 0), 1), (36, .inr (0, 6, 4), 3), (39, .inl (.iload 4), 2), (41, .inr (2, 9, 2), 3), (44, .inl (.istore 4), 2), (46, .inl (.iinc 5 1), 3)],
  [(49, .inl (.goto (-41)), 3), (52, .inl (.iload_n 3), 1), (53, .inl (.ireturn), 1)]]
-- MovingNamesLaw.home(LMovingNames;II[J)I
set_option maxRecDepth 100000 in
noncomputable def ab_c177 : List (List (Nat × ab_I × Nat)) := [[(0, .inl (.aload_n 3), 1), (1, .inl (.iconst 0), 1), (2, .inl (.aload_n 0), 1), (3, .inl (.iload_n 1), 1), (4, .inl (.iload_n 2), 1), (5, .inr (2, 178, 3), 3), (8, .inl (.i2l), 1), (9, .inl (.lastore), 1), (10, .inl (.goto 15), 3), (13, .inl (.astore 4), 2), (15, .inl (.iconst 1), 1)],
  [(16, .inl (.ireturn), 1), (17, .inl (.astore 4), 2), (19, .inl (.iconst 2), 1), (20, .inl (.ireturn), 1), (21, .inl (.astore 4), 2), (23, .inl (.iconst 3), 1), (24, .inl (.ireturn), 1), (25, .inl (.iconst 0), 1), (26, .inl (.ireturn), 1)]]
-- MovingNames.home(II)I
set_option maxRecDepth 100000 in
noncomputable def ab_c178 : List (List (Nat × ab_I × Nat)) := [[(0, .inl (.aload_n 0), 1), (1, .inl (.iload_n 1), 1), (2, .inr (2, 150, 2), 3), (5, .inl (.astore_n 3), 1), (6, .inl (.aload_n 0), 1), (7, .inl (.aload_n 3), 1), (8, .inl (.bipush 8), 2), (10, .inr (2, 163, 3), 3), (13, .inl (.iload_n 2), 1), (14, .inl (.ifCond .eq 19), 3)],
  [(17, .inl (.aload_n 0), 1), (18, .inl (.iload_n 2), 1), (19, .inl (.bipush 10), 2), (21, .inl (.bipush 10), 2), (23, .inl (.aload_n 3), 1), (24, .inr (0, 8, 2), 3), (27, .inl (.iadd), 1), (28, .inl (.iconst 1), 1), (29, .inl (.isub), 1), (30, .inr (2, 103, 4), 3)],
  [(33, .inl (.aload_n 0), 1), (34, .inr (0, 0, 3), 3), (37, .inl (.aload_n 0), 1), (38, .inr (0, 0, 1), 3), (41, .inr (2, 17, 2), 3), (44, .inl (.aload_n 0), 1), (45, .inr (0, 0, 4), 3)],
  [(48, .inr (2, 179, 1), 3), (51, .inl (.iconst 0), 1), (52, .inl (.istore 4), 2), (54, .inl (.iload 4), 2), (56, .inl (.aload_n 3), 1), (57, .inr (0, 8, 2), 3), (60, .inl (.if_icmp .ge 44), 3), (63, .inl (.aload_n 3), 1)],
  [(64, .inl (.iload 4), 2), (66, .inr (2, 152, 2), 3), (69, .inl (.l2i), 1), (70, .inl (.istore 5), 2), (72, .inl (.aload_n 0), 1), (73, .inr (0, 0, 4), 3), (76, .inl (.aload_n 0), 1), (77, .inr (0, 0, 3), 3)],
  [(80, .inl (.iload 5), 2), (82, .inl (.bipush 20), 2), (84, .inl (.idiv), 1), (85, .inl (.iload 5), 2), (87, .inl (.bipush 20), 2), (89, .inl (.irem), 1), (90, .inl (.bipush 59), 2), (92, .inr (2, 180, 4), 3), (95, .inr (2, 181, 2), 3)],
  [(98, .inl (.iinc 4 1), 3), (101, .inl (.goto (-47)), 3), (104, .inl (.aload_n 0), 1), (105, .inr (0, 0, 4), 3), (108, .inr (2, 182, 1), 3), (111, .inl (.istore 4), 2)],
  [(113, .inl (.iload_n 2), 1), (114, .inl (.ifCond .ne 8), 3), (117, .inl (.iload 4), 2), (119, .inl (.goto 14), 3), (122, .inl (.aload_n 0), 1), (123, .inr (0, 0, 4), 3), (126, .inl (.iload_n 2), 1), (127, .inl (.bipush 10), 2)],
  [(129, .inl (.isub), 1), (130, .inr (2, 189, 2), 3), (133, .inl (.ireturn), 1)]]
-- MovingNames$Letters.clear()V
set_option maxRecDepth 100000 in
noncomputable def ab_c179 : List (List (Nat × ab_I × Nat)) := [[(0, .inl (.aload_n 0), 1), (1, .inl (.iconst 0), 1), (2, .inr (1, 7, 2), 3), (5, .inl (.return_), 1)]]
-- MovingNames$Outlook.nightsOf(III)J
set_option maxRecDepth 100000 in
noncomputable def ab_c180 : List (List (Nat × ab_I × Nat)) := [[(0, .inl (.lconst 0), 1), (1, .inl (.lstore 4), 2), (3, .inl (.iload_n 2), 1), (4, .inl (.istore 6), 2), (6, .inl (.iconst 0), 1), (7, .inl (.istore 7), 2), (9, .inl (.iload 7), 2), (11, .inl (.iload_n 3), 1), (12, .inl (.if_icmp .gt 42), 3), (15, .inl (.aload_n 0), 1)],
  [(16, .inr (0, 6, 2), 3), (19, .inl (.iload 6), 2), (21, .inr (2, 9, 2), 3), (24, .inl (.iload_n 1), 1), (25, .inl (.if_icmp .ne 12), 3), (28, .inl (.lload 4), 2), (30, .inl (.lconst 1), 1), (31, .inl (.iload 7), 2)],
  [(33, .inl (.lshl), 1), (34, .inl (.lor), 1), (35, .inl (.lstore 4), 2), (37, .inl (.aload_n 0), 1), (38, .inr (0, 6, 4), 3), (41, .inl (.iload 6), 2), (43, .inr (2, 9, 2), 3), (46, .inl (.istore 6), 2)],
  [(48, .inl (.iinc 7 1), 3), (51, .inl (.goto (-42)), 3), (54, .inl (.lload 4), 2), (56, .inl (.lreturn), 1)]]
-- MovingNames$Letters.add(J)V
set_option maxRecDepth 100000 in
noncomputable def ab_c181 : List (List (Nat × ab_I × Nat)) := [[(0, .inl (.aload_n 0), 1), (1, .inr (0, 7, 2), 3), (4, .inl (.aload_n 0), 1), (5, .inr (0, 7, 0), 3), (8, .inl (.arraylength), 1), (9, .inl (.if_icmp .ge 35), 3), (12, .inl (.aload_n 0), 1), (13, .inr (0, 7, 0), 3)],
  [(16, .inl (.aload_n 0), 1), (17, .inr (0, 7, 2), 3), (20, .inl (.lload_n 1), 1), (21, .inl (.lastore), 1), (22, .inl (.aload_n 0), 1), (23, .inr (0, 7, 1), 3), (26, .inl (.aload_n 0), 1), (27, .inr (0, 7, 2), 3), (30, .inl (.iconst (-1)), 1), (31, .inr (2, 3, 3), 3)],
  [(34, .inl (.aload_n 0), 1), (35, .inl (.dup), 1), (36, .inr (0, 7, 2), 3), (39, .inl (.iconst 1), 1), (40, .inl (.iadd), 1), (41, .inr (1, 7, 2), 3), (44, .inl (.return_), 1)]]
-- MovingNames$Letters.bringAll()I
set_option maxRecDepth 100000 in
noncomputable def ab_c182 : List (List (Nat × ab_I × Nat)) := [[(0, .inl (.aload_n 0), 1), (1, .inr (2, 183, 1), 3), (4, .inl (.istore_n 1), 1), (5, .inl (.iload_n 1), 1), (6, .inl (.iconst (-1)), 1), (7, .inl (.if_icmp .eq 52), 3), (10, .inl (.iconst 0), 1), (11, .inl (.istore_n 2), 1), (12, .inl (.iload_n 2), 1), (13, .inl (.aload_n 0), 1), (14, .inr (0, 7, 2), 3)],
  [(17, .inl (.if_icmp .ge 21), 3), (20, .inl (.aload_n 0), 1), (21, .inl (.iload_n 2), 1), (22, .inr (9, 0, 2), 3), (25, .inl (.iload_n 1), 1), (26, .inl (.lshl), 1), (27, .inl (.lconst 1), 1), (28, .inl (.lsub), 1), (29, .inr (2, 187, 3), 3)],
  [(32, .inl (.iinc 2 1), 3), (35, .inl (.goto (-23)), 3), (38, .inl (.iconst 0), 1), (39, .inl (.istore_n 2), 1), (40, .inl (.iload_n 2), 1), (41, .inl (.aload_n 0), 1), (42, .inr (0, 7, 2), 3), (45, .inl (.if_icmp .ge 14), 3)],
  [(48, .inl (.aload_n 0), 1), (49, .inl (.iload_n 2), 1), (50, .inr (2, 188, 2), 3), (53, .inl (.iinc 2 1), 3), (56, .inl (.goto (-16)), 3), (59, .inl (.iload_n 1), 1), (60, .inl (.ireturn), 1)]]
-- MovingNames$Letters.earliestEnd()I
set_option maxRecDepth 100000 in
noncomputable def ab_c183 : List (List (Nat × ab_I × Nat)) := [[(0, .inl (.iconst (-1)), 1), (1, .inl (.istore_n 1), 1), (2, .inl (.iconst 1), 1), (3, .inl (.istore_n 2), 1), (4, .inl (.iload_n 2), 1), (5, .inl (.iconst 1), 1), (6, .inl (.aload_n 0), 1), (7, .inr (0, 7, 2), 3), (10, .inl (.ishl), 1), (11, .inl (.if_icmp .ge 35), 3), (14, .inl (.aload_n 0), 1), (15, .inl (.iload_n 2), 1)],
  [(16, .inr (2, 184, 2), 3), (19, .inl (.iload_n 2), 1), (20, .inr (2, 37, 1), 3), (23, .inr (2, 185, 2), 3), (26, .inl (.istore_n 3), 1), (27, .inl (.iload_n 3), 1), (28, .inl (.iconst (-1)), 1), (29, .inl (.if_icmp .ne 5), 3)],
  [(32, .inl (.iconst (-1)), 1), (33, .inl (.ireturn), 1), (34, .inl (.iload_n 1), 1), (35, .inl (.iload_n 3), 1), (36, .inr (2, 58, 2), 3), (39, .inl (.istore_n 1), 1), (40, .inl (.iinc 2 1), 3), (43, .inl (.goto (-39)), 3), (46, .inl (.iload_n 1), 1), (47, .inl (.ireturn), 1)]]
-- MovingNames$Letters.nightsAmong(I)J
set_option maxRecDepth 100000 in
noncomputable def ab_c184 : List (List (Nat × ab_I × Nat)) := [[(0, .inl (.lconst 0), 1), (1, .inl (.lstore_n 2), 1), (2, .inl (.iconst 0), 1), (3, .inl (.istore 4), 2), (5, .inl (.iload 4), 2), (7, .inl (.aload_n 0), 1), (8, .inr (0, 7, 2), 3), (11, .inl (.if_icmp .ge 38), 3), (14, .inl (.iload 4), 2)],
  [(16, .inl (.aload_n 0), 1), (17, .inr (0, 7, 0), 3), (20, .inl (.arraylength), 1), (21, .inl (.if_icmp .ge 28), 3), (24, .inl (.iload_n 1), 1), (25, .inl (.iload 4), 2), (27, .inl (.ishr), 1), (28, .inl (.iconst 1), 1), (29, .inl (.iand), 1), (30, .inl (.ifCond .eq 13), 3)],
  [(33, .inl (.lload_n 2), 1), (34, .inl (.aload_n 0), 1), (35, .inr (0, 7, 0), 3), (38, .inl (.iload 4), 2), (40, .inl (.laload), 1), (41, .inl (.lor), 1), (42, .inl (.lstore_n 2), 1), (43, .inl (.iinc 4 1), 3), (46, .inl (.goto (-41)), 3)],
  [(49, .inl (.lload_n 2), 1), (50, .inl (.lreturn), 1)]]
-- MovingNames$Letters.bitOf(JI)I
set_option maxRecDepth 100000 in
noncomputable def ab_c185 : List (List (Nat × ab_I × Nat)) := [[(0, .inl (.lload_n 0), 1), (1, .inl (.lstore_n 3), 1), (2, .inl (.iconst 1), 1), (3, .inl (.istore 5), 2), (5, .inl (.iload 5), 2), (7, .inl (.iload_n 2), 1), (8, .inl (.if_icmp .ge 15), 3), (11, .inl (.lload_n 3), 1), (12, .inl (.lload_n 3), 1), (13, .inl (.lconst 1), 1), (14, .inl (.lsub), 1), (15, .inl (.land), 1)],
  [(16, .inl (.lstore_n 3), 1), (17, .inl (.iinc 5 1), 3), (20, .inl (.goto (-15)), 3), (23, .inl (.lload_n 3), 1), (24, .inl (.lconst 0), 1), (25, .inl (.lcmp), 1), (26, .inl (.ifCond .ne 7), 3), (29, .inl (.iconst (-1)), 1), (30, .inl (.goto 12), 3)],
  [(33, .inl (.lload_n 3), 1), (34, .inl (.lload_n 3), 1), (35, .inl (.lneg), 1), (36, .inl (.land), 1), (37, .inl (.lconst 1), 1), (38, .inl (.lsub), 1), (39, .inr (2, 186, 1), 3), (42, .inl (.ireturn), 1)]]
-- java/lang/Long.bitCount(J)I
set_option maxRecDepth 100000 in
noncomputable def ab_c186 : List (List (Nat × ab_I × Nat)) := [[(0, .inl (.lload_n 0), 1), (1, .inl (.lload_n 0), 1), (2, .inl (.iconst 1), 1), (3, .inl (.lushr), 1), (4, .inr (9, 0, 6148914691236517205), 3), (7, .inl (.land), 1), (8, .inl (.lsub), 1), (9, .inl (.lstore_n 0), 1), (10, .inl (.lload_n 0), 1), (11, .inr (9, 0, 3689348814741910323), 3), (14, .inl (.land), 1), (15, .inl (.lload_n 0), 1)],
  [(16, .inl (.iconst 2), 1), (17, .inl (.lushr), 1), (18, .inr (9, 0, 3689348814741910323), 3), (21, .inl (.land), 1), (22, .inl (.ladd), 1), (23, .inl (.lstore_n 0), 1), (24, .inl (.lload_n 0), 1), (25, .inl (.lload_n 0), 1), (26, .inl (.iconst 4), 1), (27, .inl (.lushr), 1), (28, .inl (.ladd), 1), (29, .inr (9, 0, 1085102592571150095), 3)],
  [(32, .inl (.land), 1), (33, .inl (.lstore_n 0), 1), (34, .inl (.lload_n 0), 1), (35, .inl (.lload_n 0), 1), (36, .inl (.bipush 8), 2), (38, .inl (.lushr), 1), (39, .inl (.ladd), 1), (40, .inl (.lstore_n 0), 1), (41, .inl (.lload_n 0), 1), (42, .inl (.lload_n 0), 1), (43, .inl (.bipush 16), 2), (45, .inl (.lushr), 1), (46, .inl (.ladd), 1), (47, .inl (.lstore_n 0), 1)],
  [(48, .inl (.lload_n 0), 1), (49, .inl (.lload_n 0), 1), (50, .inl (.bipush 32), 2), (52, .inl (.lushr), 1), (53, .inl (.ladd), 1), (54, .inl (.lstore_n 0), 1), (55, .inl (.lload_n 0), 1), (56, .inl (.l2i), 1), (57, .inl (.bipush 127), 2), (59, .inl (.iand), 1), (60, .inl (.ireturn), 1)]]
-- MovingNames$Letters.keep(IJ)V
set_option maxRecDepth 100000 in
noncomputable def ab_c187 : List (List (Nat × ab_I × Nat)) := [[(0, .inl (.iload_n 1), 1), (1, .inl (.ifCond .lt 22), 3), (4, .inl (.iload_n 1), 1), (5, .inl (.aload_n 0), 1), (6, .inr (0, 7, 0), 3), (9, .inl (.arraylength), 1), (10, .inl (.if_icmp .ge 13), 3), (13, .inl (.aload_n 0), 1), (14, .inr (0, 7, 0), 3)],
  [(17, .inl (.iload_n 1), 1), (18, .inl (.dup2), 1), (19, .inl (.laload), 1), (20, .inl (.lload_n 2), 1), (21, .inl (.land), 1), (22, .inl (.lastore), 1), (23, .inl (.return_), 1)]]
-- MovingNames$Letters.bring(I)V
set_option maxRecDepth 100000 in
noncomputable def ab_c188 : List (List (Nat × ab_I × Nat)) := [[(0, .inl (.lconst 0), 1), (1, .inl (.lstore_n 2), 1), (2, .inl (.iconst 1), 1), (3, .inl (.istore 4), 2), (5, .inl (.iload 4), 2), (7, .inl (.iconst 1), 1), (8, .inl (.aload_n 0), 1), (9, .inr (0, 7, 2), 3), (12, .inl (.iload_n 1), 1), (13, .inl (.isub), 1), (14, .inl (.iconst 1), 1), (15, .inl (.isub), 1)],
  [(16, .inl (.ishl), 1), (17, .inl (.if_icmp .ge 39), 3), (20, .inl (.aload_n 0), 1), (21, .inl (.iload 4), 2), (23, .inl (.iload_n 1), 1), (24, .inl (.iconst 1), 1), (25, .inl (.iadd), 1), (26, .inl (.ishl), 1), (27, .inr (2, 184, 2), 3), (30, .inl (.lstore 5), 2)],
  [(32, .inl (.lload 5), 2), (34, .inr (2, 186, 1), 3), (37, .inl (.iload 4), 2), (39, .inr (2, 37, 1), 3), (42, .inl (.if_icmp .ne 8), 3), (45, .inl (.lload_n 2), 1), (46, .inl (.lload 5), 2)],
  [(48, .inl (.lor), 1), (49, .inl (.lstore_n 2), 1), (50, .inl (.iinc 4 1), 3), (53, .inl (.goto (-48)), 3), (56, .inl (.iload_n 1), 1), (57, .inl (.ifCond .lt 27), 3), (60, .inl (.iload_n 1), 1), (61, .inl (.aload_n 0), 1), (62, .inr (0, 7, 0), 3)],
  [(65, .inl (.arraylength), 1), (66, .inl (.if_icmp .ge 18), 3), (69, .inl (.aload_n 0), 1), (70, .inr (0, 7, 0), 3), (73, .inl (.iload_n 1), 1), (74, .inl (.laload), 1), (75, .inl (.lload_n 2), 1), (76, .inr (9, 0, (-1)), 3), (79, .inl (.lxor), 1)],
  [(80, .inl (.land), 1), (81, .inl (.goto 4), 3), (84, .inl (.lconst 0), 1), (85, .inl (.lstore 4), 2), (87, .inl (.aload_n 0), 1), (88, .inr (0, 7, 1), 3), (91, .inl (.iload_n 1), 1), (92, .inl (.lload 4), 2), (94, .inl (.iconst 1), 1), (95, .inr (2, 185, 2), 3)],
  [(98, .inr (2, 3, 3), 3), (101, .inl (.iload_n 1), 1), (102, .inl (.iconst 1), 1), (103, .inl (.iadd), 1), (104, .inl (.istore 6), 2), (106, .inl (.iload 6), 2), (108, .inl (.aload_n 0), 1), (109, .inr (0, 7, 2), 3)],
  [(112, .inl (.if_icmp .ge 25), 3), (115, .inl (.aload_n 0), 1), (116, .inl (.iload 6), 2), (118, .inl (.lload 4), 2), (120, .inl (.lload 4), 2), (122, .inl (.lneg), 1), (123, .inl (.land), 1), (124, .inr (9, 0, (-1)), 3), (127, .inl (.lxor), 1)],
  [(128, .inr (2, 187, 3), 3), (131, .inl (.iinc 6 1), 3), (134, .inl (.goto (-28)), 3), (137, .inl (.return_), 1)]]
-- MovingNames$Letters.nightOf(I)I
set_option maxRecDepth 100000 in
noncomputable def ab_c189 : List (List (Nat × ab_I × Nat)) := [[(0, .inl (.aload_n 0), 1), (1, .inr (0, 7, 1), 3), (4, .inl (.iload_n 1), 1), (5, .inr (2, 9, 2), 3), (8, .inl (.ireturn), 1)]]
-- MovingNamesLaw.written(LMovingNames;III[J)I
set_option maxRecDepth 100000 in
noncomputable def ab_c190 : List (List (Nat × ab_I × Nat)) := [[(0, .inl (.aload 4), 2), (2, .inl (.iconst 0), 1), (3, .inl (.aload_n 0), 1), (4, .inl (.iload_n 1), 1), (5, .inl (.iload_n 2), 1), (6, .inl (.iload_n 3), 1), (7, .inr (2, 191, 4), 3), (10, .inl (.i2l), 1), (11, .inl (.lastore), 1), (12, .inl (.goto 11), 3), (15, .inl (.astore 5), 2)],
  [(17, .inl (.iconst 1), 1), (18, .inl (.ireturn), 1), (19, .inl (.astore 5), 2), (21, .inl (.iconst 2), 1), (22, .inl (.ireturn), 1), (23, .inl (.iconst 0), 1), (24, .inl (.ireturn), 1)]]
-- MovingNames.written(III)I
set_option maxRecDepth 100000 in
noncomputable def ab_c191 : List (List (Nat × ab_I × Nat)) := [[(0, .inl (.aload_n 0), 1), (1, .inl (.iload_n 1), 1), (2, .inr (2, 98, 2), 3), (5, .inl (.aload_n 0), 1), (6, .inl (.iload_n 2), 1), (7, .inr (2, 86, 2), 3), (10, .inl (.aload_n 0), 1), (11, .inl (.iload_n 3), 1), (12, .inl (.iconst 0), 1), (13, .inl (.bipush 99), 2), (15, .inr (2, 103, 4), 3)],
  [(18, .inl (.aload_n 0), 1), (19, .inr (0, 0, 3), 3), (22, .inl (.aload_n 0), 1), (23, .inr (0, 0, 1), 3), (26, .inr (2, 17, 2), 3), (29, .inl (.iload_n 2), 1), (30, .inl (.istore 4), 2)],
  [(32, .inl (.iconst 0), 1), (33, .inl (.istore 5), 2), (35, .inl (.iconst 0), 1), (36, .inl (.istore 6), 2), (38, .inl (.iload 6), 2), (40, .inl (.bipush 99), 2), (42, .inl (.if_icmp .gt 48), 3), (45, .inl (.iload 6), 2), (47, .inl (.iload_n 3), 1)],
  [(48, .inl (.if_icmp .lt 22), 3), (51, .inl (.aload_n 0), 1), (52, .inr (0, 0, 3), 3), (55, .inr (0, 6, 2), 3), (58, .inl (.iload 4), 2), (60, .inr (2, 9, 2), 3), (63, .inl (.iload_n 1), 1)],
  [(64, .inl (.if_icmp .ne 6), 3), (67, .inl (.iinc 5 1), 3), (70, .inl (.aload_n 0), 1), (71, .inr (0, 0, 3), 3), (74, .inr (0, 6, 3), 3), (77, .inl (.iload 4), 2), (79, .inr (2, 9, 2), 3)],
  [(82, .inl (.istore 4), 2), (84, .inl (.iinc 6 1), 3), (87, .inl (.goto (-49)), 3), (90, .inl (.iload 5), 2), (92, .inl (.ireturn), 1)]]
-- MovingNamesLaw.served(LMovingNames;III[J)I
set_option maxRecDepth 100000 in
noncomputable def ab_c192 : List (List (Nat × ab_I × Nat)) := [[(0, .inl (.aload 4), 2), (2, .inl (.iconst 0), 1), (3, .inl (.aload_n 0), 1), (4, .inl (.iload_n 1), 1), (5, .inl (.iload_n 2), 1), (6, .inl (.iload_n 3), 1), (7, .inr (2, 193, 4), 3), (10, .inl (.i2l), 1), (11, .inl (.lastore), 1), (12, .inl (.goto 11), 3), (15, .inl (.astore 5), 2)],
  [(17, .inl (.iconst 1), 1), (18, .inl (.ireturn), 1), (19, .inl (.astore 5), 2), (21, .inl (.iconst 2), 1), (22, .inl (.ireturn), 1), (23, .inl (.iconst 0), 1), (24, .inl (.ireturn), 1)]]
-- MovingNames.served(III)I
set_option maxRecDepth 100000 in
noncomputable def ab_c193 : List (List (Nat × ab_I × Nat)) := [[(0, .inl (.aload_n 0), 1), (1, .inl (.iload_n 1), 1), (2, .inr (2, 95, 2), 3), (5, .inl (.aload_n 0), 1), (6, .inl (.iload_n 2), 1), (7, .inr (2, 98, 2), 3), (10, .inl (.aload_n 0), 1), (11, .inl (.iload_n 3), 1), (12, .inl (.iconst 0), 1), (13, .inl (.iconst 1), 1), (14, .inr (2, 103, 4), 3)],
  [(17, .inl (.aload_n 0), 1), (18, .inr (0, 0, 3), 3), (21, .inl (.aload_n 0), 1), (22, .inr (0, 0, 1), 3), (25, .inr (2, 17, 2), 3), (28, .inl (.aload_n 0), 1), (29, .inr (0, 0, 1), 3)],
  [(32, .inr (0, 2, 8), 3), (35, .inl (.iload_n 1), 1), (36, .inr (2, 9, 2), 3), (39, .inl (.istore 4), 2), (41, .inl (.iconst 0), 1), (42, .inl (.istore 5), 2), (44, .inl (.iconst (-1)), 1), (45, .inl (.istore 6), 2), (47, .inl (.iconst 0), 1)],
  [(48, .inl (.istore 7), 2), (50, .inl (.iload 7), 2), (52, .inl (.bipush 100), 2), (54, .inl (.if_icmp .ge 56), 3), (57, .inl (.aload_n 0), 1), (58, .inr (0, 0, 3), 3), (61, .inr (0, 6, 2), 3)],
  [(64, .inl (.iload 4), 2), (66, .inr (2, 9, 2), 3), (69, .inl (.iload_n 2), 1), (70, .inl (.if_icmp .ne 20), 3), (73, .inl (.iload 5), 2), (75, .inl (.ifCond .ne 8), 3), (78, .inl (.iload 7), 2)],
  [(80, .inl (.goto 5), 3), (83, .inl (.iload 6), 2), (85, .inl (.istore 6), 2), (87, .inl (.iinc 5 1), 3), (90, .inl (.aload_n 0), 1), (91, .inr (0, 0, 3), 3), (94, .inr (0, 6, 4), 3)],
  [(97, .inl (.iload 4), 2), (99, .inr (2, 9, 2), 3), (102, .inl (.istore 4), 2), (104, .inl (.iinc 7 1), 3), (107, .inl (.goto (-57)), 3), (110, .inl (.iload_n 3), 1), (111, .inl (.ifCond .ne 8), 3)],
  [(114, .inl (.iload 5), 2), (116, .inl (.goto 5), 3), (119, .inl (.iload 6), 2), (121, .inl (.ireturn), 1)]]
-- MovingNamesLaw.findsIn(LMovingNames;III[J)I
set_option maxRecDepth 100000 in
noncomputable def ab_c194 : List (List (Nat × ab_I × Nat)) := [[(0, .inl (.aload 4), 2), (2, .inl (.iconst 0), 1), (3, .inl (.aload_n 0), 1), (4, .inl (.iload_n 1), 1), (5, .inl (.iload_n 2), 1), (6, .inl (.iload_n 3), 1), (7, .inr (2, 195, 4), 3), (10, .inl (.i2l), 1), (11, .inl (.lastore), 1), (12, .inl (.goto 11), 3), (15, .inl (.astore 5), 2)],
  [(17, .inl (.iconst 1), 1), (18, .inl (.ireturn), 1), (19, .inl (.astore 5), 2), (21, .inl (.iconst 2), 1), (22, .inl (.ireturn), 1), (23, .inl (.iconst 0), 1), (24, .inl (.ireturn), 1)]]
-- MovingNames.findsIn(III)I
set_option maxRecDepth 100000 in
noncomputable def ab_c195 : List (List (Nat × ab_I × Nat)) := [[(0, .inl (.aload_n 0), 1), (1, .inl (.iload_n 1), 1), (2, .inr (2, 98, 2), 3), (5, .inl (.aload_n 0), 1), (6, .inl (.iload_n 2), 1), (7, .inr (2, 102, 2), 3), (10, .inl (.aload_n 0), 1), (11, .inl (.iload_n 3), 1), (12, .inr (2, 107, 2), 3), (15, .inl (.aload_n 0), 1)],
  [(16, .inr (0, 0, 3), 3), (19, .inl (.aload_n 0), 1), (20, .inr (0, 0, 1), 3), (23, .inr (2, 17, 2), 3), (26, .inl (.aload_n 0), 1), (27, .inr (0, 0, 3), 3), (30, .inl (.iload_n 3), 1), (31, .inr (2, 115, 2), 3)],
  [(34, .inl (.aload_n 0), 1), (35, .inr (0, 0, 1), 3), (38, .inl (.iload_n 2), 1), (39, .inl (.aload_n 0), 1), (40, .inr (0, 0, 3), 3), (43, .inl (.iload_n 1), 1), (44, .inr (2, 196, 2), 3), (47, .inr (2, 104, 3), 3)],
  [(50, .inl (.ireturn), 1)]]
-- MovingNames$Outlook.streetsThen(I)I
set_option maxRecDepth 100000 in
noncomputable def ab_c196 : List (List (Nat × ab_I × Nat)) := [[(0, .inl (.iconst 0), 1), (1, .inl (.istore_n 2), 1), (2, .inl (.iconst 0), 1), (3, .inl (.istore_n 3), 1), (4, .inl (.iload_n 3), 1), (5, .inl (.aload_n 0), 1), (6, .inr (0, 6, 0), 3), (9, .inl (.if_icmp .ge 24), 3), (12, .inl (.aload_n 0), 1), (13, .inl (.iload_n 3), 1), (14, .inr (2, 32, 2), 3)],
  [(17, .inl (.iload_n 1), 1), (18, .inl (.if_icmp .ne 9), 3), (21, .inl (.iload_n 2), 1), (22, .inl (.iconst 1), 1), (23, .inl (.iload_n 3), 1), (24, .inl (.ishl), 1), (25, .inl (.ior), 1), (26, .inl (.istore_n 2), 1), (27, .inl (.iinc 3 1), 3), (30, .inl (.goto (-26)), 3)],
  [(33, .inl (.iload_n 2), 1), (34, .inl (.ireturn), 1)]]
-- MovingNamesLaw.right(LMovingNames;I[J)I
set_option maxRecDepth 100000 in
noncomputable def ab_c197 : List (List (Nat × ab_I × Nat)) := [[(0, .inl (.aload_n 2), 1), (1, .inl (.iconst 0), 1), (2, .inl (.aload_n 0), 1), (3, .inl (.iload_n 1), 1), (4, .inr (2, 198, 2), 3), (7, .inl (.i2l), 1), (8, .inl (.lastore), 1), (9, .inl (.goto 6), 3), (12, .inl (.astore_n 3), 1), (13, .inl (.iconst 1), 1), (14, .inl (.ireturn), 1), (15, .inl (.iconst 0), 1)],
  [(16, .inl (.ireturn), 1)]]
-- MovingNames.right(I)I
set_option maxRecDepth 100000 in
noncomputable def ab_c198 : List (List (Nat × ab_I × Nat)) := [[(0, .inl (.aload_n 0), 1), (1, .inl (.iload_n 1), 1), (2, .inr (2, 107, 2), 3), (5, .inl (.aload_n 0), 1), (6, .inr (0, 0, 3), 3), (9, .inl (.aload_n 0), 1), (10, .inr (0, 0, 1), 3), (13, .inr (2, 17, 2), 3)],
  [(16, .inl (.aload_n 0), 1), (17, .inr (0, 0, 3), 3), (20, .inl (.iload_n 1), 1), (21, .inr (2, 115, 2), 3), (24, .inl (.aload_n 0), 1), (25, .inr (0, 0, 3), 3), (28, .inr (2, 31, 1), 3), (31, .inl (.ireturn), 1)]]
-- MovingNamesLaw.rightDays(LMovingNames;II[J)I
set_option maxRecDepth 100000 in
noncomputable def ab_c199 : List (List (Nat × ab_I × Nat)) := [[(0, .inl (.aload_n 3), 1), (1, .inl (.iconst 0), 1), (2, .inl (.aload_n 0), 1), (3, .inl (.iload_n 1), 1), (4, .inl (.iload_n 2), 1), (5, .inr (2, 200, 3), 3), (8, .inl (.i2l), 1), (9, .inl (.lastore), 1), (10, .inl (.goto 7), 3), (13, .inl (.astore 4), 2), (15, .inl (.iconst 1), 1)],
  [(16, .inl (.ireturn), 1), (17, .inl (.iconst 0), 1), (18, .inl (.ireturn), 1)]]
-- MovingNames.rightDays(II)I
set_option maxRecDepth 100000 in
noncomputable def ab_c200 : List (List (Nat × ab_I × Nat)) := [[(0, .inl (.aload_n 0), 1), (1, .inl (.iload_n 2), 1), (2, .inl (.iconst 0), 1), (3, .inl (.sipush 999), 3), (6, .inr (2, 103, 4), 3), (9, .inl (.iload_n 1), 1), (10, .inl (.ifCond .ge 14), 3), (13, .inr (10, 0, 0), 11)],
  [(24, .inl (.aload_n 0), 1), (25, .inr (0, 0, 3), 3), (28, .inl (.aload_n 0), 1), (29, .inr (0, 0, 1), 3)],
  [(32, .inr (2, 17, 2), 3), (35, .inl (.iconst 0), 1), (36, .inl (.istore_n 3), 1), (37, .inl (.iconst 0), 1), (38, .inl (.istore 4), 2), (40, .inl (.iload 4), 2), (42, .inl (.iload_n 2), 1), (43, .inl (.if_icmp .ge 30), 3), (46, .inl (.aload_n 0), 1), (47, .inr (0, 0, 3), 3)],
  [(50, .inr (2, 30, 1), 3), (53, .inl (.aload_n 0), 1), (54, .inr (0, 0, 3), 3), (57, .inr (2, 31, 1), 3), (60, .inl (.iload_n 1), 1), (61, .inl (.if_icmp .lt 6), 3)],
  [(64, .inl (.iinc 3 1), 3), (67, .inl (.iinc 4 1), 3), (70, .inl (.goto (-30)), 3), (73, .inl (.iload_n 3), 1), (74, .inl (.ireturn), 1)]]
-- MovingNamesLaw.harm(LMovingNames;I[J)I
set_option maxRecDepth 100000 in
noncomputable def ab_c201 : List (List (Nat × ab_I × Nat)) := [[(0, .inl (.aload_n 2), 1), (1, .inl (.iconst 0), 1), (2, .inl (.aload_n 0), 1), (3, .inl (.iload_n 1), 1), (4, .inr (2, 202, 2), 3), (7, .inl (.i2l), 1), (8, .inl (.lastore), 1), (9, .inl (.goto 6), 3), (12, .inl (.astore_n 3), 1), (13, .inl (.iconst 1), 1), (14, .inl (.ireturn), 1), (15, .inl (.iconst 0), 1)],
  [(16, .inl (.ireturn), 1)]]
-- MovingNames.harm(I)I
set_option maxRecDepth 100000 in
noncomputable def ab_c202 : List (List (Nat × ab_I × Nat)) := [[(0, .inl (.aload_n 0), 1), (1, .inl (.iload_n 1), 1), (2, .inr (2, 107, 2), 3), (5, .inl (.aload_n 0), 1), (6, .inr (0, 0, 3), 3), (9, .inl (.aload_n 0), 1), (10, .inr (0, 0, 1), 3), (13, .inr (2, 17, 2), 3)],
  [(16, .inl (.aload_n 0), 1), (17, .inr (0, 0, 3), 3), (20, .inl (.iload_n 1), 1), (21, .inr (2, 115, 2), 3), (24, .inl (.aload_n 0), 1), (25, .inr (0, 0, 3), 3), (28, .inr (2, 203, 1), 3), (31, .inl (.ireturn), 1)]]
-- MovingNames$Outlook.harmThen()I
set_option maxRecDepth 100000 in
noncomputable def ab_c203 : List (List (Nat × ab_I × Nat)) := [[(0, .inl (.iconst 0), 1), (1, .inl (.istore_n 1), 1), (2, .inl (.iconst 0), 1), (3, .inl (.istore_n 2), 1), (4, .inl (.iload_n 2), 1), (5, .inl (.aload_n 0), 1), (6, .inr (0, 6, 0), 3), (9, .inl (.if_icmp .ge 40), 3), (12, .inl (.aload_n 0), 1), (13, .inr (0, 6, 1), 3)],
  [(16, .inl (.aload_n 0), 1), (17, .inl (.iload_n 2), 1), (18, .inr (2, 32, 2), 3), (21, .inl (.ishr), 1), (22, .inl (.iconst 1), 1), (23, .inl (.iand), 1), (24, .inl (.ifCond .ne 19), 3), (27, .inl (.iload_n 1), 1), (28, .inl (.iload_n 2), 1), (29, .inl (.aload_n 0), 1), (30, .inr (0, 6, 5), 3)],
  [(33, .inl (.iload_n 2), 1), (34, .inr (2, 9, 2), 3), (37, .inl (.isub), 1), (38, .inr (2, 92, 1), 3), (41, .inl (.iadd), 1), (42, .inl (.istore_n 1), 1), (43, .inl (.iinc 2 1), 3), (46, .inl (.goto (-42)), 3)],
  [(49, .inl (.iload_n 1), 1), (50, .inl (.ireturn), 1)]]
-- MovingNamesLaw.leastHarm(LMovingNames;I[J)I
set_option maxRecDepth 100000 in
noncomputable def ab_c204 : List (List (Nat × ab_I × Nat)) := [[(0, .inl (.aload_n 2), 1), (1, .inl (.iconst 0), 1), (2, .inl (.aload_n 0), 1), (3, .inl (.iload_n 1), 1), (4, .inr (2, 205, 2), 3), (7, .inl (.i2l), 1), (8, .inl (.lastore), 1), (9, .inl (.goto 6), 3), (12, .inl (.astore_n 3), 1), (13, .inl (.iconst 1), 1), (14, .inl (.ireturn), 1), (15, .inl (.iconst 0), 1)],
  [(16, .inl (.ireturn), 1)]]
-- MovingNames.leastHarm(I)I
set_option maxRecDepth 100000 in
noncomputable def ab_c205 : List (List (Nat × ab_I × Nat)) := [[(0, .inl (.aload_n 0), 1), (1, .inl (.iload_n 1), 1), (2, .inl (.iconst 1), 1), (3, .inl (.sipush 999), 3), (6, .inr (2, 103, 4), 3), (9, .inl (.aload_n 0), 1), (10, .inr (0, 0, 3), 3), (13, .inl (.aload_n 0), 1), (14, .inr (0, 0, 1), 3)],
  [(17, .inr (2, 17, 2), 3), (20, .inl (.aload_n 0), 1), (21, .inr (0, 0, 3), 3), (24, .inr (2, 30, 1), 3), (27, .inl (.iconst 1), 1), (28, .inl (.istore_n 2), 1), (29, .inl (.aload_n 0), 1), (30, .inr (0, 0, 3), 3)],
  [(33, .inr (2, 203, 1), 3), (36, .inl (.istore_n 3), 1), (37, .inl (.iconst 2), 1), (38, .inl (.istore 4), 2), (40, .inl (.iload 4), 2), (42, .inl (.iload_n 1), 1), (43, .inl (.if_icmp .gt 41), 3), (46, .inl (.iload_n 3), 1), (47, .inl (.ifCond .le 37), 3)],
  [(50, .inl (.aload_n 0), 1), (51, .inr (0, 0, 3), 3), (54, .inr (2, 30, 1), 3), (57, .inl (.aload_n 0), 1), (58, .inr (0, 0, 3), 3), (61, .inr (2, 203, 1), 3)],
  [(64, .inl (.istore 5), 2), (66, .inl (.iload 5), 2), (68, .inl (.iload_n 3), 1), (69, .inl (.if_icmp .ge 9), 3), (72, .inl (.iload 5), 2), (74, .inl (.istore_n 3), 1), (75, .inl (.iload 4), 2), (77, .inl (.istore_n 2), 1), (78, .inl (.iinc 4 1), 3)],
  [(81, .inl (.goto (-41)), 3), (84, .inl (.iload_n 2), 1), (85, .inl (.ireturn), 1)]]
-- MovingNamesLaw.errors(LMovingNames;II[J)I
set_option maxRecDepth 100000 in
noncomputable def ab_c206 : List (List (Nat × ab_I × Nat)) := [[(0, .inl (.aload_n 3), 1), (1, .inl (.iconst 0), 1), (2, .inl (.aload_n 0), 1), (3, .inl (.iload_n 1), 1), (4, .inl (.iload_n 2), 1), (5, .inr (2, 207, 3), 3), (8, .inl (.i2l), 1), (9, .inl (.lastore), 1), (10, .inl (.goto 15), 3), (13, .inl (.astore 4), 2), (15, .inl (.iconst 1), 1)],
  [(16, .inl (.ireturn), 1), (17, .inl (.astore 4), 2), (19, .inl (.iconst 2), 1), (20, .inl (.ireturn), 1), (21, .inl (.astore 4), 2), (23, .inl (.iconst 3), 1), (24, .inl (.ireturn), 1), (25, .inl (.iconst 0), 1), (26, .inl (.ireturn), 1)]]
-- MovingNames.errors(II)I
set_option maxRecDepth 100000 in
noncomputable def ab_c207 : List (List (Nat × ab_I × Nat)) := [[(0, .inl (.aload_n 0), 1), (1, .inl (.iload_n 1), 1), (2, .inr (2, 150, 2), 3), (5, .inl (.astore_n 3), 1), (6, .inl (.aload_n 0), 1), (7, .inl (.aload_n 3), 1), (8, .inl (.iconst (-1)), 1), (9, .inr (2, 208, 3), 3), (12, .inl (.aload_n 0), 1), (13, .inl (.iload_n 2), 1), (14, .inl (.iconst 0), 1), (15, .inl (.iconst 2), 1)],
  [(16, .inr (2, 103, 4), 3), (19, .inl (.aload_n 0), 1), (20, .inr (0, 0, 3), 3), (23, .inl (.aload_n 0), 1), (24, .inr (0, 0, 1), 3), (27, .inr (2, 17, 2), 3), (30, .inl (.aload_n 0), 1), (31, .inr (0, 0, 3), 3)],
  [(34, .inr (2, 26, 1), 3), (37, .inl (.istore 4), 2), (39, .inl (.iconst 0), 1), (40, .inl (.istore 5), 2), (42, .inl (.aload_n 0), 1), (43, .inr (0, 0, 3), 3), (46, .inl (.aload_n 3), 1), (47, .inr (2, 209, 2), 3)],
  [(50, .inl (.istore 6), 2), (52, .inl (.iconst 1), 1), (53, .inl (.istore 7), 2), (55, .inl (.iload 7), 2), (57, .inl (.iload 4), 2), (59, .inl (.if_icmp .ge 47), 3), (62, .inl (.aload_n 0), 1), (63, .inr (0, 0, 3), 3)],
  [(66, .inr (2, 30, 1), 3), (69, .inl (.aload_n 0), 1), (70, .inr (0, 0, 3), 3), (73, .inl (.aload_n 3), 1), (74, .inr (2, 209, 2), 3), (77, .inl (.istore 8), 2), (79, .inl (.iload 8), 2)],
  [(81, .inr (2, 37, 1), 3), (84, .inl (.iload 6), 2), (86, .inr (2, 37, 1), 3), (89, .inl (.if_icmp .ge 11), 3), (92, .inl (.iload 8), 2), (94, .inl (.istore 6), 2)],
  [(96, .inl (.iload 7), 2), (98, .inl (.istore 5), 2), (100, .inl (.iinc 7 1), 3), (103, .inl (.goto (-48)), 3), (106, .inl (.iload_n 2), 1), (107, .inl (.lookupswitch 34 #[(0, 25), (1, 31)]), 25)],
  [],
  [(132, .inl (.iload 6), 2), (134, .inr (2, 37, 1), 3), (137, .inl (.ireturn), 1), (138, .inl (.iload 5), 2), (140, .inl (.ireturn), 1), (141, .inl (.iload 6), 2), (143, .inl (.ireturn), 1)]]
-- MovingNames.needNames(LMovingNames$Tray;I)V
set_option maxRecDepth 100000 in
noncomputable def ab_c208 : List (List (Nat × ab_I × Nat)) := [[(0, .inl (.aload_n 0), 1), (1, .inl (.aload_n 1), 1), (2, .inr (0, 8, 2), 3), (5, .inl (.aload_n 0), 1), (6, .inr (0, 0, 1), 3), (9, .inr (0, 2, 1), 3), (12, .inl (.aload_n 0), 1), (13, .inr (0, 0, 1), 3)],
  [(16, .inr (0, 2, 1), 3), (19, .inr (2, 103, 4), 3), (22, .inl (.iconst 0), 1), (23, .inl (.istore_n 3), 1), (24, .inl (.iload_n 3), 1), (25, .inl (.aload_n 1), 1), (26, .inr (0, 8, 2), 3), (29, .inl (.if_icmp .ge 49), 3)],
  [(32, .inl (.aload_n 1), 1), (33, .inl (.iload_n 3), 1), (34, .inr (2, 152, 2), 3), (37, .inl (.lstore 4), 2), (39, .inl (.lload 4), 2), (41, .inl (.iload_n 2), 1), (42, .inl (.i2l), 1), (43, .inl (.lcmp), 1), (44, .inl (.ifCond .lt 17), 3), (47, .inl (.lload 4), 2)],
  [(49, .inl (.aload_n 0), 1), (50, .inr (0, 0, 1), 3), (53, .inr (0, 2, 1), 3), (56, .inl (.i2l), 1), (57, .inl (.lcmp), 1), (58, .inl (.ifCond .lt 14), 3), (61, .inr (10, 0, 0), 11)],
  [(72, .inl (.iinc 3 1), 3), (75, .inl (.goto (-51)), 3), (78, .inl (.return_), 1)]]
-- MovingNames$Outlook.streetsUnlike(LMovingNames$Tray;)I
set_option maxRecDepth 100000 in
noncomputable def ab_c209 : List (List (Nat × ab_I × Nat)) := [[(0, .inl (.iconst 0), 1), (1, .inl (.istore_n 2), 1), (2, .inl (.iconst 0), 1), (3, .inl (.istore_n 3), 1), (4, .inl (.iload_n 3), 1), (5, .inl (.aload_n 0), 1), (6, .inr (0, 6, 0), 3), (9, .inl (.if_icmp .ge 43), 3), (12, .inl (.aload_n 1), 1), (13, .inl (.iload_n 3), 1), (14, .inr (2, 152, 2), 3)],
  [(17, .inl (.lstore 4), 2), (19, .inl (.lload 4), 2), (21, .inr (9, 0, (-1)), 3), (24, .inl (.lcmp), 1), (25, .inl (.ifCond .eq 21), 3), (28, .inl (.lload 4), 2), (30, .inl (.aload_n 0), 1), (31, .inl (.iload_n 3), 1)],
  [(32, .inr (2, 32, 2), 3), (35, .inl (.i2l), 1), (36, .inl (.lcmp), 1), (37, .inl (.ifCond .eq 9), 3), (40, .inl (.iload_n 2), 1), (41, .inl (.iconst 1), 1), (42, .inl (.iload_n 3), 1), (43, .inl (.ishl), 1), (44, .inl (.ior), 1), (45, .inl (.istore_n 2), 1), (46, .inl (.iinc 3 1), 3)],
  [(49, .inl (.goto (-45)), 3), (52, .inl (.iload_n 2), 1), (53, .inl (.ireturn), 1)]]
-- MovingNamesLaw.ink(LMovingNames;I[J)I
set_option maxRecDepth 100000 in
noncomputable def ab_c210 : List (List (Nat × ab_I × Nat)) := [[(0, .inl (.aload_n 2), 1), (1, .inl (.iconst 0), 1), (2, .inl (.aload_n 0), 1), (3, .inl (.iload_n 1), 1), (4, .inr (2, 211, 2), 3), (7, .inl (.i2l), 1), (8, .inl (.lastore), 1), (9, .inl (.goto 12), 3), (12, .inl (.astore_n 3), 1), (13, .inl (.iconst 1), 1), (14, .inl (.ireturn), 1), (15, .inl (.astore_n 3), 1)],
  [(16, .inl (.iconst 2), 1), (17, .inl (.ireturn), 1), (18, .inl (.astore_n 3), 1), (19, .inl (.iconst 3), 1), (20, .inl (.ireturn), 1), (21, .inl (.iconst 0), 1), (22, .inl (.ireturn), 1)]]
-- MovingNames.ink(I)I
set_option maxRecDepth 100000 in
noncomputable def ab_c211 : List (List (Nat × ab_I × Nat)) := [[(0, .inl (.aload_n 0), 1), (1, .inl (.iload_n 1), 1), (2, .inr (2, 150, 2), 3), (5, .inl (.astore_n 2), 1), (6, .inl (.aload_n 0), 1), (7, .inl (.aload_n 2), 1), (8, .inl (.iconst 0), 1), (9, .inr (2, 208, 3), 3), (12, .inl (.iconst 0), 1), (13, .inl (.istore_n 3), 1), (14, .inl (.iconst 0), 1), (15, .inl (.istore 4), 2)],
  [(17, .inl (.iload 4), 2), (19, .inl (.aload_n 0), 1), (20, .inr (0, 0, 1), 3), (23, .inr (0, 2, 1), 3), (26, .inl (.if_icmp .ge 35), 3), (29, .inl (.aload_n 2), 1), (30, .inl (.iload 4), 2)],
  [(32, .inr (2, 152, 2), 3), (35, .inl (.aload_n 0), 1), (36, .inr (0, 0, 1), 3), (39, .inr (0, 2, 7), 3), (42, .inl (.iload 4), 2), (44, .inr (2, 9, 2), 3), (47, .inl (.i2l), 1)],
  [(48, .inl (.lcmp), 1), (49, .inl (.ifCond .eq 6), 3), (52, .inl (.iinc 3 1), 3), (55, .inl (.iinc 4 1), 3), (58, .inl (.goto (-41)), 3), (61, .inl (.iload_n 3), 1), (62, .inl (.ireturn), 1)]]
-- MovingNamesLaw.changes(LMovingNames;I[J)I
set_option maxRecDepth 100000 in
noncomputable def ab_c212 : List (List (Nat × ab_I × Nat)) := [[(0, .inl (.aload_n 2), 1), (1, .inl (.iconst 0), 1), (2, .inl (.aload_n 0), 1), (3, .inl (.iload_n 1), 1), (4, .inr (2, 213, 2), 3), (7, .inl (.i2l), 1), (8, .inl (.lastore), 1), (9, .inl (.goto 12), 3), (12, .inl (.astore_n 3), 1), (13, .inl (.iconst 1), 1), (14, .inl (.ireturn), 1), (15, .inl (.astore_n 3), 1)],
  [(16, .inl (.iconst 2), 1), (17, .inl (.ireturn), 1), (18, .inl (.astore_n 3), 1), (19, .inl (.iconst 3), 1), (20, .inl (.ireturn), 1), (21, .inl (.iconst 0), 1), (22, .inl (.ireturn), 1)]]
-- MovingNames.changes(I)I
set_option maxRecDepth 100000 in
noncomputable def ab_c213 : List (List (Nat × ab_I × Nat)) := [[(0, .inl (.aload_n 0), 1), (1, .inl (.iload_n 1), 1), (2, .inr (2, 150, 2), 3), (5, .inl (.astore_n 2), 1), (6, .inl (.aload_n 0), 1), (7, .inl (.aload_n 2), 1), (8, .inl (.iconst 0), 1), (9, .inr (2, 208, 3), 3), (12, .inl (.aload_n 0), 1), (13, .inr (0, 0, 1), 3)],
  [(16, .inr (2, 8, 1), 3), (19, .inl (.ifCond .eq 6), 3), (22, .inl (.bipush (-2)), 2), (24, .inl (.ireturn), 1), (25, .inl (.aload_n 0), 1), (26, .inr (0, 0, 1), 3), (29, .inl (.aload_n 2), 1), (30, .inr (2, 214, 2), 3)],
  [(33, .inl (.ireturn), 1)]]
-- MovingNames$Town.fewestChanges(LMovingNames$Tray;)I
set_option maxRecDepth 100000 in
noncomputable def ab_c214 : List (List (Nat × ab_I × Nat)) := [[(0, .inl (.iconst 1), 1), (1, .inl (.aload_n 0), 1), (2, .inr (0, 2, 1), 3), (5, .inl (.ishl), 1), (6, .inl (.iconst 1), 1), (7, .inl (.isub), 1), (8, .inl (.istore_n 2), 1), (9, .inl (.iconst 0), 1), (10, .inl (.istore_n 3), 1), (11, .inl (.iload_n 3), 1), (12, .inl (.aload_n 0), 1), (13, .inr (0, 2, 1), 3)],
  [(16, .inl (.if_icmp .ge 22), 3), (19, .inl (.iload_n 2), 1), (20, .inl (.iconst 1), 1), (21, .inl (.aload_n 1), 1), (22, .inl (.iload_n 3), 1), (23, .inr (2, 152, 2), 3), (26, .inl (.l2i), 1), (27, .inl (.ishl), 1), (28, .inl (.iconst (-1)), 1), (29, .inl (.ixor), 1), (30, .inl (.iand), 1), (31, .inl (.istore_n 2), 1)],
  [(32, .inl (.iinc 3 1), 3), (35, .inl (.goto (-24)), 3), (38, .inl (.iload_n 2), 1), (39, .inl (.ifCond .eq 5), 3), (42, .inl (.iconst (-1)), 1), (43, .inl (.ireturn), 1), (44, .inl (.aload_n 0), 1), (45, .inr (0, 2, 1), 3)],
  [(48, .inl (.istore_n 3), 1), (49, .inl (.iconst 0), 1), (50, .inl (.istore 4), 2), (52, .inl (.iconst 0), 1), (53, .inl (.istore 5), 2), (55, .inl (.iload 5), 2), (57, .inl (.aload_n 0), 1), (58, .inr (0, 2, 1), 3), (61, .inl (.if_icmp .ge 75), 3)],
  [(64, .inl (.iload_n 3), 1), (65, .inl (.iconst 1), 1), (66, .inl (.iload 4), 2), (68, .inl (.iload 5), 2), (70, .inl (.ishr), 1), (71, .inl (.iconst 1), 1), (72, .inl (.iand), 1), (73, .inl (.isub), 1), (74, .inl (.isub), 1), (75, .inl (.istore_n 3), 1), (76, .inl (.iload 5), 2), (78, .inl (.istore 6), 2)],
  [(80, .inl (.iconst 0), 1), (81, .inl (.istore 7), 2), (83, .inl (.iload 7), 2), (85, .inl (.aload_n 0), 1), (86, .inr (0, 2, 1), 3), (89, .inl (.if_icmp .ge 41), 3), (92, .inl (.iload 4), 2), (94, .inl (.iload 6), 2)],
  [(96, .inl (.ishr), 1), (97, .inl (.iconst 1), 1), (98, .inl (.iand), 1), (99, .inl (.ifCond .ne 31), 3), (102, .inl (.iload 4), 2), (104, .inl (.iconst 1), 1), (105, .inl (.iload 6), 2), (107, .inl (.ishl), 1), (108, .inl (.ior), 1), (109, .inl (.istore 4), 2), (111, .inl (.aload_n 0), 1)],
  [(112, .inl (.aload_n 1), 1), (113, .inl (.iload 6), 2), (115, .inr (2, 152, 2), 3), (118, .inl (.l2i), 1), (119, .inr (2, 215, 2), 3), (122, .inl (.istore 6), 2), (124, .inl (.iinc 7 1), 3), (127, .inl (.goto (-44)), 3)],
  [(130, .inl (.iinc 5 1), 3), (133, .inl (.goto (-78)), 3), (136, .inl (.iload_n 3), 1), (137, .inl (.ireturn), 1)]]
-- MovingNames$Town.streetBearing(I)I
set_option maxRecDepth 100000 in
noncomputable def ab_c215 : List (List (Nat × ab_I × Nat)) := [[(0, .inl (.iconst 0), 1), (1, .inl (.istore_n 2), 1), (2, .inl (.iload_n 2), 1), (3, .inl (.aload_n 0), 1), (4, .inr (0, 2, 1), 3), (7, .inl (.if_icmp .ge 23), 3), (10, .inl (.aload_n 0), 1), (11, .inr (0, 2, 7), 3), (14, .inl (.iload_n 2), 1), (15, .inr (2, 9, 2), 3)],
  [(18, .inl (.iload_n 1), 1), (19, .inl (.if_icmp .ne 5), 3), (22, .inl (.iload_n 2), 1), (23, .inl (.ireturn), 1), (24, .inl (.iinc 2 1), 3), (27, .inl (.goto (-25)), 3), (30, .inl (.iconst 0), 1), (31, .inl (.ireturn), 1)]]
-- MovingNamesLaw.tray(LMovingNames;III)I
set_option maxRecDepth 100000 in
noncomputable def ab_c216 : List (List (Nat × ab_I × Nat)) := [[(0, .inl (.aload_n 0), 1), (1, .inl (.iload_n 1), 1), (2, .inl (.iload_n 2), 1), (3, .inl (.iload_n 3), 1), (4, .inr (2, 217, 4), 3), (7, .inl (.goto 11), 3), (10, .inl (.astore 4), 2), (12, .inl (.iconst 1), 1), (13, .inl (.ireturn), 1), (14, .inl (.astore 4), 2)],
  [(16, .inl (.iconst 2), 1), (17, .inl (.ireturn), 1), (18, .inl (.iconst 0), 1), (19, .inl (.ireturn), 1)]]
-- MovingNames.tray(III)V
set_option maxRecDepth 100000 in
noncomputable def ab_c217 : List (List (Nat × ab_I × Nat)) := [[(0, .inl (.iload_n 1), 1), (1, .inl (.ifCond .lt 12), 3), (4, .inl (.iload_n 1), 1), (5, .inl (.aload_n 0), 1), (6, .inr (0, 0, 5), 3), (9, .inl (.arraylength), 1), (10, .inl (.if_icmp .lt 14), 3), (13, .inr (10, 1, 0), 11)],
  [(24, .inl (.aload_n 0), 1), (25, .inl (.iload_n 2), 1), (26, .inl (.iconst 0), 1), (27, .inl (.iconst 3), 1), (28, .inr (2, 103, 4), 3), (31, .inl (.aload_n 0), 1)],
  [(32, .inl (.iload_n 3), 1), (33, .inl (.iconst 0), 1), (34, .inl (.bipush 30), 2), (36, .inr (2, 103, 4), 3), (39, .inl (.aload_n 0), 1), (40, .inr (0, 0, 5), 3), (43, .inl (.iload_n 1), 1), (44, .inl (.aaload), 1), (45, .inl (.astore 4), 2), (47, .inl (.aload 4), 2)],
  [(49, .inl (.ifnonnull 20), 3), (52, .inr (11, 8, 0), 7), (59, .inl (.astore 4), 2), (61, .inl (.aload_n 0), 1), (62, .inr (0, 0, 5), 3)],
  [(65, .inl (.iload_n 1), 1), (66, .inl (.aload 4), 2), (68, .inl (.aastore), 1), (69, .inl (.aload 4), 2), (71, .inl (.iload_n 2), 1), (72, .inl (.iload_n 3), 1), (73, .inr (2, 218, 3), 3), (76, .inl (.return_), 1)]]
-- MovingNames$Tray.empty(II)V
set_option maxRecDepth 100000 in
noncomputable def ab_c218 : List (List (Nat × ab_I × Nat)) := [[(0, .inl (.aload_n 0), 1), (1, .inl (.iload_n 1), 1), (2, .inr (1, 8, 1), 3), (5, .inl (.aload_n 0), 1), (6, .inl (.iload_n 2), 1), (7, .inl (.aload_n 0), 1), (8, .inr (0, 8, 0), 3), (11, .inl (.arraylength), 1), (12, .inr (2, 19, 2), 3), (15, .inr (1, 8, 2), 3)],
  [(18, .inl (.iconst 0), 1), (19, .inl (.istore_n 3), 1), (20, .inl (.iload_n 3), 1), (21, .inl (.aload_n 0), 1), (22, .inr (0, 8, 0), 3), (25, .inl (.arraylength), 1), (26, .inl (.if_icmp .ge 16), 3), (29, .inl (.aload_n 0), 1), (30, .inr (0, 8, 0), 3)],
  [(33, .inl (.iload_n 3), 1), (34, .inl (.lconst 0), 1), (35, .inl (.lastore), 1), (36, .inl (.iinc 3 1), 3), (39, .inl (.goto (-19)), 3), (42, .inl (.return_), 1)]]
-- MovingNamesLaw.write(LMovingNames;IIJ[J)I
set_option maxRecDepth 100000 in
noncomputable def ab_c219 : List (List (Nat × ab_I × Nat)) := [[(0, .inl (.aload 5), 2), (2, .inl (.iconst 0), 1), (3, .inl (.aload_n 0), 1), (4, .inl (.iload_n 1), 1), (5, .inl (.iload_n 2), 1), (6, .inl (.lload_n 3), 1), (7, .inr (2, 220, 4), 3), (10, .inl (.lastore), 1), (11, .inl (.goto 15), 3), (14, .inl (.astore 6), 2)],
  [(16, .inl (.iconst 1), 1), (17, .inl (.ireturn), 1), (18, .inl (.astore 6), 2), (20, .inl (.iconst 2), 1), (21, .inl (.ireturn), 1), (22, .inl (.astore 6), 2), (24, .inl (.iconst 3), 1), (25, .inl (.ireturn), 1), (26, .inl (.iconst 0), 1), (27, .inl (.ireturn), 1)]]
-- MovingNames.write(IIJ)J
set_option maxRecDepth 100000 in
noncomputable def ab_c220 : List (List (Nat × ab_I × Nat)) := [[(0, .inl (.aload_n 0), 1), (1, .inl (.iload_n 1), 1), (2, .inr (2, 150, 2), 3), (5, .inl (.astore 5), 2), (7, .inl (.iload_n 2), 1), (8, .inl (.ifCond .lt 12), 3), (11, .inl (.iload_n 2), 1), (12, .inl (.aload 5), 2), (14, .inr (0, 8, 2), 3)],
  [(17, .inl (.if_icmp .lt 14), 3), (20, .inr (10, 3, 0), 11), (31, .inl (.aload 5), 2)],
  [(33, .inl (.iload_n 2), 1), (34, .inl (.lload_n 3), 1), (35, .inr (2, 221, 3), 3), (38, .inl (.aload 5), 2), (40, .inl (.iload_n 2), 1), (41, .inr (2, 152, 2), 3), (44, .inl (.lreturn), 1)]]
-- MovingNames$Tray.set(IJ)V
set_option maxRecDepth 100000 in
noncomputable def ab_c221 : List (List (Nat × ab_I × Nat)) := [[(0, .inl (.iload_n 1), 1), (1, .inl (.ifCond .lt 31), 3), (4, .inl (.iload_n 1), 1), (5, .inl (.aload_n 0), 1), (6, .inr (0, 8, 2), 3), (9, .inl (.if_icmp .ge 23), 3), (12, .inl (.iload_n 1), 1), (13, .inl (.aload_n 0), 1), (14, .inr (0, 8, 0), 3)],
  [(17, .inl (.arraylength), 1), (18, .inl (.if_icmp .ge 14), 3), (21, .inl (.aload_n 0), 1), (22, .inr (0, 8, 0), 3), (25, .inl (.iload_n 1), 1), (26, .inl (.aload_n 0), 1), (27, .inl (.lload_n 2), 1), (28, .inr (2, 222, 2), 3), (31, .inl (.lastore), 1)],
  [(32, .inl (.return_), 1)]]
-- MovingNames$Tray.cut(J)J
set_option maxRecDepth 100000 in
noncomputable def ab_c222 : List (List (Nat × ab_I × Nat)) := [[(0, .inl (.aload_n 0), 1), (1, .inr (0, 8, 1), 3), (4, .inl (.tableswitch 42 0 2 #[28, 33, 38]), 28)],
  [],
  [(32, .inl (.lload_n 1), 1), (33, .inl (.l2i), 1), (34, .inl (.i2b), 1), (35, .inl (.i2l), 1), (36, .inl (.lreturn), 1), (37, .inl (.lload_n 1), 1), (38, .inl (.l2i), 1), (39, .inl (.i2s), 1), (40, .inl (.i2l), 1), (41, .inl (.lreturn), 1), (42, .inl (.lload_n 1), 1), (43, .inl (.l2i), 1), (44, .inl (.i2l), 1), (45, .inl (.lreturn), 1), (46, .inl (.lload_n 1), 1), (47, .inl (.lreturn), 1)]]
-- MovingNamesLaw.copy(LMovingNames;I[J)I
set_option maxRecDepth 100000 in
noncomputable def ab_c223 : List (List (Nat × ab_I × Nat)) := [[(0, .inl (.aload_n 2), 1), (1, .inl (.iconst 0), 1), (2, .inl (.aload_n 0), 1), (3, .inl (.iload_n 1), 1), (4, .inr (2, 224, 2), 3), (7, .inl (.i2l), 1), (8, .inl (.lastore), 1), (9, .inl (.goto 9), 3), (12, .inl (.astore_n 3), 1), (13, .inl (.iconst 1), 1), (14, .inl (.ireturn), 1), (15, .inl (.astore_n 3), 1)],
  [(16, .inl (.iconst 2), 1), (17, .inl (.ireturn), 1), (18, .inl (.iconst 0), 1), (19, .inl (.ireturn), 1)]]
-- MovingNames.copy(I)I
set_option maxRecDepth 100000 in
noncomputable def ab_c224 : List (List (Nat × ab_I × Nat)) := [[(0, .inl (.aload_n 0), 1), (1, .inl (.iload_n 1), 1), (2, .inr (2, 150, 2), 3), (5, .inl (.astore_n 2), 1), (6, .inl (.aload_n 2), 1), (7, .inr (0, 8, 2), 3), (10, .inl (.aload_n 0), 1), (11, .inr (0, 0, 1), 3), (14, .inr (0, 2, 1), 3)],
  [(17, .inr (2, 19, 2), 3), (20, .inl (.istore_n 3), 1), (21, .inl (.iconst 0), 1), (22, .inl (.istore 4), 2), (24, .inl (.iload 4), 2), (26, .inl (.iload_n 3), 1), (27, .inl (.if_icmp .ge 28), 3), (30, .inl (.aload_n 2), 1), (31, .inl (.iload 4), 2)],
  [(33, .inl (.aload_n 0), 1), (34, .inr (0, 0, 1), 3), (37, .inr (0, 2, 7), 3), (40, .inl (.iload 4), 2), (42, .inr (2, 9, 2), 3), (45, .inl (.i2l), 1), (46, .inr (2, 221, 3), 3)],
  [(49, .inl (.iinc 4 1), 3), (52, .inl (.goto (-28)), 3), (55, .inl (.iload_n 3), 1), (56, .inl (.ireturn), 1)]]
-- MovingNamesLaw.image(LMovingNames;I)I
set_option maxRecDepth 100000 in
noncomputable def ab_c225 : List (List (Nat × ab_I × Nat)) := [[(0, .inl (.aload_n 0), 1), (1, .inl (.iload_n 1), 1), (2, .inr (2, 226, 2), 3), (5, .inl (.goto 6), 3), (8, .inl (.astore_n 2), 1), (9, .inl (.iconst 1), 1), (10, .inl (.ireturn), 1), (11, .inl (.iconst 0), 1), (12, .inl (.ireturn), 1)]]
-- MovingNames.image(I)V
set_option maxRecDepth 100000 in
noncomputable def ab_c226 : List (List (Nat × ab_I × Nat)) := [[(0, .inl (.iload_n 1), 1), (1, .inl (.ifCond .lt 12), 3), (4, .inl (.iload_n 1), 1), (5, .inl (.aload_n 0), 1), (6, .inr (0, 0, 6), 3), (9, .inl (.arraylength), 1), (10, .inl (.if_icmp .lt 14), 3), (13, .inr (10, 1, 0), 11)],
  [(24, .inl (.aload_n 0), 1), (25, .inr (0, 0, 6), 3), (28, .inl (.iload_n 1), 1), (29, .inl (.aaload), 1), (30, .inl (.astore_n 2), 1), (31, .inl (.aload_n 2), 1)],
  [(32, .inl (.ifnonnull 18), 3), (35, .inr (11, 2, 0), 7), (42, .inl (.astore_n 2), 1), (43, .inl (.aload_n 0), 1), (44, .inr (0, 0, 6), 3), (47, .inl (.iload_n 1), 1)],
  [(48, .inl (.aload_n 2), 1), (49, .inl (.aastore), 1), (50, .inl (.aload_n 2), 1), (51, .inl (.aload_n 0), 1), (52, .inr (0, 0, 1), 3), (55, .inr (2, 80, 2), 3), (58, .inl (.return_), 1)]]
-- MovingNamesLaw.restore(LMovingNames;I)I
set_option maxRecDepth 100000 in
noncomputable def ab_c227 : List (List (Nat × ab_I × Nat)) := [[(0, .inl (.aload_n 0), 1), (1, .inl (.iload_n 1), 1), (2, .inr (2, 228, 2), 3), (5, .inl (.goto 9), 3), (8, .inl (.astore_n 2), 1), (9, .inl (.iconst 1), 1), (10, .inl (.ireturn), 1), (11, .inl (.astore_n 2), 1), (12, .inl (.iconst 2), 1), (13, .inl (.ireturn), 1), (14, .inl (.iconst 0), 1), (15, .inl (.ireturn), 1)]]
-- MovingNames.restore(I)V
set_option maxRecDepth 100000 in
noncomputable def ab_c228 : List (List (Nat × ab_I × Nat)) := [[(0, .inl (.iload_n 1), 1), (1, .inl (.ifCond .lt 12), 3), (4, .inl (.iload_n 1), 1), (5, .inl (.aload_n 0), 1), (6, .inr (0, 0, 6), 3), (9, .inl (.arraylength), 1), (10, .inl (.if_icmp .lt 14), 3), (13, .inr (10, 1, 0), 11)],
  [(24, .inl (.aload_n 0), 1), (25, .inr (0, 0, 6), 3), (28, .inl (.iload_n 1), 1), (29, .inl (.aaload), 1), (30, .inl (.astore_n 2), 1), (31, .inl (.aload_n 2), 1)],
  [(32, .inl (.ifnonnull 14), 3), (35, .inr (10, 2, 0), 11), (46, .inl (.aload_n 0), 1), (47, .inr (0, 0, 1), 3)],
  [(50, .inl (.aload_n 2), 1), (51, .inr (2, 80, 2), 3), (54, .inl (.return_), 1)]]
-- MovingNamesModel.thrown()I
set_option maxRecDepth 100000 in
noncomputable def ab_c229 : List (List (Nat × ab_I × Nat)) := [[(0, .inl (.aload_n 0), 1), (1, .inr (0, 9, 4), 3), (4, .inl (.ireturn), 1)]]
-- MovingNamesModel.feed(IIIII)I
set_option maxRecDepth 100000 in
noncomputable def ab_c230 : List (List (Nat × ab_I × Nat)) := [[(0, .inl (.aload_n 0), 1), (1, .inl (.iconst 0), 1), (2, .inr (1, 9, 4), 3), (5, .inl (.aload_n 0), 1), (6, .inr (0, 9, 6), 3), (9, .inl (.bipush 20), 2), (11, .inl (.iadd), 1), (12, .inl (.sipush 900), 3), (15, .inl (.if_icmp .le 5), 3)],
  [(18, .inl (.iconst (-1)), 1), (19, .inl (.ireturn), 1), (20, .inl (.iconst 0), 1), (21, .inl (.istore 6), 2), (23, .inl (.iload 6), 2), (25, .inl (.bipush 20), 2), (27, .inl (.if_icmp .ge 93), 3), (30, .inl (.iload 6), 2)],
  [(32, .inl (.iconst 4), 1), (33, .inl (.if_icmp .ge 7), 3), (36, .inl (.iload_n 1), 1), (37, .inl (.goto 39), 3), (40, .inl (.iload 6), 2), (42, .inl (.bipush 8), 2), (44, .inl (.if_icmp .ge 7), 3), (47, .inl (.iload_n 2), 1)],
  [(48, .inl (.goto 28), 3), (51, .inl (.iload 6), 2), (53, .inl (.bipush 12), 2), (55, .inl (.if_icmp .ge 7), 3), (58, .inl (.iload_n 3), 1), (59, .inl (.goto 17), 3), (62, .inl (.iload 6), 2)],
  [(64, .inl (.bipush 16), 2), (66, .inl (.if_icmp .ge 8), 3), (69, .inl (.iload 4), 2), (71, .inl (.goto 5), 3), (74, .inl (.iload 5), 2), (76, .inl (.istore 7), 2), (78, .inl (.aload_n 0), 1), (79, .inr (0, 9, 5), 3)],
  [(82, .inl (.aload_n 0), 1), (83, .inr (0, 9, 6), 3), (86, .inl (.iload 7), 2), (88, .inl (.bipush 24), 2), (90, .inl (.bipush 8), 2), (92, .inl (.iload 6), 2), (94, .inl (.iconst 3), 1), (95, .inl (.iand), 1)],
  [(96, .inl (.imul), 1), (97, .inl (.isub), 1), (98, .inl (.iushr), 1), (99, .inl (.sipush 255), 3), (102, .inl (.iand), 1), (103, .inl (.iastore), 1), (104, .inl (.aload_n 0), 1), (105, .inl (.dup), 1), (106, .inr (0, 9, 6), 3), (109, .inl (.iconst 1), 1), (110, .inl (.iadd), 1), (111, .inr (1, 9, 6), 3)],
  [(114, .inl (.iinc 6 1), 3), (117, .inl (.goto (-94)), 3), (120, .inl (.aload_n 0), 1), (121, .inr (0, 9, 6), 3), (124, .inl (.ireturn), 1)]]
-- MovingNamesModel.town(I)I
set_option maxRecDepth 100000 in
noncomputable def ab_c231 : List (List (Nat × ab_I × Nat)) := [[(0, .inl (.aload_n 0), 1), (1, .inl (.iconst 0), 1), (2, .inr (1, 9, 4), 3), (5, .inl (.iload_n 1), 1), (6, .inl (.i2l), 1), (7, .inl (.lconst 0), 1), (8, .inl (.aload_n 0), 1), (9, .inr (0, 9, 6), 3), (12, .inl (.i2l), 1), (13, .inr (2, 232, 3), 3)],
  [(16, .inl (.ifCond .ne 9), 3), (19, .inl (.aload_n 0), 1), (20, .inl (.iconst 1), 1), (21, .inr (2, 233, 2), 3), (24, .inl (.ireturn), 1), (25, .inl (.aload_n 0), 1), (26, .inl (.iload_n 1), 1), (27, .inr (1, 9, 7), 3), (30, .inl (.aload_n 0), 1), (31, .inl (.iconst 0), 1)],
  [(32, .inr (1, 9, 6), 3), (35, .inl (.aload_n 0), 1), (36, .inl (.iconst 0), 1), (37, .inr (1, 9, 8), 3), (40, .inl (.aload_n 0), 1), (41, .inl (.iconst 0), 1), (42, .inr (1, 9, 12), 3), (45, .inl (.aload_n 0), 1), (46, .inl (.iconst 0), 1), (47, .inr (1, 9, 16), 3)],
  [(50, .inl (.iconst 0), 1), (51, .inl (.istore_n 2), 1), (52, .inl (.iload_n 2), 1), (53, .inl (.sipush 2300), 3), (56, .inl (.if_icmp .ge 16), 3), (59, .inl (.aload_n 0), 1), (60, .inr (0, 9, 1), 3), (63, .inl (.iload_n 2), 1)],
  [(64, .inl (.iconst 0), 1), (65, .inl (.iastore), 1), (66, .inl (.iinc 2 1), 3), (69, .inl (.goto (-17)), 3), (72, .inl (.aload_n 0), 1), (73, .inr (0, 9, 1), 3), (76, .inl (.iconst 4), 1), (77, .inl (.bipush 9), 2), (79, .inl (.iastore), 1)],
  [(80, .inl (.aload_n 0), 1), (81, .inr (2, 234, 1), 3), (84, .inl (.aload_n 0), 1), (85, .inr (7, 1, 0), 2), (87, .inr (2, 239, 2), 3), (90, .inl (.aload_n 0), 1), (91, .inr (0, 9, 1), 3), (94, .inl (.iconst 1), 1), (95, .inl (.aload_n 0), 1)],
  [(96, .inl (.iconst 1), 1), (97, .inl (.bipush 20), 2), (99, .inr (2, 243, 3), 3), (102, .inl (.iastore), 1), (103, .inl (.iconst 0), 1), (104, .inl (.istore_n 2), 1), (105, .inl (.iload_n 2), 1), (106, .inl (.bipush 20), 2), (108, .inl (.if_icmp .ge 19), 3), (111, .inl (.aload_n 0), 1)],
  [(112, .inr (0, 9, 1), 3), (115, .inl (.bipush 11), 2), (117, .inl (.iload_n 2), 1), (118, .inl (.iadd), 1), (119, .inl (.iload_n 2), 1), (120, .inl (.iastore), 1), (121, .inl (.iinc 2 1), 3), (124, .inl (.goto (-19)), 3), (127, .inl (.aload_n 0), 1)],
  [(128, .inr (2, 244, 1), 3), (131, .inl (.aload_n 0), 1), (132, .inr (0, 9, 12), 3), (135, .inl (.ifCond .ne 17), 3), (138, .inl (.aload_n 0), 1), (139, .inr (0, 9, 10), 3), (142, .inl (.ifCond .eq 10), 3)],
  [(145, .inl (.aload_n 0), 1), (146, .inr (2, 246, 1), 3), (149, .inl (.goto (-18)), 3), (152, .inl (.aload_n 0), 1), (153, .inl (.aload_n 0), 1), (154, .inr (0, 9, 12), 3), (157, .inr (1, 9, 14), 3)],
  [(160, .inl (.aload_n 0), 1), (161, .inl (.aload_n 0), 1), (162, .inr (0, 9, 12), 3), (165, .inl (.ifCond .ne 7), 3), (168, .inl (.iconst (-1)), 1), (169, .inl (.goto 7), 3), (172, .inl (.aload_n 0), 1), (173, .inr (0, 9, 13), 3)],
  [(176, .inr (1, 9, 15), 3), (179, .inl (.aload_n 0), 1), (180, .inr (0, 9, 12), 3), (183, .inl (.ifCond .eq 11), 3), (186, .inl (.bipush (-10)), 2), (188, .inl (.aload_n 0), 1), (189, .inr (0, 9, 12), 3)],
  [(192, .inl (.isub), 1), (193, .inl (.ireturn), 1), (194, .inl (.iconst 0), 1), (195, .inl (.istore_n 2), 1), (196, .inl (.iload_n 2), 1), (197, .inl (.sipush 2300), 3), (200, .inl (.if_icmp .ge 21), 3), (203, .inl (.aload_n 0), 1), (204, .inr (0, 9, 0), 3), (207, .inl (.iload_n 2), 1)],
  [(208, .inl (.aload_n 0), 1), (209, .inr (0, 9, 1), 3), (212, .inl (.iload_n 2), 1), (213, .inl (.iaload), 1), (214, .inl (.iastore), 1), (215, .inl (.iinc 2 1), 3), (218, .inl (.goto (-22)), 3), (221, .inl (.aload_n 0), 1), (222, .inr (0, 9, 0), 3)],
  [(225, .inl (.iconst 0), 1), (226, .inl (.iaload), 1), (227, .inl (.ireturn), 1)]]
-- MovingNamesModel.within(JJJ)Z
set_option maxRecDepth 100000 in
noncomputable def ab_c232 : List (List (Nat × ab_I × Nat)) := [[(0, .inl (.lload_n 0), 1), (1, .inl (.lload_n 2), 1), (2, .inl (.lcmp), 1), (3, .inl (.ifCond .lt 14), 3), (6, .inl (.lload_n 0), 1), (7, .inl (.lload 4), 2), (9, .inl (.lcmp), 1), (10, .inl (.ifCond .gt 7), 3), (13, .inl (.iconst 1), 1), (14, .inl (.goto 4), 3)],
  [(17, .inl (.iconst 0), 1), (18, .inl (.ireturn), 1)]]
-- MovingNamesModel.fails(I)I
set_option maxRecDepth 100000 in
noncomputable def ab_c233 : List (List (Nat × ab_I × Nat)) := [[(0, .inl (.aload_n 0), 1), (1, .inl (.iload_n 1), 1), (2, .inr (1, 9, 4), 3), (5, .inl (.iconst 0), 1), (6, .inl (.ireturn), 1)]]
-- MovingNamesModel.readsOn()V
set_option maxRecDepth 100000 in
noncomputable def ab_c234 : List (List (Nat × ab_I × Nat)) := [[(0, .inl (.aload_n 0), 1), (1, .inr (0, 9, 8), 3), (4, .inl (.aload_n 0), 1), (5, .inr (0, 9, 7), 3), (8, .inl (.if_icmp .ge 44), 3), (11, .inl (.aload_n 0), 1), (12, .inr (0, 9, 5), 3), (15, .inl (.aload_n 0), 1)],
  [(16, .inr (0, 9, 8), 3), (19, .inl (.iaload), 1), (20, .inl (.bipush 32), 2), (22, .inl (.if_icmp .eq 17), 3), (25, .inl (.aload_n 0), 1), (26, .inr (0, 9, 5), 3), (29, .inl (.aload_n 0), 1), (30, .inr (0, 9, 8), 3)],
  [(33, .inl (.iaload), 1), (34, .inl (.bipush 10), 2), (36, .inl (.if_icmp .ne 16), 3), (39, .inl (.aload_n 0), 1), (40, .inl (.dup), 1), (41, .inr (0, 9, 8), 3), (44, .inl (.iconst 1), 1), (45, .inl (.iadd), 1), (46, .inr (1, 9, 8), 3)],
  [(49, .inl (.goto (-49)), 3), (52, .inl (.aload_n 0), 1), (53, .inl (.aload_n 0), 1), (54, .inr (0, 9, 8), 3), (57, .inr (1, 9, 9), 3), (60, .inl (.aload_n 0), 1), (61, .inr (0, 9, 8), 3)],
  [(64, .inl (.aload_n 0), 1), (65, .inr (0, 9, 7), 3), (68, .inl (.if_icmp .lt 9), 3), (71, .inl (.aload_n 0), 1), (72, .inl (.iconst 0), 1), (73, .inr (1, 9, 10), 3), (76, .inl (.return_), 1), (77, .inl (.aload_n 0), 1), (78, .inr (0, 9, 5), 3)],
  [(81, .inl (.aload_n 0), 1), (82, .inr (0, 9, 8), 3), (85, .inl (.iaload), 1), (86, .inl (.istore_n 1), 1), (87, .inl (.iload_n 1), 1), (88, .inr (2, 235, 1), 3), (91, .inl (.ifCond .eq 38), 3), (94, .inl (.aload_n 0), 1), (95, .inl (.aload_n 0), 1)],
  [(96, .inr (0, 9, 8), 3), (99, .inr (2, 236, 2), 3), (102, .inr (2, 235, 1), 3), (105, .inl (.ifCond .eq 16), 3), (108, .inl (.aload_n 0), 1), (109, .inl (.dup), 1), (110, .inr (0, 9, 8), 3)],
  [(113, .inl (.iconst 1), 1), (114, .inl (.iadd), 1), (115, .inr (1, 9, 8), 3), (118, .inl (.goto (-24)), 3), (121, .inl (.aload_n 0), 1), (122, .inl (.iconst 1), 1), (123, .inr (1, 9, 10), 3), (126, .inl (.goto 137), 3)],
  [(129, .inl (.iload_n 1), 1), (130, .inr (2, 237, 1), 3), (133, .inl (.ifCond .eq 104), 3), (136, .inl (.aload_n 0), 1), (137, .inl (.iconst 0), 1), (138, .inr (1, 9, 11), 3), (141, .inl (.aload_n 0), 1), (142, .inl (.aload_n 0), 1), (143, .inr (0, 9, 8), 3)],
  [(146, .inr (2, 236, 2), 3), (149, .inr (2, 237, 1), 3), (152, .inl (.ifCond .eq 60), 3), (155, .inl (.aload_n 0), 1), (156, .inl (.aload_n 0), 1), (157, .inr (0, 9, 8), 3)],
  [(160, .inl (.aload_n 0), 1), (161, .inr (0, 9, 9), 3), (164, .inl (.isub), 1), (165, .inl (.iconst 3), 1), (166, .inl (.if_icmp .ge 26), 3), (169, .inl (.bipush 10), 2), (171, .inl (.aload_n 0), 1), (172, .inr (0, 9, 11), 3), (175, .inl (.imul), 1)],
  [(176, .inl (.aload_n 0), 1), (177, .inr (0, 9, 5), 3), (180, .inl (.aload_n 0), 1), (181, .inr (0, 9, 8), 3), (184, .inl (.iaload), 1), (185, .inl (.iadd), 1), (186, .inl (.bipush 48), 2), (188, .inl (.isub), 1), (189, .inl (.goto 7), 3)],
  [(192, .inl (.aload_n 0), 1), (193, .inr (0, 9, 11), 3), (196, .inr (1, 9, 11), 3), (199, .inl (.aload_n 0), 1), (200, .inl (.dup), 1), (201, .inr (0, 9, 8), 3), (204, .inl (.iconst 1), 1), (205, .inl (.iadd), 1), (206, .inr (1, 9, 8), 3)],
  [(209, .inl (.goto (-68)), 3), (212, .inl (.aload_n 0), 1), (213, .inl (.aload_n 0), 1), (214, .inr (0, 9, 8), 3), (217, .inl (.aload_n 0), 1), (218, .inr (0, 9, 9), 3), (221, .inl (.isub), 1), (222, .inl (.iconst 3), 1), (223, .inl (.if_icmp .le 7), 3)],
  [(226, .inl (.iconst 3), 1), (227, .inl (.goto 4), 3), (230, .inl (.iconst 2), 1), (231, .inr (1, 9, 10), 3), (234, .inl (.goto 29), 3), (237, .inl (.aload_n 0), 1), (238, .inl (.iload_n 1), 1), (239, .inr (2, 238, 1), 3)],
  [(242, .inl (.ifCond .eq 7), 3), (245, .inl (.iload_n 1), 1), (246, .inl (.goto 4), 3), (249, .inl (.iconst 3), 1), (250, .inr (1, 9, 10), 3), (253, .inl (.aload_n 0), 1), (254, .inl (.dup), 1), (255, .inr (0, 9, 8), 3)],
  [(258, .inl (.iconst 1), 1), (259, .inl (.iadd), 1), (260, .inr (1, 9, 8), 3), (263, .inl (.return_), 1)]]
-- MovingNamesModel.isLetter(I)Z
set_option maxRecDepth 100000 in
noncomputable def ab_c235 : List (List (Nat × ab_I × Nat)) := [[(0, .inl (.iload_n 0), 1), (1, .inl (.bipush 97), 2), (3, .inl (.if_icmp .lt 13), 3), (6, .inl (.iload_n 0), 1), (7, .inl (.bipush 122), 2), (9, .inl (.if_icmp .gt 7), 3), (12, .inl (.iconst 1), 1), (13, .inl (.goto 4), 3)],
  [(16, .inl (.iconst 0), 1), (17, .inl (.ireturn), 1)]]
-- MovingNamesModel.see(I)I
set_option maxRecDepth 100000 in
noncomputable def ab_c236 : List (List (Nat × ab_I × Nat)) := [[(0, .inl (.iload_n 1), 1), (1, .inl (.aload_n 0), 1), (2, .inr (0, 9, 7), 3), (5, .inl (.if_icmp .ge 12), 3), (8, .inl (.aload_n 0), 1), (9, .inr (0, 9, 5), 3), (12, .inl (.iload_n 1), 1), (13, .inl (.iaload), 1), (14, .inl (.goto 4), 3)],
  [(17, .inl (.iconst 0), 1), (18, .inl (.ireturn), 1)]]
-- MovingNamesModel.isDigit(I)Z
set_option maxRecDepth 100000 in
noncomputable def ab_c237 : List (List (Nat × ab_I × Nat)) := [[(0, .inl (.iload_n 0), 1), (1, .inl (.bipush 48), 2), (3, .inl (.if_icmp .lt 13), 3), (6, .inl (.iload_n 0), 1), (7, .inl (.bipush 57), 2), (9, .inl (.if_icmp .gt 7), 3), (12, .inl (.iconst 1), 1), (13, .inl (.goto 4), 3)],
  [(16, .inl (.iconst 0), 1), (17, .inl (.ireturn), 1)]]
-- MovingNamesModel.isSignByte(I)Z
set_option maxRecDepth 100000 in
noncomputable def ab_c238 : List (List (Nat × ab_I × Nat)) := [[(0, .inl (.iload_n 0), 1), (1, .inl (.bipush 91), 2), (3, .inl (.if_icmp .eq 27), 3), (6, .inl (.iload_n 0), 1), (7, .inl (.bipush 93), 2), (9, .inl (.if_icmp .eq 21), 3), (12, .inl (.iload_n 0), 1), (13, .inl (.bipush 61), 2), (15, .inl (.if_icmp .eq 15), 3)],
  [(18, .inl (.iload_n 0), 1), (19, .inl (.bipush 60), 2), (21, .inl (.if_icmp .eq 9), 3), (24, .inl (.iload_n 0), 1), (25, .inl (.bipush 62), 2), (27, .inl (.if_icmp .ne 7), 3), (30, .inl (.iconst 1), 1), (31, .inl (.goto 4), 3)],
  [(34, .inl (.iconst 0), 1), (35, .inl (.istore_n 1), 1), (36, .inl (.iload_n 1), 1), (37, .inl (.ifCond .ne 45), 3), (40, .inl (.iload_n 0), 1), (41, .inl (.bipush 59), 2), (43, .inl (.if_icmp .eq 39), 3), (46, .inl (.iload_n 0), 1), (47, .inl (.bipush 58), 2)],
  [(49, .inl (.if_icmp .eq 33), 3), (52, .inl (.iload_n 0), 1), (53, .inl (.bipush 43), 2), (55, .inl (.if_icmp .eq 27), 3), (58, .inl (.iload_n 0), 1), (59, .inl (.bipush 45), 2), (61, .inl (.if_icmp .eq 21), 3)],
  [(64, .inl (.iload_n 0), 1), (65, .inl (.bipush 42), 2), (67, .inl (.if_icmp .eq 15), 3), (70, .inl (.iload_n 0), 1), (71, .inl (.bipush 40), 2), (73, .inl (.if_icmp .eq 9), 3), (76, .inl (.iload_n 0), 1), (77, .inl (.bipush 41), 2), (79, .inl (.if_icmp .ne 7), 3)],
  [(82, .inl (.iconst 1), 1), (83, .inl (.goto 4), 3), (86, .inl (.iconst 0), 1), (87, .inl (.ireturn), 1)]]
-- MovingNamesModel.mustWord(Ljava/lang/String;)V
set_option maxRecDepth 100000 in
noncomputable def ab_c239 : List (List (Nat × ab_I × Nat)) := [[(0, .inl (.aload_n 0), 1), (1, .inl (.aload_n 1), 1), (2, .inr (2, 240, 2), 3), (5, .inl (.ifCond .ne 8), 3), (8, .inl (.aload_n 0), 1), (9, .inl (.iconst 2), 1), (10, .inr (2, 242, 2), 3), (13, .inl (.return_), 1)]]
-- MovingNamesModel.took(Ljava/lang/String;)Z
set_option maxRecDepth 100000 in
noncomputable def ab_c240 : List (List (Nat × ab_I × Nat)) := [[(0, .inl (.aload_n 0), 1), (1, .inl (.aload_n 1), 1), (2, .inr (2, 241, 2), 3), (5, .inl (.istore_n 2), 1), (6, .inl (.iload_n 2), 1), (7, .inl (.ifCond .eq 7), 3), (10, .inl (.aload_n 0), 1), (11, .inr (2, 234, 1), 3), (14, .inl (.iload_n 2), 1), (15, .inl (.ireturn), 1)]]
-- MovingNamesModel.isWord(Ljava/lang/String;)Z
set_option maxRecDepth 100000 in
noncomputable def ab_c241 : List (List (Nat × ab_I × Nat)) := [[(0, .inl (.aload_n 0), 1), (1, .inr (0, 9, 12), 3), (4, .inl (.ifCond .ne 31), 3), (7, .inl (.aload_n 0), 1), (8, .inr (0, 9, 10), 3), (11, .inl (.iconst 1), 1), (12, .inl (.if_icmp .ne 23), 3), (15, .inl (.aload_n 0), 1)],
  [(16, .inr (0, 9, 8), 3), (19, .inl (.aload_n 0), 1), (20, .inr (0, 9, 9), 3), (23, .inl (.isub), 1), (24, .inl (.aload_n 1), 1), (25, .inr (2, 46, 1), 3), (28, .inl (.if_icmp .ne 7), 3), (31, .inl (.iconst 1), 1)],
  [(32, .inl (.goto 4), 3), (35, .inl (.iconst 0), 1), (36, .inl (.istore_n 2), 1), (37, .inl (.iconst 0), 1), (38, .inl (.istore_n 3), 1), (39, .inl (.iload_n 2), 1), (40, .inl (.ifCond .eq 42), 3), (43, .inl (.iload_n 3), 1), (44, .inl (.aload_n 1), 1), (45, .inr (2, 46, 1), 3)],
  [(48, .inl (.if_icmp .ge 34), 3), (51, .inl (.aload_n 0), 1), (52, .inr (0, 9, 5), 3), (55, .inl (.aload_n 0), 1), (56, .inr (0, 9, 9), 3), (59, .inl (.iload_n 3), 1), (60, .inl (.iadd), 1), (61, .inl (.iaload), 1), (62, .inl (.aload_n 1), 1), (63, .inl (.iload_n 3), 1)],
  [(64, .inr (2, 48, 2), 3), (67, .inl (.if_icmp .ne 7), 3), (70, .inl (.iconst 1), 1), (71, .inl (.goto 4), 3), (74, .inl (.iconst 0), 1), (75, .inl (.istore_n 2), 1), (76, .inl (.iinc 3 1), 3), (79, .inl (.goto (-40)), 3)],
  [(82, .inl (.iload_n 2), 1), (83, .inl (.ireturn), 1)]]
-- MovingNamesModel.blames(I)V
set_option maxRecDepth 100000 in
noncomputable def ab_c242 : List (List (Nat × ab_I × Nat)) := [[(0, .inl (.aload_n 0), 1), (1, .inr (0, 9, 12), 3), (4, .inl (.ifCond .eq 4), 3), (7, .inl (.return_), 1), (8, .inl (.aload_n 0), 1), (9, .inl (.aload_n 0), 1), (10, .inr (0, 9, 10), 3), (13, .inl (.iconst 3), 1), (14, .inl (.if_icmp .ne 7), 3)],
  [(17, .inl (.iconst 1), 1), (18, .inl (.goto 4), 3), (21, .inl (.iload_n 1), 1), (22, .inr (1, 9, 12), 3), (25, .inl (.aload_n 0), 1), (26, .inl (.aload_n 0), 1), (27, .inr (0, 9, 9), 3), (30, .inr (1, 9, 13), 3)],
  [(33, .inl (.return_), 1)]]
-- MovingNamesModel.number(II)I
set_option maxRecDepth 100000 in
noncomputable def ab_c243 : List (List (Nat × ab_I × Nat)) := [[(0, .inl (.aload_n 0), 1), (1, .inr (0, 9, 10), 3), (4, .inl (.iconst 2), 1), (5, .inl (.if_icmp .eq 11), 3), (8, .inl (.aload_n 0), 1), (9, .inl (.iconst 2), 1), (10, .inr (2, 242, 2), 3), (13, .inl (.goto 23), 3)],
  [(16, .inl (.aload_n 0), 1), (17, .inr (0, 9, 11), 3), (20, .inl (.i2l), 1), (21, .inl (.iload_n 1), 1), (22, .inl (.i2l), 1), (23, .inl (.iload_n 2), 1), (24, .inl (.i2l), 1), (25, .inr (2, 232, 3), 3), (28, .inl (.ifCond .ne 8), 3), (31, .inl (.aload_n 0), 1)],
  [(32, .inl (.iconst 3), 1), (33, .inr (2, 242, 2), 3), (36, .inl (.aload_n 0), 1), (37, .inr (0, 9, 11), 3), (40, .inl (.istore_n 3), 1), (41, .inl (.aload_n 0), 1), (42, .inr (0, 9, 12), 3), (45, .inl (.ifCond .ne 7), 3)],
  [(48, .inl (.aload_n 0), 1), (49, .inr (2, 234, 1), 3), (52, .inl (.aload_n 0), 1), (53, .inr (0, 9, 12), 3), (56, .inl (.ifCond .ne 7), 3), (59, .inl (.iload_n 3), 1), (60, .inl (.goto 4), 3), (63, .inl (.iload_n 1), 1)],
  [(64, .inl (.ireturn), 1)]]
-- MovingNamesModel.readStop()V
set_option maxRecDepth 100000 in
noncomputable def ab_c244 : List (List (Nat × ab_I × Nat)) := [[(0, .inl (.aload_n 0), 1), (1, .inl (.bipush 59), 2), (3, .inr (2, 245, 2), 3), (6, .inl (.aload_n 0), 1), (7, .inr (0, 9, 12), 3), (10, .inl (.ifCond .ne 13), 3), (13, .inl (.aload_n 0), 1), (14, .inr (0, 9, 1), 3)],
  [(17, .inl (.iconst 0), 1), (18, .inl (.dup2), 1), (19, .inl (.iaload), 1), (20, .inl (.iconst 1), 1), (21, .inl (.iadd), 1), (22, .inl (.iastore), 1), (23, .inl (.return_), 1)]]
-- MovingNamesModel.mustSign(I)V
set_option maxRecDepth 100000 in
noncomputable def ab_c245 : List (List (Nat × ab_I × Nat)) := [[(0, .inl (.aload_n 0), 1), (1, .inr (0, 9, 10), 3), (4, .inl (.iload_n 1), 1), (5, .inl (.if_icmp .eq 8), 3), (8, .inl (.aload_n 0), 1), (9, .inl (.iconst 2), 1), (10, .inr (2, 242, 2), 3), (13, .inl (.aload_n 0), 1), (14, .inr (0, 9, 12), 3)],
  [(17, .inl (.ifCond .ne 7), 3), (20, .inl (.aload_n 0), 1), (21, .inr (2, 234, 1), 3), (24, .inl (.return_), 1)]]
-- MovingNamesModel.readLine()V
set_option maxRecDepth 100000 in
noncomputable def ab_c246 : List (List (Nat × ab_I × Nat)) := [[(0, .inl (.aload_n 0), 1), (1, .inr (7, 2, 0), 2), (3, .inr (2, 241, 2), 3), (6, .inl (.ifCond .eq 10), 3), (9, .inl (.aload_n 0), 1), (10, .inr (2, 247, 1), 3), (13, .inl (.goto 107), 3)],
  [(16, .inl (.aload_n 0), 1), (17, .inr (7, 5, 0), 2), (19, .inr (2, 240, 2), 3), (22, .inl (.ifCond .eq 22), 3), (25, .inl (.aload_n 0), 1), (26, .inr (0, 9, 1), 3), (29, .inl (.bipush 31), 2), (31, .inl (.dup2), 1)],
  [(32, .inl (.iaload), 1), (33, .inl (.iconst 1), 1), (34, .inl (.aload_n 0), 1), (35, .inr (2, 250, 1), 3), (38, .inl (.ishl), 1), (39, .inl (.ior), 1), (40, .inl (.iastore), 1), (41, .inl (.goto 79), 3), (44, .inl (.aload_n 0), 1), (45, .inr (7, 6, 0), 2), (47, .inr (2, 241, 2), 3)],
  [(50, .inl (.ifCond .eq 10), 3), (53, .inl (.aload_n 0), 1), (54, .inr (2, 251, 1), 3), (57, .inl (.goto 63), 3), (60, .inl (.aload_n 0), 1), (61, .inr (7, 7, 0), 2), (63, .inr (2, 240, 2), 3)],
  [(66, .inl (.ifCond .eq 10), 3), (69, .inl (.aload_n 0), 1), (70, .inr (2, 252, 1), 3), (73, .inl (.goto 47), 3), (76, .inl (.aload_n 0), 1), (77, .inr (7, 8, 0), 2), (79, .inr (2, 241, 2), 3)],
  [(82, .inl (.ifCond .eq 10), 3), (85, .inl (.aload_n 0), 1), (86, .inr (2, 253, 1), 3), (89, .inl (.goto 31), 3), (92, .inl (.aload_n 0), 1), (93, .inr (7, 9, 0), 2), (95, .inr (2, 240, 2), 3)],
  [(98, .inl (.ifCond .eq 17), 3), (101, .inl (.aload_n 0), 1), (102, .inr (0, 9, 1), 3), (105, .inl (.iconst 5), 1), (106, .inl (.iconst 0), 1), (107, .inl (.iastore), 1), (108, .inl (.aload_n 0), 1), (109, .inr (2, 254, 1), 3)],
  [(112, .inl (.goto 8), 3), (115, .inl (.aload_n 0), 1), (116, .inl (.iconst 2), 1), (117, .inr (2, 242, 2), 3), (120, .inl (.aload_n 0), 1), (121, .inr (2, 244, 1), 3), (124, .inl (.return_), 1)]]
-- MovingNamesModel.readRound()V
set_option maxRecDepth 100000 in
noncomputable def ab_c247 : List (List (Nat × ab_I × Nat)) := [[(0, .inl (.aload_n 0), 1), (1, .inl (.iconst 2), 1), (2, .inl (.iconst 4), 1), (3, .inr (2, 248, 3), 3), (6, .inl (.ifCond .ne 4), 3), (9, .inl (.return_), 1), (10, .inl (.aload_n 0), 1), (11, .inr (0, 9, 1), 3), (14, .inl (.iconst 2), 1), (15, .inl (.iaload), 1)],
  [(16, .inl (.istore_n 1), 1), (17, .inl (.aload_n 0), 1), (18, .inr (7, 3, 0), 2), (20, .inr (2, 240, 2), 3), (23, .inl (.istore_n 2), 1), (24, .inl (.aload_n 0), 1), (25, .inr (7, 4, 0), 2), (27, .inr (2, 240, 2), 3), (30, .inl (.ifCond .eq 13), 3)],
  [(33, .inl (.aload_n 0), 1), (34, .inl (.iconst 1), 1), (35, .inl (.bipush 9), 2), (37, .inr (2, 243, 3), 3), (40, .inl (.goto 4), 3), (43, .inl (.iconst 1), 1), (44, .inl (.istore_n 3), 1), (45, .inl (.aload_n 0), 1), (46, .inl (.bipush 58), 2)],
  [(48, .inr (2, 245, 2), 3), (51, .inl (.aload_n 0), 1), (52, .inr (0, 9, 12), 3), (55, .inl (.ifCond .ne 32), 3), (58, .inl (.aload_n 0), 1), (59, .inr (0, 9, 10), 3), (62, .inl (.iconst 2), 1), (63, .inl (.if_icmp .ne 24), 3)],
  [(66, .inl (.aload_n 0), 1), (67, .inr (0, 9, 1), 3), (70, .inl (.iload_n 1), 1), (71, .inl (.aload_n 0), 1), (72, .inr (0, 9, 11), 3), (75, .inr (2, 249, 3), 3), (78, .inl (.iconst (-1)), 1), (79, .inl (.if_icmp .eq 8), 3)],
  [(82, .inl (.aload_n 0), 1), (83, .inl (.iconst 3), 1), (84, .inr (2, 242, 2), 3), (87, .inl (.aload_n 0), 1), (88, .inr (2, 250, 1), 3), (91, .inl (.istore 4), 2), (93, .inl (.aload_n 0), 1), (94, .inr (0, 9, 12), 3)],
  [(97, .inl (.ifCond .eq 4), 3), (100, .inl (.return_), 1), (101, .inl (.aload_n 0), 1), (102, .inr (0, 9, 1), 3), (105, .inl (.bipush 36), 2), (107, .inl (.bipush 20), 2), (109, .inl (.iload_n 1), 1), (110, .inl (.imul), 1), (111, .inl (.iadd), 1)],
  [(112, .inl (.aload_n 0), 1), (113, .inr (0, 9, 1), 3), (116, .inl (.bipush 32), 2), (118, .inl (.iload_n 1), 1), (119, .inl (.iadd), 1), (120, .inl (.iaload), 1), (121, .inl (.iadd), 1), (122, .inl (.iload 4), 2), (124, .inl (.iastore), 1), (125, .inl (.aload_n 0), 1), (126, .inr (0, 9, 1), 3)],
  [(129, .inl (.bipush 32), 2), (131, .inl (.iload_n 1), 1), (132, .inl (.iadd), 1), (133, .inl (.dup2), 1), (134, .inl (.iaload), 1), (135, .inl (.iconst 1), 1), (136, .inl (.iadd), 1), (137, .inl (.iastore), 1), (138, .inl (.aload_n 0), 1), (139, .inr (0, 9, 10), 3), (142, .inl (.iconst 2), 1), (143, .inl (.if_icmp .eq (-92)), 3)],
  [(146, .inl (.aload_n 0), 1), (147, .inr (0, 9, 1), 3), (150, .inl (.bipush 7), 2), (152, .inl (.iload_n 1), 1), (153, .inl (.iadd), 1), (154, .inl (.iload_n 2), 1), (155, .inl (.ifCond .eq 8), 3), (158, .inl (.iload_n 3), 1), (159, .inl (.ineg), 1)],
  [(160, .inl (.goto 4), 3), (163, .inl (.iload_n 3), 1), (164, .inl (.iastore), 1), (165, .inl (.aload_n 0), 1), (166, .inr (0, 9, 1), 3), (169, .inl (.iconst 2), 1), (170, .inl (.dup2), 1), (171, .inl (.iaload), 1), (172, .inl (.iconst 1), 1), (173, .inl (.iadd), 1), (174, .inl (.iastore), 1), (175, .inl (.return_), 1)]]
-- MovingNamesModel.begins(II)Z
set_option maxRecDepth 100000 in
noncomputable def ab_c248 : List (List (Nat × ab_I × Nat)) := [[(0, .inl (.aload_n 0), 1), (1, .inr (0, 9, 1), 3), (4, .inl (.iload_n 1), 1), (5, .inl (.iaload), 1), (6, .inl (.iload_n 2), 1), (7, .inl (.if_icmp .ne 8), 3), (10, .inl (.aload_n 0), 1), (11, .inl (.iconst 4), 1), (12, .inr (2, 242, 2), 3), (15, .inl (.aload_n 0), 1)],
  [(16, .inr (0, 9, 12), 3), (19, .inl (.ifCond .ne 7), 3), (22, .inl (.aload_n 0), 1), (23, .inr (2, 234, 1), 3), (26, .inl (.aload_n 0), 1), (27, .inr (0, 9, 12), 3), (30, .inl (.ifCond .ne 7), 3)],
  [(33, .inl (.iconst 1), 1), (34, .inl (.goto 4), 3), (37, .inl (.iconst 0), 1), (38, .inl (.ireturn), 1)]]
-- MovingNamesModel.placeIn([III)I
set_option maxRecDepth 100000 in
noncomputable def ab_c249 : List (List (Nat × ab_I × Nat)) := [[(0, .inl (.iconst 0), 1), (1, .inl (.istore_n 3), 1), (2, .inl (.iload_n 3), 1), (3, .inl (.aload_n 0), 1), (4, .inl (.bipush 32), 2), (6, .inl (.iload_n 1), 1), (7, .inl (.iadd), 1), (8, .inl (.iaload), 1), (9, .inl (.if_icmp .ge 26), 3), (12, .inl (.aload_n 0), 1), (13, .inl (.bipush 36), 2), (15, .inl (.bipush 20), 2)],
  [(17, .inl (.iload_n 1), 1), (18, .inl (.imul), 1), (19, .inl (.iadd), 1), (20, .inl (.iload_n 3), 1), (21, .inl (.iadd), 1), (22, .inl (.iaload), 1), (23, .inl (.iload_n 2), 1), (24, .inl (.if_icmp .ne 5), 3), (27, .inl (.iload_n 3), 1), (28, .inl (.ireturn), 1), (29, .inl (.iinc 3 1), 3)],
  [(32, .inl (.goto (-30)), 3), (35, .inl (.iconst (-1)), 1), (36, .inl (.ireturn), 1)]]
-- MovingNamesModel.streetTold()I
set_option maxRecDepth 100000 in
noncomputable def ab_c250 : List (List (Nat × ab_I × Nat)) := [[(0, .inl (.aload_n 0), 1), (1, .inl (.iconst 0), 1), (2, .inl (.aload_n 0), 1), (3, .inr (0, 9, 1), 3), (6, .inl (.iconst 1), 1), (7, .inl (.iaload), 1), (8, .inl (.iconst 1), 1), (9, .inl (.isub), 1), (10, .inr (2, 243, 3), 3), (13, .inl (.ireturn), 1)]]
-- MovingNamesModel.readPerson()V
set_option maxRecDepth 100000 in
noncomputable def ab_c251 : List (List (Nat × ab_I × Nat)) := [[(0, .inl (.aload_n 0), 1), (1, .inl (.iconst 3), 1), (2, .inl (.bipush 8), 2), (4, .inr (2, 248, 3), 3), (7, .inl (.ifCond .ne 4), 3), (10, .inl (.return_), 1), (11, .inl (.aload_n 0), 1), (12, .inr (2, 250, 1), 3), (15, .inl (.istore_n 1), 1)],
  [(16, .inl (.aload_n 0), 1), (17, .inl (.iconst 1), 1), (18, .inl (.aload_n 0), 1), (19, .inr (0, 9, 1), 3), (22, .inl (.iconst 4), 1), (23, .inl (.iaload), 1), (24, .inr (2, 243, 3), 3), (27, .inl (.istore_n 2), 1), (28, .inl (.aload_n 0), 1), (29, .inr (0, 9, 12), 3)],
  [(32, .inl (.ifCond .eq 4), 3), (35, .inl (.return_), 1), (36, .inl (.aload_n 0), 1), (37, .inr (0, 9, 1), 3), (40, .inl (.bipush 116), 2), (42, .inl (.aload_n 0), 1), (43, .inr (0, 9, 1), 3), (46, .inl (.iconst 3), 1), (47, .inl (.iaload), 1)],
  [(48, .inl (.iadd), 1), (49, .inl (.iload_n 1), 1), (50, .inl (.iastore), 1), (51, .inl (.aload_n 0), 1), (52, .inr (0, 9, 1), 3), (55, .inl (.bipush 124), 2), (57, .inl (.aload_n 0), 1), (58, .inr (0, 9, 1), 3), (61, .inl (.iconst 3), 1), (62, .inl (.iaload), 1), (63, .inl (.iadd), 1)],
  [(64, .inl (.iload_n 2), 1), (65, .inl (.iastore), 1), (66, .inl (.aload_n 0), 1), (67, .inr (0, 9, 1), 3), (70, .inl (.iconst 3), 1), (71, .inl (.dup2), 1), (72, .inl (.iaload), 1), (73, .inl (.iconst 1), 1), (74, .inl (.iadd), 1), (75, .inl (.iastore), 1), (76, .inl (.return_), 1)]]
-- MovingNamesModel.readSign()V
set_option maxRecDepth 100000 in
noncomputable def ab_c252 : List (List (Nat × ab_I × Nat)) := [[(0, .inl (.aload_n 0), 1), (1, .inr (2, 250, 1), 3), (4, .inl (.istore_n 1), 1), (5, .inl (.aload_n 0), 1), (6, .inr (2, 250, 1), 3), (9, .inl (.istore_n 2), 1), (10, .inl (.aload_n 0), 1), (11, .inr (0, 9, 12), 3), (14, .inl (.ifCond .ne 13), 3)],
  [(17, .inl (.aload_n 0), 1), (18, .inr (0, 9, 1), 3), (21, .inl (.bipush 11), 2), (23, .inl (.iload_n 1), 1), (24, .inl (.iadd), 1), (25, .inl (.iload_n 2), 1), (26, .inl (.iastore), 1), (27, .inl (.return_), 1)]]
-- MovingNamesModel.readHouses()V
set_option maxRecDepth 100000 in
noncomputable def ab_c253 : List (List (Nat × ab_I × Nat)) := [[(0, .inl (.aload_n 0), 1), (1, .inr (0, 9, 1), 3), (4, .inl (.iconst 3), 1), (5, .inl (.iaload), 1), (6, .inl (.ifCond .le 8), 3), (9, .inl (.aload_n 0), 1), (10, .inl (.iconst 2), 1), (11, .inr (2, 242, 2), 3), (14, .inl (.aload_n 0), 1), (15, .inr (0, 9, 12), 3)],
  [(18, .inl (.ifCond .eq 4), 3), (21, .inl (.return_), 1), (22, .inl (.aload_n 0), 1), (23, .inr (2, 234, 1), 3), (26, .inl (.aload_n 0), 1), (27, .inr (0, 9, 1), 3), (30, .inl (.iconst 4), 1), (31, .inl (.aload_n 0), 1)],
  [(32, .inl (.iconst 1), 1), (33, .inl (.bipush 99), 2), (35, .inr (2, 243, 3), 3), (38, .inl (.iastore), 1), (39, .inl (.return_), 1)]]
-- MovingNamesModel.readTruth()V
set_option maxRecDepth 100000 in
noncomputable def ab_c254 : List (List (Nat × ab_I × Nat)) := [[(0, .inl (.aload_n 0), 1), (1, .inr (2, 255, 1), 3), (4, .inl (.aload_n 0), 1), (5, .inr (7, 16, 0), 2), (7, .inr (2, 240, 2), 3), (10, .inl (.ifCond .eq 16), 3), (13, .inl (.aload_n 0), 1), (14, .inr (2, 255, 1), 3)],
  [(17, .inl (.aload_n 0), 1), (18, .inl (.bipush 17), 2), (20, .inr (2, 258, 2), 3), (23, .inl (.goto (-19)), 3), (26, .inl (.return_), 1)]]
-- MovingNamesModel.readBoth()V
set_option maxRecDepth 100000 in
noncomputable def ab_c255 : List (List (Nat × ab_I × Nat)) := [[(0, .inl (.aload_n 0), 1), (1, .inr (2, 256, 1), 3), (4, .inl (.aload_n 0), 1), (5, .inr (7, 17, 0), 2), (7, .inr (2, 240, 2), 3), (10, .inl (.ifCond .eq 16), 3), (13, .inl (.aload_n 0), 1), (14, .inr (2, 256, 1), 3)],
  [(17, .inl (.aload_n 0), 1), (18, .inl (.bipush 16), 2), (20, .inr (2, 258, 2), 3), (23, .inl (.goto (-19)), 3), (26, .inl (.return_), 1)]]
-- MovingNamesModel.readUnit()V
set_option maxRecDepth 100000 in
noncomputable def ab_c256 : List (List (Nat × ab_I × Nat)) := [[(0, .inl (.aload_n 0), 1), (1, .inr (0, 9, 12), 3), (4, .inl (.ifCond .eq 4), 3), (7, .inl (.return_), 1), (8, .inl (.aload_n 0), 1), (9, .inr (7, 18, 0), 2), (11, .inr (2, 241, 2), 3), (14, .inl (.ifCond .eq 30), 3)],
  [(17, .inl (.aload_n 0), 1), (18, .inr (2, 257, 1), 3), (21, .inl (.aload_n 0), 1), (22, .inr (2, 256, 1), 3), (25, .inl (.aload_n 0), 1), (26, .inl (.bipush 18), 2), (28, .inr (2, 258, 2), 3), (31, .inl (.aload_n 0), 1)],
  [(32, .inl (.dup), 1), (33, .inr (0, 9, 16), 3), (36, .inl (.iconst 1), 1), (37, .inl (.isub), 1), (38, .inr (1, 9, 16), 3), (41, .inl (.goto 114), 3), (44, .inl (.aload_n 0), 1), (45, .inl (.bipush 91), 2), (47, .inr (2, 259, 2), 3)],
  [(50, .inl (.ifCond .eq 30), 3), (53, .inl (.aload_n 0), 1), (54, .inr (2, 257, 1), 3), (57, .inl (.aload_n 0), 1), (58, .inr (2, 254, 1), 3), (61, .inl (.aload_n 0), 1), (62, .inl (.bipush 93), 2)],
  [(64, .inr (2, 245, 2), 3), (67, .inl (.aload_n 0), 1), (68, .inl (.dup), 1), (69, .inr (0, 9, 16), 3), (72, .inl (.iconst 1), 1), (73, .inl (.isub), 1), (74, .inr (1, 9, 16), 3), (77, .inl (.goto 78), 3)],
  [(80, .inl (.aload_n 0), 1), (81, .inr (2, 260, 1), 3), (84, .inl (.aload_n 0), 1), (85, .inr (0, 9, 10), 3), (88, .inl (.istore_n 1), 1), (89, .inl (.iload_n 1), 1), (90, .inl (.bipush 61), 2), (92, .inl (.if_icmp .eq 20), 3), (95, .inl (.iload_n 1), 1)],
  [(96, .inl (.bipush 60), 2), (98, .inl (.if_icmp .eq 14), 3), (101, .inl (.iload_n 1), 1), (102, .inl (.bipush 62), 2), (104, .inl (.if_icmp .eq 8), 3), (107, .inl (.aload_n 0), 1), (108, .inl (.iconst 2), 1), (109, .inr (2, 242, 2), 3)],
  [(112, .inl (.aload_n 0), 1), (113, .inr (0, 9, 12), 3), (116, .inl (.ifCond .ne 7), 3), (119, .inl (.aload_n 0), 1), (120, .inr (2, 234, 1), 3), (123, .inl (.aload_n 0), 1), (124, .inr (2, 260, 1), 3), (127, .inl (.aload_n 0), 1)],
  [(128, .inl (.iload_n 1), 1), (129, .inl (.bipush 61), 2), (131, .inl (.if_icmp .ne 8), 3), (134, .inl (.bipush 13), 2), (136, .inl (.goto 16), 3), (139, .inl (.iload_n 1), 1), (140, .inl (.bipush 60), 2), (142, .inl (.if_icmp .ne 8), 3)],
  [(145, .inl (.bipush 14), 2), (147, .inl (.goto 5), 3), (150, .inl (.bipush 15), 2), (152, .inr (2, 258, 2), 3), (155, .inl (.return_), 1)]]
-- MovingNamesModel.goesIn()V
set_option maxRecDepth 100000 in
noncomputable def ab_c257 : List (List (Nat × ab_I × Nat)) := [[(0, .inl (.aload_n 0), 1), (1, .inr (0, 9, 16), 3), (4, .inl (.bipush 6), 2), (6, .inl (.if_icmp .ne 8), 3), (9, .inl (.aload_n 0), 1), (10, .inl (.iconst 4), 1), (11, .inr (2, 242, 2), 3), (14, .inl (.aload_n 0), 1), (15, .inl (.dup), 1)],
  [(16, .inr (0, 9, 16), 3), (19, .inl (.iconst 1), 1), (20, .inl (.iadd), 1), (21, .inr (1, 9, 16), 3), (24, .inl (.aload_n 0), 1), (25, .inr (0, 9, 12), 3), (28, .inl (.ifCond .ne 7), 3), (31, .inl (.aload_n 0), 1)],
  [(32, .inr (2, 234, 1), 3), (35, .inl (.return_), 1)]]
-- MovingNamesModel.laysStep(I)V
set_option maxRecDepth 100000 in
noncomputable def ab_c258 : List (List (Nat × ab_I × Nat)) := [[(0, .inl (.aload_n 0), 1), (1, .inr (0, 9, 12), 3), (4, .inl (.ifCond .eq 4), 3), (7, .inl (.return_), 1), (8, .inl (.aload_n 0), 1), (9, .inr (0, 9, 1), 3), (12, .inl (.sipush 1364), 3), (15, .inl (.aload_n 0), 1)],
  [(16, .inr (0, 9, 1), 3), (19, .inl (.iconst 5), 1), (20, .inl (.iaload), 1), (21, .inl (.iadd), 1), (22, .inl (.iload_n 1), 1), (23, .inl (.iastore), 1), (24, .inl (.aload_n 0), 1), (25, .inr (0, 9, 1), 3), (28, .inl (.iconst 5), 1), (29, .inl (.dup2), 1), (30, .inl (.iaload), 1), (31, .inl (.iconst 1), 1)],
  [(32, .inl (.iadd), 1), (33, .inl (.iastore), 1), (34, .inl (.return_), 1)]]
-- MovingNamesModel.isSign(I)Z
set_option maxRecDepth 100000 in
noncomputable def ab_c259 : List (List (Nat × ab_I × Nat)) := [[(0, .inl (.aload_n 0), 1), (1, .inr (0, 9, 12), 3), (4, .inl (.ifCond .ne 15), 3), (7, .inl (.aload_n 0), 1), (8, .inr (0, 9, 10), 3), (11, .inl (.iload_n 1), 1), (12, .inl (.if_icmp .ne 7), 3), (15, .inl (.iconst 1), 1)],
  [(16, .inl (.goto 4), 3), (19, .inl (.iconst 0), 1), (20, .inl (.ireturn), 1)]]
-- MovingNamesModel.readSum()V
set_option maxRecDepth 100000 in
noncomputable def ab_c260 : List (List (Nat × ab_I × Nat)) := [[(0, .inl (.aload_n 0), 1), (1, .inr (2, 261, 1), 3), (4, .inl (.aload_n 0), 1), (5, .inl (.bipush 43), 2), (7, .inr (2, 259, 2), 3), (10, .inl (.ifCond .ne 12), 3), (13, .inl (.aload_n 0), 1), (14, .inl (.bipush 45), 2)],
  [(16, .inr (2, 259, 2), 3), (19, .inl (.ifCond .eq 36), 3), (22, .inl (.aload_n 0), 1), (23, .inr (0, 9, 10), 3), (26, .inl (.istore_n 1), 1), (27, .inl (.aload_n 0), 1), (28, .inr (2, 234, 1), 3), (31, .inl (.aload_n 0), 1)],
  [(32, .inr (2, 261, 1), 3), (35, .inl (.aload_n 0), 1), (36, .inl (.iload_n 1), 1), (37, .inl (.bipush 43), 2), (39, .inl (.if_icmp .ne 8), 3), (42, .inl (.bipush 10), 2), (44, .inl (.goto 5), 3), (47, .inl (.bipush 11), 2)],
  [(49, .inr (2, 258, 2), 3), (52, .inl (.goto (-48)), 3), (55, .inl (.return_), 1)]]
-- MovingNamesModel.readTerm()V
set_option maxRecDepth 100000 in
noncomputable def ab_c261 : List (List (Nat × ab_I × Nat)) := [[(0, .inl (.aload_n 0), 1), (1, .inr (2, 262, 1), 3), (4, .inl (.aload_n 0), 1), (5, .inl (.bipush 42), 2), (7, .inr (2, 259, 2), 3), (10, .inl (.ifCond .eq 20), 3), (13, .inl (.aload_n 0), 1), (14, .inr (2, 234, 1), 3)],
  [(17, .inl (.aload_n 0), 1), (18, .inr (2, 262, 1), 3), (21, .inl (.aload_n 0), 1), (22, .inl (.bipush 12), 2), (24, .inr (2, 258, 2), 3), (27, .inl (.goto (-23)), 3), (30, .inl (.return_), 1)]]
-- MovingNamesModel.readAtom()V
set_option maxRecDepth 100000 in
noncomputable def ab_c262 : List (List (Nat × ab_I × Nat)) := [[(0, .inl (.aload_n 0), 1), (1, .inr (0, 9, 12), 3), (4, .inl (.ifCond .eq 4), 3), (7, .inl (.return_), 1), (8, .inl (.aload_n 0), 1), (9, .inr (2, 263, 1), 3), (12, .inl (.istore_n 1), 1), (13, .inl (.iload_n 1), 1), (14, .inl (.iconst (-1)), 1), (15, .inl (.if_icmp .eq 14), 3)],
  [(18, .inl (.aload_n 0), 1), (19, .inl (.bipush 100), 2), (21, .inl (.iload_n 1), 1), (22, .inl (.iadd), 1), (23, .inr (2, 258, 2), 3), (26, .inl (.goto 57), 3), (29, .inl (.aload_n 0), 1), (30, .inl (.bipush 40), 2)],
  [(32, .inr (2, 259, 2), 3), (35, .inl (.ifCond .eq 30), 3), (38, .inl (.aload_n 0), 1), (39, .inr (2, 257, 1), 3), (42, .inl (.aload_n 0), 1), (43, .inr (2, 260, 1), 3), (46, .inl (.aload_n 0), 1), (47, .inl (.bipush 41), 2)],
  [(49, .inr (2, 245, 2), 3), (52, .inl (.aload_n 0), 1), (53, .inl (.dup), 1), (54, .inr (0, 9, 16), 3), (57, .inl (.iconst 1), 1), (58, .inl (.isub), 1), (59, .inr (1, 9, 16), 3), (62, .inl (.goto 21), 3)],
  [(65, .inl (.aload_n 0), 1), (66, .inl (.iconst 0), 1), (67, .inl (.sipush 999), 3), (70, .inr (2, 243, 3), 3), (73, .inl (.istore_n 2), 1), (74, .inl (.aload_n 0), 1), (75, .inl (.sipush 1000), 3), (78, .inl (.iload_n 2), 1), (79, .inl (.iadd), 1)],
  [(80, .inr (2, 258, 2), 3), (83, .inl (.return_), 1)]]
-- MovingNamesModel.lawWord()I
set_option maxRecDepth 100000 in
noncomputable def ab_c263 : List (List (Nat × ab_I × Nat)) := [[(0, .inl (.aload_n 0), 1), (1, .inr (7, 25, 0), 2), (3, .inr (2, 240, 2), 3), (6, .inl (.ifCond .eq 5), 3), (9, .inl (.iconst 0), 1), (10, .inl (.ireturn), 1), (11, .inl (.aload_n 0), 1), (12, .inr (7, 26, 0), 2), (14, .inr (2, 240, 2), 3)],
  [(17, .inl (.ifCond .eq 5), 3), (20, .inl (.iconst 1), 1), (21, .inl (.ireturn), 1), (22, .inl (.aload_n 0), 1), (23, .inr (7, 27, 0), 2), (25, .inr (2, 240, 2), 3), (28, .inl (.ifCond .eq 5), 3), (31, .inl (.iconst 2), 1)],
  [(32, .inl (.ireturn), 1), (33, .inl (.aload_n 0), 1), (34, .inr (7, 28, 0), 2), (36, .inr (2, 240, 2), 3), (39, .inl (.ifCond .eq 5), 3), (42, .inl (.iconst 3), 1), (43, .inl (.ireturn), 1), (44, .inl (.aload_n 0), 1), (45, .inr (7, 29, 0), 2), (47, .inr (2, 240, 2), 3)],
  [(50, .inl (.ifCond .eq 7), 3), (53, .inl (.iconst 4), 1), (54, .inl (.goto 4), 3), (57, .inl (.iconst (-1)), 1), (58, .inl (.ireturn), 1)]]
-- MovingNamesModel.fault(I)I
set_option maxRecDepth 100000 in
noncomputable def ab_c264 : List (List (Nat × ab_I × Nat)) := [[(0, .inl (.aload_n 0), 1), (1, .inl (.iconst 0), 1), (2, .inr (1, 9, 4), 3), (5, .inl (.iload_n 1), 1), (6, .inl (.ifCond .ne 10), 3), (9, .inl (.aload_n 0), 1), (10, .inr (0, 9, 14), 3), (13, .inl (.goto 16), 3)],
  [(16, .inl (.iload_n 1), 1), (17, .inl (.iconst 1), 1), (18, .inl (.if_icmp .ne 10), 3), (21, .inl (.aload_n 0), 1), (22, .inr (0, 9, 15), 3), (25, .inl (.goto 4), 3), (28, .inl (.iconst (-1)), 1), (29, .inl (.ireturn), 1)]]
-- MovingNamesModel.street(II)I
set_option maxRecDepth 100000 in
noncomputable def ab_c265 : List (List (Nat × ab_I × Nat)) := [[(0, .inl (.aload_n 0), 1), (1, .inl (.aload_n 0), 1), (2, .inl (.iload_n 1), 1), (3, .inl (.i2l), 1), (4, .inr (2, 266, 2), 3), (7, .inl (.ifCond .ne 7), 3), (10, .inl (.iconst 1), 1), (11, .inl (.goto 20), 3), (14, .inl (.iload_n 2), 1), (15, .inl (.i2l), 1)],
  [(16, .inl (.lconst 0), 1), (17, .inr (9, 0, 4), 3), (20, .inr (2, 232, 3), 3), (23, .inl (.ifCond .eq 7), 3), (26, .inl (.iconst 0), 1), (27, .inl (.goto 4), 3), (30, .inl (.iconst 2), 1), (31, .inr (1, 9, 4), 3)],
  [(34, .inl (.aload_n 0), 1), (35, .inr (0, 9, 4), 3), (38, .inl (.ifCond .le 5), 3), (41, .inl (.iconst 0), 1), (42, .inl (.ireturn), 1), (43, .inl (.aload_n 0), 1), (44, .inr (2, 268, 1), 3), (47, .inl (.iconst 0), 1)],
  [(48, .inl (.istore_n 3), 1), (49, .inl (.iconst 0), 1), (50, .inl (.istore 4), 2), (52, .inl (.iload 4), 2), (54, .inl (.aload_n 0), 1), (55, .inr (0, 9, 0), 3), (58, .inl (.iconst 2), 1), (59, .inl (.iaload), 1), (60, .inl (.if_icmp .ge 34), 3), (63, .inl (.iload_n 3), 1)],
  [(64, .inl (.aload_n 0), 1), (65, .inr (0, 9, 0), 3), (68, .inl (.iload 4), 2), (70, .inl (.iload_n 1), 1), (71, .inr (2, 249, 3), 3), (74, .inl (.iconst (-1)), 1), (75, .inl (.if_icmp .ne 7), 3), (78, .inl (.iconst 0), 1), (79, .inl (.goto 7), 3)],
  [(82, .inl (.iconst 1), 1), (83, .inl (.iload 4), 2), (85, .inl (.ishl), 1), (86, .inl (.ior), 1), (87, .inl (.istore_n 3), 1), (88, .inl (.iinc 4 1), 3), (91, .inl (.goto (-39)), 3), (94, .inl (.iload_n 2), 1), (95, .inl (.tableswitch 67 0 3 #[29, 39, 59, 61]), 29)],
  [],
  [(124, .inl (.aload_n 0), 1), (125, .inr (0, 9, 0), 3)],
  [(128, .inl (.bipush 11), 2), (130, .inl (.iload_n 1), 1), (131, .inl (.iadd), 1), (132, .inl (.iaload), 1), (133, .inl (.ireturn), 1), (134, .inl (.aload_n 0), 1), (135, .inr (0, 9, 0), 3), (138, .inl (.bipush 31), 2), (140, .inl (.iaload), 1), (141, .inl (.iload_n 1), 1), (142, .inr (2, 270, 2), 3)],
  [(145, .inl (.ifCond .eq 7), 3), (148, .inl (.iconst 1), 1), (149, .inl (.goto 4), 3), (152, .inl (.iconst 0), 1), (153, .inl (.ireturn), 1), (154, .inl (.iload_n 3), 1), (155, .inl (.ireturn), 1), (156, .inl (.aload_n 0), 1), (157, .inl (.iload_n 1), 1), (158, .inr (2, 271, 2), 3)],
  [(161, .inl (.ireturn), 1), (162, .inl (.aload_n 0), 1), (163, .inl (.iload_n 1), 1), (164, .inl (.iconst (-1)), 1), (165, .inr (2, 272, 3), 3), (168, .inl (.ireturn), 1)]]
-- MovingNamesModel.isStreet(J)Z
set_option maxRecDepth 100000 in
noncomputable def ab_c266 : List (List (Nat × ab_I × Nat)) := [[(0, .inl (.lload_n 1), 1), (1, .inl (.lconst 0), 1), (2, .inl (.aload_n 0), 1), (3, .inr (2, 267, 1), 3), (6, .inl (.iconst 1), 1), (7, .inl (.isub), 1), (8, .inl (.i2l), 1), (9, .inr (2, 232, 3), 3), (12, .inl (.ireturn), 1)]]
-- MovingNamesModel.streets()I
set_option maxRecDepth 100000 in
noncomputable def ab_c267 : List (List (Nat × ab_I × Nat)) := [[(0, .inl (.aload_n 0), 1), (1, .inr (0, 9, 0), 3), (4, .inl (.iconst 1), 1), (5, .inl (.iaload), 1), (6, .inl (.ireturn), 1)]]
-- MovingNamesModel.laysNext()V
set_option maxRecDepth 100000 in
noncomputable def ab_c268 : List (List (Nat × ab_I × Nat)) := [[(0, .inl (.iconst 0), 1), (1, .inl (.istore_n 1), 1), (2, .inl (.iload_n 1), 1), (3, .inl (.aload_n 0), 1), (4, .inr (2, 267, 1), 3), (7, .inl (.if_icmp .ge 16), 3), (10, .inl (.aload_n 0), 1), (11, .inr (0, 9, 17), 3), (14, .inl (.iload_n 1), 1), (15, .inl (.iload_n 1), 1)],
  [(16, .inl (.iastore), 1), (17, .inl (.iinc 1 1), 3), (20, .inl (.goto (-18)), 3), (23, .inl (.iconst 0), 1), (24, .inl (.istore_n 1), 1), (25, .inl (.iload_n 1), 1), (26, .inl (.aload_n 0), 1), (27, .inr (0, 9, 0), 3), (30, .inl (.iconst 2), 1), (31, .inl (.iaload), 1)],
  [(32, .inl (.if_icmp .ge 14), 3), (35, .inl (.aload_n 0), 1), (36, .inl (.iload_n 1), 1), (37, .inr (2, 269, 2), 3), (40, .inl (.iinc 1 1), 3), (43, .inl (.goto (-18)), 3), (46, .inl (.return_), 1)]]
-- MovingNamesModel.goesRound(I)V
set_option maxRecDepth 100000 in
noncomputable def ab_c269 : List (List (Nat × ab_I × Nat)) := [[(0, .inl (.iconst 0), 1), (1, .inl (.istore_n 2), 1), (2, .inl (.iconst 0), 1), (3, .inl (.istore_n 3), 1), (4, .inl (.iload_n 3), 1), (5, .inl (.aload_n 0), 1), (6, .inr (0, 9, 0), 3), (9, .inl (.bipush 32), 2), (11, .inl (.iload_n 1), 1), (12, .inl (.iadd), 1), (13, .inl (.iaload), 1), (14, .inl (.if_icmp .ge 54), 3)],
  [(17, .inl (.aload_n 0), 1), (18, .inr (0, 9, 0), 3), (21, .inl (.bipush 36), 2), (23, .inl (.bipush 20), 2), (25, .inl (.iload_n 1), 1), (26, .inl (.imul), 1), (27, .inl (.iadd), 1), (28, .inl (.iload_n 3), 1), (29, .inl (.iadd), 1), (30, .inl (.iaload), 1), (31, .inl (.istore 4), 2)],
  [(33, .inl (.aload_n 0), 1), (34, .inr (0, 9, 0), 3), (37, .inl (.bipush 31), 2), (39, .inl (.iaload), 1), (40, .inl (.iload 4), 2), (42, .inr (2, 270, 2), 3), (45, .inl (.ifCond .eq 6), 3)],
  [(48, .inl (.goto 14), 3), (51, .inl (.aload_n 0), 1), (52, .inr (0, 9, 19), 3), (55, .inl (.iload_n 2), 1), (56, .inl (.iload 4), 2), (58, .inl (.iastore), 1), (59, .inl (.iinc 2 1), 3), (62, .inl (.iinc 3 1), 3)],
  [(65, .inl (.goto (-61)), 3), (68, .inl (.iload_n 2), 1), (69, .inl (.iconst 2), 1), (70, .inl (.if_icmp .ge 4), 3), (73, .inl (.return_), 1), (74, .inl (.iconst 0), 1), (75, .inl (.istore_n 3), 1), (76, .inl (.iload_n 3), 1), (77, .inl (.aload_n 0), 1), (78, .inr (2, 267, 1), 3)],
  [(81, .inl (.if_icmp .ge 16), 3), (84, .inl (.aload_n 0), 1), (85, .inr (0, 9, 20), 3), (88, .inl (.iload_n 3), 1), (89, .inl (.iload_n 3), 1), (90, .inl (.iastore), 1), (91, .inl (.iinc 3 1), 3), (94, .inl (.goto (-18)), 3)],
  [(97, .inl (.aload_n 0), 1), (98, .inr (0, 9, 0), 3), (101, .inl (.bipush 7), 2), (103, .inl (.iload_n 1), 1), (104, .inl (.iadd), 1), (105, .inl (.iaload), 1), (106, .inl (.iload_n 2), 1), (107, .inl (.irem), 1), (108, .inl (.iload_n 2), 1), (109, .inl (.iadd), 1), (110, .inl (.iload_n 2), 1), (111, .inl (.irem), 1)],
  [(112, .inl (.istore_n 3), 1), (113, .inl (.iconst 0), 1), (114, .inl (.istore 4), 2), (116, .inl (.iload 4), 2), (118, .inl (.iload_n 2), 1), (119, .inl (.if_icmp .ge 32), 3), (122, .inl (.aload_n 0), 1), (123, .inr (0, 9, 20), 3), (126, .inl (.aload_n 0), 1), (127, .inr (0, 9, 19), 3)],
  [(130, .inl (.iload 4), 2), (132, .inl (.iaload), 1), (133, .inl (.aload_n 0), 1), (134, .inr (0, 9, 19), 3), (137, .inl (.iload 4), 2), (139, .inl (.iload_n 3), 1), (140, .inl (.iadd), 1), (141, .inl (.iload_n 2), 1), (142, .inl (.irem), 1), (143, .inl (.iaload), 1)],
  [(144, .inl (.iastore), 1), (145, .inl (.iinc 4 1), 3), (148, .inl (.goto (-32)), 3), (151, .inl (.iconst 0), 1), (152, .inl (.istore 4), 2), (154, .inl (.iload 4), 2), (156, .inl (.aload_n 0), 1), (157, .inr (2, 267, 1), 3)],
  [(160, .inl (.if_icmp .ge 28), 3), (163, .inl (.aload_n 0), 1), (164, .inr (0, 9, 17), 3), (167, .inl (.iload 4), 2), (169, .inl (.aload_n 0), 1), (170, .inr (0, 9, 20), 3), (173, .inl (.aload_n 0), 1), (174, .inr (0, 9, 17), 3)],
  [(177, .inl (.iload 4), 2), (179, .inl (.iaload), 1), (180, .inl (.iaload), 1), (181, .inl (.iastore), 1), (182, .inl (.iinc 4 1), 3), (185, .inl (.goto (-31)), 3), (188, .inl (.return_), 1)]]
-- MovingNamesModel.has(II)Z
set_option maxRecDepth 100000 in
noncomputable def ab_c270 : List (List (Nat × ab_I × Nat)) := [[(0, .inl (.iload_n 0), 1), (1, .inl (.iload_n 1), 1), (2, .inl (.ishr), 1), (3, .inl (.iconst 1), 1), (4, .inl (.iand), 1), (5, .inl (.iconst 1), 1), (6, .inl (.if_icmp .ne 7), 3), (9, .inl (.iconst 1), 1), (10, .inl (.goto 4), 3), (13, .inl (.iconst 0), 1), (14, .inl (.ireturn), 1)]]
-- MovingNamesModel.cycleOf(I)I
set_option maxRecDepth 100000 in
noncomputable def ab_c271 : List (List (Nat × ab_I × Nat)) := [[(0, .inl (.iconst 1), 1), (1, .inl (.istore_n 2), 1), (2, .inl (.aload_n 0), 1), (3, .inr (0, 9, 17), 3), (6, .inl (.iload_n 1), 1), (7, .inl (.iaload), 1), (8, .inl (.istore_n 3), 1), (9, .inl (.iload_n 3), 1), (10, .inl (.iload_n 1), 1), (11, .inl (.if_icmp .eq 16), 3), (14, .inl (.iinc 2 1), 3)],
  [(17, .inl (.aload_n 0), 1), (18, .inr (0, 9, 17), 3), (21, .inl (.iload_n 3), 1), (22, .inl (.iaload), 1), (23, .inl (.istore_n 3), 1), (24, .inl (.goto (-15)), 3), (27, .inl (.iload_n 2), 1), (28, .inl (.ireturn), 1)]]
-- MovingNamesModel.peopleIn(II)I
set_option maxRecDepth 100000 in
noncomputable def ab_c272 : List (List (Nat × ab_I × Nat)) := [[(0, .inl (.iconst 0), 1), (1, .inl (.istore_n 3), 1), (2, .inl (.iconst 0), 1), (3, .inl (.istore 4), 2), (5, .inl (.iload 4), 2), (7, .inl (.aload_n 0), 1), (8, .inr (0, 9, 0), 3), (11, .inl (.iconst 3), 1), (12, .inl (.iaload), 1), (13, .inl (.if_icmp .ge 53), 3)],
  [(16, .inl (.iload_n 3), 1), (17, .inl (.aload_n 0), 1), (18, .inr (0, 9, 0), 3), (21, .inl (.bipush 116), 2), (23, .inl (.iload 4), 2), (25, .inl (.iadd), 1), (26, .inl (.iaload), 1), (27, .inl (.iload_n 1), 1), (28, .inl (.if_icmp .ne 29), 3), (31, .inl (.iload_n 2), 1)],
  [(32, .inl (.iconst (-1)), 1), (33, .inl (.if_icmp .eq 17), 3), (36, .inl (.aload_n 0), 1), (37, .inr (0, 9, 0), 3), (40, .inl (.bipush 124), 2), (42, .inl (.iload 4), 2), (44, .inl (.iadd), 1), (45, .inl (.iaload), 1), (46, .inl (.iload_n 2), 1), (47, .inl (.if_icmp .ne 10), 3)],
  [(50, .inl (.iconst 1), 1), (51, .inl (.iload 4), 2), (53, .inl (.ishl), 1), (54, .inl (.goto 4), 3), (57, .inl (.iconst 0), 1), (58, .inl (.ior), 1), (59, .inl (.istore_n 3), 1), (60, .inl (.iinc 4 1), 3), (63, .inl (.goto (-58)), 3)],
  [(66, .inl (.iload_n 3), 1), (67, .inl (.ireturn), 1)]]
-- MovingNamesModel.round(II)I
set_option maxRecDepth 100000 in
noncomputable def ab_c273 : List (List (Nat × ab_I × Nat)) := [[(0, .inl (.aload_n 0), 1), (1, .inl (.aload_n 0), 1), (2, .inl (.iload_n 1), 1), (3, .inr (2, 274, 2), 3), (6, .inl (.ifCond .ne 7), 3), (9, .inl (.iconst 1), 1), (10, .inl (.goto 34), 3), (13, .inl (.iload_n 2), 1), (14, .inl (.i2l), 1), (15, .inl (.lconst 0), 1)],
  [(16, .inr (9, 0, 2), 3), (19, .inr (2, 232, 3), 3), (22, .inl (.ifCond .ne 17), 3), (25, .inl (.iload_n 2), 1), (26, .inl (.i2l), 1), (27, .inr (9, 0, 10), 3), (30, .inr (9, 0, 29), 3)],
  [(33, .inr (2, 232, 3), 3), (36, .inl (.ifCond .eq 7), 3), (39, .inl (.iconst 0), 1), (40, .inl (.goto 4), 3), (43, .inl (.iconst 2), 1), (44, .inr (1, 9, 4), 3), (47, .inl (.aload_n 0), 1)],
  [(48, .inr (0, 9, 4), 3), (51, .inl (.ifCond .le 5), 3), (54, .inl (.iconst 0), 1), (55, .inl (.ireturn), 1), (56, .inl (.aload_n 0), 1), (57, .inr (0, 9, 0), 3), (60, .inl (.bipush 32), 2), (62, .inl (.iload_n 1), 1), (63, .inl (.iadd), 1)],
  [(64, .inl (.iaload), 1), (65, .inl (.istore_n 3), 1), (66, .inl (.iload_n 2), 1), (67, .inl (.bipush 10), 2), (69, .inl (.if_icmp .lt 33), 3), (72, .inl (.iload_n 2), 1), (73, .inl (.bipush 10), 2), (75, .inl (.isub), 1), (76, .inl (.iload_n 3), 1), (77, .inl (.if_icmp .ge 23), 3)],
  [(80, .inl (.aload_n 0), 1), (81, .inr (0, 9, 0), 3), (84, .inl (.bipush 36), 2), (86, .inl (.bipush 20), 2), (88, .inl (.iload_n 1), 1), (89, .inl (.imul), 1), (90, .inl (.iadd), 1), (91, .inl (.iload_n 2), 1), (92, .inl (.iadd), 1), (93, .inl (.bipush 10), 2), (95, .inl (.isub), 1)],
  [(96, .inl (.iaload), 1), (97, .inl (.goto 4), 3), (100, .inl (.iconst (-1)), 1), (101, .inl (.ireturn), 1), (102, .inl (.iload_n 2), 1), (103, .inl (.ifCond .ne 7), 3), (106, .inl (.iload_n 3), 1), (107, .inl (.goto 40), 3), (110, .inl (.iload_n 2), 1), (111, .inl (.iconst 1), 1)],
  [(112, .inl (.if_icmp .ne 18), 3), (115, .inl (.aload_n 0), 1), (116, .inr (0, 9, 0), 3), (119, .inl (.bipush 7), 2), (121, .inl (.iload_n 1), 1), (122, .inl (.iadd), 1), (123, .inl (.iaload), 1), (124, .inr (2, 92, 1), 3), (127, .inl (.goto 20), 3)],
  [(130, .inl (.aload_n 0), 1), (131, .inr (0, 9, 0), 3), (134, .inl (.bipush 7), 2), (136, .inl (.iload_n 1), 1), (137, .inl (.iadd), 1), (138, .inl (.iaload), 1), (139, .inl (.ifCond .ge 7), 3), (142, .inl (.iconst 1), 1), (143, .inl (.goto 4), 3)],
  [(146, .inl (.iconst 0), 1), (147, .inl (.ireturn), 1)]]
-- MovingNamesModel.isRound(I)Z
set_option maxRecDepth 100000 in
noncomputable def ab_c274 : List (List (Nat × ab_I × Nat)) := [[(0, .inl (.iload_n 1), 1), (1, .inl (.i2l), 1), (2, .inl (.lconst 0), 1), (3, .inl (.aload_n 0), 1), (4, .inr (0, 9, 0), 3), (7, .inl (.iconst 2), 1), (8, .inl (.iaload), 1), (9, .inl (.iconst 1), 1), (10, .inl (.isub), 1), (11, .inl (.i2l), 1), (12, .inr (2, 232, 3), 3), (15, .inl (.ireturn), 1)]]
-- MovingNamesModel.person(II)I
set_option maxRecDepth 100000 in
noncomputable def ab_c275 : List (List (Nat × ab_I × Nat)) := [[(0, .inl (.aload_n 0), 1), (1, .inl (.aload_n 0), 1), (2, .inl (.iload_n 1), 1), (3, .inr (2, 276, 2), 3), (6, .inl (.ifCond .ne 7), 3), (9, .inl (.iconst 1), 1), (10, .inl (.goto 20), 3), (13, .inl (.iload_n 2), 1), (14, .inl (.i2l), 1), (15, .inl (.lconst 0), 1)],
  [(16, .inr (9, 0, 2), 3), (19, .inr (2, 232, 3), 3), (22, .inl (.ifCond .eq 7), 3), (25, .inl (.iconst 0), 1), (26, .inl (.goto 4), 3), (29, .inl (.iconst 2), 1), (30, .inr (1, 9, 4), 3)],
  [(33, .inl (.aload_n 0), 1), (34, .inr (0, 9, 4), 3), (37, .inl (.ifCond .le 5), 3), (40, .inl (.iconst 0), 1), (41, .inl (.ireturn), 1), (42, .inl (.aload_n 0), 1), (43, .inr (0, 9, 0), 3), (46, .inl (.bipush 116), 2)],
  [(48, .inl (.iload_n 1), 1), (49, .inl (.iadd), 1), (50, .inl (.iaload), 1), (51, .inl (.istore_n 3), 1), (52, .inl (.iload_n 2), 1), (53, .inl (.ifCond .ne 7), 3), (56, .inl (.iload_n 3), 1), (57, .inl (.goto 29), 3), (60, .inl (.iload_n 2), 1), (61, .inl (.iconst 1), 1), (62, .inl (.if_icmp .ne 15), 3)],
  [(65, .inl (.aload_n 0), 1), (66, .inr (0, 9, 0), 3), (69, .inl (.bipush 124), 2), (71, .inl (.iload_n 1), 1), (72, .inl (.iadd), 1), (73, .inl (.iaload), 1), (74, .inl (.goto 12), 3), (77, .inl (.aload_n 0), 1), (78, .inr (0, 9, 0), 3)],
  [(81, .inl (.bipush 11), 2), (83, .inl (.iload_n 3), 1), (84, .inl (.iadd), 1), (85, .inl (.iaload), 1), (86, .inl (.ireturn), 1)]]
-- MovingNamesModel.isBody(I)Z
set_option maxRecDepth 100000 in
noncomputable def ab_c276 : List (List (Nat × ab_I × Nat)) := [[(0, .inl (.iload_n 1), 1), (1, .inl (.i2l), 1), (2, .inl (.lconst 0), 1), (3, .inl (.aload_n 0), 1), (4, .inr (0, 9, 0), 3), (7, .inl (.iconst 3), 1), (8, .inl (.iaload), 1), (9, .inl (.iconst 1), 1), (10, .inl (.isub), 1), (11, .inl (.i2l), 1), (12, .inr (2, 232, 3), 3), (15, .inl (.ireturn), 1)]]
-- MovingNamesModel.where(I)I
set_option maxRecDepth 100000 in
noncomputable def ab_c277 : List (List (Nat × ab_I × Nat)) := [[(0, .inl (.aload_n 0), 1), (1, .inl (.iconst 0), 1), (2, .inr (1, 9, 4), 3), (5, .inl (.aload_n 0), 1), (6, .inl (.iload_n 1), 1), (7, .inl (.i2l), 1), (8, .inr (2, 266, 2), 3), (11, .inl (.ifCond .eq 11), 3), (14, .inl (.aload_n 0), 1), (15, .inl (.iload_n 1), 1)],
  [(16, .inr (2, 278, 2), 3), (19, .inl (.goto 8), 3), (22, .inl (.aload_n 0), 1), (23, .inl (.iconst 1), 1), (24, .inr (2, 233, 2), 3), (27, .inl (.ireturn), 1)]]
-- MovingNamesModel.hangs(I)I
set_option maxRecDepth 100000 in
noncomputable def ab_c278 : List (List (Nat × ab_I × Nat)) := [[(0, .inl (.iconst 0), 1), (1, .inl (.istore_n 2), 1), (2, .inl (.iconst 0), 1), (3, .inl (.istore_n 3), 1), (4, .inl (.iload_n 3), 1), (5, .inl (.aload_n 0), 1), (6, .inr (2, 267, 1), 3), (9, .inl (.if_icmp .ge 32), 3), (12, .inl (.iload_n 2), 1), (13, .inl (.aload_n 0), 1), (14, .inr (0, 9, 0), 3)],
  [(17, .inl (.bipush 11), 2), (19, .inl (.iload_n 3), 1), (20, .inl (.iadd), 1), (21, .inl (.iaload), 1), (22, .inl (.iload_n 1), 1), (23, .inl (.if_icmp .ne 9), 3), (26, .inl (.iconst 1), 1), (27, .inl (.iload_n 3), 1), (28, .inl (.ishl), 1), (29, .inl (.goto 4), 3)],
  [(32, .inl (.iconst 0), 1), (33, .inl (.ior), 1), (34, .inl (.istore_n 2), 1), (35, .inl (.iinc 3 1), 3), (38, .inl (.goto (-34)), 3), (41, .inl (.iload_n 2), 1), (42, .inl (.ireturn), 1)]]
-- MovingNamesModel.finds(II)I
set_option maxRecDepth 100000 in
noncomputable def ab_c279 : List (List (Nat × ab_I × Nat)) := [[(0, .inl (.aload_n 0), 1), (1, .inl (.iload_n 1), 1), (2, .inl (.iload_n 2), 1), (3, .inl (.iconst 0), 1), (4, .inr (2, 280, 4), 3), (7, .inl (.ireturn), 1)]]
-- MovingNamesModel.findsIn(III)I
set_option maxRecDepth 100000 in
noncomputable def ab_c280 : List (List (Nat × ab_I × Nat)) := [[(0, .inl (.aload_n 0), 1), (1, .inl (.aload_n 0), 1), (2, .inl (.iload_n 1), 1), (3, .inl (.i2l), 1), (4, .inr (2, 266, 2), 3), (7, .inl (.ifCond .ne 7), 3), (10, .inl (.iconst 1), 1), (11, .inl (.goto 23), 3), (14, .inl (.aload_n 0), 1), (15, .inl (.iload_n 2), 1)],
  [(16, .inr (2, 281, 2), 3), (19, .inl (.ifCond .eq 14), 3), (22, .inl (.iload_n 3), 1), (23, .inr (2, 282, 1), 3), (26, .inl (.ifCond .eq 7), 3), (29, .inl (.iconst 0), 1), (30, .inl (.goto 4), 3)],
  [(33, .inl (.iconst 2), 1), (34, .inr (1, 9, 4), 3), (37, .inl (.aload_n 0), 1), (38, .inr (0, 9, 4), 3), (41, .inl (.ifCond .le 5), 3), (44, .inl (.iconst 0), 1), (45, .inl (.ireturn), 1), (46, .inl (.aload_n 0), 1), (47, .inr (2, 268, 1), 3)],
  [(50, .inl (.aload_n 0), 1), (51, .inl (.iload_n 1), 1), (52, .inl (.iload_n 2), 1), (53, .inl (.iload_n 3), 1), (54, .inr (2, 283, 4), 3), (57, .inl (.ireturn), 1)]]
-- MovingNamesModel.isHouse(I)Z
set_option maxRecDepth 100000 in
noncomputable def ab_c281 : List (List (Nat × ab_I × Nat)) := [[(0, .inl (.iload_n 1), 1), (1, .inl (.i2l), 1), (2, .inl (.lconst 1), 1), (3, .inl (.aload_n 0), 1), (4, .inr (0, 9, 0), 3), (7, .inl (.iconst 4), 1), (8, .inl (.iaload), 1), (9, .inl (.i2l), 1), (10, .inr (2, 232, 3), 3), (13, .inl (.ireturn), 1)]]
-- MovingNamesModel.isFar(I)Z
set_option maxRecDepth 100000 in
noncomputable def ab_c282 : List (List (Nat × ab_I × Nat)) := [[(0, .inl (.iload_n 0), 1), (1, .inl (.i2l), 1), (2, .inr (9, 0, (-9999)), 3), (5, .inr (9, 0, 9999), 3), (8, .inr (2, 232, 3), 3), (11, .inl (.ireturn), 1)]]
-- MovingNamesModel.foundBy(III)I
set_option maxRecDepth 100000 in
noncomputable def ab_c283 : List (List (Nat × ab_I × Nat)) := [[(0, .inl (.iconst 0), 1), (1, .inl (.istore 4), 2), (3, .inl (.iconst 0), 1), (4, .inl (.istore 5), 2), (6, .inl (.iload 5), 2), (8, .inl (.aload_n 0), 1), (9, .inr (2, 267, 1), 3), (12, .inl (.if_icmp .ge 36), 3), (15, .inl (.iload 4), 2)],
  [(17, .inl (.aload_n 0), 1), (18, .inl (.iload 5), 2), (20, .inl (.iload_n 3), 1), (21, .inr (2, 284, 3), 3), (24, .inl (.iload_n 1), 1), (25, .inl (.if_icmp .ne 13), 3), (28, .inl (.aload_n 0), 1), (29, .inl (.iload 5), 2), (31, .inl (.iload_n 2), 1)],
  [(32, .inr (2, 272, 3), 3), (35, .inl (.goto 4), 3), (38, .inl (.iconst 0), 1), (39, .inl (.ior), 1), (40, .inl (.istore 4), 2), (42, .inl (.iinc 5 1), 3), (45, .inl (.goto (-39)), 3)],
  [(48, .inl (.iload 4), 2), (50, .inl (.ireturn), 1)]]
-- MovingNamesModel.nameBy(II)I
set_option maxRecDepth 100000 in
noncomputable def ab_c284 : List (List (Nat × ab_I × Nat)) := [[(0, .inl (.aload_n 0), 1), (1, .inr (0, 9, 0), 3), (4, .inl (.bipush 11), 2), (6, .inl (.aload_n 0), 1), (7, .inl (.iload_n 1), 1), (8, .inl (.iload_n 2), 1), (9, .inl (.ineg), 1), (10, .inr (2, 285, 3), 3), (13, .inl (.iadd), 1), (14, .inl (.iaload), 1), (15, .inl (.ireturn), 1)]]
-- MovingNamesModel.comes(II)I
set_option maxRecDepth 100000 in
noncomputable def ab_c285 : List (List (Nat × ab_I × Nat)) := [[(0, .inl (.aload_n 0), 1), (1, .inl (.iload_n 1), 1), (2, .inr (2, 271, 2), 3), (5, .inl (.istore_n 3), 1), (6, .inl (.iload_n 1), 1), (7, .inl (.istore 4), 2), (9, .inl (.iload_n 2), 1), (10, .inl (.iload_n 3), 1), (11, .inl (.irem), 1), (12, .inl (.iload_n 3), 1), (13, .inl (.iadd), 1), (14, .inl (.iload_n 3), 1), (15, .inl (.irem), 1)],
  [(16, .inl (.istore 5), 2), (18, .inl (.iload 5), 2), (20, .inl (.ifCond .le 18), 3), (23, .inl (.aload_n 0), 1), (24, .inr (0, 9, 17), 3), (27, .inl (.iload 4), 2), (29, .inl (.iaload), 1), (30, .inl (.istore 4), 2)],
  [(32, .inl (.iinc 5 (-1)), 3), (35, .inl (.goto (-17)), 3), (38, .inl (.iload 4), 2), (40, .inl (.ireturn), 1)]]
-- MovingNamesModel.nameIn(II)I
set_option maxRecDepth 100000 in
noncomputable def ab_c286 : List (List (Nat × ab_I × Nat)) := [[(0, .inl (.aload_n 0), 1), (1, .inl (.aload_n 0), 1), (2, .inl (.iload_n 1), 1), (3, .inl (.i2l), 1), (4, .inr (2, 266, 2), 3), (7, .inl (.ifCond .ne 7), 3), (10, .inl (.iconst 1), 1), (11, .inl (.goto 15), 3), (14, .inl (.iload_n 2), 1), (15, .inr (2, 282, 1), 3)],
  [(18, .inl (.ifCond .eq 7), 3), (21, .inl (.iconst 0), 1), (22, .inl (.goto 4), 3), (25, .inl (.iconst 2), 1), (26, .inr (1, 9, 4), 3), (29, .inl (.aload_n 0), 1), (30, .inr (0, 9, 4), 3)],
  [(33, .inl (.ifCond .le 5), 3), (36, .inl (.iconst 0), 1), (37, .inl (.ireturn), 1), (38, .inl (.aload_n 0), 1), (39, .inr (2, 268, 1), 3), (42, .inl (.aload_n 0), 1), (43, .inl (.iload_n 1), 1), (44, .inl (.iload_n 2), 1), (45, .inr (2, 284, 3), 3)],
  [(48, .inl (.ireturn), 1)]]
-- MovingNamesModel.goesTo(II)I
set_option maxRecDepth 100000 in
noncomputable def ab_c287 : List (List (Nat × ab_I × Nat)) := [[(0, .inl (.aload_n 0), 1), (1, .inl (.aload_n 0), 1), (2, .inl (.iload_n 1), 1), (3, .inl (.i2l), 1), (4, .inr (2, 266, 2), 3), (7, .inl (.ifCond .ne 7), 3), (10, .inl (.iconst 1), 1), (11, .inl (.goto 15), 3), (14, .inl (.iload_n 2), 1), (15, .inr (2, 282, 1), 3)],
  [(18, .inl (.ifCond .eq 7), 3), (21, .inl (.iconst 0), 1), (22, .inl (.goto 4), 3), (25, .inl (.iconst 2), 1), (26, .inr (1, 9, 4), 3), (29, .inl (.aload_n 0), 1), (30, .inr (0, 9, 4), 3)],
  [(33, .inl (.ifCond .le 5), 3), (36, .inl (.iconst 0), 1), (37, .inl (.ireturn), 1), (38, .inl (.aload_n 0), 1), (39, .inr (2, 268, 1), 3), (42, .inl (.aload_n 0), 1), (43, .inl (.iload_n 1), 1), (44, .inl (.iload_n 2), 1), (45, .inr (2, 285, 3), 3)],
  [(48, .inl (.ireturn), 1)]]
-- MovingNamesModel.nights(I)I
set_option maxRecDepth 100000 in
noncomputable def ab_c288 : List (List (Nat × ab_I × Nat)) := [[(0, .inl (.aload_n 0), 1), (1, .inl (.iconst 0), 1), (2, .inr (1, 9, 4), 3), (5, .inl (.iload_n 1), 1), (6, .inl (.i2l), 1), (7, .inl (.lconst 1), 1), (8, .inr (9, 0, 99), 3), (11, .inr (2, 232, 3), 3), (14, .inl (.ifCond .ne 9), 3)],
  [(17, .inl (.aload_n 0), 1), (18, .inl (.iconst 1), 1), (19, .inr (2, 233, 2), 3), (22, .inl (.ireturn), 1), (23, .inl (.aload_n 0), 1), (24, .inr (2, 289, 1), 3), (27, .inl (.iconst 0), 1), (28, .inl (.istore_n 2), 1), (29, .inl (.iconst 0), 1), (30, .inl (.istore_n 3), 1), (31, .inl (.iload_n 3), 1)],
  [(32, .inl (.iload_n 1), 1), (33, .inl (.if_icmp .ge 16), 3), (36, .inl (.iload_n 2), 1), (37, .inl (.aload_n 0), 1), (38, .inr (2, 290, 1), 3), (41, .inl (.iadd), 1), (42, .inl (.istore_n 2), 1), (43, .inl (.iinc 3 1), 3), (46, .inl (.goto (-15)), 3)],
  [(49, .inl (.iload_n 2), 1), (50, .inl (.ireturn), 1)]]
-- MovingNamesModel.keeps()V
set_option maxRecDepth 100000 in
noncomputable def ab_c289 : List (List (Nat × ab_I × Nat)) := [[(0, .inl (.aload_n 0), 1), (1, .inr (0, 9, 0), 3), (4, .inl (.bipush 6), 2), (6, .inl (.iaload), 1), (7, .inl (.bipush 10), 2), (9, .inl (.if_icmp .ne 46), 3), (12, .inl (.sipush 134), 3), (15, .inl (.istore_n 1), 1)],
  [(16, .inl (.iload_n 1), 1), (17, .inl (.sipush 1241), 3), (20, .inl (.if_icmp .ge 24), 3), (23, .inl (.aload_n 0), 1), (24, .inr (0, 9, 0), 3), (27, .inl (.iload_n 1), 1), (28, .inl (.aload_n 0), 1), (29, .inr (0, 9, 0), 3)],
  [(32, .inl (.iload_n 1), 1), (33, .inl (.bipush 123), 2), (35, .inl (.iadd), 1), (36, .inl (.iaload), 1), (37, .inl (.iastore), 1), (38, .inl (.iinc 1 1), 3), (41, .inl (.goto (-25)), 3), (44, .inl (.aload_n 0), 1), (45, .inr (0, 9, 0), 3)],
  [(48, .inl (.bipush 6), 2), (50, .inl (.dup2), 1), (51, .inl (.iaload), 1), (52, .inl (.iconst 1), 1), (53, .inl (.isub), 1), (54, .inl (.iastore), 1), (55, .inl (.iconst 0), 1), (56, .inl (.istore_n 1), 1), (57, .inl (.iload_n 1), 1), (58, .inl (.bipush 123), 2), (60, .inl (.if_icmp .ge 39), 3), (63, .inl (.aload_n 0), 1)],
  [(64, .inr (0, 9, 0), 3), (67, .inl (.sipush 134), 3), (70, .inl (.bipush 123), 2), (72, .inl (.aload_n 0), 1), (73, .inr (0, 9, 0), 3), (76, .inl (.bipush 6), 2), (78, .inl (.iaload), 1), (79, .inl (.imul), 1)],
  [(80, .inl (.iadd), 1), (81, .inl (.iload_n 1), 1), (82, .inl (.iadd), 1), (83, .inl (.aload_n 0), 1), (84, .inr (0, 9, 0), 3), (87, .inl (.bipush 11), 2), (89, .inl (.iload_n 1), 1), (90, .inl (.iadd), 1), (91, .inl (.iaload), 1), (92, .inl (.iastore), 1), (93, .inl (.iinc 1 1), 3)],
  [(96, .inl (.goto (-39)), 3), (99, .inl (.aload_n 0), 1), (100, .inr (0, 9, 0), 3), (103, .inl (.bipush 6), 2), (105, .inl (.dup2), 1), (106, .inl (.iaload), 1), (107, .inl (.iconst 1), 1), (108, .inl (.iadd), 1), (109, .inl (.iastore), 1), (110, .inl (.return_), 1)]]
-- MovingNamesModel.night()I
set_option maxRecDepth 100000 in
noncomputable def ab_c290 : List (List (Nat × ab_I × Nat)) := [[(0, .inl (.aload_n 0), 1), (1, .inr (2, 291, 1), 3), (4, .inl (.istore_n 1), 1), (5, .inl (.iload_n 1), 1), (6, .inl (.ifCond .ne 86), 3), (9, .inl (.aload_n 0), 1), (10, .inr (2, 268, 1), 3), (13, .inl (.iconst 0), 1), (14, .inl (.istore_n 2), 1), (15, .inl (.iload_n 2), 1)],
  [(16, .inl (.aload_n 0), 1), (17, .inr (2, 267, 1), 3), (20, .inl (.if_icmp .ge 29), 3), (23, .inl (.aload_n 0), 1), (24, .inr (0, 9, 23), 3), (27, .inl (.aload_n 0), 1), (28, .inr (0, 9, 17), 3), (31, .inl (.iload_n 2), 1)],
  [(32, .inl (.iaload), 1), (33, .inl (.aload_n 0), 1), (34, .inr (0, 9, 0), 3), (37, .inl (.bipush 11), 2), (39, .inl (.iload_n 2), 1), (40, .inl (.iadd), 1), (41, .inl (.iaload), 1), (42, .inl (.iastore), 1), (43, .inl (.iinc 2 1), 3), (46, .inl (.goto (-31)), 3)],
  [(49, .inl (.iconst 0), 1), (50, .inl (.istore_n 2), 1), (51, .inl (.iload_n 2), 1), (52, .inl (.aload_n 0), 1), (53, .inr (2, 267, 1), 3), (56, .inl (.if_icmp .ge 24), 3), (59, .inl (.aload_n 0), 1), (60, .inr (0, 9, 0), 3), (63, .inl (.bipush 11), 2)],
  [(65, .inl (.iload_n 2), 1), (66, .inl (.iadd), 1), (67, .inl (.aload_n 0), 1), (68, .inr (0, 9, 23), 3), (71, .inl (.iload_n 2), 1), (72, .inl (.iaload), 1), (73, .inl (.iastore), 1), (74, .inl (.iinc 2 1), 3), (77, .inl (.goto (-26)), 3)],
  [(80, .inl (.aload_n 0), 1), (81, .inr (0, 9, 0), 3), (84, .inl (.sipush 133), 3), (87, .inl (.dup2), 1), (88, .inl (.iaload), 1), (89, .inl (.iconst 1), 1), (90, .inl (.iadd), 1), (91, .inl (.iastore), 1), (92, .inl (.aload_n 0), 1), (93, .inr (0, 9, 0), 3)],
  [(96, .inl (.sipush 132), 3), (99, .inl (.dup2), 1), (100, .inl (.iaload), 1), (101, .inl (.iconst 1), 1), (102, .inl (.iadd), 1), (103, .inl (.iastore), 1), (104, .inl (.iload_n 1), 1), (105, .inl (.ifCond .eq 7), 3), (108, .inl (.iconst 0), 1), (109, .inl (.goto 4), 3)],
  [(112, .inl (.iconst 1), 1), (113, .inl (.ireturn), 1)]]
-- MovingNamesModel.isRestNow()Z
set_option maxRecDepth 100000 in
noncomputable def ab_c291 : List (List (Nat × ab_I × Nat)) := [[(0, .inl (.aload_n 0), 1), (1, .inl (.aload_n 0), 1), (2, .inr (0, 9, 0), 3), (5, .inl (.sipush 132), 3), (8, .inl (.iaload), 1), (9, .inl (.aload_n 0), 1), (10, .inr (0, 9, 0), 3), (13, .inl (.sipush 133), 3)],
  [(16, .inl (.iaload), 1), (17, .inl (.aload_n 0), 1), (18, .inr (2, 292, 1), 3), (21, .inr (2, 294, 4), 3), (24, .inl (.ireturn), 1)]]
-- MovingNamesModel.wrong()I
set_option maxRecDepth 100000 in
noncomputable def ab_c292 : List (List (Nat × ab_I × Nat)) := [[(0, .inl (.iconst 0), 1), (1, .inl (.istore_n 1), 1), (2, .inl (.iconst 0), 1), (3, .inl (.istore_n 2), 1), (4, .inl (.iload_n 2), 1), (5, .inl (.aload_n 0), 1), (6, .inr (2, 267, 1), 3), (9, .inl (.if_icmp .ge 37), 3), (12, .inl (.iload_n 1), 1), (13, .inl (.aload_n 0), 1), (14, .inl (.aload_n 0), 1), (15, .inr (0, 9, 0), 3)],
  [(18, .inl (.bipush 11), 2), (20, .inl (.iload_n 2), 1), (21, .inl (.iadd), 1), (22, .inl (.iaload), 1), (23, .inr (2, 278, 2), 3), (26, .inr (2, 293, 1), 3), (29, .inl (.iconst 1), 1), (30, .inl (.if_icmp .le 7), 3)],
  [(33, .inl (.iconst 1), 1), (34, .inl (.goto 4), 3), (37, .inl (.iconst 0), 1), (38, .inl (.iadd), 1), (39, .inl (.istore_n 1), 1), (40, .inl (.iinc 2 1), 3), (43, .inl (.goto (-39)), 3), (46, .inl (.iload_n 1), 1), (47, .inl (.ireturn), 1)]]
-- MovingNamesModel.size(I)I
set_option maxRecDepth 100000 in
noncomputable def ab_c293 : List (List (Nat × ab_I × Nat)) := [[(0, .inl (.iconst 0), 1), (1, .inl (.istore_n 1), 1), (2, .inl (.iload_n 0), 1), (3, .inl (.istore_n 2), 1), (4, .inl (.iload_n 2), 1), (5, .inl (.ifCond .eq 15), 3), (8, .inl (.iinc 1 1), 3), (11, .inl (.iload_n 2), 1), (12, .inl (.iload_n 2), 1), (13, .inl (.iconst 1), 1), (14, .inl (.isub), 1), (15, .inl (.iand), 1)],
  [(16, .inl (.istore_n 2), 1), (17, .inl (.goto (-13)), 3), (20, .inl (.iload_n 1), 1), (21, .inl (.ireturn), 1)]]
-- MovingNamesModel.isRest(III)Z
set_option maxRecDepth 100000 in
noncomputable def ab_c294 : List (List (Nat × ab_I × Nat)) := [[(0, .inl (.iconst 0), 1), (1, .inl (.istore 4), 2), (3, .inl (.iconst 0), 1), (4, .inl (.istore 5), 2), (6, .inl (.iload 5), 2), (8, .inl (.aload_n 0), 1), (9, .inr (0, 9, 0), 3), (12, .inl (.iconst 5), 1), (13, .inl (.iaload), 1), (14, .inl (.if_icmp .ge 136), 3)],
  [(17, .inl (.aload_n 0), 1), (18, .inr (0, 9, 0), 3), (21, .inl (.sipush 1364), 3), (24, .inl (.iload 5), 2), (26, .inl (.iadd), 1), (27, .inl (.iaload), 1), (28, .inl (.istore 6), 2), (30, .inl (.iload 6), 2)],
  [(32, .inl (.bipush 100), 2), (34, .inl (.if_icmp .lt 45), 3), (37, .inl (.aload_n 0), 1), (38, .inr (0, 9, 21), 3), (41, .inl (.iload 4), 2), (43, .inl (.iload 6), 2), (45, .inl (.sipush 1000), 3)],
  [(48, .inl (.if_icmp .lt 12), 3), (51, .inl (.iload 6), 2), (53, .inl (.sipush 1000), 3), (56, .inl (.isub), 1), (57, .inl (.goto 15), 3), (60, .inl (.aload_n 0), 1), (61, .inl (.iload 6), 2), (63, .inl (.bipush 100), 2)],
  [(65, .inl (.isub), 1), (66, .inl (.iload_n 1), 1), (67, .inl (.iload_n 2), 1), (68, .inl (.iload_n 3), 1), (69, .inr (2, 295, 5), 3), (72, .inl (.iastore), 1), (73, .inl (.iinc 4 1), 3), (76, .inl (.goto 68), 3), (79, .inl (.iload 6), 2)],
  [(81, .inl (.bipush 18), 2), (83, .inl (.if_icmp .ne 26), 3), (86, .inl (.aload_n 0), 1), (87, .inr (0, 9, 21), 3), (90, .inl (.iload 4), 2), (92, .inl (.iconst 1), 1), (93, .inl (.isub), 1), (94, .inl (.iconst 1), 1), (95, .inl (.aload_n 0), 1)],
  [(96, .inr (0, 9, 21), 3), (99, .inl (.iload 4), 2), (101, .inl (.iconst 1), 1), (102, .inl (.isub), 1), (103, .inl (.iaload), 1), (104, .inl (.isub), 1), (105, .inl (.iastore), 1), (106, .inl (.goto 38), 3), (109, .inl (.iinc 4 (-1)), 3)],
  [(112, .inl (.aload_n 0), 1), (113, .inr (0, 9, 21), 3), (116, .inl (.iload 4), 2), (118, .inl (.iconst 1), 1), (119, .inl (.isub), 1), (120, .inl (.iload 6), 2), (122, .inl (.aload_n 0), 1), (123, .inr (0, 9, 21), 3), (126, .inl (.iload 4), 2)],
  [(128, .inl (.iconst 1), 1), (129, .inl (.isub), 1), (130, .inl (.iaload), 1), (131, .inl (.i2l), 1), (132, .inl (.aload_n 0), 1), (133, .inr (0, 9, 21), 3), (136, .inl (.iload 4), 2), (138, .inl (.iaload), 1), (139, .inl (.i2l), 1), (140, .inr (2, 296, 3), 3), (143, .inl (.iastore), 1)],
  [(144, .inl (.iinc 5 1), 3), (147, .inl (.goto (-141)), 3), (150, .inl (.iload 4), 2), (152, .inl (.ifCond .le 17), 3), (155, .inl (.aload_n 0), 1), (156, .inr (0, 9, 21), 3), (159, .inl (.iconst 0), 1)],
  [(160, .inl (.iaload), 1), (161, .inl (.iconst 1), 1), (162, .inl (.if_icmp .ne 7), 3), (165, .inl (.iconst 1), 1), (166, .inl (.goto 4), 3), (169, .inl (.iconst 0), 1), (170, .inl (.ireturn), 1)]]
-- MovingNamesModel.wordOf(IIII)I
set_option maxRecDepth 100000 in
noncomputable def ab_c295 : List (List (Nat × ab_I × Nat)) := [[(0, .inl (.iload_n 1), 1), (1, .inl (.ifCond .ne 7), 3), (4, .inl (.iload_n 2), 1), (5, .inl (.goto 44), 3), (8, .inl (.iload_n 1), 1), (9, .inl (.iconst 1), 1), (10, .inl (.if_icmp .ne 10), 3), (13, .inl (.iload_n 2), 1), (14, .inl (.bipush 7), 2)],
  [(16, .inl (.irem), 1), (17, .inl (.goto 32), 3), (20, .inl (.iload_n 1), 1), (21, .inl (.iconst 2), 1), (22, .inl (.if_icmp .ne 11), 3), (25, .inl (.iload_n 3), 1), (26, .inl (.sipush 1000), 3), (29, .inl (.irem), 1), (30, .inl (.goto 19), 3)],
  [(33, .inl (.iload_n 1), 1), (34, .inl (.iconst 3), 1), (35, .inl (.if_icmp .ne 12), 3), (38, .inl (.aload_n 0), 1), (39, .inr (0, 9, 0), 3), (42, .inl (.iconst 3), 1), (43, .inl (.iaload), 1), (44, .inl (.goto 5), 3), (47, .inl (.iload 4), 2)],
  [(49, .inl (.ireturn), 1)]]
-- MovingNamesModel.done(IJJ)I
set_option maxRecDepth 100000 in
noncomputable def ab_c296 : List (List (Nat × ab_I × Nat)) := [[(0, .inl (.iload_n 0), 1), (1, .inl (.tableswitch 114 10 16 #[43, 50, 57, 64, 76, 88, 100]), 43)],
  [],
  [(44, .inl (.lload_n 1), 1), (45, .inl (.lload_n 3), 1), (46, .inl (.ladd), 1), (47, .inr (2, 297, 1), 3)],
  [(50, .inl (.ireturn), 1), (51, .inl (.lload_n 1), 1), (52, .inl (.lload_n 3), 1), (53, .inl (.lsub), 1), (54, .inr (2, 297, 1), 3), (57, .inl (.ireturn), 1), (58, .inl (.lload_n 1), 1), (59, .inl (.lload_n 3), 1), (60, .inl (.lmul), 1), (61, .inr (2, 297, 1), 3)],
  [(64, .inl (.ireturn), 1), (65, .inl (.lload_n 1), 1), (66, .inl (.lload_n 3), 1), (67, .inl (.lcmp), 1), (68, .inl (.ifCond .ne 7), 3), (71, .inl (.iconst 1), 1), (72, .inl (.goto 4), 3), (75, .inl (.iconst 0), 1), (76, .inl (.ireturn), 1), (77, .inl (.lload_n 1), 1), (78, .inl (.lload_n 3), 1), (79, .inl (.lcmp), 1)],
  [(80, .inl (.ifCond .ge 7), 3), (83, .inl (.iconst 1), 1), (84, .inl (.goto 4), 3), (87, .inl (.iconst 0), 1), (88, .inl (.ireturn), 1), (89, .inl (.lload_n 1), 1), (90, .inl (.lload_n 3), 1), (91, .inl (.lcmp), 1), (92, .inl (.ifCond .le 7), 3), (95, .inl (.iconst 1), 1)],
  [(96, .inl (.goto 4), 3), (99, .inl (.iconst 0), 1), (100, .inl (.ireturn), 1), (101, .inl (.lload_n 1), 1), (102, .inl (.lload_n 3), 1), (103, .inl (.ladd), 1), (104, .inl (.lconst 1), 1), (105, .inl (.lcmp), 1), (106, .inl (.ifCond .le 7), 3), (109, .inl (.iconst 1), 1), (110, .inl (.goto 4), 3)],
  [(113, .inl (.iconst 0), 1), (114, .inl (.ireturn), 1), (115, .inl (.lload_n 1), 1), (116, .inl (.lload_n 3), 1), (117, .inl (.ladd), 1), (118, .inl (.lconst 0), 1), (119, .inl (.lcmp), 1), (120, .inl (.ifCond .le 7), 3), (123, .inl (.iconst 1), 1), (124, .inl (.goto 4), 3), (127, .inl (.iconst 0), 1)],
  [(128, .inl (.ireturn), 1)]]
-- MovingNamesModel.bound(J)I
set_option maxRecDepth 100000 in
noncomputable def ab_c297 : List (List (Nat × ab_I × Nat)) := [[(0, .inr (9, 0, (-1000000)), 3), (3, .inr (9, 0, 1000000), 3), (6, .inl (.lload_n 0), 1), (7, .inr (2, 14, 2), 3), (10, .inr (2, 15, 2), 3), (13, .inl (.l2i), 1), (14, .inl (.ireturn), 1)]]
-- MovingNamesModel.rests()Z
set_option maxRecDepth 100000 in
noncomputable def ab_c298 : List (List (Nat × ab_I × Nat)) := [[(0, .inl (.aload_n 0), 1), (1, .inl (.iconst 0), 1), (2, .inr (1, 9, 4), 3), (5, .inl (.aload_n 0), 1), (6, .inr (2, 291, 1), 3), (9, .inl (.ireturn), 1)]]
-- MovingNamesModel.movesIn(I)I
set_option maxRecDepth 100000 in
noncomputable def ab_c299 : List (List (Nat × ab_I × Nat)) := [[(0, .inl (.aload_n 0), 1), (1, .inl (.iconst 0), 1), (2, .inr (1, 9, 4), 3), (5, .inl (.iload_n 1), 1), (6, .inl (.i2l), 1), (7, .inl (.lconst 0), 1), (8, .inr (9, 0, 999), 3), (11, .inr (2, 232, 3), 3), (14, .inl (.ifCond .ne 9), 3)],
  [(17, .inl (.aload_n 0), 1), (18, .inl (.iconst 1), 1), (19, .inr (2, 233, 2), 3), (22, .inl (.ireturn), 1), (23, .inl (.aload_n 0), 1), (24, .inr (2, 292, 1), 3), (27, .inl (.istore_n 2), 1), (28, .inl (.iconst 0), 1), (29, .inl (.istore_n 3), 1), (30, .inl (.iconst 0), 1), (31, .inl (.istore 4), 2)],
  [(33, .inl (.iload 4), 2), (35, .inl (.iload_n 1), 1), (36, .inl (.if_icmp .ge 46), 3), (39, .inl (.iload_n 3), 1), (40, .inl (.aload_n 0), 1), (41, .inl (.aload_n 0), 1), (42, .inr (0, 9, 0), 3), (45, .inl (.sipush 132), 3)],
  [(48, .inl (.iaload), 1), (49, .inl (.iload 4), 2), (51, .inl (.iadd), 1), (52, .inl (.aload_n 0), 1), (53, .inr (0, 9, 0), 3), (56, .inl (.sipush 133), 3), (59, .inl (.iaload), 1), (60, .inl (.iload_n 3), 1), (61, .inl (.iadd), 1), (62, .inl (.iload_n 2), 1), (63, .inr (2, 294, 4), 3)],
  [(66, .inl (.ifCond .eq 7), 3), (69, .inl (.iconst 0), 1), (70, .inl (.goto 4), 3), (73, .inl (.iconst 1), 1), (74, .inl (.iadd), 1), (75, .inl (.istore_n 3), 1), (76, .inl (.iinc 4 1), 3), (79, .inl (.goto (-46)), 3)],
  [(82, .inl (.iload_n 3), 1), (83, .inl (.ireturn), 1)]]
-- MovingNamesModel.nightsFor(I)I
set_option maxRecDepth 100000 in
noncomputable def ab_c300 : List (List (Nat × ab_I × Nat)) := [[(0, .inl (.aload_n 0), 1), (1, .inl (.iconst 0), 1), (2, .inr (1, 9, 4), 3), (5, .inl (.iload_n 1), 1), (6, .inl (.i2l), 1), (7, .inl (.lconst 0), 1), (8, .inr (9, 0, 999), 3), (11, .inr (2, 232, 3), 3), (14, .inl (.ifCond .ne 9), 3)],
  [(17, .inl (.aload_n 0), 1), (18, .inl (.iconst 1), 1), (19, .inr (2, 233, 2), 3), (22, .inl (.ireturn), 1), (23, .inl (.aload_n 0), 1), (24, .inr (2, 292, 1), 3), (27, .inl (.istore_n 2), 1), (28, .inl (.iconst 0), 1), (29, .inl (.istore_n 3), 1), (30, .inl (.iconst 0), 1), (31, .inl (.istore 4), 2)],
  [(33, .inl (.iload 4), 2), (35, .inl (.sipush 999), 3), (38, .inl (.if_icmp .gt 54), 3), (41, .inl (.iload_n 3), 1), (42, .inl (.iload_n 1), 1), (43, .inl (.if_icmp .ne 6), 3), (46, .inl (.iload 4), 2)],
  [(48, .inl (.ireturn), 1), (49, .inl (.iload_n 3), 1), (50, .inl (.aload_n 0), 1), (51, .inl (.aload_n 0), 1), (52, .inr (0, 9, 0), 3), (55, .inl (.sipush 132), 3), (58, .inl (.iaload), 1), (59, .inl (.iload 4), 2), (61, .inl (.iadd), 1), (62, .inl (.aload_n 0), 1), (63, .inr (0, 9, 0), 3)],
  [(66, .inl (.sipush 133), 3), (69, .inl (.iaload), 1), (70, .inl (.iload_n 3), 1), (71, .inl (.iadd), 1), (72, .inl (.iload_n 2), 1), (73, .inr (2, 294, 4), 3), (76, .inl (.ifCond .eq 7), 3), (79, .inl (.iconst 0), 1)],
  [(80, .inl (.goto 4), 3), (83, .inl (.iconst 1), 1), (84, .inl (.iadd), 1), (85, .inl (.istore_n 3), 1), (86, .inl (.iinc 4 1), 3), (89, .inl (.goto (-56)), 3), (92, .inl (.iconst (-1)), 1), (93, .inl (.ireturn), 1)]]
-- MovingNamesModel.hang(II)I
set_option maxRecDepth 100000 in
noncomputable def ab_c301 : List (List (Nat × ab_I × Nat)) := [[(0, .inl (.aload_n 0), 1), (1, .inl (.iconst 0), 1), (2, .inr (1, 9, 4), 3), (5, .inl (.aload_n 0), 1), (6, .inl (.iload_n 1), 1), (7, .inl (.i2l), 1), (8, .inr (2, 266, 2), 3), (11, .inl (.ifCond .eq 12), 3), (14, .inl (.aload_n 0), 1), (15, .inl (.iload_n 2), 1)],
  [(16, .inl (.i2l), 1), (17, .inr (2, 266, 2), 3), (20, .inl (.ifCond .ne 9), 3), (23, .inl (.aload_n 0), 1), (24, .inl (.iconst 1), 1), (25, .inr (2, 233, 2), 3), (28, .inl (.ireturn), 1), (29, .inl (.aload_n 0), 1), (30, .inr (2, 289, 1), 3)],
  [(33, .inl (.aload_n 0), 1), (34, .inr (0, 9, 0), 3), (37, .inl (.bipush 11), 2), (39, .inl (.iload_n 1), 1), (40, .inl (.iadd), 1), (41, .inl (.iaload), 1), (42, .inl (.istore_n 3), 1), (43, .inl (.aload_n 0), 1), (44, .inr (0, 9, 0), 3), (47, .inl (.bipush 11), 2)],
  [(49, .inl (.iload_n 1), 1), (50, .inl (.iadd), 1), (51, .inl (.iload_n 2), 1), (52, .inl (.iastore), 1), (53, .inl (.iload_n 3), 1), (54, .inl (.ireturn), 1)]]
-- MovingNamesModel.change(II)I
set_option maxRecDepth 100000 in
noncomputable def ab_c302 : List (List (Nat × ab_I × Nat)) := [[(0, .inl (.aload_n 0), 1), (1, .inl (.aload_n 0), 1), (2, .inl (.iload_n 1), 1), (3, .inl (.i2l), 1), (4, .inr (2, 266, 2), 3), (7, .inl (.ifCond .eq 12), 3), (10, .inl (.aload_n 0), 1), (11, .inl (.iload_n 2), 1), (12, .inl (.i2l), 1), (13, .inr (2, 266, 2), 3)],
  [(16, .inl (.ifCond .ne 7), 3), (19, .inl (.iconst 1), 1), (20, .inl (.goto 13), 3), (23, .inl (.iload_n 1), 1), (24, .inl (.iload_n 2), 1), (25, .inl (.if_icmp .ne 7), 3), (28, .inl (.iconst 2), 1), (29, .inl (.goto 4), 3)],
  [(32, .inl (.iconst 0), 1), (33, .inr (1, 9, 4), 3), (36, .inl (.aload_n 0), 1), (37, .inr (0, 9, 4), 3), (40, .inl (.ifCond .le 5), 3), (43, .inl (.iconst 0), 1), (44, .inl (.ireturn), 1), (45, .inl (.aload_n 0), 1), (46, .inr (2, 289, 1), 3)],
  [(49, .inl (.aload_n 0), 1), (50, .inl (.iload_n 1), 1), (51, .inl (.iload_n 2), 1), (52, .inr (2, 303, 3), 3), (55, .inl (.aload_n 0), 1), (56, .inr (2, 292, 1), 3), (59, .inl (.ireturn), 1)]]
-- MovingNamesModel.swaps(II)V
set_option maxRecDepth 100000 in
noncomputable def ab_c303 : List (List (Nat × ab_I × Nat)) := [[(0, .inl (.aload_n 0), 1), (1, .inr (0, 9, 0), 3), (4, .inl (.bipush 11), 2), (6, .inl (.iload_n 1), 1), (7, .inl (.iadd), 1), (8, .inl (.iaload), 1), (9, .inl (.istore_n 3), 1), (10, .inl (.aload_n 0), 1), (11, .inr (0, 9, 0), 3), (14, .inl (.bipush 11), 2)],
  [(16, .inl (.iload_n 1), 1), (17, .inl (.iadd), 1), (18, .inl (.aload_n 0), 1), (19, .inr (0, 9, 0), 3), (22, .inl (.bipush 11), 2), (24, .inl (.iload_n 2), 1), (25, .inl (.iadd), 1), (26, .inl (.iaload), 1), (27, .inl (.iastore), 1), (28, .inl (.aload_n 0), 1), (29, .inr (0, 9, 0), 3)],
  [(32, .inl (.bipush 11), 2), (34, .inl (.iload_n 2), 1), (35, .inl (.iadd), 1), (36, .inl (.iload_n 3), 1), (37, .inl (.iastore), 1), (38, .inl (.return_), 1)]]
-- MovingNamesModel.letIn(III)I
set_option maxRecDepth 100000 in
noncomputable def ab_c304 : List (List (Nat × ab_I × Nat)) := [[(0, .inl (.aload_n 0), 1), (1, .inl (.aload_n 0), 1), (2, .inl (.iload_n 1), 1), (3, .inl (.i2l), 1), (4, .inr (2, 266, 2), 3), (7, .inl (.ifCond .eq 11), 3), (10, .inl (.aload_n 0), 1), (11, .inl (.iload_n 2), 1), (12, .inr (2, 274, 2), 3), (15, .inl (.ifCond .ne 7), 3)],
  [(18, .inl (.iconst 1), 1), (19, .inl (.goto 44), 3), (22, .inl (.aload_n 0), 1), (23, .inr (0, 9, 0), 3), (26, .inl (.iload_n 2), 1), (27, .inl (.iload_n 1), 1), (28, .inr (2, 249, 3), 3), (31, .inl (.iconst (-1)), 1)],
  [(32, .inl (.if_icmp .eq 7), 3), (35, .inl (.iconst 2), 1), (36, .inl (.goto 27), 3), (39, .inl (.iload_n 3), 1), (40, .inl (.i2l), 1), (41, .inl (.lconst 0), 1), (42, .inl (.aload_n 0), 1), (43, .inr (0, 9, 0), 3), (46, .inl (.bipush 32), 2)],
  [(48, .inl (.iload_n 2), 1), (49, .inl (.iadd), 1), (50, .inl (.iaload), 1), (51, .inl (.i2l), 1), (52, .inr (2, 232, 3), 3), (55, .inl (.ifCond .eq 7), 3), (58, .inl (.iconst 0), 1), (59, .inl (.goto 4), 3), (62, .inl (.iconst 3), 1), (63, .inr (1, 9, 4), 3)],
  [(66, .inl (.aload_n 0), 1), (67, .inr (0, 9, 4), 3), (70, .inl (.ifCond .le 5), 3), (73, .inl (.iconst 0), 1), (74, .inl (.ireturn), 1), (75, .inl (.aload_n 0), 1), (76, .inr (2, 289, 1), 3), (79, .inl (.bipush 36), 2)],
  [(81, .inl (.bipush 20), 2), (83, .inl (.iload_n 2), 1), (84, .inl (.imul), 1), (85, .inl (.iadd), 1), (86, .inl (.istore 4), 2), (88, .inl (.aload_n 0), 1), (89, .inr (0, 9, 0), 3), (92, .inl (.bipush 32), 2), (94, .inl (.iload_n 2), 1), (95, .inl (.iadd), 1)],
  [(96, .inl (.iaload), 1), (97, .inl (.istore 5), 2), (99, .inl (.iload 5), 2), (101, .inl (.iload_n 3), 1), (102, .inl (.if_icmp .le 31), 3), (105, .inl (.aload_n 0), 1), (106, .inr (0, 9, 0), 3), (109, .inl (.iload 4), 2), (111, .inl (.iload 5), 2)],
  [(113, .inl (.iadd), 1), (114, .inl (.aload_n 0), 1), (115, .inr (0, 9, 0), 3), (118, .inl (.iload 4), 2), (120, .inl (.iload 5), 2), (122, .inl (.iadd), 1), (123, .inl (.iconst 1), 1), (124, .inl (.isub), 1), (125, .inl (.iaload), 1), (126, .inl (.iastore), 1), (127, .inl (.iinc 5 (-1)), 3)],
  [(130, .inl (.goto (-31)), 3), (133, .inl (.aload_n 0), 1), (134, .inr (0, 9, 0), 3), (137, .inl (.iload 4), 2), (139, .inl (.iload_n 3), 1), (140, .inl (.iadd), 1), (141, .inl (.iload_n 1), 1), (142, .inl (.iastore), 1), (143, .inl (.aload_n 0), 1)],
  [(144, .inr (0, 9, 0), 3), (147, .inl (.bipush 32), 2), (149, .inl (.iload_n 2), 1), (150, .inl (.iadd), 1), (151, .inl (.dup2), 1), (152, .inl (.iaload), 1), (153, .inl (.iconst 1), 1), (154, .inl (.iadd), 1), (155, .inl (.iastore), 1), (156, .inl (.aload_n 0), 1), (157, .inr (0, 9, 0), 3)],
  [(160, .inl (.bipush 32), 2), (162, .inl (.iload_n 2), 1), (163, .inl (.iadd), 1), (164, .inl (.iaload), 1), (165, .inl (.ireturn), 1)]]
-- MovingNamesModel.takeOut(II)I
set_option maxRecDepth 100000 in
noncomputable def ab_c305 : List (List (Nat × ab_I × Nat)) := [[(0, .inl (.aload_n 0), 1), (1, .inl (.aload_n 0), 1), (2, .inl (.iload_n 1), 1), (3, .inl (.i2l), 1), (4, .inr (2, 266, 2), 3), (7, .inl (.ifCond .eq 11), 3), (10, .inl (.aload_n 0), 1), (11, .inl (.iload_n 2), 1), (12, .inr (2, 274, 2), 3), (15, .inl (.ifCond .ne 7), 3)],
  [(18, .inl (.iconst 1), 1), (19, .inl (.goto 21), 3), (22, .inl (.aload_n 0), 1), (23, .inr (0, 9, 0), 3), (26, .inl (.iload_n 2), 1), (27, .inl (.iload_n 1), 1), (28, .inr (2, 249, 3), 3), (31, .inl (.iconst (-1)), 1)],
  [(32, .inl (.if_icmp .ne 7), 3), (35, .inl (.iconst 2), 1), (36, .inl (.goto 4), 3), (39, .inl (.iconst 0), 1), (40, .inr (1, 9, 4), 3), (43, .inl (.aload_n 0), 1), (44, .inr (0, 9, 4), 3), (47, .inl (.ifCond .le 5), 3)],
  [(50, .inl (.iconst 0), 1), (51, .inl (.ireturn), 1), (52, .inl (.aload_n 0), 1), (53, .inr (2, 289, 1), 3), (56, .inl (.bipush 36), 2), (58, .inl (.bipush 20), 2), (60, .inl (.iload_n 2), 1), (61, .inl (.imul), 1), (62, .inl (.iadd), 1), (63, .inl (.istore_n 3), 1)],
  [(64, .inl (.aload_n 0), 1), (65, .inr (0, 9, 0), 3), (68, .inl (.iload_n 2), 1), (69, .inl (.iload_n 1), 1), (70, .inr (2, 249, 3), 3), (73, .inl (.istore 4), 2), (75, .inl (.aload_n 0), 1), (76, .inr (0, 9, 0), 3), (79, .inl (.bipush 32), 2)],
  [(81, .inl (.iload_n 2), 1), (82, .inl (.iadd), 1), (83, .inl (.dup2), 1), (84, .inl (.iaload), 1), (85, .inl (.iconst 1), 1), (86, .inl (.isub), 1), (87, .inl (.iastore), 1), (88, .inl (.iload 4), 2), (90, .inl (.istore 5), 2), (92, .inl (.iload 5), 2), (94, .inl (.aload_n 0), 1), (95, .inr (0, 9, 0), 3)],
  [(98, .inl (.bipush 32), 2), (100, .inl (.iload_n 2), 1), (101, .inl (.iadd), 1), (102, .inl (.iaload), 1), (103, .inl (.if_icmp .ge 29), 3), (106, .inl (.aload_n 0), 1), (107, .inr (0, 9, 0), 3), (110, .inl (.iload_n 3), 1), (111, .inl (.iload 5), 2)],
  [(113, .inl (.iadd), 1), (114, .inl (.aload_n 0), 1), (115, .inr (0, 9, 0), 3), (118, .inl (.iload_n 3), 1), (119, .inl (.iload 5), 2), (121, .inl (.iadd), 1), (122, .inl (.iconst 1), 1), (123, .inl (.iadd), 1), (124, .inl (.iaload), 1), (125, .inl (.iastore), 1), (126, .inl (.iinc 5 1), 3)],
  [(129, .inl (.goto (-37)), 3), (132, .inl (.aload_n 0), 1), (133, .inr (0, 9, 0), 3), (136, .inl (.bipush 32), 2), (138, .inl (.iload_n 2), 1), (139, .inl (.iadd), 1), (140, .inl (.iaload), 1), (141, .inl (.ireturn), 1)]]
-- MovingNamesModel.blind(I)I
set_option maxRecDepth 100000 in
noncomputable def ab_c306 : List (List (Nat × ab_I × Nat)) := [[(0, .inl (.aload_n 0), 1), (1, .inl (.iconst 0), 1), (2, .inr (1, 9, 4), 3), (5, .inl (.aload_n 0), 1), (6, .inl (.iload_n 1), 1), (7, .inl (.i2l), 1), (8, .inr (2, 266, 2), 3), (11, .inl (.ifCond .ne 9), 3), (14, .inl (.aload_n 0), 1), (15, .inl (.iconst 1), 1)],
  [(16, .inr (2, 233, 2), 3), (19, .inl (.ireturn), 1), (20, .inl (.aload_n 0), 1), (21, .inr (2, 289, 1), 3), (24, .inl (.aload_n 0), 1), (25, .inr (0, 9, 0), 3), (28, .inl (.bipush 31), 2), (30, .inl (.dup2), 1), (31, .inl (.iaload), 1)],
  [(32, .inl (.iconst 1), 1), (33, .inl (.iload_n 1), 1), (34, .inl (.ishl), 1), (35, .inl (.ixor), 1), (36, .inl (.iastore), 1), (37, .inl (.aload_n 0), 1), (38, .inr (0, 9, 0), 3), (41, .inl (.bipush 31), 2), (43, .inl (.iaload), 1), (44, .inl (.iload_n 1), 1), (45, .inl (.ishr), 1), (46, .inl (.iconst 1), 1), (47, .inl (.iand), 1)],
  [(48, .inl (.ireturn), 1)]]
-- MovingNamesModel.moves(III)I
set_option maxRecDepth 100000 in
noncomputable def ab_c307 : List (List (Nat × ab_I × Nat)) := [[(0, .inl (.aload_n 0), 1), (1, .inl (.aload_n 0), 1), (2, .inl (.iload_n 1), 1), (3, .inr (2, 276, 2), 3), (6, .inl (.ifCond .eq 12), 3), (9, .inl (.aload_n 0), 1), (10, .inl (.iload_n 2), 1), (11, .inl (.i2l), 1), (12, .inr (2, 266, 2), 3), (15, .inl (.ifCond .ne 7), 3)],
  [(18, .inl (.iconst 1), 1), (19, .inl (.goto 16), 3), (22, .inl (.aload_n 0), 1), (23, .inl (.iload_n 3), 1), (24, .inr (2, 281, 2), 3), (27, .inl (.ifCond .eq 7), 3), (30, .inl (.iconst 0), 1), (31, .inl (.goto 4), 3)],
  [(34, .inl (.iconst 2), 1), (35, .inr (1, 9, 4), 3), (38, .inl (.aload_n 0), 1), (39, .inr (0, 9, 4), 3), (42, .inl (.ifCond .le 5), 3), (45, .inl (.iconst 0), 1), (46, .inl (.ireturn), 1), (47, .inl (.aload_n 0), 1)],
  [(48, .inr (2, 289, 1), 3), (51, .inl (.aload_n 0), 1), (52, .inr (0, 9, 0), 3), (55, .inl (.bipush 116), 2), (57, .inl (.iload_n 1), 1), (58, .inl (.iadd), 1), (59, .inl (.iload_n 2), 1), (60, .inl (.iastore), 1), (61, .inl (.aload_n 0), 1), (62, .inr (0, 9, 0), 3)],
  [(65, .inl (.bipush 124), 2), (67, .inl (.iload_n 1), 1), (68, .inl (.iadd), 1), (69, .inl (.iload_n 3), 1), (70, .inl (.iastore), 1), (71, .inl (.aload_n 0), 1), (72, .inr (0, 9, 0), 3), (75, .inl (.bipush 11), 2), (77, .inl (.iload_n 2), 1), (78, .inl (.iadd), 1), (79, .inl (.iaload), 1)],
  [(80, .inl (.ireturn), 1)]]
-- MovingNamesModel.undo(I)I
set_option maxRecDepth 100000 in
noncomputable def ab_c308 : List (List (Nat × ab_I × Nat)) := [[(0, .inl (.aload_n 0), 1), (1, .inl (.iconst 0), 1), (2, .inr (1, 9, 4), 3), (5, .inl (.iload_n 1), 1), (6, .inl (.i2l), 1), (7, .inl (.lconst 1), 1), (8, .inr (9, 0, 10), 3), (11, .inr (2, 232, 3), 3), (14, .inl (.ifCond .eq 14), 3)],
  [(17, .inl (.iload_n 1), 1), (18, .inl (.aload_n 0), 1), (19, .inr (0, 9, 0), 3), (22, .inl (.bipush 6), 2), (24, .inl (.iaload), 1), (25, .inl (.if_icmp .le 9), 3), (28, .inl (.aload_n 0), 1), (29, .inl (.iconst 1), 1), (30, .inr (2, 233, 2), 3)],
  [(33, .inl (.ireturn), 1), (34, .inl (.aload_n 0), 1), (35, .inr (0, 9, 0), 3), (38, .inl (.bipush 6), 2), (40, .inl (.dup2), 1), (41, .inl (.iaload), 1), (42, .inl (.iload_n 1), 1), (43, .inl (.isub), 1), (44, .inl (.iastore), 1), (45, .inl (.iconst 0), 1), (46, .inl (.istore_n 2), 1), (47, .inl (.iload_n 2), 1)],
  [(48, .inl (.bipush 123), 2), (50, .inl (.if_icmp .ge 39), 3), (53, .inl (.aload_n 0), 1), (54, .inr (0, 9, 0), 3), (57, .inl (.bipush 11), 2), (59, .inl (.iload_n 2), 1), (60, .inl (.iadd), 1), (61, .inl (.aload_n 0), 1), (62, .inr (0, 9, 0), 3)],
  [(65, .inl (.sipush 134), 3), (68, .inl (.bipush 123), 2), (70, .inl (.aload_n 0), 1), (71, .inr (0, 9, 0), 3), (74, .inl (.bipush 6), 2), (76, .inl (.iaload), 1), (77, .inl (.imul), 1), (78, .inl (.iadd), 1), (79, .inl (.iload_n 2), 1)],
  [(80, .inl (.iadd), 1), (81, .inl (.iaload), 1), (82, .inl (.iastore), 1), (83, .inl (.iinc 2 1), 3), (86, .inl (.goto (-39)), 3), (89, .inl (.aload_n 0), 1), (90, .inr (0, 9, 0), 3), (93, .inl (.bipush 6), 2), (95, .inl (.iaload), 1)],
  [(96, .inl (.ireturn), 1)]]
-- MovingNamesModel.judge(II)I
set_option maxRecDepth 100000 in
noncomputable def ab_c309 : List (List (Nat × ab_I × Nat)) := [[(0, .inl (.aload_n 0), 1), (1, .inl (.aload_n 0), 1), (2, .inl (.iload_n 1), 1), (3, .inr (2, 310, 2), 3), (6, .inr (1, 9, 4), 3), (9, .inl (.aload_n 0), 1), (10, .inr (0, 9, 4), 3), (13, .inl (.ifCond .ne 20), 3)],
  [(16, .inl (.iload_n 2), 1), (17, .inl (.i2l), 1), (18, .inl (.lconst 0), 1), (19, .inr (9, 0, 3), 3), (22, .inr (2, 232, 3), 3), (25, .inl (.ifCond .ne 8), 3), (28, .inl (.aload_n 0), 1), (29, .inl (.iconst 3), 1), (30, .inr (1, 9, 4), 3)],
  [(33, .inl (.aload_n 0), 1), (34, .inr (0, 9, 4), 3), (37, .inl (.ifCond .le 5), 3), (40, .inl (.iconst 0), 1), (41, .inl (.ireturn), 1), (42, .inl (.aload_n 0), 1), (43, .inr (2, 312, 1), 3), (46, .inl (.iconst (-1)), 1), (47, .inl (.istore_n 3), 1)],
  [(48, .inl (.iconst 0), 1), (49, .inl (.istore 4), 2), (51, .inl (.iconst 0), 1), (52, .inl (.istore 5), 2), (54, .inl (.iconst 0), 1), (55, .inl (.istore 6), 2), (57, .inl (.iload 6), 2), (59, .inl (.aload_n 0), 1), (60, .inr (0, 9, 30), 3), (63, .inl (.iload_n 1), 1)],
  [(64, .inl (.iaload), 1), (65, .inl (.if_icmp .ge 65), 3), (68, .inl (.iload_n 3), 1), (69, .inl (.iconst (-1)), 1), (70, .inl (.if_icmp .ne 60), 3), (73, .inl (.aload_n 0), 1), (74, .inl (.aload_n 0), 1), (75, .inr (0, 9, 31), 3), (78, .inl (.bipush 30), 2)],
  [(80, .inl (.iload_n 1), 1), (81, .inl (.imul), 1), (82, .inl (.iload 6), 2), (84, .inl (.iadd), 1), (85, .inl (.laload), 1), (86, .inr (2, 313, 2), 3), (89, .inl (.istore 4), 2), (91, .inl (.iload 4), 2), (93, .inl (.ifCond .ne 28), 3)],
  [(96, .inl (.iload 5), 2), (98, .inl (.aload_n 0), 1), (99, .inl (.aload_n 0), 1), (100, .inr (0, 9, 31), 3), (103, .inl (.bipush 30), 2), (105, .inl (.iload_n 1), 1), (106, .inl (.imul), 1), (107, .inl (.iload 6), 2), (109, .inl (.iadd), 1), (110, .inl (.laload), 1), (111, .inl (.l2i), 1)],
  [(112, .inr (2, 314, 2), 3), (115, .inl (.iadd), 1), (116, .inl (.istore 5), 2), (118, .inl (.goto 6), 3), (121, .inl (.iload 6), 2), (123, .inl (.istore_n 3), 1), (124, .inl (.iinc 6 1), 3), (127, .inl (.goto (-70)), 3)],
  [(130, .inl (.aload_n 0), 1), (131, .inr (2, 292, 1), 3), (134, .inl (.istore 6), 2), (136, .inl (.aload_n 0), 1), (137, .inr (2, 315, 1), 3), (140, .inl (.iload_n 2), 1), (141, .inl (.ifCond .ne 7), 3)],
  [(144, .inl (.iload_n 3), 1), (145, .inl (.goto 25), 3), (148, .inl (.iload_n 2), 1), (149, .inl (.iconst 1), 1), (150, .inl (.if_icmp .ne 8), 3), (153, .inl (.iload 4), 2), (155, .inl (.goto 15), 3), (158, .inl (.iload_n 2), 1), (159, .inl (.iconst 2), 1)],
  [(160, .inl (.if_icmp .ne 8), 3), (163, .inl (.iload 5), 2), (165, .inl (.goto 5), 3), (168, .inl (.iload 6), 2), (170, .inl (.ireturn), 1)]]
-- MovingNamesModel.trayFault(I)I
set_option maxRecDepth 100000 in
noncomputable def ab_c310 : List (List (Nat × ab_I × Nat)) := [[(0, .inl (.iload_n 1), 1), (1, .inr (2, 311, 1), 3), (4, .inl (.ifCond .ne 7), 3), (7, .inl (.iconst 1), 1), (8, .inl (.goto 18), 3), (11, .inl (.aload_n 0), 1), (12, .inr (0, 9, 29), 3), (15, .inl (.iload_n 1), 1)],
  [(16, .inl (.iaload), 1), (17, .inl (.iconst (-1)), 1), (18, .inl (.if_icmp .ne 7), 3), (21, .inl (.iconst 2), 1), (22, .inl (.goto 4), 3), (25, .inl (.iconst 0), 1), (26, .inl (.ireturn), 1)]]
-- MovingNamesModel.isTray(I)Z
set_option maxRecDepth 100000 in
noncomputable def ab_c311 : List (List (Nat × ab_I × Nat)) := [[(0, .inl (.iload_n 0), 1), (1, .inl (.i2l), 1), (2, .inl (.lconst 0), 1), (3, .inr (9, 0, 3), 3), (6, .inr (2, 232, 3), 3), (9, .inl (.ireturn), 1)]]
-- MovingNamesModel.putsAside()V
set_option maxRecDepth 100000 in
noncomputable def ab_c312 : List (List (Nat × ab_I × Nat)) := [[(0, .inl (.iconst 0), 1), (1, .inl (.istore_n 1), 1), (2, .inl (.iload_n 1), 1), (3, .inl (.bipush 123), 2), (5, .inl (.if_icmp .ge 24), 3), (8, .inl (.aload_n 0), 1), (9, .inr (0, 9, 22), 3), (12, .inl (.iload_n 1), 1), (13, .inl (.aload_n 0), 1), (14, .inr (0, 9, 0), 3)],
  [(17, .inl (.bipush 11), 2), (19, .inl (.iload_n 1), 1), (20, .inl (.iadd), 1), (21, .inl (.iaload), 1), (22, .inl (.iastore), 1), (23, .inl (.iinc 1 1), 3), (26, .inl (.goto (-24)), 3), (29, .inl (.return_), 1)]]
-- MovingNamesModel.whyTold(J)I
set_option maxRecDepth 100000 in
noncomputable def ab_c313 : List (List (Nat × ab_I × Nat)) := [[(0, .inl (.lload_n 1), 1), (1, .inr (9, 0, (-1)), 3), (4, .inl (.lcmp), 1), (5, .inl (.ifCond .ne 5), 3), (8, .inl (.iconst 0), 1), (9, .inl (.ireturn), 1), (10, .inl (.lload_n 1), 1), (11, .inl (.lconst 0), 1), (12, .inr (9, 0, 799), 3), (15, .inr (2, 232, 3), 3)],
  [(18, .inl (.ifCond .eq 31), 3), (21, .inl (.aload_n 0), 1), (22, .inl (.lload_n 1), 1), (23, .inr (9, 0, 20), 3), (26, .inl (.lrem), 1), (27, .inr (2, 266, 2), 3), (30, .inl (.ifCond .eq 19), 3)],
  [(33, .inl (.aload_n 0), 1), (34, .inl (.lload_n 1), 1), (35, .inr (9, 0, 400), 3), (38, .inl (.lrem), 1), (39, .inr (9, 0, 20), 3), (42, .inl (.ldiv), 1), (43, .inr (2, 266, 2), 3), (46, .inl (.ifCond .ne 5), 3)],
  [(49, .inl (.iconst 1), 1), (50, .inl (.ireturn), 1), (51, .inl (.lload_n 1), 1), (52, .inr (9, 0, 400), 3), (55, .inl (.lcmp), 1), (56, .inl (.ifCond .lt 25), 3), (59, .inl (.lload_n 1), 1), (60, .inr (9, 0, 20), 3), (63, .inl (.lrem), 1)],
  [(64, .inl (.lload_n 1), 1), (65, .inr (9, 0, 400), 3), (68, .inl (.lrem), 1), (69, .inr (9, 0, 20), 3), (72, .inl (.ldiv), 1), (73, .inl (.lcmp), 1), (74, .inl (.ifCond .ne 7), 3), (77, .inl (.iconst 2), 1), (78, .inl (.goto 4), 3)],
  [(81, .inl (.iconst 0), 1), (82, .inl (.ireturn), 1)]]
-- MovingNamesModel.does(I)I
set_option maxRecDepth 100000 in
noncomputable def ab_c314 : List (List (Nat × ab_I × Nat)) := [[(0, .inl (.iload_n 1), 1), (1, .inl (.iconst (-1)), 1), (2, .inl (.if_icmp .ne 8), 3), (5, .inl (.aload_n 0), 1), (6, .inr (2, 290, 1), 3), (9, .inl (.ireturn), 1), (10, .inl (.iload_n 1), 1), (11, .inl (.sipush 400), 3), (14, .inl (.if_icmp .ge 22), 3)],
  [(17, .inl (.aload_n 0), 1), (18, .inr (0, 9, 0), 3), (21, .inl (.bipush 11), 2), (23, .inl (.iload_n 1), 1), (24, .inl (.bipush 20), 2), (26, .inl (.irem), 1), (27, .inl (.iadd), 1), (28, .inl (.iload_n 1), 1), (29, .inl (.bipush 20), 2), (31, .inl (.idiv), 1)],
  [(32, .inl (.iastore), 1), (33, .inl (.goto 19), 3), (36, .inl (.aload_n 0), 1), (37, .inl (.iload_n 1), 1), (38, .inl (.bipush 20), 2), (40, .inl (.irem), 1), (41, .inl (.iload_n 1), 1), (42, .inl (.sipush 400), 3), (45, .inl (.irem), 1), (46, .inl (.bipush 20), 2)],
  [(48, .inl (.idiv), 1), (49, .inr (2, 303, 3), 3), (52, .inl (.iconst 0), 1), (53, .inl (.ireturn), 1)]]
-- MovingNamesModel.putsBack()V
set_option maxRecDepth 100000 in
noncomputable def ab_c315 : List (List (Nat × ab_I × Nat)) := [[(0, .inl (.iconst 0), 1), (1, .inl (.istore_n 1), 1), (2, .inl (.iload_n 1), 1), (3, .inl (.bipush 123), 2), (5, .inl (.if_icmp .ge 24), 3), (8, .inl (.aload_n 0), 1), (9, .inr (0, 9, 0), 3), (12, .inl (.bipush 11), 2), (14, .inl (.iload_n 1), 1), (15, .inl (.iadd), 1)],
  [(16, .inl (.aload_n 0), 1), (17, .inr (0, 9, 22), 3), (20, .inl (.iload_n 1), 1), (21, .inl (.iaload), 1), (22, .inl (.iastore), 1), (23, .inl (.iinc 1 1), 3), (26, .inl (.goto (-24)), 3), (29, .inl (.return_), 1)]]
-- MovingNamesModel.perform(I)I
set_option maxRecDepth 100000 in
noncomputable def ab_c316 : List (List (Nat × ab_I × Nat)) := [[(0, .inl (.aload_n 0), 1), (1, .inl (.aload_n 0), 1), (2, .inl (.iload_n 1), 1), (3, .inr (2, 310, 2), 3), (6, .inr (1, 9, 4), 3), (9, .inl (.aload_n 0), 1), (10, .inr (0, 9, 4), 3), (13, .inl (.ifCond .le 5), 3)],
  [(16, .inl (.iconst 0), 1), (17, .inl (.ireturn), 1), (18, .inl (.iconst 0), 1), (19, .inl (.istore_n 2), 1), (20, .inl (.iload_n 2), 1), (21, .inl (.aload_n 0), 1), (22, .inr (0, 9, 30), 3), (25, .inl (.iload_n 1), 1), (26, .inl (.iaload), 1), (27, .inl (.if_icmp .ge 48), 3), (30, .inl (.aload_n 0), 1), (31, .inl (.aload_n 0), 1)],
  [(32, .inr (0, 9, 31), 3), (35, .inl (.bipush 30), 2), (37, .inl (.iload_n 1), 1), (38, .inl (.imul), 1), (39, .inl (.iload_n 2), 1), (40, .inl (.iadd), 1), (41, .inl (.laload), 1), (42, .inr (2, 313, 2), 3), (45, .inl (.ifCond .ne 30), 3)],
  [(48, .inl (.aload_n 0), 1), (49, .inr (2, 289, 1), 3), (52, .inl (.aload_n 0), 1), (53, .inl (.aload_n 0), 1), (54, .inr (0, 9, 31), 3), (57, .inl (.bipush 30), 2), (59, .inl (.iload_n 1), 1), (60, .inl (.imul), 1), (61, .inl (.iload_n 2), 1), (62, .inl (.iadd), 1), (63, .inl (.laload), 1)],
  [(64, .inl (.l2i), 1), (65, .inr (2, 314, 2), 3), (68, .inl (.pop), 1), (69, .inl (.iinc 2 1), 3), (72, .inl (.goto (-52)), 3), (75, .inl (.iload_n 2), 1), (76, .inl (.ireturn), 1)]]
-- MovingNamesModel.month(II)I
set_option maxRecDepth 100000 in
noncomputable def ab_c317 : List (List (Nat × ab_I × Nat)) := [[(0, .inl (.aload_n 0), 1), (1, .inl (.iload_n 2), 1), (2, .inl (.i2l), 1), (3, .inl (.lconst 1), 1), (4, .inr (9, 0, 30), 3), (7, .inr (2, 232, 3), 3), (10, .inl (.ifCond .ne 7), 3), (13, .inl (.iconst 1), 1), (14, .inl (.goto 15), 3)],
  [(17, .inl (.aload_n 0), 1), (18, .inr (2, 267, 1), 3), (21, .inl (.ifCond .ne 7), 3), (24, .inl (.iconst 2), 1), (25, .inl (.goto 4), 3), (28, .inl (.iconst 0), 1), (29, .inr (1, 9, 4), 3)],
  [(32, .inl (.aload_n 0), 1), (33, .inr (0, 9, 4), 3), (36, .inl (.ifCond .le 5), 3), (39, .inl (.iconst 0), 1), (40, .inl (.ireturn), 1), (41, .inl (.aload_n 0), 1), (42, .inl (.iload_n 1), 1), (43, .inr (1, 9, 24), 3), (46, .inl (.iconst 0), 1), (47, .inl (.istore_n 3), 1)],
  [(48, .inl (.iconst 0), 1), (49, .inl (.istore 4), 2), (51, .inl (.iload 4), 2), (53, .inl (.iload_n 2), 1), (54, .inl (.if_icmp .ge 92), 3), (57, .inl (.aload_n 0), 1), (58, .inl (.iconst 4), 1), (59, .inr (2, 318, 2), 3), (62, .inl (.istore 5), 2)],
  [(64, .inl (.iconst (-1)), 1), (65, .inl (.istore 6), 2), (67, .inl (.iload 5), 2), (69, .inl (.iconst 1), 1), (70, .inl (.if_icmp .le 43), 3), (73, .inl (.aload_n 0), 1), (74, .inl (.aload_n 0), 1), (75, .inr (2, 267, 1), 3), (78, .inr (2, 318, 2), 3)],
  [(81, .inl (.istore 7), 2), (83, .inl (.iload 7), 2), (85, .inl (.bipush 20), 2), (87, .inl (.aload_n 0), 1), (88, .inl (.aload_n 0), 1), (89, .inr (2, 267, 1), 3), (92, .inr (2, 318, 2), 3), (95, .inl (.imul), 1)],
  [(96, .inl (.iadd), 1), (97, .inl (.iload 5), 2), (99, .inl (.iconst 3), 1), (100, .inl (.if_icmp .ne 9), 3), (103, .inl (.sipush 400), 3), (106, .inl (.goto 4), 3), (109, .inl (.iconst 0), 1), (110, .inl (.iadd), 1), (111, .inl (.istore 6), 2)],
  [(113, .inl (.aload_n 0), 1), (114, .inl (.iload 6), 2), (116, .inl (.i2l), 1), (117, .inr (2, 313, 2), 3), (120, .inl (.ifCond .eq 6), 3), (123, .inl (.goto 17), 3), (126, .inl (.aload_n 0), 1), (127, .inr (2, 289, 1), 3)],
  [(130, .inl (.aload_n 0), 1), (131, .inl (.iload 6), 2), (133, .inr (2, 314, 2), 3), (136, .inl (.pop), 1), (137, .inl (.iinc 3 1), 3), (140, .inl (.iinc 4 1), 3), (143, .inl (.goto (-92)), 3)],
  [(146, .inl (.iload_n 3), 1), (147, .inl (.ireturn), 1)]]
-- MovingNamesModel.draw(I)I
set_option maxRecDepth 100000 in
noncomputable def ab_c318 : List (List (Nat × ab_I × Nat)) := [[(0, .inl (.aload_n 0), 1), (1, .inr (8, 0, 1103515245), 3), (4, .inl (.aload_n 0), 1), (5, .inr (0, 9, 24), 3), (8, .inl (.imul), 1), (9, .inl (.sipush 12345), 3), (12, .inl (.iadd), 1), (13, .inr (1, 9, 24), 3)],
  [(16, .inl (.aload_n 0), 1), (17, .inr (0, 9, 24), 3), (20, .inl (.bipush 16), 2), (22, .inl (.iushr), 1), (23, .inl (.iload_n 1), 1), (24, .inl (.irem), 1), (25, .inl (.ireturn), 1)]]
-- MovingNamesModel.period()J
set_option maxRecDepth 100000 in
noncomputable def ab_c319 : List (List (Nat × ab_I × Nat)) := [[(0, .inl (.aload_n 0), 1), (1, .inl (.iconst 0), 1), (2, .inr (1, 9, 4), 3), (5, .inl (.aload_n 0), 1), (6, .inr (2, 320, 1), 3), (9, .inl (.i2l), 1), (10, .inl (.lreturn), 1)]]
-- MovingNamesModel.periodOf()I
set_option maxRecDepth 100000 in
noncomputable def ab_c320 : List (List (Nat × ab_I × Nat)) := [[(0, .inl (.aload_n 0), 1), (1, .inr (2, 268, 1), 3), (4, .inl (.iconst 1), 1), (5, .inl (.istore_n 1), 1), (6, .inl (.iconst 0), 1), (7, .inl (.istore_n 2), 1), (8, .inl (.iload_n 2), 1), (9, .inl (.aload_n 0), 1), (10, .inr (2, 267, 1), 3), (13, .inl (.if_icmp .ge 27), 3)],
  [(16, .inl (.iload_n 1), 1), (17, .inl (.iload_n 1), 1), (18, .inl (.aload_n 0), 1), (19, .inl (.iload_n 2), 1), (20, .inr (2, 271, 2), 3), (23, .inr (2, 321, 2), 3), (26, .inl (.idiv), 1), (27, .inl (.aload_n 0), 1), (28, .inl (.iload_n 2), 1), (29, .inr (2, 271, 2), 3)],
  [(32, .inl (.imul), 1), (33, .inl (.istore_n 1), 1), (34, .inl (.iinc 2 1), 3), (37, .inl (.goto (-29)), 3), (40, .inl (.iload_n 1), 1), (41, .inl (.ireturn), 1)]]
-- MovingNamesModel.common(II)I
set_option maxRecDepth 100000 in
noncomputable def ab_c321 : List (List (Nat × ab_I × Nat)) := [[(0, .inl (.iload_n 1), 1), (1, .inl (.ifCond .ne 7), 3), (4, .inl (.iload_n 0), 1), (5, .inl (.goto 10), 3), (8, .inl (.iload_n 1), 1), (9, .inl (.iload_n 0), 1), (10, .inl (.iload_n 1), 1), (11, .inl (.irem), 1), (12, .inr (2, 321, 2), 3), (15, .inl (.ireturn), 1)]]
-- MovingNamesModel.asNow()J
set_option maxRecDepth 100000 in
noncomputable def ab_c322 : List (List (Nat × ab_I × Nat)) := [[(0, .inl (.aload_n 0), 1), (1, .inl (.iconst 0), 1), (2, .inr (1, 9, 4), 3), (5, .inl (.aload_n 0), 1), (6, .inr (2, 320, 1), 3), (9, .inl (.istore_n 1), 1), (10, .inl (.iconst 1), 1), (11, .inl (.istore_n 2), 1), (12, .inl (.iload_n 2), 1), (13, .inl (.iload_n 1), 1), (14, .inl (.if_icmp .ge 21), 3)],
  [(17, .inl (.aload_n 0), 1), (18, .inl (.iload_n 2), 1), (19, .inr (2, 323, 2), 3), (22, .inl (.aload_n 0), 1), (23, .inr (2, 267, 1), 3), (26, .inl (.if_icmp .ge 9), 3), (29, .inl (.iinc 2 1), 3)],
  [(32, .inl (.goto (-20)), 3), (35, .inl (.iload_n 2), 1), (36, .inl (.i2l), 1), (37, .inl (.lreturn), 1)]]
-- MovingNamesModel.rightBy(I)I
set_option maxRecDepth 100000 in
noncomputable def ab_c323 : List (List (Nat × ab_I × Nat)) := [[(0, .inl (.iconst 0), 1), (1, .inl (.istore_n 2), 1), (2, .inl (.iconst 0), 1), (3, .inl (.istore_n 3), 1), (4, .inl (.iload_n 3), 1), (5, .inl (.aload_n 0), 1), (6, .inr (2, 267, 1), 3), (9, .inl (.if_icmp .ge 35), 3), (12, .inl (.iload_n 2), 1), (13, .inl (.aload_n 0), 1), (14, .inl (.iload_n 3), 1), (15, .inl (.iload_n 1), 1)],
  [(16, .inr (2, 284, 3), 3), (19, .inl (.aload_n 0), 1), (20, .inr (0, 9, 0), 3), (23, .inl (.bipush 11), 2), (25, .inl (.iload_n 3), 1), (26, .inl (.iadd), 1), (27, .inl (.iaload), 1), (28, .inl (.if_icmp .ne 7), 3), (31, .inl (.iconst 1), 1)],
  [(32, .inl (.goto 4), 3), (35, .inl (.iconst 0), 1), (36, .inl (.iadd), 1), (37, .inl (.istore_n 2), 1), (38, .inl (.iinc 3 1), 3), (41, .inl (.goto (-37)), 3), (44, .inl (.iload_n 2), 1), (45, .inl (.ireturn), 1)]]
-- MovingNamesModel.when(I)J
set_option maxRecDepth 100000 in
noncomputable def ab_c324 : List (List (Nat × ab_I × Nat)) := [[(0, .inl (.aload_n 0), 1), (1, .inl (.aload_n 0), 1), (2, .inl (.iload_n 1), 1), (3, .inl (.bipush 10), 2), (5, .inr (2, 325, 3), 3), (8, .inr (1, 9, 4), 3), (11, .inl (.aload_n 0), 1), (12, .inr (0, 9, 4), 3), (15, .inl (.ifCond .le 5), 3)],
  [(18, .inl (.lconst 0), 1), (19, .inl (.lreturn), 1), (20, .inl (.aload_n 0), 1), (21, .inr (2, 320, 1), 3), (24, .inl (.istore_n 2), 1), (25, .inl (.iconst 0), 1), (26, .inl (.istore_n 3), 1), (27, .inl (.iload_n 3), 1), (28, .inl (.iload_n 2), 1), (29, .inl (.if_icmp .ge 55), 3)],
  [(32, .inl (.iconst 1), 1), (33, .inl (.istore 4), 2), (35, .inl (.iconst 0), 1), (36, .inl (.istore 5), 2), (38, .inl (.iload 5), 2), (40, .inl (.aload_n 0), 1), (41, .inr (0, 9, 30), 3), (44, .inl (.iload_n 1), 1), (45, .inl (.iaload), 1), (46, .inl (.if_icmp .ge 24), 3)],
  [(49, .inl (.iload 4), 2), (51, .inl (.ifCond .eq 19), 3), (54, .inl (.aload_n 0), 1), (55, .inl (.iload_n 1), 1), (56, .inl (.iload 5), 2), (58, .inl (.iload_n 3), 1), (59, .inr (2, 326, 4), 3), (62, .inl (.istore 4), 2)],
  [(64, .inl (.iinc 5 1), 3), (67, .inl (.goto (-29)), 3), (70, .inl (.iload 4), 2), (72, .inl (.ifCond .eq 6), 3), (75, .inl (.iload_n 3), 1), (76, .inl (.i2l), 1), (77, .inl (.lreturn), 1), (78, .inl (.iinc 3 1), 3)],
  [(81, .inl (.goto (-54)), 3), (84, .inr (9, 0, (-1)), 3), (87, .inl (.lreturn), 1)]]
-- MovingNamesModel.lettersFault(II)I
set_option maxRecDepth 100000 in
noncomputable def ab_c325 : List (List (Nat × ab_I × Nat)) := [[(0, .inl (.aload_n 0), 1), (1, .inl (.iload_n 1), 1), (2, .inr (2, 310, 2), 3), (5, .inl (.istore_n 3), 1), (6, .inl (.iload_n 3), 1), (7, .inl (.ifCond .eq 5), 3), (10, .inl (.iload_n 3), 1), (11, .inl (.ireturn), 1), (12, .inl (.aload_n 0), 1), (13, .inr (0, 9, 30), 3)],
  [(16, .inl (.iload_n 1), 1), (17, .inl (.iaload), 1), (18, .inl (.i2l), 1), (19, .inl (.lconst 1), 1), (20, .inl (.iload_n 2), 1), (21, .inl (.i2l), 1), (22, .inr (2, 232, 3), 3), (25, .inl (.ifCond .ne 5), 3), (28, .inl (.iconst 3), 1), (29, .inl (.ireturn), 1), (30, .inl (.iconst 0), 1), (31, .inl (.istore 4), 2)],
  [(33, .inl (.iload 4), 2), (35, .inl (.aload_n 0), 1), (36, .inr (0, 9, 30), 3), (39, .inl (.iload_n 1), 1), (40, .inl (.iaload), 1), (41, .inl (.if_icmp .ge 58), 3), (44, .inl (.aload_n 0), 1), (45, .inr (0, 9, 31), 3)],
  [(48, .inl (.bipush 30), 2), (50, .inl (.iload_n 1), 1), (51, .inl (.imul), 1), (52, .inl (.iload 4), 2), (54, .inl (.iadd), 1), (55, .inl (.laload), 1), (56, .inl (.lstore 5), 2), (58, .inl (.lload 5), 2), (60, .inl (.lconst 0), 1), (61, .inl (.lcmp), 1), (62, .inl (.ifCond .lt 29), 3)],
  [(65, .inl (.aload_n 0), 1), (66, .inl (.lload 5), 2), (68, .inr (9, 0, 20), 3), (71, .inl (.lrem), 1), (72, .inr (2, 266, 2), 3), (75, .inl (.ifCond .eq 16), 3), (78, .inl (.aload_n 0), 1), (79, .inl (.lload 5), 2)],
  [(81, .inr (9, 0, 20), 3), (84, .inl (.ldiv), 1), (85, .inr (2, 266, 2), 3), (88, .inl (.ifCond .ne 5), 3), (91, .inl (.iconst 3), 1), (92, .inl (.ireturn), 1), (93, .inl (.iinc 4 1), 3)],
  [(96, .inl (.goto (-63)), 3), (99, .inl (.iconst 0), 1), (100, .inl (.ireturn), 1)]]
-- MovingNamesModel.isHome(III)Z
set_option maxRecDepth 100000 in
noncomputable def ab_c326 : List (List (Nat × ab_I × Nat)) := [[(0, .inl (.aload_n 0), 1), (1, .inr (0, 9, 31), 3), (4, .inl (.bipush 30), 2), (6, .inl (.iload_n 1), 1), (7, .inl (.imul), 1), (8, .inl (.iload_n 2), 1), (9, .inl (.iadd), 1), (10, .inl (.laload), 1), (11, .inl (.l2i), 1), (12, .inl (.istore 4), 2), (14, .inl (.aload_n 0), 1), (15, .inl (.iload 4), 2)],
  [(17, .inl (.bipush 20), 2), (19, .inl (.irem), 1), (20, .inl (.iload_n 3), 1), (21, .inr (2, 284, 3), 3), (24, .inl (.iload 4), 2), (26, .inl (.bipush 20), 2), (28, .inl (.idiv), 1), (29, .inl (.if_icmp .ne 7), 3)],
  [(32, .inl (.iconst 1), 1), (33, .inl (.goto 4), 3), (36, .inl (.iconst 0), 1), (37, .inl (.ireturn), 1)]]
-- MovingNamesModel.follows(II)J
set_option maxRecDepth 100000 in
noncomputable def ab_c327 : List (List (Nat × ab_I × Nat)) := [[(0, .inl (.aload_n 0), 1), (1, .inl (.aload_n 0), 1), (2, .inl (.iload_n 1), 1), (3, .inl (.i2l), 1), (4, .inr (2, 266, 2), 3), (7, .inl (.ifCond .eq 12), 3), (10, .inl (.aload_n 0), 1), (11, .inl (.iload_n 2), 1), (12, .inl (.i2l), 1), (13, .inr (2, 266, 2), 3)],
  [(16, .inl (.ifCond .ne 7), 3), (19, .inl (.iconst 1), 1), (20, .inl (.goto 13), 3), (23, .inl (.iload_n 1), 1), (24, .inl (.iload_n 2), 1), (25, .inl (.if_icmp .ne 7), 3), (28, .inl (.iconst 2), 1), (29, .inl (.goto 4), 3)],
  [(32, .inl (.iconst 0), 1), (33, .inr (1, 9, 4), 3), (36, .inl (.aload_n 0), 1), (37, .inr (0, 9, 4), 3), (40, .inl (.ifCond .le 5), 3), (43, .inl (.lconst 0), 1), (44, .inl (.lreturn), 1), (45, .inl (.aload_n 0), 1), (46, .inr (2, 320, 1), 3)],
  [(49, .inl (.istore_n 3), 1), (50, .inl (.iconst 0), 1), (51, .inl (.istore 4), 2), (53, .inl (.iload 4), 2), (55, .inl (.iload_n 3), 1), (56, .inl (.if_icmp .ge 32), 3), (59, .inl (.aload_n 0), 1), (60, .inl (.iload_n 1), 1), (61, .inl (.iload 4), 2), (63, .inr (2, 285, 3), 3)],
  [(66, .inl (.aload_n 0), 1), (67, .inl (.iload_n 2), 1), (68, .inl (.iload 4), 2), (70, .inl (.iconst 1), 1), (71, .inl (.iadd), 1), (72, .inr (2, 285, 3), 3), (75, .inl (.if_icmp .ne 7), 3), (78, .inl (.iload 4), 2)],
  [(80, .inl (.i2l), 1), (81, .inl (.lreturn), 1), (82, .inl (.iinc 4 1), 3), (85, .inl (.goto (-32)), 3), (88, .inr (9, 0, (-1)), 3), (91, .inl (.lreturn), 1)]]
-- MovingNamesModel.again(I)I
set_option maxRecDepth 100000 in
noncomputable def ab_c328 : List (List (Nat × ab_I × Nat)) := [[(0, .inl (.aload_n 0), 1), (1, .inl (.iconst 0), 1), (2, .inr (1, 9, 4), 3), (5, .inl (.aload_n 0), 1), (6, .inl (.iload_n 1), 1), (7, .inl (.i2l), 1), (8, .inr (2, 266, 2), 3), (11, .inl (.ifCond .ne 9), 3), (14, .inl (.aload_n 0), 1), (15, .inl (.iconst 1), 1)],
  [(16, .inr (2, 233, 2), 3), (19, .inl (.ireturn), 1), (20, .inl (.aload_n 0), 1), (21, .inr (2, 268, 1), 3), (24, .inl (.iconst 1), 1), (25, .inl (.istore_n 2), 1), (26, .inl (.aload_n 0), 1), (27, .inl (.iload_n 1), 1), (28, .inl (.iload_n 2), 1), (29, .inr (2, 284, 3), 3)],
  [(32, .inl (.aload_n 0), 1), (33, .inr (0, 9, 0), 3), (36, .inl (.bipush 11), 2), (38, .inl (.iload_n 1), 1), (39, .inl (.iadd), 1), (40, .inl (.iaload), 1), (41, .inl (.if_icmp .eq 9), 3), (44, .inl (.iinc 2 1), 3), (47, .inl (.goto (-21)), 3)],
  [(50, .inl (.iload_n 2), 1), (51, .inl (.ireturn), 1)]]
-- MovingNamesModel.beside(II)I
set_option maxRecDepth 100000 in
noncomputable def ab_c329 : List (List (Nat × ab_I × Nat)) := [[(0, .inl (.aload_n 0), 1), (1, .inl (.aload_n 0), 1), (2, .inl (.iload_n 1), 1), (3, .inl (.i2l), 1), (4, .inr (2, 266, 2), 3), (7, .inl (.ifCond .eq 12), 3), (10, .inl (.aload_n 0), 1), (11, .inl (.iload_n 2), 1), (12, .inl (.i2l), 1), (13, .inr (2, 266, 2), 3)],
  [(16, .inl (.ifCond .ne 7), 3), (19, .inl (.iconst 1), 1), (20, .inl (.goto 13), 3), (23, .inl (.iload_n 1), 1), (24, .inl (.iload_n 2), 1), (25, .inl (.if_icmp .ne 7), 3), (28, .inl (.iconst 2), 1), (29, .inl (.goto 4), 3)],
  [(32, .inl (.iconst 0), 1), (33, .inr (1, 9, 4), 3), (36, .inl (.aload_n 0), 1), (37, .inr (0, 9, 4), 3), (40, .inl (.ifCond .le 5), 3), (43, .inl (.iconst 0), 1), (44, .inl (.ireturn), 1), (45, .inl (.aload_n 0), 1), (46, .inr (2, 320, 1), 3)],
  [(49, .inl (.istore_n 3), 1), (50, .inl (.iconst 0), 1), (51, .inl (.istore 4), 2), (53, .inl (.iconst 0), 1), (54, .inl (.istore 5), 2), (56, .inl (.iload 5), 2), (58, .inl (.iload_n 3), 1), (59, .inl (.if_icmp .ge 41), 3), (62, .inl (.iload 4), 2)],
  [(64, .inl (.aload_n 0), 1), (65, .inl (.iload_n 1), 1), (66, .inl (.iload 5), 2), (68, .inr (2, 285, 3), 3), (71, .inl (.aload_n 0), 1), (72, .inl (.iload_n 2), 1), (73, .inl (.iload 5), 2), (75, .inr (2, 285, 3), 3), (78, .inl (.isub), 1), (79, .inr (2, 92, 1), 3)],
  [(82, .inl (.iconst 1), 1), (83, .inl (.if_icmp .ne 7), 3), (86, .inl (.iconst 1), 1), (87, .inl (.goto 4), 3), (90, .inl (.iconst 0), 1), (91, .inl (.iadd), 1), (92, .inl (.istore 4), 2), (94, .inl (.iinc 5 1), 3)],
  [(97, .inl (.goto (-41)), 3), (100, .inl (.iload 4), 2), (102, .inl (.ireturn), 1)]]
-- MovingNamesModel.visits(II)I
set_option maxRecDepth 100000 in
noncomputable def ab_c330 : List (List (Nat × ab_I × Nat)) := [[(0, .inl (.aload_n 0), 1), (1, .inl (.aload_n 0), 1), (2, .inl (.iload_n 1), 1), (3, .inl (.i2l), 1), (4, .inr (2, 266, 2), 3), (7, .inl (.ifCond .ne 7), 3), (10, .inl (.iconst 1), 1), (11, .inl (.goto 20), 3), (14, .inl (.iload_n 2), 1), (15, .inl (.i2l), 1)],
  [(16, .inl (.lconst 0), 1), (17, .inr (9, 0, 999), 3), (20, .inr (2, 232, 3), 3), (23, .inl (.ifCond .eq 7), 3), (26, .inl (.iconst 0), 1), (27, .inl (.goto 4), 3), (30, .inl (.iconst 2), 1), (31, .inr (1, 9, 4), 3)],
  [(34, .inl (.aload_n 0), 1), (35, .inr (0, 9, 4), 3), (38, .inl (.ifCond .le 5), 3), (41, .inl (.iconst 0), 1), (42, .inl (.ireturn), 1), (43, .inl (.aload_n 0), 1), (44, .inr (2, 268, 1), 3), (47, .inl (.iconst 0), 1)],
  [(48, .inl (.istore_n 3), 1), (49, .inl (.iconst 0), 1), (50, .inl (.istore 4), 2), (52, .inl (.iload 4), 2), (54, .inl (.aload_n 0), 1), (55, .inr (2, 267, 1), 3), (58, .inl (.if_icmp .ge 43), 3), (61, .inl (.iconst 0), 1), (62, .inl (.istore 5), 2)],
  [(64, .inl (.iload 5), 2), (66, .inl (.iload_n 2), 1), (67, .inl (.if_icmp .gt 28), 3), (70, .inl (.aload_n 0), 1), (71, .inl (.iload 4), 2), (73, .inl (.iload 5), 2), (75, .inr (2, 284, 3), 3), (78, .inl (.iload_n 1), 1), (79, .inl (.if_icmp .ne 10), 3)],
  [(82, .inl (.iload_n 3), 1), (83, .inl (.iconst 1), 1), (84, .inl (.iload 4), 2), (86, .inl (.ishl), 1), (87, .inl (.ior), 1), (88, .inl (.istore_n 3), 1), (89, .inl (.iinc 5 1), 3), (92, .inl (.goto (-28)), 3), (95, .inl (.iinc 4 1), 3)],
  [(98, .inl (.goto (-46)), 3), (101, .inl (.iload_n 3), 1), (102, .inl (.ireturn), 1)]]
-- MovingNamesModel.under(II)I
set_option maxRecDepth 100000 in
noncomputable def ab_c331 : List (List (Nat × ab_I × Nat)) := [[(0, .inl (.aload_n 0), 1), (1, .inl (.aload_n 0), 1), (2, .inl (.iload_n 1), 1), (3, .inr (2, 276, 2), 3), (6, .inl (.ifCond .ne 7), 3), (9, .inl (.iconst 1), 1), (10, .inl (.goto 20), 3), (13, .inl (.iload_n 2), 1), (14, .inl (.i2l), 1), (15, .inl (.lconst 0), 1)],
  [(16, .inr (9, 0, 999), 3), (19, .inr (2, 232, 3), 3), (22, .inl (.ifCond .eq 7), 3), (25, .inl (.iconst 0), 1), (26, .inl (.goto 4), 3), (29, .inl (.iconst 2), 1), (30, .inr (1, 9, 4), 3)],
  [(33, .inl (.aload_n 0), 1), (34, .inr (0, 9, 4), 3), (37, .inl (.ifCond .le 5), 3), (40, .inl (.iconst 0), 1), (41, .inl (.ireturn), 1), (42, .inl (.aload_n 0), 1), (43, .inr (2, 268, 1), 3), (46, .inl (.iconst 0), 1), (47, .inl (.istore_n 3), 1)],
  [(48, .inl (.iconst 0), 1), (49, .inl (.istore 4), 2), (51, .inl (.iload 4), 2), (53, .inl (.iload_n 2), 1), (54, .inl (.if_icmp .gt 29), 3), (57, .inl (.iload_n 3), 1), (58, .inl (.iconst 1), 1), (59, .inl (.aload_n 0), 1), (60, .inl (.aload_n 0), 1), (61, .inr (0, 9, 0), 3)],
  [(64, .inl (.bipush 116), 2), (66, .inl (.iload_n 1), 1), (67, .inl (.iadd), 1), (68, .inl (.iaload), 1), (69, .inl (.iload 4), 2), (71, .inr (2, 284, 3), 3), (74, .inl (.ishl), 1), (75, .inl (.ior), 1), (76, .inl (.istore_n 3), 1), (77, .inl (.iinc 4 1), 3)],
  [(80, .inl (.goto (-29)), 3), (83, .inl (.iload_n 3), 1), (84, .inl (.ireturn), 1)]]
-- MovingNamesModel.home(II)I
set_option maxRecDepth 100000 in
noncomputable def ab_c332 : List (List (Nat × ab_I × Nat)) := [[(0, .inl (.aload_n 0), 1), (1, .inl (.aload_n 0), 1), (2, .inl (.iload_n 1), 1), (3, .inl (.bipush 8), 2), (5, .inr (2, 325, 3), 3), (8, .inr (1, 9, 4), 3), (11, .inl (.aload_n 0), 1), (12, .inr (0, 9, 4), 3), (15, .inl (.ifCond .ne 33), 3)],
  [(18, .inl (.iload_n 2), 1), (19, .inl (.ifCond .eq 29), 3), (22, .inl (.iload_n 2), 1), (23, .inl (.i2l), 1), (24, .inr (9, 0, 10), 3), (27, .inl (.bipush 9), 2), (29, .inl (.aload_n 0), 1), (30, .inr (0, 9, 30), 3)],
  [(33, .inl (.iload_n 1), 1), (34, .inl (.iaload), 1), (35, .inl (.iadd), 1), (36, .inl (.i2l), 1), (37, .inr (2, 232, 3), 3), (40, .inl (.ifCond .ne 8), 3), (43, .inl (.aload_n 0), 1), (44, .inl (.iconst 3), 1), (45, .inr (1, 9, 4), 3)],
  [(48, .inl (.aload_n 0), 1), (49, .inr (0, 9, 4), 3), (52, .inl (.ifCond .le 5), 3), (55, .inl (.iconst 0), 1), (56, .inl (.ireturn), 1), (57, .inl (.aload_n 0), 1), (58, .inl (.iload_n 1), 1), (59, .inr (2, 333, 2), 3), (62, .inl (.istore_n 3), 1), (63, .inl (.iload_n 3), 1)],
  [(64, .inl (.iconst (-1)), 1), (65, .inl (.if_icmp .eq 7), 3), (68, .inl (.iload_n 2), 1), (69, .inl (.ifCond .ne 7), 3), (72, .inl (.iload_n 3), 1), (73, .inl (.goto 12), 3), (76, .inl (.aload_n 0), 1), (77, .inr (0, 9, 27), 3)],
  [(80, .inl (.iload_n 2), 1), (81, .inl (.bipush 10), 2), (83, .inl (.isub), 1), (84, .inl (.iaload), 1), (85, .inl (.ireturn), 1)]]
-- MovingNamesModel.laysHome(I)I
set_option maxRecDepth 100000 in
noncomputable def ab_c333 : List (List (Nat × ab_I × Nat)) := [[(0, .inl (.aload_n 0), 1), (1, .inr (2, 268, 1), 3), (4, .inl (.aload_n 0), 1), (5, .inr (0, 9, 30), 3), (8, .inl (.iload_n 1), 1), (9, .inl (.iaload), 1), (10, .inl (.istore_n 2), 1), (11, .inl (.iconst 0), 1), (12, .inl (.istore_n 3), 1), (13, .inl (.iload_n 3), 1), (14, .inl (.iload_n 2), 1), (15, .inl (.if_icmp .ge 67), 3)],
  [(18, .inl (.aload_n 0), 1), (19, .inr (0, 9, 25), 3), (22, .inl (.iload_n 3), 1), (23, .inl (.lconst 0), 1), (24, .inl (.lastore), 1), (25, .inl (.aload_n 0), 1), (26, .inr (0, 9, 27), 3), (29, .inl (.iload_n 3), 1), (30, .inl (.iconst (-1)), 1), (31, .inl (.iastore), 1)],
  [(32, .inl (.iconst 0), 1), (33, .inl (.istore 4), 2), (35, .inl (.iload 4), 2), (37, .inl (.bipush 60), 2), (39, .inl (.if_icmp .ge 37), 3), (42, .inl (.aload_n 0), 1), (43, .inr (0, 9, 25), 3), (46, .inl (.iload_n 3), 1), (47, .inl (.dup2), 1)],
  [(48, .inl (.laload), 1), (49, .inl (.aload_n 0), 1), (50, .inl (.iload_n 1), 1), (51, .inl (.iload_n 3), 1), (52, .inl (.iload 4), 2), (54, .inr (2, 326, 4), 3), (57, .inl (.ifCond .eq 10), 3), (60, .inl (.lconst 1), 1), (61, .inl (.iload 4), 2), (63, .inl (.lshl), 1)],
  [(64, .inl (.goto 4), 3), (67, .inl (.lconst 0), 1), (68, .inl (.lor), 1), (69, .inl (.lastore), 1), (70, .inl (.iinc 4 1), 3), (73, .inl (.goto (-38)), 3), (76, .inl (.iinc 3 1), 3), (79, .inl (.goto (-66)), 3)],
  [(82, .inl (.iconst 0), 1), (83, .inl (.istore_n 3), 1), (84, .inl (.iload_n 3), 1), (85, .inl (.bipush 60), 2), (87, .inl (.if_icmp .ge 18), 3), (90, .inl (.aload_n 0), 1), (91, .inl (.iload_n 3), 1), (92, .inl (.iload_n 2), 1), (93, .inr (2, 334, 3), 3)],
  [(96, .inl (.ifCond .ne 9), 3), (99, .inl (.iinc 3 1), 3), (102, .inl (.goto (-18)), 3), (105, .inl (.iload_n 3), 1), (106, .inl (.bipush 60), 2), (108, .inl (.if_icmp .ne 5), 3), (111, .inl (.iconst (-1)), 1)],
  [(112, .inl (.ireturn), 1), (113, .inl (.iconst 0), 1), (114, .inl (.istore 4), 2), (116, .inl (.iload 4), 2), (118, .inl (.iload_n 2), 1), (119, .inl (.if_icmp .ge 62), 3), (122, .inl (.iconst 0), 1), (123, .inl (.istore 5), 2), (125, .inl (.aload_n 0), 1), (126, .inr (0, 9, 27), 3)],
  [(129, .inl (.iload 4), 2), (131, .inl (.iload 5), 2), (133, .inl (.iastore), 1), (134, .inl (.aload_n 0), 1), (135, .inr (0, 9, 25), 3), (138, .inl (.iload 4), 2), (140, .inl (.laload), 1), (141, .inl (.iload 5), 2), (143, .inl (.lshr), 1)],
  [(144, .inl (.lconst 1), 1), (145, .inl (.land), 1), (146, .inl (.lconst 0), 1), (147, .inl (.lcmp), 1), (148, .inl (.ifCond .eq 12), 3), (151, .inl (.aload_n 0), 1), (152, .inl (.iload_n 3), 1), (153, .inl (.iload_n 2), 1), (154, .inr (2, 334, 3), 3), (157, .inl (.ifCond .ne 18), 3)],
  [(160, .inl (.iinc 5 1), 3), (163, .inl (.aload_n 0), 1), (164, .inr (0, 9, 27), 3), (167, .inl (.iload 4), 2), (169, .inl (.iload 5), 2), (171, .inl (.iastore), 1), (172, .inl (.goto (-38)), 3), (175, .inl (.iinc 4 1), 3)],
  [(178, .inl (.goto (-62)), 3), (181, .inl (.iload_n 3), 1), (182, .inl (.ireturn), 1)]]
-- MovingNamesModel.areAllHome(II)Z
set_option maxRecDepth 100000 in
noncomputable def ab_c334 : List (List (Nat × ab_I × Nat)) := [[(0, .inl (.iconst 0), 1), (1, .inl (.istore_n 3), 1), (2, .inl (.iload_n 3), 1), (3, .inl (.bipush 60), 2), (5, .inl (.if_icmp .ge 16), 3), (8, .inl (.aload_n 0), 1), (9, .inr (0, 9, 26), 3), (12, .inl (.iload_n 3), 1), (13, .inl (.iconst (-1)), 1), (14, .inl (.iastore), 1), (15, .inl (.iinc 3 1), 3)],
  [(18, .inl (.goto (-16)), 3), (21, .inl (.iconst 0), 1), (22, .inl (.istore_n 3), 1), (23, .inl (.iload_n 3), 1), (24, .inl (.iload_n 2), 1), (25, .inl (.if_icmp .ge 25), 3), (28, .inl (.aload_n 0), 1), (29, .inl (.lconst 0), 1), (30, .inr (1, 9, 28), 3)],
  [(33, .inl (.aload_n 0), 1), (34, .inl (.iload_n 3), 1), (35, .inl (.iload_n 1), 1), (36, .inr (2, 335, 3), 3), (39, .inl (.ifCond .ne 5), 3), (42, .inl (.iconst 0), 1), (43, .inl (.ireturn), 1), (44, .inl (.iinc 3 1), 3), (47, .inl (.goto (-24)), 3)],
  [(50, .inl (.iconst 1), 1), (51, .inl (.ireturn), 1)]]
-- MovingNamesModel.isFree(II)Z
set_option maxRecDepth 100000 in
noncomputable def ab_c335 : List (List (Nat × ab_I × Nat)) := [[(0, .inl (.iconst 0), 1), (1, .inl (.istore_n 3), 1), (2, .inl (.iload_n 3), 1), (3, .inl (.iload_n 2), 1), (4, .inl (.if_icmp .gt 128), 3), (7, .inl (.aload_n 0), 1), (8, .inr (0, 9, 27), 3), (11, .inl (.iload_n 1), 1), (12, .inl (.iaload), 1), (13, .inl (.iconst (-1)), 1), (14, .inl (.if_icmp .ne 26), 3)],
  [(17, .inl (.aload_n 0), 1), (18, .inr (0, 9, 25), 3), (21, .inl (.iload_n 1), 1), (22, .inl (.laload), 1), (23, .inl (.iload_n 3), 1), (24, .inl (.lshr), 1), (25, .inl (.lconst 1), 1), (26, .inl (.land), 1), (27, .inl (.lconst 1), 1), (28, .inl (.lcmp), 1), (29, .inl (.ifCond .ne 7), 3)],
  [(32, .inl (.iconst 1), 1), (33, .inl (.goto 22), 3), (36, .inl (.iconst 0), 1), (37, .inl (.goto 18), 3), (40, .inl (.aload_n 0), 1), (41, .inr (0, 9, 27), 3), (44, .inl (.iload_n 1), 1), (45, .inl (.iaload), 1), (46, .inl (.iload_n 3), 1), (47, .inl (.if_icmp .ne 7), 3)],
  [(50, .inl (.iconst 1), 1), (51, .inl (.goto 4), 3), (54, .inl (.iconst 0), 1), (55, .inl (.istore 4), 2), (57, .inl (.iload 4), 2), (59, .inl (.ifCond .eq 67), 3), (62, .inl (.aload_n 0), 1), (63, .inr (0, 9, 28), 3)],
  [(66, .inl (.iload_n 3), 1), (67, .inl (.lshr), 1), (68, .inl (.lconst 1), 1), (69, .inl (.land), 1), (70, .inl (.lconst 1), 1), (71, .inl (.lcmp), 1), (72, .inl (.ifCond .ne 6), 3), (75, .inl (.goto 51), 3), (78, .inl (.aload_n 0), 1), (79, .inl (.dup), 1)],
  [(80, .inr (0, 9, 28), 3), (83, .inl (.lconst 1), 1), (84, .inl (.iload_n 3), 1), (85, .inl (.lshl), 1), (86, .inl (.lor), 1), (87, .inr (1, 9, 28), 3), (90, .inl (.aload_n 0), 1), (91, .inr (0, 9, 26), 3), (94, .inl (.iload_n 3), 1), (95, .inl (.iaload), 1)],
  [(96, .inl (.iconst (-1)), 1), (97, .inl (.if_icmp .eq 20), 3), (100, .inl (.aload_n 0), 1), (101, .inl (.aload_n 0), 1), (102, .inr (0, 9, 26), 3), (105, .inl (.iload_n 3), 1), (106, .inl (.iaload), 1), (107, .inl (.iload_n 2), 1), (108, .inr (2, 335, 3), 3), (111, .inl (.ifCond .ne 6), 3)],
  [(114, .inl (.goto 12), 3), (117, .inl (.aload_n 0), 1), (118, .inr (0, 9, 26), 3), (121, .inl (.iload_n 3), 1), (122, .inl (.iload_n 1), 1), (123, .inl (.iastore), 1), (124, .inl (.iconst 1), 1), (125, .inl (.ireturn), 1), (126, .inl (.iinc 3 1), 3)],
  [(129, .inl (.goto (-127)), 3), (132, .inl (.iconst 0), 1), (133, .inl (.ireturn), 1)]]
-- MovingNamesModel.written(III)I
set_option maxRecDepth 100000 in
noncomputable def ab_c336 : List (List (Nat × ab_I × Nat)) := [[(0, .inl (.aload_n 0), 1), (1, .inl (.aload_n 0), 1), (2, .inl (.iload_n 1), 1), (3, .inl (.i2l), 1), (4, .inr (2, 266, 2), 3), (7, .inl (.ifCond .eq 12), 3), (10, .inl (.aload_n 0), 1), (11, .inl (.iload_n 2), 1), (12, .inl (.i2l), 1), (13, .inr (2, 266, 2), 3)],
  [(16, .inl (.ifCond .ne 7), 3), (19, .inl (.iconst 1), 1), (20, .inl (.goto 20), 3), (23, .inl (.iload_n 3), 1), (24, .inl (.i2l), 1), (25, .inl (.lconst 0), 1), (26, .inr (9, 0, 99), 3), (29, .inr (2, 232, 3), 3)],
  [(32, .inl (.ifCond .eq 7), 3), (35, .inl (.iconst 0), 1), (36, .inl (.goto 4), 3), (39, .inl (.iconst 2), 1), (40, .inr (1, 9, 4), 3), (43, .inl (.aload_n 0), 1), (44, .inr (0, 9, 4), 3), (47, .inl (.ifCond .le 5), 3)],
  [(50, .inl (.iconst 0), 1), (51, .inl (.ireturn), 1), (52, .inl (.aload_n 0), 1), (53, .inr (2, 268, 1), 3), (56, .inl (.iconst 0), 1), (57, .inl (.istore 4), 2), (59, .inl (.iload_n 3), 1), (60, .inl (.istore 5), 2), (62, .inl (.iload 5), 2)],
  [(64, .inl (.bipush 99), 2), (66, .inl (.if_icmp .gt 31), 3), (69, .inl (.iload 4), 2), (71, .inl (.aload_n 0), 1), (72, .inl (.iload_n 2), 1), (73, .inl (.iload 5), 2), (75, .inl (.ineg), 1), (76, .inr (2, 284, 3), 3), (79, .inl (.iload_n 1), 1)],
  [(80, .inl (.if_icmp .ne 7), 3), (83, .inl (.iconst 1), 1), (84, .inl (.goto 4), 3), (87, .inl (.iconst 0), 1), (88, .inl (.iadd), 1), (89, .inl (.istore 4), 2), (91, .inl (.iinc 5 1), 3), (94, .inl (.goto (-32)), 3)],
  [(97, .inl (.iload 4), 2), (99, .inl (.ireturn), 1)]]
-- MovingNamesModel.served(III)I
set_option maxRecDepth 100000 in
noncomputable def ab_c337 : List (List (Nat × ab_I × Nat)) := [[(0, .inl (.aload_n 0), 1), (1, .inl (.aload_n 0), 1), (2, .inl (.iload_n 1), 1), (3, .inr (2, 276, 2), 3), (6, .inl (.ifCond .eq 12), 3), (9, .inl (.aload_n 0), 1), (10, .inl (.iload_n 2), 1), (11, .inl (.i2l), 1), (12, .inr (2, 266, 2), 3), (15, .inl (.ifCond .ne 7), 3)],
  [(18, .inl (.iconst 1), 1), (19, .inl (.goto 18), 3), (22, .inl (.iload_n 3), 1), (23, .inl (.i2l), 1), (24, .inl (.lconst 0), 1), (25, .inl (.lconst 1), 1), (26, .inr (2, 232, 3), 3), (29, .inl (.ifCond .eq 7), 3)],
  [(32, .inl (.iconst 0), 1), (33, .inl (.goto 4), 3), (36, .inl (.iconst 2), 1), (37, .inr (1, 9, 4), 3), (40, .inl (.aload_n 0), 1), (41, .inr (0, 9, 4), 3), (44, .inl (.ifCond .le 5), 3), (47, .inl (.iconst 0), 1)],
  [(48, .inl (.ireturn), 1), (49, .inl (.aload_n 0), 1), (50, .inr (2, 268, 1), 3), (53, .inl (.iconst 0), 1), (54, .inl (.istore 4), 2), (56, .inl (.iconst (-1)), 1), (57, .inl (.istore 5), 2), (59, .inl (.iconst 0), 1), (60, .inl (.istore 6), 2), (62, .inl (.iload 6), 2)],
  [(64, .inl (.bipush 99), 2), (66, .inl (.if_icmp .gt 44), 3), (69, .inl (.aload_n 0), 1), (70, .inl (.aload_n 0), 1), (71, .inr (0, 9, 0), 3), (74, .inl (.bipush 116), 2), (76, .inl (.iload_n 1), 1), (77, .inl (.iadd), 1), (78, .inl (.iaload), 1), (79, .inl (.iload 6), 2)],
  [(81, .inr (2, 284, 3), 3), (84, .inl (.iload_n 2), 1), (85, .inl (.if_icmp .eq 6), 3), (88, .inl (.goto 16), 3), (91, .inl (.iinc 4 1), 3), (94, .inl (.iload 5), 2)],
  [(96, .inl (.iconst (-1)), 1), (97, .inl (.if_icmp .ne 7), 3), (100, .inl (.iload 6), 2), (102, .inl (.istore 5), 2), (104, .inl (.iinc 6 1), 3), (107, .inl (.goto (-45)), 3), (110, .inl (.iload_n 3), 1), (111, .inl (.ifCond .ne 8), 3)],
  [(114, .inl (.iload 4), 2), (116, .inl (.goto 5), 3), (119, .inl (.iload 5), 2), (121, .inl (.ireturn), 1)]]
-- MovingNamesModel.right(I)I
set_option maxRecDepth 100000 in
noncomputable def ab_c338 : List (List (Nat × ab_I × Nat)) := [[(0, .inl (.aload_n 0), 1), (1, .inl (.iconst 0), 1), (2, .inr (1, 9, 4), 3), (5, .inl (.iload_n 1), 1), (6, .inr (2, 282, 1), 3), (9, .inl (.ifCond .ne 9), 3), (12, .inl (.aload_n 0), 1), (13, .inl (.iconst 1), 1), (14, .inr (2, 233, 2), 3)],
  [(17, .inl (.ireturn), 1), (18, .inl (.aload_n 0), 1), (19, .inr (2, 268, 1), 3), (22, .inl (.aload_n 0), 1), (23, .inl (.iload_n 1), 1), (24, .inr (2, 323, 2), 3), (27, .inl (.ireturn), 1)]]
-- MovingNamesModel.rightDays(II)I
set_option maxRecDepth 100000 in
noncomputable def ab_c339 : List (List (Nat × ab_I × Nat)) := [[(0, .inl (.aload_n 0), 1), (1, .inl (.iconst 0), 1), (2, .inr (1, 9, 4), 3), (5, .inl (.iload_n 2), 1), (6, .inl (.i2l), 1), (7, .inl (.lconst 0), 1), (8, .inr (9, 0, 999), 3), (11, .inr (2, 232, 3), 3), (14, .inl (.ifCond .eq 7), 3)],
  [(17, .inl (.iload_n 1), 1), (18, .inl (.ifCond .ge 9), 3), (21, .inl (.aload_n 0), 1), (22, .inl (.iconst 1), 1), (23, .inr (2, 233, 2), 3), (26, .inl (.ireturn), 1), (27, .inl (.aload_n 0), 1), (28, .inr (2, 268, 1), 3), (31, .inl (.iconst 0), 1)],
  [(32, .inl (.istore_n 3), 1), (33, .inl (.iconst 1), 1), (34, .inl (.istore 4), 2), (36, .inl (.iload 4), 2), (38, .inl (.iload_n 2), 1), (39, .inl (.if_icmp .gt 27), 3), (42, .inl (.iload_n 3), 1), (43, .inl (.aload_n 0), 1), (44, .inl (.iload 4), 2), (46, .inr (2, 323, 2), 3)],
  [(49, .inl (.iload_n 1), 1), (50, .inl (.if_icmp .lt 7), 3), (53, .inl (.iconst 1), 1), (54, .inl (.goto 4), 3), (57, .inl (.iconst 0), 1), (58, .inl (.iadd), 1), (59, .inl (.istore_n 3), 1), (60, .inl (.iinc 4 1), 3), (63, .inl (.goto (-27)), 3)],
  [(66, .inl (.iload_n 3), 1), (67, .inl (.ireturn), 1)]]
-- MovingNamesModel.harm(I)I
set_option maxRecDepth 100000 in
noncomputable def ab_c340 : List (List (Nat × ab_I × Nat)) := [[(0, .inl (.aload_n 0), 1), (1, .inl (.iconst 0), 1), (2, .inr (1, 9, 4), 3), (5, .inl (.iload_n 1), 1), (6, .inr (2, 282, 1), 3), (9, .inl (.ifCond .ne 9), 3), (12, .inl (.aload_n 0), 1), (13, .inl (.iconst 1), 1), (14, .inr (2, 233, 2), 3)],
  [(17, .inl (.ireturn), 1), (18, .inl (.aload_n 0), 1), (19, .inr (2, 268, 1), 3), (22, .inl (.aload_n 0), 1), (23, .inl (.iload_n 1), 1), (24, .inr (2, 341, 2), 3), (27, .inl (.ireturn), 1)]]
-- MovingNamesModel.harmBy(I)I
set_option maxRecDepth 100000 in
noncomputable def ab_c341 : List (List (Nat × ab_I × Nat)) := [[(0, .inl (.aload_n 0), 1), (1, .inl (.iload_n 1), 1), (2, .inr (2, 342, 2), 3), (5, .inl (.iconst 0), 1), (6, .inl (.istore_n 2), 1), (7, .inl (.iconst 0), 1), (8, .inl (.istore_n 3), 1), (9, .inl (.iload_n 3), 1), (10, .inl (.aload_n 0), 1), (11, .inr (2, 267, 1), 3), (14, .inl (.if_icmp .ge 43), 3)],
  [(17, .inl (.aload_n 0), 1), (18, .inl (.aload_n 0), 1), (19, .inr (0, 9, 0), 3), (22, .inl (.bipush 11), 2), (24, .inl (.iload_n 3), 1), (25, .inl (.iadd), 1), (26, .inl (.iaload), 1), (27, .inr (2, 278, 2), 3), (30, .inr (2, 293, 1), 3)],
  [(33, .inl (.iconst 1), 1), (34, .inl (.if_icmp .ne 17), 3), (37, .inl (.iload_n 2), 1), (38, .inl (.aload_n 0), 1), (39, .inr (0, 9, 18), 3), (42, .inl (.iload_n 3), 1), (43, .inl (.iaload), 1), (44, .inl (.iload_n 3), 1), (45, .inl (.isub), 1), (46, .inr (2, 92, 1), 3)],
  [(49, .inl (.iadd), 1), (50, .inl (.istore_n 2), 1), (51, .inl (.iinc 3 1), 3), (54, .inl (.goto (-45)), 3), (57, .inl (.iload_n 2), 1), (58, .inl (.ireturn), 1)]]
-- MovingNamesModel.laysAhead(I)V
set_option maxRecDepth 100000 in
noncomputable def ab_c342 : List (List (Nat × ab_I × Nat)) := [[(0, .inl (.iconst 0), 1), (1, .inl (.istore_n 2), 1), (2, .inl (.iload_n 2), 1), (3, .inl (.aload_n 0), 1), (4, .inr (2, 267, 1), 3), (7, .inl (.if_icmp .ge 21), 3), (10, .inl (.aload_n 0), 1), (11, .inr (0, 9, 18), 3), (14, .inl (.iload_n 2), 1), (15, .inl (.aload_n 0), 1)],
  [(16, .inl (.iload_n 2), 1), (17, .inl (.iload_n 1), 1), (18, .inr (2, 285, 3), 3), (21, .inl (.iastore), 1), (22, .inl (.iinc 2 1), 3), (25, .inl (.goto (-23)), 3), (28, .inl (.return_), 1)]]
-- MovingNamesModel.leastHarm(I)I
set_option maxRecDepth 100000 in
noncomputable def ab_c343 : List (List (Nat × ab_I × Nat)) := [[(0, .inl (.aload_n 0), 1), (1, .inl (.iconst 0), 1), (2, .inr (1, 9, 4), 3), (5, .inl (.iload_n 1), 1), (6, .inl (.i2l), 1), (7, .inl (.lconst 1), 1), (8, .inr (9, 0, 999), 3), (11, .inr (2, 232, 3), 3), (14, .inl (.ifCond .ne 9), 3)],
  [(17, .inl (.aload_n 0), 1), (18, .inl (.iconst 1), 1), (19, .inr (2, 233, 2), 3), (22, .inl (.ireturn), 1), (23, .inl (.aload_n 0), 1), (24, .inr (2, 320, 1), 3), (27, .inl (.istore_n 2), 1), (28, .inl (.iconst 1), 1), (29, .inl (.istore_n 3), 1), (30, .inl (.aload_n 0), 1), (31, .inl (.iconst 1), 1)],
  [(32, .inr (2, 341, 2), 3), (35, .inl (.istore 4), 2), (37, .inl (.iconst 2), 1), (38, .inl (.istore 5), 2), (40, .inl (.iload 5), 2), (42, .inl (.iload_n 1), 1), (43, .inl (.if_icmp .gt 40), 3), (46, .inl (.iload 5), 2)],
  [(48, .inl (.iload_n 2), 1), (49, .inl (.if_icmp .gt 34), 3), (52, .inl (.aload_n 0), 1), (53, .inl (.iload 5), 2), (55, .inr (2, 341, 2), 3), (58, .inl (.istore 6), 2), (60, .inl (.iload 6), 2), (62, .inl (.iload 4), 2)],
  [(64, .inl (.if_icmp .lt 6), 3), (67, .inl (.goto 10), 3), (70, .inl (.iload 6), 2), (72, .inl (.istore 4), 2), (74, .inl (.iload 5), 2), (76, .inl (.istore_n 3), 1), (77, .inl (.iinc 5 1), 3)],
  [(80, .inl (.goto (-40)), 3), (83, .inl (.iload_n 3), 1), (84, .inl (.ireturn), 1)]]
-- MovingNamesModel.errors(II)I
set_option maxRecDepth 100000 in
noncomputable def ab_c344 : List (List (Nat × ab_I × Nat)) := [[(0, .inl (.aload_n 0), 1), (1, .inl (.aload_n 0), 1), (2, .inl (.iload_n 1), 1), (3, .inl (.iconst (-1)), 1), (4, .inr (2, 345, 3), 3), (7, .inr (1, 9, 4), 3), (10, .inl (.aload_n 0), 1), (11, .inr (0, 9, 4), 3), (14, .inl (.ifCond .ne 20), 3)],
  [(17, .inl (.iload_n 2), 1), (18, .inl (.i2l), 1), (19, .inl (.lconst 0), 1), (20, .inr (9, 0, 2), 3), (23, .inr (2, 232, 3), 3), (26, .inl (.ifCond .ne 8), 3), (29, .inl (.aload_n 0), 1), (30, .inl (.iconst 3), 1), (31, .inr (1, 9, 4), 3)],
  [(34, .inl (.aload_n 0), 1), (35, .inr (0, 9, 4), 3), (38, .inl (.ifCond .le 5), 3), (41, .inl (.iconst 0), 1), (42, .inl (.ireturn), 1), (43, .inl (.aload_n 0), 1), (44, .inr (2, 320, 1), 3), (47, .inl (.istore_n 3), 1)],
  [(48, .inl (.iconst 0), 1), (49, .inl (.istore 4), 2), (51, .inl (.aload_n 0), 1), (52, .inl (.iload_n 1), 1), (53, .inl (.iconst 0), 1), (54, .inr (2, 346, 3), 3), (57, .inl (.istore 5), 2), (59, .inl (.iconst 1), 1), (60, .inl (.istore 6), 2), (62, .inl (.iload 6), 2)],
  [(64, .inl (.iload_n 3), 1), (65, .inl (.if_icmp .ge 42), 3), (68, .inl (.aload_n 0), 1), (69, .inl (.iload_n 1), 1), (70, .inl (.iload 6), 2), (72, .inr (2, 346, 3), 3), (75, .inl (.istore 7), 2), (77, .inl (.iload 7), 2), (79, .inr (2, 293, 1), 3)],
  [(82, .inl (.iload 5), 2), (84, .inr (2, 293, 1), 3), (87, .inl (.if_icmp .lt 6), 3), (90, .inl (.goto 11), 3), (93, .inl (.iload 7), 2), (95, .inl (.istore 5), 2)],
  [(97, .inl (.iload 6), 2), (99, .inl (.istore 4), 2), (101, .inl (.iinc 6 1), 3), (104, .inl (.goto (-42)), 3), (107, .inl (.iload_n 2), 1), (108, .inl (.ifCond .ne 11), 3), (111, .inl (.iload 5), 2)],
  [(113, .inr (2, 293, 1), 3), (116, .inl (.goto 15), 3), (119, .inl (.iload_n 2), 1), (120, .inl (.iconst 1), 1), (121, .inl (.if_icmp .ne 8), 3), (124, .inl (.iload 4), 2), (126, .inl (.goto 5), 3)],
  [(129, .inl (.iload 5), 2), (131, .inl (.ireturn), 1)]]
-- MovingNamesModel.namesFault(II)I
set_option maxRecDepth 100000 in
noncomputable def ab_c345 : List (List (Nat × ab_I × Nat)) := [[(0, .inl (.aload_n 0), 1), (1, .inl (.iload_n 1), 1), (2, .inr (2, 310, 2), 3), (5, .inl (.istore_n 3), 1), (6, .inl (.iload_n 3), 1), (7, .inl (.ifCond .eq 5), 3), (10, .inl (.iload_n 3), 1), (11, .inl (.ireturn), 1), (12, .inl (.aload_n 0), 1), (13, .inr (0, 9, 30), 3)],
  [(16, .inl (.iload_n 1), 1), (17, .inl (.iaload), 1), (18, .inl (.aload_n 0), 1), (19, .inr (2, 267, 1), 3), (22, .inl (.if_icmp .eq 5), 3), (25, .inl (.iconst 3), 1), (26, .inl (.ireturn), 1), (27, .inl (.iconst 0), 1), (28, .inl (.istore 4), 2), (30, .inl (.iload 4), 2)],
  [(32, .inl (.aload_n 0), 1), (33, .inr (2, 267, 1), 3), (36, .inl (.if_icmp .ge 38), 3), (39, .inl (.aload_n 0), 1), (40, .inr (0, 9, 31), 3), (43, .inl (.bipush 30), 2), (45, .inl (.iload_n 1), 1), (46, .inl (.imul), 1), (47, .inl (.iload 4), 2)],
  [(49, .inl (.iadd), 1), (50, .inl (.laload), 1), (51, .inl (.iload_n 2), 1), (52, .inl (.i2l), 1), (53, .inl (.aload_n 0), 1), (54, .inr (2, 267, 1), 3), (57, .inl (.iconst 1), 1), (58, .inl (.isub), 1), (59, .inl (.i2l), 1), (60, .inr (2, 232, 3), 3), (63, .inl (.ifCond .ne 5), 3)],
  [(66, .inl (.iconst 3), 1), (67, .inl (.ireturn), 1), (68, .inl (.iinc 4 1), 3), (71, .inl (.goto (-41)), 3), (74, .inl (.iconst 0), 1), (75, .inl (.ireturn), 1)]]
-- MovingNamesModel.otherwise(II)I
set_option maxRecDepth 100000 in
noncomputable def ab_c346 : List (List (Nat × ab_I × Nat)) := [[(0, .inl (.iconst 0), 1), (1, .inl (.istore_n 3), 1), (2, .inl (.iconst 0), 1), (3, .inl (.istore 4), 2), (5, .inl (.iload 4), 2), (7, .inl (.aload_n 0), 1), (8, .inr (2, 267, 1), 3), (11, .inl (.if_icmp .ge 57), 3), (14, .inl (.aload_n 0), 1), (15, .inr (0, 9, 31), 3)],
  [(18, .inl (.bipush 30), 2), (20, .inl (.iload_n 1), 1), (21, .inl (.imul), 1), (22, .inl (.iload 4), 2), (24, .inl (.iadd), 1), (25, .inl (.laload), 1), (26, .inl (.lstore 5), 2), (28, .inl (.iload_n 3), 1), (29, .inl (.lload 5), 2), (31, .inr (9, 0, (-1)), 3)],
  [(34, .inl (.lcmp), 1), (35, .inl (.ifCond .eq 24), 3), (38, .inl (.lload 5), 2), (40, .inl (.aload_n 0), 1), (41, .inl (.iload 4), 2), (43, .inl (.iload_n 2), 1), (44, .inr (2, 284, 3), 3), (47, .inl (.i2l), 1)],
  [(48, .inl (.lcmp), 1), (49, .inl (.ifCond .eq 10), 3), (52, .inl (.iconst 1), 1), (53, .inl (.iload 4), 2), (55, .inl (.ishl), 1), (56, .inl (.goto 4), 3), (59, .inl (.iconst 0), 1), (60, .inl (.ior), 1), (61, .inl (.istore_n 3), 1), (62, .inl (.iinc 4 1), 3)],
  [(65, .inl (.goto (-60)), 3), (68, .inl (.iload_n 3), 1), (69, .inl (.ireturn), 1)]]
-- MovingNamesModel.ink(I)I
set_option maxRecDepth 100000 in
noncomputable def ab_c347 : List (List (Nat × ab_I × Nat)) := [[(0, .inl (.aload_n 0), 1), (1, .inl (.aload_n 0), 1), (2, .inl (.iload_n 1), 1), (3, .inl (.iconst 0), 1), (4, .inr (2, 345, 3), 3), (7, .inr (1, 9, 4), 3), (10, .inl (.aload_n 0), 1), (11, .inr (0, 9, 4), 3), (14, .inl (.ifCond .le 5), 3)],
  [(17, .inl (.iconst 0), 1), (18, .inl (.ireturn), 1), (19, .inl (.iconst 0), 1), (20, .inl (.istore_n 2), 1), (21, .inl (.iconst 0), 1), (22, .inl (.istore_n 3), 1), (23, .inl (.iload_n 3), 1), (24, .inl (.aload_n 0), 1), (25, .inr (2, 267, 1), 3), (28, .inl (.if_icmp .ge 42), 3), (31, .inl (.iload_n 2), 1)],
  [(32, .inl (.aload_n 0), 1), (33, .inr (0, 9, 31), 3), (36, .inl (.bipush 30), 2), (38, .inl (.iload_n 1), 1), (39, .inl (.imul), 1), (40, .inl (.iload_n 3), 1), (41, .inl (.iadd), 1), (42, .inl (.laload), 1), (43, .inl (.aload_n 0), 1), (44, .inr (0, 9, 0), 3), (47, .inl (.bipush 11), 2)],
  [(49, .inl (.iload_n 3), 1), (50, .inl (.iadd), 1), (51, .inl (.iaload), 1), (52, .inl (.i2l), 1), (53, .inl (.lcmp), 1), (54, .inl (.ifCond .ne 7), 3), (57, .inl (.iconst 0), 1), (58, .inl (.goto 4), 3), (61, .inl (.iconst 1), 1), (62, .inl (.iadd), 1), (63, .inl (.istore_n 2), 1)],
  [(64, .inl (.iinc 3 1), 3), (67, .inl (.goto (-44)), 3), (70, .inl (.iload_n 2), 1), (71, .inl (.ireturn), 1)]]
-- MovingNamesModel.changes(I)I
set_option maxRecDepth 100000 in
noncomputable def ab_c348 : List (List (Nat × ab_I × Nat)) := [[(0, .inl (.aload_n 0), 1), (1, .inl (.aload_n 0), 1), (2, .inl (.iload_n 1), 1), (3, .inl (.iconst 0), 1), (4, .inr (2, 345, 3), 3), (7, .inr (1, 9, 4), 3), (10, .inl (.aload_n 0), 1), (11, .inr (0, 9, 4), 3), (14, .inl (.ifCond .le 5), 3)],
  [(17, .inl (.iconst 0), 1), (18, .inl (.ireturn), 1), (19, .inl (.aload_n 0), 1), (20, .inr (2, 292, 1), 3), (23, .inl (.ifCond .le 6), 3), (26, .inl (.bipush (-2)), 2), (28, .inl (.ireturn), 1), (29, .inl (.iconst 0), 1), (30, .inl (.istore_n 2), 1), (31, .inl (.iload_n 2), 1)],
  [(32, .inl (.aload_n 0), 1), (33, .inr (2, 267, 1), 3), (36, .inl (.if_icmp .ge 21), 3), (39, .inl (.aload_n 0), 1), (40, .inl (.iload_n 1), 1), (41, .inl (.iload_n 2), 1), (42, .inr (2, 349, 3), 3), (45, .inl (.iconst (-1)), 1), (46, .inl (.if_icmp .ne 5), 3)],
  [(49, .inl (.iconst (-1)), 1), (50, .inl (.ireturn), 1), (51, .inl (.iinc 2 1), 3), (54, .inl (.goto (-23)), 3), (57, .inl (.iconst 0), 1), (58, .inl (.istore_n 2), 1), (59, .inl (.iconst 0), 1), (60, .inl (.istore_n 3), 1), (61, .inl (.iconst 0), 1), (62, .inl (.istore 4), 2)],
  [(64, .inl (.iload 4), 2), (66, .inl (.aload_n 0), 1), (67, .inr (2, 267, 1), 3), (70, .inl (.if_icmp .ge 66), 3), (73, .inl (.iload_n 3), 1), (74, .inl (.iload_n 2), 1), (75, .inl (.iload 4), 2), (77, .inr (2, 270, 2), 3)],
  [(80, .inl (.ifCond .eq 7), 3), (83, .inl (.iconst 0), 1), (84, .inl (.goto 4), 3), (87, .inl (.iconst 1), 1), (88, .inl (.iadd), 1), (89, .inl (.istore_n 3), 1), (90, .inl (.iload 4), 2), (92, .inl (.istore 5), 2), (94, .inl (.iload_n 2), 1), (95, .inl (.iload 5), 2)],
  [(97, .inr (2, 270, 2), 3), (100, .inl (.ifCond .ne 30), 3), (103, .inl (.iload_n 2), 1), (104, .inl (.iconst 1), 1), (105, .inl (.iload 5), 2), (107, .inl (.ishl), 1), (108, .inl (.ior), 1), (109, .inl (.istore_n 2), 1), (110, .inl (.aload_n 0), 1), (111, .inl (.iload_n 1), 1)],
  [(112, .inl (.aload_n 0), 1), (113, .inr (0, 9, 0), 3), (116, .inl (.bipush 11), 2), (118, .inl (.iload 5), 2), (120, .inl (.iadd), 1), (121, .inl (.iaload), 1), (122, .inr (2, 349, 3), 3), (125, .inl (.istore 5), 2), (127, .inl (.goto (-33)), 3)],
  [(130, .inl (.iinc 4 1), 3), (133, .inl (.goto (-69)), 3), (136, .inl (.aload_n 0), 1), (137, .inr (2, 267, 1), 3), (140, .inl (.iload_n 3), 1), (141, .inl (.isub), 1), (142, .inl (.ireturn), 1)]]
-- MovingNamesModel.toldStreet(II)I
set_option maxRecDepth 100000 in
noncomputable def ab_c349 : List (List (Nat × ab_I × Nat)) := [[(0, .inl (.iconst 0), 1), (1, .inl (.istore_n 3), 1), (2, .inl (.iload_n 3), 1), (3, .inl (.aload_n 0), 1), (4, .inr (2, 267, 1), 3), (7, .inl (.if_icmp .ge 28), 3), (10, .inl (.aload_n 0), 1), (11, .inr (0, 9, 31), 3), (14, .inl (.bipush 30), 2)],
  [(16, .inl (.iload_n 1), 1), (17, .inl (.imul), 1), (18, .inl (.iload_n 3), 1), (19, .inl (.iadd), 1), (20, .inl (.laload), 1), (21, .inl (.iload_n 2), 1), (22, .inl (.i2l), 1), (23, .inl (.lcmp), 1), (24, .inl (.ifCond .ne 5), 3), (27, .inl (.iload_n 3), 1), (28, .inl (.ireturn), 1), (29, .inl (.iinc 3 1), 3)],
  [(32, .inl (.goto (-30)), 3), (35, .inl (.iconst (-1)), 1), (36, .inl (.ireturn), 1)]]
-- MovingNamesModel.twice()I
set_option maxRecDepth 100000 in
noncomputable def ab_c350 : List (List (Nat × ab_I × Nat)) := [[(0, .inl (.aload_n 0), 1), (1, .inl (.iconst 0), 1), (2, .inr (1, 9, 4), 3), (5, .inl (.aload_n 0), 1), (6, .inl (.iconst 0), 1), (7, .inr (2, 351, 2), 3), (10, .inl (.ireturn), 1)]]
-- MovingNamesModel.namesOn(Z)I
set_option maxRecDepth 100000 in
noncomputable def ab_c351 : List (List (Nat × ab_I × Nat)) := [[(0, .inl (.iconst 0), 1), (1, .inl (.istore_n 2), 1), (2, .inl (.iconst 0), 1), (3, .inl (.istore_n 3), 1), (4, .inl (.iload_n 3), 1), (5, .inl (.aload_n 0), 1), (6, .inr (2, 267, 1), 3), (9, .inl (.if_icmp .ge 49), 3), (12, .inl (.iload_n 2), 1), (13, .inl (.iload_n 1), 1), (14, .inl (.ifCond .eq 17), 3)],
  [(17, .inl (.aload_n 0), 1), (18, .inl (.iload_n 3), 1), (19, .inr (2, 278, 2), 3), (22, .inr (2, 293, 1), 3), (25, .inl (.ifCond .ne 24), 3), (28, .inl (.goto 15), 3), (31, .inl (.aload_n 0), 1)],
  [(32, .inl (.iload_n 3), 1), (33, .inr (2, 278, 2), 3), (36, .inr (2, 293, 1), 3), (39, .inl (.iconst 1), 1), (40, .inl (.if_icmp .le 9), 3), (43, .inl (.iconst 1), 1), (44, .inl (.iload_n 3), 1), (45, .inl (.ishl), 1), (46, .inl (.goto 4), 3)],
  [(49, .inl (.iconst 0), 1), (50, .inl (.ior), 1), (51, .inl (.istore_n 2), 1), (52, .inl (.iinc 3 1), 3), (55, .inl (.goto (-51)), 3), (58, .inl (.iload_n 2), 1), (59, .inl (.ireturn), 1)]]
-- MovingNamesModel.lost()I
set_option maxRecDepth 100000 in
noncomputable def ab_c352 : List (List (Nat × ab_I × Nat)) := [[(0, .inl (.aload_n 0), 1), (1, .inl (.iconst 0), 1), (2, .inr (1, 9, 4), 3), (5, .inl (.aload_n 0), 1), (6, .inl (.iconst 1), 1), (7, .inr (2, 351, 2), 3), (10, .inl (.ireturn), 1)]]
-- MovingNamesModel.tray(III)V
set_option maxRecDepth 100000 in
noncomputable def ab_c353 : List (List (Nat × ab_I × Nat)) := [[(0, .inl (.aload_n 0), 1), (1, .inl (.iload_n 1), 1), (2, .inr (2, 311, 1), 3), (5, .inl (.ifCond .ne 7), 3), (8, .inl (.iconst 1), 1), (9, .inl (.goto 32), 3), (12, .inl (.iload_n 2), 1), (13, .inl (.i2l), 1), (14, .inl (.lconst 0), 1), (15, .inr (9, 0, 3), 3)],
  [(18, .inr (2, 232, 3), 3), (21, .inl (.ifCond .eq 15), 3), (24, .inl (.iload_n 3), 1), (25, .inl (.i2l), 1), (26, .inl (.lconst 0), 1), (27, .inr (9, 0, 30), 3), (30, .inr (2, 232, 3), 3)],
  [(33, .inl (.ifCond .ne 7), 3), (36, .inl (.iconst 2), 1), (37, .inl (.goto 4), 3), (40, .inl (.iconst 0), 1), (41, .inr (1, 9, 4), 3), (44, .inl (.aload_n 0), 1), (45, .inr (0, 9, 4), 3)],
  [(48, .inl (.ifCond .le 4), 3), (51, .inl (.return_), 1), (52, .inl (.aload_n 0), 1), (53, .inr (0, 9, 29), 3), (56, .inl (.iload_n 1), 1), (57, .inl (.iload_n 2), 1), (58, .inl (.iastore), 1), (59, .inl (.aload_n 0), 1), (60, .inr (0, 9, 30), 3), (63, .inl (.iload_n 1), 1)],
  [(64, .inl (.iload_n 3), 1), (65, .inl (.iastore), 1), (66, .inl (.iconst 0), 1), (67, .inl (.istore 4), 2), (69, .inl (.iload 4), 2), (71, .inl (.bipush 30), 2), (73, .inl (.if_icmp .ge 22), 3), (76, .inl (.aload_n 0), 1), (77, .inr (0, 9, 31), 3)],
  [(80, .inl (.bipush 30), 2), (82, .inl (.iload_n 1), 1), (83, .inl (.imul), 1), (84, .inl (.iload 4), 2), (86, .inl (.iadd), 1), (87, .inl (.lconst 0), 1), (88, .inl (.lastore), 1), (89, .inl (.iinc 4 1), 3), (92, .inl (.goto (-23)), 3), (95, .inl (.return_), 1)]]
-- MovingNamesModel.write(IIJ)J
set_option maxRecDepth 100000 in
noncomputable def ab_c354 : List (List (Nat × ab_I × Nat)) := [[(0, .inl (.aload_n 0), 1), (1, .inl (.aload_n 0), 1), (2, .inl (.iload_n 1), 1), (3, .inr (2, 310, 2), 3), (6, .inr (1, 9, 4), 3), (9, .inl (.aload_n 0), 1), (10, .inr (0, 9, 4), 3), (13, .inl (.ifCond .le 5), 3)],
  [(16, .inl (.lconst 0), 1), (17, .inl (.lreturn), 1), (18, .inl (.iload_n 2), 1), (19, .inl (.i2l), 1), (20, .inl (.lconst 0), 1), (21, .inl (.aload_n 0), 1), (22, .inr (0, 9, 30), 3), (25, .inl (.iload_n 1), 1), (26, .inl (.iaload), 1), (27, .inl (.iconst 1), 1), (28, .inl (.isub), 1), (29, .inl (.i2l), 1), (30, .inr (2, 232, 3), 3)],
  [(33, .inl (.ifCond .eq 13), 3), (36, .inl (.aload_n 0), 1), (37, .inl (.iload_n 1), 1), (38, .inl (.iload_n 2), 1), (39, .inl (.lload_n 3), 1), (40, .inr (2, 355, 4), 3), (43, .inl (.goto 9), 3), (46, .inl (.aload_n 0), 1), (47, .inl (.iconst 3), 1)],
  [(48, .inr (2, 233, 2), 3), (51, .inl (.i2l), 1), (52, .inl (.lreturn), 1)]]
-- MovingNamesModel.cut(IIJ)J
set_option maxRecDepth 100000 in
noncomputable def ab_c355 : List (List (Nat × ab_I × Nat)) := [[(0, .inl (.bipush 64), 2), (2, .inl (.bipush 8), 2), (4, .inl (.aload_n 0), 1), (5, .inr (0, 9, 29), 3), (8, .inl (.iload_n 1), 1), (9, .inl (.iaload), 1), (10, .inl (.ishl), 1), (11, .inl (.isub), 1), (12, .inl (.istore 5), 2), (14, .inl (.aload_n 0), 1), (15, .inr (0, 9, 31), 3)],
  [(18, .inl (.bipush 30), 2), (20, .inl (.iload_n 1), 1), (21, .inl (.imul), 1), (22, .inl (.iload_n 2), 1), (23, .inl (.iadd), 1), (24, .inl (.lload_n 3), 1), (25, .inl (.iload 5), 2), (27, .inl (.lshl), 1), (28, .inl (.iload 5), 2), (30, .inl (.lshr), 1), (31, .inl (.lastore), 1)],
  [(32, .inl (.aload_n 0), 1), (33, .inr (0, 9, 31), 3), (36, .inl (.bipush 30), 2), (38, .inl (.iload_n 1), 1), (39, .inl (.imul), 1), (40, .inl (.iload_n 2), 1), (41, .inl (.iadd), 1), (42, .inl (.laload), 1), (43, .inl (.lreturn), 1)]]
-- MovingNamesModel.copy(I)I
set_option maxRecDepth 100000 in
noncomputable def ab_c356 : List (List (Nat × ab_I × Nat)) := [[(0, .inl (.aload_n 0), 1), (1, .inl (.aload_n 0), 1), (2, .inl (.iload_n 1), 1), (3, .inr (2, 310, 2), 3), (6, .inr (1, 9, 4), 3), (9, .inl (.aload_n 0), 1), (10, .inr (0, 9, 4), 3), (13, .inl (.ifCond .le 5), 3)],
  [(16, .inl (.iconst 0), 1), (17, .inl (.ireturn), 1), (18, .inl (.aload_n 0), 1), (19, .inr (0, 9, 30), 3), (22, .inl (.iload_n 1), 1), (23, .inl (.iaload), 1), (24, .inl (.aload_n 0), 1), (25, .inr (2, 267, 1), 3), (28, .inr (2, 19, 2), 3), (31, .inl (.istore_n 2), 1)],
  [(32, .inl (.iconst 0), 1), (33, .inl (.istore_n 3), 1), (34, .inl (.iload_n 3), 1), (35, .inl (.iload_n 2), 1), (36, .inl (.if_icmp .ge 26), 3), (39, .inl (.aload_n 0), 1), (40, .inl (.iload_n 1), 1), (41, .inl (.iload_n 3), 1), (42, .inl (.aload_n 0), 1), (43, .inr (0, 9, 0), 3), (46, .inl (.bipush 11), 2)],
  [(48, .inl (.iload_n 3), 1), (49, .inl (.iadd), 1), (50, .inl (.iaload), 1), (51, .inl (.i2l), 1), (52, .inr (2, 355, 4), 3), (55, .inl (.pop2), 1), (56, .inl (.iinc 3 1), 3), (59, .inl (.goto (-25)), 3), (62, .inl (.iload_n 2), 1), (63, .inl (.ireturn), 1)]]
-- MovingNamesModel.image(I)V
set_option maxRecDepth 100000 in
noncomputable def ab_c357 : List (List (Nat × ab_I × Nat)) := [[(0, .inl (.aload_n 0), 1), (1, .inl (.iload_n 1), 1), (2, .inl (.i2l), 1), (3, .inl (.lconst 0), 1), (4, .inr (9, 0, 2), 3), (7, .inr (2, 232, 3), 3), (10, .inl (.ifCond .eq 7), 3), (13, .inl (.iconst 0), 1), (14, .inl (.goto 4), 3)],
  [(17, .inl (.iconst 1), 1), (18, .inr (1, 9, 4), 3), (21, .inl (.aload_n 0), 1), (22, .inr (0, 9, 4), 3), (25, .inl (.ifCond .le 4), 3), (28, .inl (.return_), 1), (29, .inl (.aload_n 0), 1), (30, .inr (0, 9, 3), 3)],
  [(33, .inl (.iload_n 1), 1), (34, .inl (.iconst 1), 1), (35, .inl (.bastore), 1), (36, .inl (.iconst 0), 1), (37, .inl (.istore_n 2), 1), (38, .inl (.iload_n 2), 1), (39, .inl (.sipush 2300), 3), (42, .inl (.if_icmp .ge 27), 3), (45, .inl (.aload_n 0), 1), (46, .inr (0, 9, 2), 3)],
  [(49, .inl (.sipush 2300), 3), (52, .inl (.iload_n 1), 1), (53, .inl (.imul), 1), (54, .inl (.iload_n 2), 1), (55, .inl (.iadd), 1), (56, .inl (.aload_n 0), 1), (57, .inr (0, 9, 0), 3), (60, .inl (.iload_n 2), 1), (61, .inl (.iaload), 1), (62, .inl (.iastore), 1), (63, .inl (.iinc 2 1), 3)],
  [(66, .inl (.goto (-28)), 3), (69, .inl (.return_), 1)]]
-- MovingNamesModel.restore(I)V
set_option maxRecDepth 100000 in
noncomputable def ab_c358 : List (List (Nat × ab_I × Nat)) := [[(0, .inl (.aload_n 0), 1), (1, .inl (.iload_n 1), 1), (2, .inl (.i2l), 1), (3, .inl (.lconst 0), 1), (4, .inr (9, 0, 2), 3), (7, .inr (2, 232, 3), 3), (10, .inl (.ifCond .ne 7), 3), (13, .inl (.iconst 1), 1), (14, .inl (.goto 17), 3)],
  [(17, .inl (.aload_n 0), 1), (18, .inr (0, 9, 3), 3), (21, .inl (.iload_n 1), 1), (22, .inl (.baload), 1), (23, .inl (.ifCond .ne 7), 3), (26, .inl (.iconst 2), 1), (27, .inl (.goto 4), 3), (30, .inl (.iconst 0), 1), (31, .inr (1, 9, 4), 3)],
  [(34, .inl (.aload_n 0), 1), (35, .inr (0, 9, 4), 3), (38, .inl (.ifCond .le 4), 3), (41, .inl (.return_), 1), (42, .inl (.iconst 0), 1), (43, .inl (.istore_n 2), 1), (44, .inl (.iload_n 2), 1), (45, .inl (.sipush 2300), 3)],
  [(48, .inl (.if_icmp .ge 27), 3), (51, .inl (.aload_n 0), 1), (52, .inr (0, 9, 0), 3), (55, .inl (.iload_n 2), 1), (56, .inl (.aload_n 0), 1), (57, .inr (0, 9, 2), 3), (60, .inl (.sipush 2300), 3), (63, .inl (.iload_n 1), 1)],
  [(64, .inl (.imul), 1), (65, .inl (.iload_n 2), 1), (66, .inl (.iadd), 1), (67, .inl (.iaload), 1), (68, .inl (.iastore), 1), (69, .inl (.iinc 2 1), 3), (72, .inl (.goto (-28)), 3), (75, .inl (.return_), 1)]]
-- MovingNamesModel.count(I)I
set_option maxRecDepth 100000 in
noncomputable def ab_c359 : List (List (Nat × ab_I × Nat)) := [[(0, .inl (.aload_n 0), 1), (1, .inl (.iconst 0), 1), (2, .inr (1, 9, 4), 3), (5, .inl (.iload_n 1), 1), (6, .inl (.tableswitch 138 0 10 #[58, 65, 70, 77, 84, 91, 100, 109, 120, 125, 133]), 58)],
  [],
  [],
  [],
  [(64, .inl (.aload_n 0), 1), (65, .inr (0, 9, 0), 3), (68, .inl (.iconst 0), 1), (69, .inl (.iaload), 1), (70, .inl (.ireturn), 1), (71, .inl (.aload_n 0), 1), (72, .inr (2, 267, 1), 3), (75, .inl (.ireturn), 1), (76, .inl (.aload_n 0), 1), (77, .inr (0, 9, 0), 3)],
  [(80, .inl (.iconst 2), 1), (81, .inl (.iaload), 1), (82, .inl (.ireturn), 1), (83, .inl (.aload_n 0), 1), (84, .inr (0, 9, 0), 3), (87, .inl (.iconst 3), 1), (88, .inl (.iaload), 1), (89, .inl (.ireturn), 1), (90, .inl (.aload_n 0), 1), (91, .inr (0, 9, 0), 3), (94, .inl (.iconst 4), 1), (95, .inl (.iaload), 1)],
  [(96, .inl (.ireturn), 1), (97, .inl (.aload_n 0), 1), (98, .inr (0, 9, 0), 3), (101, .inl (.sipush 132), 3), (104, .inl (.iaload), 1), (105, .inl (.ireturn), 1), (106, .inl (.aload_n 0), 1), (107, .inr (0, 9, 0), 3), (110, .inl (.sipush 133), 3)],
  [(113, .inl (.iaload), 1), (114, .inl (.ireturn), 1), (115, .inl (.aload_n 0), 1), (116, .inr (0, 9, 0), 3), (119, .inl (.bipush 31), 2), (121, .inl (.iaload), 1), (122, .inr (2, 293, 1), 3), (125, .inl (.ireturn), 1), (126, .inl (.aload_n 0), 1), (127, .inr (2, 292, 1), 3)],
  [(130, .inl (.ireturn), 1), (131, .inl (.aload_n 0), 1), (132, .inr (0, 9, 0), 3), (135, .inl (.bipush 6), 2), (137, .inl (.iaload), 1), (138, .inl (.ireturn), 1), (139, .inl (.aload_n 0), 1), (140, .inr (0, 9, 6), 3), (143, .inl (.ireturn), 1)],
  [(144, .inl (.iconst (-1)), 1), (145, .inl (.ireturn), 1)]]
-- MovingNamesLaw.law([I)Z
set_option maxRecDepth 100000 in
noncomputable def ab_c360 : List (List (Nat × ab_I × Nat)) := [[(3, .inl (.dup), 1), (7, .inl (.astore_n 1), 1), (11, .inl (.dup), 1), (15, .inl (.astore_n 2), 1)],
  [(16, .inl (.iconst 1), 1), (19, .inl (.astore_n 3), 1), (20, .inl (.iconst 0), 1), (21, .inl (.istore 4), 2), (23, .inl (.iload 4), 2), (25, .inl (.aload_n 0), 1), (26, .inl (.arraylength), 1), (27, .inl (.bipush 6), 2), (29, .inl (.isub), 1), (30, .inl (.if_icmp .gt 3187), 3)],
  [(33, .inl (.aload_n 0), 1), (34, .inl (.iload 4), 2), (36, .inl (.iaload), 1), (37, .inl (.bipush 63), 2), (39, .inl (.iand), 1), (40, .inl (.tableswitch 3171 0 50 #[220, 293, 349, 374, 442, 510, 578, 634, 702, 770, 838, 894, 907, 963, 1019, 1087, 1155, 1235, 1303, 1359, 1439, 1495, 1563, 1619, 1687, 1701, 1715, 1770, 1837, 1893, 1961, 2029, 2097, 2165, 2245, 2325, 2405, 2461, 2529, 2585, 2641, 2709, 2765, 2821, 2834, 2847, 2907, 3018, 3074, 3110, 3146]), 220)],
  [],
  [],
  [],
  [],
  [],
  [],
  [],
  [],
  [],
  [],
  [],
  [],
  [],
  [(260, .inl (.aload_n 1), 1), (261, .inl (.aload_n 0), 1), (262, .inl (.iload 4), 2), (264, .inl (.iconst 1), 1), (265, .inl (.iadd), 1), (266, .inl (.iaload), 1), (267, .inl (.aload_n 0), 1), (268, .inl (.iload 4), 2), (270, .inl (.iconst 2), 1), (271, .inl (.iadd), 1)],
  [(272, .inl (.iaload), 1), (273, .inl (.aload_n 0), 1), (274, .inl (.iload 4), 2), (276, .inl (.iconst 3), 1), (277, .inl (.iadd), 1), (278, .inl (.iaload), 1), (279, .inl (.aload_n 0), 1), (280, .inl (.iload 4), 2), (282, .inl (.iconst 4), 1), (283, .inl (.iadd), 1), (284, .inl (.iaload), 1), (285, .inl (.aload_n 0), 1), (286, .inl (.iload 4), 2)],
  [(288, .inl (.iconst 5), 1), (289, .inl (.iadd), 1), (290, .inl (.iaload), 1), (291, .inr (2, 0, 6), 3), (294, .inl (.aload_n 2), 1), (295, .inl (.aload_n 0), 1), (296, .inl (.iload 4), 2), (298, .inl (.iconst 1), 1), (299, .inl (.iadd), 1), (300, .inl (.iaload), 1), (301, .inl (.aload_n 0), 1), (302, .inl (.iload 4), 2)],
  [(304, .inl (.iconst 2), 1), (305, .inl (.iadd), 1), (306, .inl (.iaload), 1), (307, .inl (.aload_n 0), 1), (308, .inl (.iload 4), 2), (310, .inl (.iconst 3), 1), (311, .inl (.iadd), 1), (312, .inl (.iaload), 1), (313, .inl (.aload_n 0), 1), (314, .inl (.iload 4), 2), (316, .inl (.iconst 4), 1), (317, .inl (.iadd), 1), (318, .inl (.iaload), 1), (319, .inl (.aload_n 0), 1)],
  [(320, .inl (.iload 4), 2), (322, .inl (.iconst 5), 1), (323, .inl (.iadd), 1), (324, .inl (.iaload), 1), (325, .inr (2, 230, 6), 3), (328, .inl (.if_icmp .eq 2883), 3), (331, .inl (.iconst 0), 1), (332, .inl (.ireturn), 1), (333, .inl (.aload_n 1), 1), (334, .inl (.aload_n 0), 1), (335, .inl (.iload 4), 2)],
  [(337, .inl (.iconst 1), 1), (338, .inl (.iadd), 1), (339, .inl (.iaload), 1), (340, .inl (.aload_n 3), 1), (341, .inr (2, 38, 3), 3), (344, .inl (.istore 5), 2), (346, .inl (.aload_n 2), 1), (347, .inl (.aload_n 0), 1), (348, .inl (.iload 4), 2), (350, .inl (.iconst 1), 1), (351, .inl (.iadd), 1)],
  [(352, .inl (.iaload), 1), (353, .inr (2, 231, 2), 3), (356, .inl (.istore 6), 2), (358, .inl (.aload_n 2), 1), (359, .inr (2, 229, 1), 3), (362, .inl (.iload 5), 2), (364, .inl (.if_icmp .eq 5), 3), (367, .inl (.iconst 0), 1)],
  [(368, .inl (.ireturn), 1), (369, .inl (.iload 5), 2), (371, .inl (.ifCond .ne 15), 3), (374, .inl (.aload_n 3), 1), (375, .inl (.iconst 0), 1), (376, .inl (.laload), 1), (377, .inl (.iload 6), 2), (379, .inl (.i2l), 1), (380, .inl (.lcmp), 1), (381, .inl (.ifCond .eq 5), 3)],
  [(384, .inl (.iconst 0), 1), (385, .inl (.ireturn), 1), (386, .inl (.goto 2825), 3), (389, .inl (.aload_n 1), 1), (390, .inl (.aload_n 0), 1), (391, .inl (.iload 4), 2), (393, .inl (.iconst 1), 1), (394, .inl (.iadd), 1), (395, .inl (.iaload), 1), (396, .inr (2, 4, 2), 3), (399, .inl (.aload_n 2), 1)],
  [(400, .inl (.aload_n 0), 1), (401, .inl (.iload 4), 2), (403, .inl (.iconst 1), 1), (404, .inl (.iadd), 1), (405, .inl (.iaload), 1), (406, .inr (2, 264, 2), 3), (409, .inl (.if_icmp .eq 2802), 3), (412, .inl (.iconst 0), 1), (413, .inl (.ireturn), 1), (414, .inl (.aload_n 1), 1), (415, .inl (.aload_n 0), 1)],
  [(416, .inl (.iload 4), 2), (418, .inl (.iconst 1), 1), (419, .inl (.iadd), 1), (420, .inl (.iaload), 1), (421, .inl (.aload_n 0), 1), (422, .inl (.iload 4), 2), (424, .inl (.iconst 2), 1), (425, .inl (.iadd), 1), (426, .inl (.iaload), 1), (427, .inl (.aload_n 3), 1), (428, .inr (2, 84, 4), 3), (431, .inl (.istore 5), 2)],
  [(433, .inl (.aload_n 2), 1), (434, .inl (.aload_n 0), 1), (435, .inl (.iload 4), 2), (437, .inl (.iconst 1), 1), (438, .inl (.iadd), 1), (439, .inl (.iaload), 1), (440, .inl (.aload_n 0), 1), (441, .inl (.iload 4), 2), (443, .inl (.iconst 2), 1), (444, .inl (.iadd), 1), (445, .inl (.iaload), 1), (446, .inr (2, 265, 3), 3)],
  [(449, .inl (.istore 6), 2), (451, .inl (.aload_n 2), 1), (452, .inr (2, 229, 1), 3), (455, .inl (.iload 5), 2), (457, .inl (.if_icmp .eq 5), 3), (460, .inl (.iconst 0), 1), (461, .inl (.ireturn), 1), (462, .inl (.iload 5), 2)],
  [(464, .inl (.ifCond .ne 15), 3), (467, .inl (.aload_n 3), 1), (468, .inl (.iconst 0), 1), (469, .inl (.laload), 1), (470, .inl (.iload 6), 2), (472, .inl (.i2l), 1), (473, .inl (.lcmp), 1), (474, .inl (.ifCond .eq 5), 3), (477, .inl (.iconst 0), 1), (478, .inl (.ireturn), 1), (479, .inl (.goto 2732), 3)],
  [(482, .inl (.aload_n 1), 1), (483, .inl (.aload_n 0), 1), (484, .inl (.iload 4), 2), (486, .inl (.iconst 1), 1), (487, .inl (.iadd), 1), (488, .inl (.iaload), 1), (489, .inl (.aload_n 0), 1), (490, .inl (.iload 4), 2), (492, .inl (.iconst 2), 1), (493, .inl (.iadd), 1), (494, .inl (.iaload), 1), (495, .inl (.aload_n 3), 1)],
  [(496, .inr (2, 89, 4), 3), (499, .inl (.istore 5), 2), (501, .inl (.aload_n 2), 1), (502, .inl (.aload_n 0), 1), (503, .inl (.iload 4), 2), (505, .inl (.iconst 1), 1), (506, .inl (.iadd), 1), (507, .inl (.iaload), 1), (508, .inl (.aload_n 0), 1), (509, .inl (.iload 4), 2), (511, .inl (.iconst 2), 1)],
  [(512, .inl (.iadd), 1), (513, .inl (.iaload), 1), (514, .inr (2, 273, 3), 3), (517, .inl (.istore 6), 2), (519, .inl (.aload_n 2), 1), (520, .inr (2, 229, 1), 3), (523, .inl (.iload 5), 2), (525, .inl (.if_icmp .eq 5), 3)],
  [(528, .inl (.iconst 0), 1), (529, .inl (.ireturn), 1), (530, .inl (.iload 5), 2), (532, .inl (.ifCond .ne 15), 3), (535, .inl (.aload_n 3), 1), (536, .inl (.iconst 0), 1), (537, .inl (.laload), 1), (538, .inl (.iload 6), 2), (540, .inl (.i2l), 1), (541, .inl (.lcmp), 1), (542, .inl (.ifCond .eq 5), 3)],
  [(545, .inl (.iconst 0), 1), (546, .inl (.ireturn), 1), (547, .inl (.goto 2664), 3), (550, .inl (.aload_n 1), 1), (551, .inl (.aload_n 0), 1), (552, .inl (.iload 4), 2), (554, .inl (.iconst 1), 1), (555, .inl (.iadd), 1), (556, .inl (.iaload), 1), (557, .inl (.aload_n 0), 1), (558, .inl (.iload 4), 2)],
  [(560, .inl (.iconst 2), 1), (561, .inl (.iadd), 1), (562, .inl (.iaload), 1), (563, .inl (.aload_n 3), 1), (564, .inr (2, 93, 4), 3), (567, .inl (.istore 5), 2), (569, .inl (.aload_n 2), 1), (570, .inl (.aload_n 0), 1), (571, .inl (.iload 4), 2), (573, .inl (.iconst 1), 1), (574, .inl (.iadd), 1), (575, .inl (.iaload), 1)],
  [(576, .inl (.aload_n 0), 1), (577, .inl (.iload 4), 2), (579, .inl (.iconst 2), 1), (580, .inl (.iadd), 1), (581, .inl (.iaload), 1), (582, .inr (2, 275, 3), 3), (585, .inl (.istore 6), 2), (587, .inl (.aload_n 2), 1), (588, .inr (2, 229, 1), 3), (591, .inl (.iload 5), 2)],
  [(593, .inl (.if_icmp .eq 5), 3), (596, .inl (.iconst 0), 1), (597, .inl (.ireturn), 1), (598, .inl (.iload 5), 2), (600, .inl (.ifCond .ne 15), 3), (603, .inl (.aload_n 3), 1), (604, .inl (.iconst 0), 1), (605, .inl (.laload), 1), (606, .inl (.iload 6), 2)],
  [(608, .inl (.i2l), 1), (609, .inl (.lcmp), 1), (610, .inl (.ifCond .eq 5), 3), (613, .inl (.iconst 0), 1), (614, .inl (.ireturn), 1), (615, .inl (.goto 2596), 3), (618, .inl (.aload_n 1), 1), (619, .inl (.aload_n 0), 1), (620, .inl (.iload 4), 2), (622, .inl (.iconst 1), 1), (623, .inl (.iadd), 1)],
  [(624, .inl (.iaload), 1), (625, .inl (.aload_n 3), 1), (626, .inr (2, 96, 3), 3), (629, .inl (.istore 5), 2), (631, .inl (.aload_n 2), 1), (632, .inl (.aload_n 0), 1), (633, .inl (.iload 4), 2), (635, .inl (.iconst 1), 1), (636, .inl (.iadd), 1), (637, .inl (.iaload), 1), (638, .inr (2, 277, 2), 3)],
  [(641, .inl (.istore 6), 2), (643, .inl (.aload_n 2), 1), (644, .inr (2, 229, 1), 3), (647, .inl (.iload 5), 2), (649, .inl (.if_icmp .eq 5), 3), (652, .inl (.iconst 0), 1), (653, .inl (.ireturn), 1), (654, .inl (.iload 5), 2)],
  [(656, .inl (.ifCond .ne 15), 3), (659, .inl (.aload_n 3), 1), (660, .inl (.iconst 0), 1), (661, .inl (.laload), 1), (662, .inl (.iload 6), 2), (664, .inl (.i2l), 1), (665, .inl (.lcmp), 1), (666, .inl (.ifCond .eq 5), 3), (669, .inl (.iconst 0), 1), (670, .inl (.ireturn), 1), (671, .inl (.goto 2540), 3)],
  [(674, .inl (.aload_n 1), 1), (675, .inl (.aload_n 0), 1), (676, .inl (.iload 4), 2), (678, .inl (.iconst 1), 1), (679, .inl (.iadd), 1), (680, .inl (.iaload), 1), (681, .inl (.aload_n 0), 1), (682, .inl (.iload 4), 2), (684, .inl (.iconst 2), 1), (685, .inl (.iadd), 1), (686, .inl (.iaload), 1), (687, .inl (.aload_n 3), 1)],
  [(688, .inr (2, 100, 4), 3), (691, .inl (.istore 5), 2), (693, .inl (.aload_n 2), 1), (694, .inl (.aload_n 0), 1), (695, .inl (.iload 4), 2), (697, .inl (.iconst 1), 1), (698, .inl (.iadd), 1), (699, .inl (.iaload), 1), (700, .inl (.aload_n 0), 1), (701, .inl (.iload 4), 2), (703, .inl (.iconst 2), 1)],
  [(704, .inl (.iadd), 1), (705, .inl (.iaload), 1), (706, .inr (2, 279, 3), 3), (709, .inl (.istore 6), 2), (711, .inl (.aload_n 2), 1), (712, .inr (2, 229, 1), 3), (715, .inl (.iload 5), 2), (717, .inl (.if_icmp .eq 5), 3)],
  [(720, .inl (.iconst 0), 1), (721, .inl (.ireturn), 1), (722, .inl (.iload 5), 2), (724, .inl (.ifCond .ne 15), 3), (727, .inl (.aload_n 3), 1), (728, .inl (.iconst 0), 1), (729, .inl (.laload), 1), (730, .inl (.iload 6), 2), (732, .inl (.i2l), 1), (733, .inl (.lcmp), 1), (734, .inl (.ifCond .eq 5), 3)],
  [(737, .inl (.iconst 0), 1), (738, .inl (.ireturn), 1), (739, .inl (.goto 2472), 3), (742, .inl (.aload_n 1), 1), (743, .inl (.aload_n 0), 1), (744, .inl (.iload 4), 2), (746, .inl (.iconst 1), 1), (747, .inl (.iadd), 1), (748, .inl (.iaload), 1), (749, .inl (.aload_n 0), 1), (750, .inl (.iload 4), 2)],
  [(752, .inl (.iconst 2), 1), (753, .inl (.iadd), 1), (754, .inl (.iaload), 1), (755, .inl (.aload_n 3), 1), (756, .inr (2, 105, 4), 3), (759, .inl (.istore 5), 2), (761, .inl (.aload_n 2), 1), (762, .inl (.aload_n 0), 1), (763, .inl (.iload 4), 2), (765, .inl (.iconst 1), 1), (766, .inl (.iadd), 1), (767, .inl (.iaload), 1)],
  [(768, .inl (.aload_n 0), 1), (769, .inl (.iload 4), 2), (771, .inl (.iconst 2), 1), (772, .inl (.iadd), 1), (773, .inl (.iaload), 1), (774, .inr (2, 286, 3), 3), (777, .inl (.istore 6), 2), (779, .inl (.aload_n 2), 1), (780, .inr (2, 229, 1), 3), (783, .inl (.iload 5), 2)],
  [(785, .inl (.if_icmp .eq 5), 3), (788, .inl (.iconst 0), 1), (789, .inl (.ireturn), 1), (790, .inl (.iload 5), 2), (792, .inl (.ifCond .ne 15), 3), (795, .inl (.aload_n 3), 1), (796, .inl (.iconst 0), 1), (797, .inl (.laload), 1), (798, .inl (.iload 6), 2)],
  [(800, .inl (.i2l), 1), (801, .inl (.lcmp), 1), (802, .inl (.ifCond .eq 5), 3), (805, .inl (.iconst 0), 1), (806, .inl (.ireturn), 1), (807, .inl (.goto 2404), 3), (810, .inl (.aload_n 1), 1), (811, .inl (.aload_n 0), 1), (812, .inl (.iload 4), 2), (814, .inl (.iconst 1), 1), (815, .inl (.iadd), 1)],
  [(816, .inl (.iaload), 1), (817, .inl (.aload_n 0), 1), (818, .inl (.iload 4), 2), (820, .inl (.iconst 2), 1), (821, .inl (.iadd), 1), (822, .inl (.iaload), 1), (823, .inl (.aload_n 3), 1), (824, .inr (2, 109, 4), 3), (827, .inl (.istore 5), 2), (829, .inl (.aload_n 2), 1), (830, .inl (.aload_n 0), 1), (831, .inl (.iload 4), 2)],
  [(833, .inl (.iconst 1), 1), (834, .inl (.iadd), 1), (835, .inl (.iaload), 1), (836, .inl (.aload_n 0), 1), (837, .inl (.iload 4), 2), (839, .inl (.iconst 2), 1), (840, .inl (.iadd), 1), (841, .inl (.iaload), 1), (842, .inr (2, 287, 3), 3), (845, .inl (.istore 6), 2), (847, .inl (.aload_n 2), 1)],
  [(848, .inr (2, 229, 1), 3), (851, .inl (.iload 5), 2), (853, .inl (.if_icmp .eq 5), 3), (856, .inl (.iconst 0), 1), (857, .inl (.ireturn), 1), (858, .inl (.iload 5), 2), (860, .inl (.ifCond .ne 15), 3), (863, .inl (.aload_n 3), 1)],
  [(864, .inl (.iconst 0), 1), (865, .inl (.laload), 1), (866, .inl (.iload 6), 2), (868, .inl (.i2l), 1), (869, .inl (.lcmp), 1), (870, .inl (.ifCond .eq 5), 3), (873, .inl (.iconst 0), 1), (874, .inl (.ireturn), 1), (875, .inl (.goto 2336), 3), (878, .inl (.aload_n 1), 1), (879, .inl (.aload_n 0), 1)],
  [(880, .inl (.iload 4), 2), (882, .inl (.iconst 1), 1), (883, .inl (.iadd), 1), (884, .inl (.iaload), 1), (885, .inl (.aload_n 3), 1), (886, .inr (2, 111, 3), 3), (889, .inl (.istore 5), 2), (891, .inl (.aload_n 2), 1), (892, .inl (.aload_n 0), 1), (893, .inl (.iload 4), 2), (895, .inl (.iconst 1), 1)],
  [(896, .inl (.iadd), 1), (897, .inl (.iaload), 1), (898, .inr (2, 288, 2), 3), (901, .inl (.istore 6), 2), (903, .inl (.aload_n 2), 1), (904, .inr (2, 229, 1), 3), (907, .inl (.iload 5), 2), (909, .inl (.if_icmp .eq 5), 3)],
  [(912, .inl (.iconst 0), 1), (913, .inl (.ireturn), 1), (914, .inl (.iload 5), 2), (916, .inl (.ifCond .ne 15), 3), (919, .inl (.aload_n 3), 1), (920, .inl (.iconst 0), 1), (921, .inl (.laload), 1), (922, .inl (.iload 6), 2), (924, .inl (.i2l), 1), (925, .inl (.lcmp), 1), (926, .inl (.ifCond .eq 5), 3)],
  [(929, .inl (.iconst 0), 1), (930, .inl (.ireturn), 1), (931, .inl (.goto 2280), 3), (934, .inl (.aload_n 1), 1), (935, .inr (2, 5, 1), 3), (938, .inl (.aload_n 2), 1), (939, .inr (2, 298, 1), 3), (942, .inl (.if_icmp .eq 2269), 3)],
  [(945, .inl (.iconst 0), 1), (946, .inl (.ireturn), 1), (947, .inl (.aload_n 1), 1), (948, .inl (.aload_n 0), 1), (949, .inl (.iload 4), 2), (951, .inl (.iconst 1), 1), (952, .inl (.iadd), 1), (953, .inl (.iaload), 1), (954, .inl (.aload_n 3), 1), (955, .inr (2, 117, 3), 3), (958, .inl (.istore 5), 2)],
  [(960, .inl (.aload_n 2), 1), (961, .inl (.aload_n 0), 1), (962, .inl (.iload 4), 2), (964, .inl (.iconst 1), 1), (965, .inl (.iadd), 1), (966, .inl (.iaload), 1), (967, .inr (2, 299, 2), 3), (970, .inl (.istore 6), 2), (972, .inl (.aload_n 2), 1), (973, .inr (2, 229, 1), 3)],
  [(976, .inl (.iload 5), 2), (978, .inl (.if_icmp .eq 5), 3), (981, .inl (.iconst 0), 1), (982, .inl (.ireturn), 1), (983, .inl (.iload 5), 2), (985, .inl (.ifCond .ne 15), 3), (988, .inl (.aload_n 3), 1), (989, .inl (.iconst 0), 1), (990, .inl (.laload), 1), (991, .inl (.iload 6), 2)],
  [(993, .inl (.i2l), 1), (994, .inl (.lcmp), 1), (995, .inl (.ifCond .eq 5), 3), (998, .inl (.iconst 0), 1), (999, .inl (.ireturn), 1), (1000, .inl (.goto 2211), 3), (1003, .inl (.aload_n 1), 1), (1004, .inl (.aload_n 0), 1), (1005, .inl (.iload 4), 2), (1007, .inl (.iconst 1), 1)],
  [(1008, .inl (.iadd), 1), (1009, .inl (.iaload), 1), (1010, .inl (.aload_n 3), 1), (1011, .inr (2, 119, 3), 3), (1014, .inl (.istore 5), 2), (1016, .inl (.aload_n 2), 1), (1017, .inl (.aload_n 0), 1), (1018, .inl (.iload 4), 2), (1020, .inl (.iconst 1), 1), (1021, .inl (.iadd), 1), (1022, .inl (.iaload), 1), (1023, .inr (2, 300, 2), 3)],
  [(1026, .inl (.istore 6), 2), (1028, .inl (.aload_n 2), 1), (1029, .inr (2, 229, 1), 3), (1032, .inl (.iload 5), 2), (1034, .inl (.if_icmp .eq 5), 3), (1037, .inl (.iconst 0), 1), (1038, .inl (.ireturn), 1), (1039, .inl (.iload 5), 2)],
  [(1041, .inl (.ifCond .ne 15), 3), (1044, .inl (.aload_n 3), 1), (1045, .inl (.iconst 0), 1), (1046, .inl (.laload), 1), (1047, .inl (.iload 6), 2), (1049, .inl (.i2l), 1), (1050, .inl (.lcmp), 1), (1051, .inl (.ifCond .eq 5), 3), (1054, .inl (.iconst 0), 1), (1055, .inl (.ireturn), 1)],
  [(1056, .inl (.goto 2155), 3), (1059, .inl (.aload_n 1), 1), (1060, .inl (.aload_n 0), 1), (1061, .inl (.iload 4), 2), (1063, .inl (.iconst 1), 1), (1064, .inl (.iadd), 1), (1065, .inl (.iaload), 1), (1066, .inl (.aload_n 0), 1), (1067, .inl (.iload 4), 2), (1069, .inl (.iconst 2), 1), (1070, .inl (.iadd), 1), (1071, .inl (.iaload), 1)],
  [(1072, .inl (.aload_n 3), 1), (1073, .inr (2, 122, 4), 3), (1076, .inl (.istore 5), 2), (1078, .inl (.aload_n 2), 1), (1079, .inl (.aload_n 0), 1), (1080, .inl (.iload 4), 2), (1082, .inl (.iconst 1), 1), (1083, .inl (.iadd), 1), (1084, .inl (.iaload), 1), (1085, .inl (.aload_n 0), 1), (1086, .inl (.iload 4), 2)],
  [(1088, .inl (.iconst 2), 1), (1089, .inl (.iadd), 1), (1090, .inl (.iaload), 1), (1091, .inr (2, 301, 3), 3), (1094, .inl (.istore 6), 2), (1096, .inl (.aload_n 2), 1), (1097, .inr (2, 229, 1), 3), (1100, .inl (.iload 5), 2), (1102, .inl (.if_icmp .eq 5), 3)],
  [(1105, .inl (.iconst 0), 1), (1106, .inl (.ireturn), 1), (1107, .inl (.iload 5), 2), (1109, .inl (.ifCond .ne 15), 3), (1112, .inl (.aload_n 3), 1), (1113, .inl (.iconst 0), 1), (1114, .inl (.laload), 1), (1115, .inl (.iload 6), 2), (1117, .inl (.i2l), 1), (1118, .inl (.lcmp), 1), (1119, .inl (.ifCond .eq 5), 3)],
  [(1122, .inl (.iconst 0), 1), (1123, .inl (.ireturn), 1), (1124, .inl (.goto 2087), 3), (1127, .inl (.aload_n 1), 1), (1128, .inl (.aload_n 0), 1), (1129, .inl (.iload 4), 2), (1131, .inl (.iconst 1), 1), (1132, .inl (.iadd), 1), (1133, .inl (.iaload), 1), (1134, .inl (.aload_n 0), 1), (1135, .inl (.iload 4), 2)],
  [(1137, .inl (.iconst 2), 1), (1138, .inl (.iadd), 1), (1139, .inl (.iaload), 1), (1140, .inl (.aload_n 3), 1), (1141, .inr (2, 125, 4), 3), (1144, .inl (.istore 5), 2), (1146, .inl (.aload_n 2), 1), (1147, .inl (.aload_n 0), 1), (1148, .inl (.iload 4), 2), (1150, .inl (.iconst 1), 1), (1151, .inl (.iadd), 1)],
  [(1152, .inl (.iaload), 1), (1153, .inl (.aload_n 0), 1), (1154, .inl (.iload 4), 2), (1156, .inl (.iconst 2), 1), (1157, .inl (.iadd), 1), (1158, .inl (.iaload), 1), (1159, .inr (2, 302, 3), 3), (1162, .inl (.istore 6), 2), (1164, .inl (.aload_n 2), 1), (1165, .inr (2, 229, 1), 3)],
  [(1168, .inl (.iload 5), 2), (1170, .inl (.if_icmp .eq 5), 3), (1173, .inl (.iconst 0), 1), (1174, .inl (.ireturn), 1), (1175, .inl (.iload 5), 2), (1177, .inl (.ifCond .ne 15), 3), (1180, .inl (.aload_n 3), 1), (1181, .inl (.iconst 0), 1), (1182, .inl (.laload), 1), (1183, .inl (.iload 6), 2)],
  [(1185, .inl (.i2l), 1), (1186, .inl (.lcmp), 1), (1187, .inl (.ifCond .eq 5), 3), (1190, .inl (.iconst 0), 1), (1191, .inl (.ireturn), 1), (1192, .inl (.goto 2019), 3), (1195, .inl (.aload_n 1), 1), (1196, .inl (.aload_n 0), 1), (1197, .inl (.iload 4), 2), (1199, .inl (.iconst 1), 1)],
  [(1200, .inl (.iadd), 1), (1201, .inl (.iaload), 1), (1202, .inl (.aload_n 0), 1), (1203, .inl (.iload 4), 2), (1205, .inl (.iconst 2), 1), (1206, .inl (.iadd), 1), (1207, .inl (.iaload), 1), (1208, .inl (.aload_n 0), 1), (1209, .inl (.iload 4), 2), (1211, .inl (.iconst 3), 1), (1212, .inl (.iadd), 1), (1213, .inl (.iaload), 1), (1214, .inl (.aload_n 3), 1), (1215, .inr (2, 130, 5), 3)],
  [(1218, .inl (.istore 5), 2), (1220, .inl (.aload_n 2), 1), (1221, .inl (.aload_n 0), 1), (1222, .inl (.iload 4), 2), (1224, .inl (.iconst 1), 1), (1225, .inl (.iadd), 1), (1226, .inl (.iaload), 1), (1227, .inl (.aload_n 0), 1), (1228, .inl (.iload 4), 2), (1230, .inl (.iconst 2), 1), (1231, .inl (.iadd), 1)],
  [(1232, .inl (.iaload), 1), (1233, .inl (.aload_n 0), 1), (1234, .inl (.iload 4), 2), (1236, .inl (.iconst 3), 1), (1237, .inl (.iadd), 1), (1238, .inl (.iaload), 1), (1239, .inr (2, 304, 4), 3), (1242, .inl (.istore 6), 2), (1244, .inl (.aload_n 2), 1), (1245, .inr (2, 229, 1), 3)],
  [(1248, .inl (.iload 5), 2), (1250, .inl (.if_icmp .eq 5), 3), (1253, .inl (.iconst 0), 1), (1254, .inl (.ireturn), 1), (1255, .inl (.iload 5), 2), (1257, .inl (.ifCond .ne 15), 3), (1260, .inl (.aload_n 3), 1), (1261, .inl (.iconst 0), 1), (1262, .inl (.laload), 1), (1263, .inl (.iload 6), 2)],
  [(1265, .inl (.i2l), 1), (1266, .inl (.lcmp), 1), (1267, .inl (.ifCond .eq 5), 3), (1270, .inl (.iconst 0), 1), (1271, .inl (.ireturn), 1), (1272, .inl (.goto 1939), 3), (1275, .inl (.aload_n 1), 1), (1276, .inl (.aload_n 0), 1), (1277, .inl (.iload 4), 2), (1279, .inl (.iconst 1), 1)],
  [(1280, .inl (.iadd), 1), (1281, .inl (.iaload), 1), (1282, .inl (.aload_n 0), 1), (1283, .inl (.iload 4), 2), (1285, .inl (.iconst 2), 1), (1286, .inl (.iadd), 1), (1287, .inl (.iaload), 1), (1288, .inl (.aload_n 3), 1), (1289, .inr (2, 133, 4), 3), (1292, .inl (.istore 5), 2), (1294, .inl (.aload_n 2), 1), (1295, .inl (.aload_n 0), 1)],
  [(1296, .inl (.iload 4), 2), (1298, .inl (.iconst 1), 1), (1299, .inl (.iadd), 1), (1300, .inl (.iaload), 1), (1301, .inl (.aload_n 0), 1), (1302, .inl (.iload 4), 2), (1304, .inl (.iconst 2), 1), (1305, .inl (.iadd), 1), (1306, .inl (.iaload), 1), (1307, .inr (2, 305, 3), 3), (1310, .inl (.istore 6), 2)],
  [(1312, .inl (.aload_n 2), 1), (1313, .inr (2, 229, 1), 3), (1316, .inl (.iload 5), 2), (1318, .inl (.if_icmp .eq 5), 3), (1321, .inl (.iconst 0), 1), (1322, .inl (.ireturn), 1), (1323, .inl (.iload 5), 2), (1325, .inl (.ifCond .ne 15), 3)],
  [(1328, .inl (.aload_n 3), 1), (1329, .inl (.iconst 0), 1), (1330, .inl (.laload), 1), (1331, .inl (.iload 6), 2), (1333, .inl (.i2l), 1), (1334, .inl (.lcmp), 1), (1335, .inl (.ifCond .eq 5), 3), (1338, .inl (.iconst 0), 1), (1339, .inl (.ireturn), 1), (1340, .inl (.goto 1871), 3), (1343, .inl (.aload_n 1), 1)],
  [(1344, .inl (.aload_n 0), 1), (1345, .inl (.iload 4), 2), (1347, .inl (.iconst 1), 1), (1348, .inl (.iadd), 1), (1349, .inl (.iaload), 1), (1350, .inl (.aload_n 3), 1), (1351, .inr (2, 137, 3), 3), (1354, .inl (.istore 5), 2), (1356, .inl (.aload_n 2), 1), (1357, .inl (.aload_n 0), 1), (1358, .inl (.iload 4), 2)],
  [(1360, .inl (.iconst 1), 1), (1361, .inl (.iadd), 1), (1362, .inl (.iaload), 1), (1363, .inr (2, 306, 2), 3), (1366, .inl (.istore 6), 2), (1368, .inl (.aload_n 2), 1), (1369, .inr (2, 229, 1), 3), (1372, .inl (.iload 5), 2), (1374, .inl (.if_icmp .eq 5), 3)],
  [(1377, .inl (.iconst 0), 1), (1378, .inl (.ireturn), 1), (1379, .inl (.iload 5), 2), (1381, .inl (.ifCond .ne 15), 3), (1384, .inl (.aload_n 3), 1), (1385, .inl (.iconst 0), 1), (1386, .inl (.laload), 1), (1387, .inl (.iload 6), 2), (1389, .inl (.i2l), 1), (1390, .inl (.lcmp), 1), (1391, .inl (.ifCond .eq 5), 3)],
  [(1394, .inl (.iconst 0), 1), (1395, .inl (.ireturn), 1), (1396, .inl (.goto 1815), 3), (1399, .inl (.aload_n 1), 1), (1400, .inl (.aload_n 0), 1), (1401, .inl (.iload 4), 2), (1403, .inl (.iconst 1), 1), (1404, .inl (.iadd), 1), (1405, .inl (.iaload), 1), (1406, .inl (.aload_n 0), 1), (1407, .inl (.iload 4), 2)],
  [(1409, .inl (.iconst 2), 1), (1410, .inl (.iadd), 1), (1411, .inl (.iaload), 1), (1412, .inl (.aload_n 0), 1), (1413, .inl (.iload 4), 2), (1415, .inl (.iconst 3), 1), (1416, .inl (.iadd), 1), (1417, .inl (.iaload), 1), (1418, .inl (.aload_n 3), 1), (1419, .inr (2, 140, 5), 3), (1422, .inl (.istore 5), 2)],
  [(1424, .inl (.aload_n 2), 1), (1425, .inl (.aload_n 0), 1), (1426, .inl (.iload 4), 2), (1428, .inl (.iconst 1), 1), (1429, .inl (.iadd), 1), (1430, .inl (.iaload), 1), (1431, .inl (.aload_n 0), 1), (1432, .inl (.iload 4), 2), (1434, .inl (.iconst 2), 1), (1435, .inl (.iadd), 1), (1436, .inl (.iaload), 1), (1437, .inl (.aload_n 0), 1), (1438, .inl (.iload 4), 2)],
  [(1440, .inl (.iconst 3), 1), (1441, .inl (.iadd), 1), (1442, .inl (.iaload), 1), (1443, .inr (2, 307, 4), 3), (1446, .inl (.istore 6), 2), (1448, .inl (.aload_n 2), 1), (1449, .inr (2, 229, 1), 3), (1452, .inl (.iload 5), 2), (1454, .inl (.if_icmp .eq 5), 3)],
  [(1457, .inl (.iconst 0), 1), (1458, .inl (.ireturn), 1), (1459, .inl (.iload 5), 2), (1461, .inl (.ifCond .ne 15), 3), (1464, .inl (.aload_n 3), 1), (1465, .inl (.iconst 0), 1), (1466, .inl (.laload), 1), (1467, .inl (.iload 6), 2), (1469, .inl (.i2l), 1), (1470, .inl (.lcmp), 1), (1471, .inl (.ifCond .eq 5), 3)],
  [(1474, .inl (.iconst 0), 1), (1475, .inl (.ireturn), 1), (1476, .inl (.goto 1735), 3), (1479, .inl (.aload_n 1), 1), (1480, .inl (.aload_n 0), 1), (1481, .inl (.iload 4), 2), (1483, .inl (.iconst 1), 1), (1484, .inl (.iadd), 1), (1485, .inl (.iaload), 1), (1486, .inl (.aload_n 3), 1), (1487, .inr (2, 143, 3), 3)],
  [(1490, .inl (.istore 5), 2), (1492, .inl (.aload_n 2), 1), (1493, .inl (.aload_n 0), 1), (1494, .inl (.iload 4), 2), (1496, .inl (.iconst 1), 1), (1497, .inl (.iadd), 1), (1498, .inl (.iaload), 1), (1499, .inr (2, 308, 2), 3), (1502, .inl (.istore 6), 2)],
  [(1504, .inl (.aload_n 2), 1), (1505, .inr (2, 229, 1), 3), (1508, .inl (.iload 5), 2), (1510, .inl (.if_icmp .eq 5), 3), (1513, .inl (.iconst 0), 1), (1514, .inl (.ireturn), 1), (1515, .inl (.iload 5), 2), (1517, .inl (.ifCond .ne 15), 3)],
  [(1520, .inl (.aload_n 3), 1), (1521, .inl (.iconst 0), 1), (1522, .inl (.laload), 1), (1523, .inl (.iload 6), 2), (1525, .inl (.i2l), 1), (1526, .inl (.lcmp), 1), (1527, .inl (.ifCond .eq 5), 3), (1530, .inl (.iconst 0), 1), (1531, .inl (.ireturn), 1), (1532, .inl (.goto 1679), 3), (1535, .inl (.aload_n 1), 1)],
  [(1536, .inl (.aload_n 0), 1), (1537, .inl (.iload 4), 2), (1539, .inl (.iconst 1), 1), (1540, .inl (.iadd), 1), (1541, .inl (.iaload), 1), (1542, .inl (.aload_n 0), 1), (1543, .inl (.iload 4), 2), (1545, .inl (.iconst 2), 1), (1546, .inl (.iadd), 1), (1547, .inl (.iaload), 1), (1548, .inl (.aload_n 3), 1), (1549, .inr (2, 148, 4), 3)],
  [(1552, .inl (.istore 5), 2), (1554, .inl (.aload_n 2), 1), (1555, .inl (.aload_n 0), 1), (1556, .inl (.iload 4), 2), (1558, .inl (.iconst 1), 1), (1559, .inl (.iadd), 1), (1560, .inl (.iaload), 1), (1561, .inl (.aload_n 0), 1), (1562, .inl (.iload 4), 2), (1564, .inl (.iconst 2), 1), (1565, .inl (.iadd), 1), (1566, .inl (.iaload), 1), (1567, .inr (2, 309, 3), 3)],
  [(1570, .inl (.istore 6), 2), (1572, .inl (.aload_n 2), 1), (1573, .inr (2, 229, 1), 3), (1576, .inl (.iload 5), 2), (1578, .inl (.if_icmp .eq 5), 3), (1581, .inl (.iconst 0), 1), (1582, .inl (.ireturn), 1), (1583, .inl (.iload 5), 2)],
  [(1585, .inl (.ifCond .ne 15), 3), (1588, .inl (.aload_n 3), 1), (1589, .inl (.iconst 0), 1), (1590, .inl (.laload), 1), (1591, .inl (.iload 6), 2), (1593, .inl (.i2l), 1), (1594, .inl (.lcmp), 1), (1595, .inl (.ifCond .eq 5), 3), (1598, .inl (.iconst 0), 1), (1599, .inl (.ireturn), 1)],
  [(1600, .inl (.goto 1611), 3), (1603, .inl (.aload_n 1), 1), (1604, .inl (.aload_n 0), 1), (1605, .inl (.iload 4), 2), (1607, .inl (.iconst 1), 1), (1608, .inl (.iadd), 1), (1609, .inl (.iaload), 1), (1610, .inl (.aload_n 3), 1), (1611, .inr (2, 155, 3), 3), (1614, .inl (.istore 5), 2)],
  [(1616, .inl (.aload_n 2), 1), (1617, .inl (.aload_n 0), 1), (1618, .inl (.iload 4), 2), (1620, .inl (.iconst 1), 1), (1621, .inl (.iadd), 1), (1622, .inl (.iaload), 1), (1623, .inr (2, 316, 2), 3), (1626, .inl (.istore 6), 2), (1628, .inl (.aload_n 2), 1), (1629, .inr (2, 229, 1), 3)],
  [(1632, .inl (.iload 5), 2), (1634, .inl (.if_icmp .eq 5), 3), (1637, .inl (.iconst 0), 1), (1638, .inl (.ireturn), 1), (1639, .inl (.iload 5), 2), (1641, .inl (.ifCond .ne 15), 3), (1644, .inl (.aload_n 3), 1), (1645, .inl (.iconst 0), 1), (1646, .inl (.laload), 1), (1647, .inl (.iload 6), 2)],
  [(1649, .inl (.i2l), 1), (1650, .inl (.lcmp), 1), (1651, .inl (.ifCond .eq 5), 3), (1654, .inl (.iconst 0), 1), (1655, .inl (.ireturn), 1), (1656, .inl (.goto 1555), 3), (1659, .inl (.aload_n 1), 1), (1660, .inl (.aload_n 0), 1), (1661, .inl (.iload 4), 2), (1663, .inl (.iconst 1), 1)],
  [(1664, .inl (.iadd), 1), (1665, .inl (.iaload), 1), (1666, .inl (.aload_n 0), 1), (1667, .inl (.iload 4), 2), (1669, .inl (.iconst 2), 1), (1670, .inl (.iadd), 1), (1671, .inl (.iaload), 1), (1672, .inl (.aload_n 3), 1), (1673, .inr (2, 157, 4), 3), (1676, .inl (.istore 5), 2), (1678, .inl (.aload_n 2), 1), (1679, .inl (.aload_n 0), 1)],
  [(1680, .inl (.iload 4), 2), (1682, .inl (.iconst 1), 1), (1683, .inl (.iadd), 1), (1684, .inl (.iaload), 1), (1685, .inl (.aload_n 0), 1), (1686, .inl (.iload 4), 2), (1688, .inl (.iconst 2), 1), (1689, .inl (.iadd), 1), (1690, .inl (.iaload), 1), (1691, .inr (2, 317, 3), 3), (1694, .inl (.istore 6), 2)],
  [(1696, .inl (.aload_n 2), 1), (1697, .inr (2, 229, 1), 3), (1700, .inl (.iload 5), 2), (1702, .inl (.if_icmp .eq 5), 3), (1705, .inl (.iconst 0), 1), (1706, .inl (.ireturn), 1), (1707, .inl (.iload 5), 2), (1709, .inl (.ifCond .ne 15), 3)],
  [(1712, .inl (.aload_n 3), 1), (1713, .inl (.iconst 0), 1), (1714, .inl (.laload), 1), (1715, .inl (.iload 6), 2), (1717, .inl (.i2l), 1), (1718, .inl (.lcmp), 1), (1719, .inl (.ifCond .eq 5), 3), (1722, .inl (.iconst 0), 1), (1723, .inl (.ireturn), 1), (1724, .inl (.goto 1487), 3), (1727, .inl (.aload_n 1), 1)],
  [(1728, .inr (2, 16, 1), 3), (1731, .inl (.aload_n 2), 1), (1732, .inr (2, 319, 1), 3), (1735, .inl (.lcmp), 1), (1736, .inl (.ifCond .eq 1475), 3), (1739, .inl (.iconst 0), 1), (1740, .inl (.ireturn), 1), (1741, .inl (.aload_n 1), 1), (1742, .inr (2, 29, 1), 3)],
  [(1745, .inl (.aload_n 2), 1), (1746, .inr (2, 322, 1), 3), (1749, .inl (.lcmp), 1), (1750, .inl (.ifCond .eq 1461), 3), (1753, .inl (.iconst 0), 1), (1754, .inl (.ireturn), 1), (1755, .inl (.aload_n 1), 1), (1756, .inl (.aload_n 0), 1), (1757, .inl (.iload 4), 2), (1759, .inl (.iconst 1), 1)],
  [(1760, .inl (.iadd), 1), (1761, .inl (.iaload), 1), (1762, .inl (.aload_n 3), 1), (1763, .inr (2, 161, 3), 3), (1766, .inl (.istore 5), 2), (1768, .inl (.aload_n 2), 1), (1769, .inl (.aload_n 0), 1), (1770, .inl (.iload 4), 2), (1772, .inl (.iconst 1), 1), (1773, .inl (.iadd), 1), (1774, .inl (.iaload), 1), (1775, .inr (2, 324, 2), 3)],
  [(1778, .inl (.lstore 6), 2), (1780, .inl (.aload_n 2), 1), (1781, .inr (2, 229, 1), 3), (1784, .inl (.iload 5), 2), (1786, .inl (.if_icmp .eq 5), 3), (1789, .inl (.iconst 0), 1), (1790, .inl (.ireturn), 1), (1791, .inl (.iload 5), 2)],
  [(1793, .inl (.ifCond .ne 14), 3), (1796, .inl (.aload_n 3), 1), (1797, .inl (.iconst 0), 1), (1798, .inl (.laload), 1), (1799, .inl (.lload 6), 2), (1801, .inl (.lcmp), 1), (1802, .inl (.ifCond .eq 5), 3), (1805, .inl (.iconst 0), 1), (1806, .inl (.ireturn), 1), (1807, .inl (.goto 1404), 3)],
  [(1810, .inl (.aload_n 1), 1), (1811, .inl (.aload_n 0), 1), (1812, .inl (.iload 4), 2), (1814, .inl (.iconst 1), 1), (1815, .inl (.iadd), 1), (1816, .inl (.iaload), 1), (1817, .inl (.aload_n 0), 1), (1818, .inl (.iload 4), 2), (1820, .inl (.iconst 2), 1), (1821, .inl (.iadd), 1), (1822, .inl (.iaload), 1), (1823, .inl (.aload_n 3), 1)],
  [(1824, .inr (2, 165, 4), 3), (1827, .inl (.istore 5), 2), (1829, .inl (.aload_n 2), 1), (1830, .inl (.aload_n 0), 1), (1831, .inl (.iload 4), 2), (1833, .inl (.iconst 1), 1), (1834, .inl (.iadd), 1), (1835, .inl (.iaload), 1), (1836, .inl (.aload_n 0), 1), (1837, .inl (.iload 4), 2), (1839, .inl (.iconst 2), 1)],
  [(1840, .inl (.iadd), 1), (1841, .inl (.iaload), 1), (1842, .inr (2, 327, 3), 3), (1845, .inl (.lstore 6), 2), (1847, .inl (.aload_n 2), 1), (1848, .inr (2, 229, 1), 3), (1851, .inl (.iload 5), 2), (1853, .inl (.if_icmp .eq 5), 3)],
  [(1856, .inl (.iconst 0), 1), (1857, .inl (.ireturn), 1), (1858, .inl (.iload 5), 2), (1860, .inl (.ifCond .ne 14), 3), (1863, .inl (.aload_n 3), 1), (1864, .inl (.iconst 0), 1), (1865, .inl (.laload), 1), (1866, .inl (.lload 6), 2), (1868, .inl (.lcmp), 1), (1869, .inl (.ifCond .eq 5), 3)],
  [(1872, .inl (.iconst 0), 1), (1873, .inl (.ireturn), 1), (1874, .inl (.goto 1337), 3), (1877, .inl (.aload_n 1), 1), (1878, .inl (.aload_n 0), 1), (1879, .inl (.iload 4), 2), (1881, .inl (.iconst 1), 1), (1882, .inl (.iadd), 1), (1883, .inl (.iaload), 1), (1884, .inl (.aload_n 3), 1), (1885, .inr (2, 167, 3), 3)],
  [(1888, .inl (.istore 5), 2), (1890, .inl (.aload_n 2), 1), (1891, .inl (.aload_n 0), 1), (1892, .inl (.iload 4), 2), (1894, .inl (.iconst 1), 1), (1895, .inl (.iadd), 1), (1896, .inl (.iaload), 1), (1897, .inr (2, 328, 2), 3), (1900, .inl (.istore 6), 2), (1902, .inl (.aload_n 2), 1), (1903, .inr (2, 229, 1), 3)],
  [(1906, .inl (.iload 5), 2), (1908, .inl (.if_icmp .eq 5), 3), (1911, .inl (.iconst 0), 1), (1912, .inl (.ireturn), 1), (1913, .inl (.iload 5), 2), (1915, .inl (.ifCond .ne 15), 3), (1918, .inl (.aload_n 3), 1), (1919, .inl (.iconst 0), 1)],
  [(1920, .inl (.laload), 1), (1921, .inl (.iload 6), 2), (1923, .inl (.i2l), 1), (1924, .inl (.lcmp), 1), (1925, .inl (.ifCond .eq 5), 3), (1928, .inl (.iconst 0), 1), (1929, .inl (.ireturn), 1), (1930, .inl (.goto 1281), 3), (1933, .inl (.aload_n 1), 1), (1934, .inl (.aload_n 0), 1), (1935, .inl (.iload 4), 2)],
  [(1937, .inl (.iconst 1), 1), (1938, .inl (.iadd), 1), (1939, .inl (.iaload), 1), (1940, .inl (.aload_n 0), 1), (1941, .inl (.iload 4), 2), (1943, .inl (.iconst 2), 1), (1944, .inl (.iadd), 1), (1945, .inl (.iaload), 1), (1946, .inl (.aload_n 3), 1), (1947, .inr (2, 169, 4), 3), (1950, .inl (.istore 5), 2)],
  [(1952, .inl (.aload_n 2), 1), (1953, .inl (.aload_n 0), 1), (1954, .inl (.iload 4), 2), (1956, .inl (.iconst 1), 1), (1957, .inl (.iadd), 1), (1958, .inl (.iaload), 1), (1959, .inl (.aload_n 0), 1), (1960, .inl (.iload 4), 2), (1962, .inl (.iconst 2), 1), (1963, .inl (.iadd), 1), (1964, .inl (.iaload), 1), (1965, .inr (2, 329, 3), 3)],
  [(1968, .inl (.istore 6), 2), (1970, .inl (.aload_n 2), 1), (1971, .inr (2, 229, 1), 3), (1974, .inl (.iload 5), 2), (1976, .inl (.if_icmp .eq 5), 3), (1979, .inl (.iconst 0), 1), (1980, .inl (.ireturn), 1), (1981, .inl (.iload 5), 2), (1983, .inl (.ifCond .ne 15), 3)],
  [(1986, .inl (.aload_n 3), 1), (1987, .inl (.iconst 0), 1), (1988, .inl (.laload), 1), (1989, .inl (.iload 6), 2), (1991, .inl (.i2l), 1), (1992, .inl (.lcmp), 1), (1993, .inl (.ifCond .eq 5), 3), (1996, .inl (.iconst 0), 1), (1997, .inl (.ireturn), 1), (1998, .inl (.goto 1213), 3)],
  [(2001, .inl (.aload_n 1), 1), (2002, .inl (.aload_n 0), 1), (2003, .inl (.iload 4), 2), (2005, .inl (.iconst 1), 1), (2006, .inl (.iadd), 1), (2007, .inl (.iaload), 1), (2008, .inl (.aload_n 0), 1), (2009, .inl (.iload 4), 2), (2011, .inl (.iconst 2), 1), (2012, .inl (.iadd), 1), (2013, .inl (.iaload), 1), (2014, .inl (.aload_n 3), 1), (2015, .inr (2, 171, 4), 3)],
  [(2018, .inl (.istore 5), 2), (2020, .inl (.aload_n 2), 1), (2021, .inl (.aload_n 0), 1), (2022, .inl (.iload 4), 2), (2024, .inl (.iconst 1), 1), (2025, .inl (.iadd), 1), (2026, .inl (.iaload), 1), (2027, .inl (.aload_n 0), 1), (2028, .inl (.iload 4), 2), (2030, .inl (.iconst 2), 1), (2031, .inl (.iadd), 1)],
  [(2032, .inl (.iaload), 1), (2033, .inr (2, 330, 3), 3), (2036, .inl (.istore 6), 2), (2038, .inl (.aload_n 2), 1), (2039, .inr (2, 229, 1), 3), (2042, .inl (.iload 5), 2), (2044, .inl (.if_icmp .eq 5), 3), (2047, .inl (.iconst 0), 1)],
  [(2048, .inl (.ireturn), 1), (2049, .inl (.iload 5), 2), (2051, .inl (.ifCond .ne 15), 3), (2054, .inl (.aload_n 3), 1), (2055, .inl (.iconst 0), 1), (2056, .inl (.laload), 1), (2057, .inl (.iload 6), 2), (2059, .inl (.i2l), 1), (2060, .inl (.lcmp), 1), (2061, .inl (.ifCond .eq 5), 3)],
  [(2064, .inl (.iconst 0), 1), (2065, .inl (.ireturn), 1), (2066, .inl (.goto 1145), 3), (2069, .inl (.aload_n 1), 1), (2070, .inl (.aload_n 0), 1), (2071, .inl (.iload 4), 2), (2073, .inl (.iconst 1), 1), (2074, .inl (.iadd), 1), (2075, .inl (.iaload), 1), (2076, .inl (.aload_n 0), 1), (2077, .inl (.iload 4), 2), (2079, .inl (.iconst 2), 1)],
  [(2080, .inl (.iadd), 1), (2081, .inl (.iaload), 1), (2082, .inl (.aload_n 3), 1), (2083, .inr (2, 174, 4), 3), (2086, .inl (.istore 5), 2), (2088, .inl (.aload_n 2), 1), (2089, .inl (.aload_n 0), 1), (2090, .inl (.iload 4), 2), (2092, .inl (.iconst 1), 1), (2093, .inl (.iadd), 1), (2094, .inl (.iaload), 1), (2095, .inl (.aload_n 0), 1)],
  [(2096, .inl (.iload 4), 2), (2098, .inl (.iconst 2), 1), (2099, .inl (.iadd), 1), (2100, .inl (.iaload), 1), (2101, .inr (2, 331, 3), 3), (2104, .inl (.istore 6), 2), (2106, .inl (.aload_n 2), 1), (2107, .inr (2, 229, 1), 3), (2110, .inl (.iload 5), 2)],
  [(2112, .inl (.if_icmp .eq 5), 3), (2115, .inl (.iconst 0), 1), (2116, .inl (.ireturn), 1), (2117, .inl (.iload 5), 2), (2119, .inl (.ifCond .ne 15), 3), (2122, .inl (.aload_n 3), 1), (2123, .inl (.iconst 0), 1), (2124, .inl (.laload), 1), (2125, .inl (.iload 6), 2), (2127, .inl (.i2l), 1)],
  [(2128, .inl (.lcmp), 1), (2129, .inl (.ifCond .eq 5), 3), (2132, .inl (.iconst 0), 1), (2133, .inl (.ireturn), 1), (2134, .inl (.goto 1077), 3), (2137, .inl (.aload_n 1), 1), (2138, .inl (.aload_n 0), 1), (2139, .inl (.iload 4), 2), (2141, .inl (.iconst 1), 1), (2142, .inl (.iadd), 1), (2143, .inl (.iaload), 1)],
  [(2144, .inl (.aload_n 0), 1), (2145, .inl (.iload 4), 2), (2147, .inl (.iconst 2), 1), (2148, .inl (.iadd), 1), (2149, .inl (.iaload), 1), (2150, .inl (.aload_n 3), 1), (2151, .inr (2, 177, 4), 3), (2154, .inl (.istore 5), 2), (2156, .inl (.aload_n 2), 1), (2157, .inl (.aload_n 0), 1), (2158, .inl (.iload 4), 2)],
  [(2160, .inl (.iconst 1), 1), (2161, .inl (.iadd), 1), (2162, .inl (.iaload), 1), (2163, .inl (.aload_n 0), 1), (2164, .inl (.iload 4), 2), (2166, .inl (.iconst 2), 1), (2167, .inl (.iadd), 1), (2168, .inl (.iaload), 1), (2169, .inr (2, 332, 3), 3), (2172, .inl (.istore 6), 2), (2174, .inl (.aload_n 2), 1), (2175, .inr (2, 229, 1), 3)],
  [(2178, .inl (.iload 5), 2), (2180, .inl (.if_icmp .eq 5), 3), (2183, .inl (.iconst 0), 1), (2184, .inl (.ireturn), 1), (2185, .inl (.iload 5), 2), (2187, .inl (.ifCond .ne 15), 3), (2190, .inl (.aload_n 3), 1), (2191, .inl (.iconst 0), 1)],
  [(2192, .inl (.laload), 1), (2193, .inl (.iload 6), 2), (2195, .inl (.i2l), 1), (2196, .inl (.lcmp), 1), (2197, .inl (.ifCond .eq 5), 3), (2200, .inl (.iconst 0), 1), (2201, .inl (.ireturn), 1), (2202, .inl (.goto 1009), 3), (2205, .inl (.aload_n 1), 1), (2206, .inl (.aload_n 0), 1), (2207, .inl (.iload 4), 2)],
  [(2209, .inl (.iconst 1), 1), (2210, .inl (.iadd), 1), (2211, .inl (.iaload), 1), (2212, .inl (.aload_n 0), 1), (2213, .inl (.iload 4), 2), (2215, .inl (.iconst 2), 1), (2216, .inl (.iadd), 1), (2217, .inl (.iaload), 1), (2218, .inl (.aload_n 0), 1), (2219, .inl (.iload 4), 2), (2221, .inl (.iconst 3), 1), (2222, .inl (.iadd), 1), (2223, .inl (.iaload), 1)],
  [(2224, .inl (.aload_n 3), 1), (2225, .inr (2, 190, 5), 3), (2228, .inl (.istore 5), 2), (2230, .inl (.aload_n 2), 1), (2231, .inl (.aload_n 0), 1), (2232, .inl (.iload 4), 2), (2234, .inl (.iconst 1), 1), (2235, .inl (.iadd), 1), (2236, .inl (.iaload), 1), (2237, .inl (.aload_n 0), 1), (2238, .inl (.iload 4), 2)],
  [(2240, .inl (.iconst 2), 1), (2241, .inl (.iadd), 1), (2242, .inl (.iaload), 1), (2243, .inl (.aload_n 0), 1), (2244, .inl (.iload 4), 2), (2246, .inl (.iconst 3), 1), (2247, .inl (.iadd), 1), (2248, .inl (.iaload), 1), (2249, .inr (2, 336, 4), 3), (2252, .inl (.istore 6), 2), (2254, .inl (.aload_n 2), 1), (2255, .inr (2, 229, 1), 3)],
  [(2258, .inl (.iload 5), 2), (2260, .inl (.if_icmp .eq 5), 3), (2263, .inl (.iconst 0), 1), (2264, .inl (.ireturn), 1), (2265, .inl (.iload 5), 2), (2267, .inl (.ifCond .ne 15), 3), (2270, .inl (.aload_n 3), 1), (2271, .inl (.iconst 0), 1)],
  [(2272, .inl (.laload), 1), (2273, .inl (.iload 6), 2), (2275, .inl (.i2l), 1), (2276, .inl (.lcmp), 1), (2277, .inl (.ifCond .eq 5), 3), (2280, .inl (.iconst 0), 1), (2281, .inl (.ireturn), 1), (2282, .inl (.goto 929), 3), (2285, .inl (.aload_n 1), 1), (2286, .inl (.aload_n 0), 1), (2287, .inl (.iload 4), 2)],
  [(2289, .inl (.iconst 1), 1), (2290, .inl (.iadd), 1), (2291, .inl (.iaload), 1), (2292, .inl (.aload_n 0), 1), (2293, .inl (.iload 4), 2), (2295, .inl (.iconst 2), 1), (2296, .inl (.iadd), 1), (2297, .inl (.iaload), 1), (2298, .inl (.aload_n 0), 1), (2299, .inl (.iload 4), 2), (2301, .inl (.iconst 3), 1), (2302, .inl (.iadd), 1), (2303, .inl (.iaload), 1)],
  [(2304, .inl (.aload_n 3), 1), (2305, .inr (2, 192, 5), 3), (2308, .inl (.istore 5), 2), (2310, .inl (.aload_n 2), 1), (2311, .inl (.aload_n 0), 1), (2312, .inl (.iload 4), 2), (2314, .inl (.iconst 1), 1), (2315, .inl (.iadd), 1), (2316, .inl (.iaload), 1), (2317, .inl (.aload_n 0), 1), (2318, .inl (.iload 4), 2)],
  [(2320, .inl (.iconst 2), 1), (2321, .inl (.iadd), 1), (2322, .inl (.iaload), 1), (2323, .inl (.aload_n 0), 1), (2324, .inl (.iload 4), 2), (2326, .inl (.iconst 3), 1), (2327, .inl (.iadd), 1), (2328, .inl (.iaload), 1), (2329, .inr (2, 337, 4), 3), (2332, .inl (.istore 6), 2), (2334, .inl (.aload_n 2), 1), (2335, .inr (2, 229, 1), 3)],
  [(2338, .inl (.iload 5), 2), (2340, .inl (.if_icmp .eq 5), 3), (2343, .inl (.iconst 0), 1), (2344, .inl (.ireturn), 1), (2345, .inl (.iload 5), 2), (2347, .inl (.ifCond .ne 15), 3), (2350, .inl (.aload_n 3), 1), (2351, .inl (.iconst 0), 1)],
  [(2352, .inl (.laload), 1), (2353, .inl (.iload 6), 2), (2355, .inl (.i2l), 1), (2356, .inl (.lcmp), 1), (2357, .inl (.ifCond .eq 5), 3), (2360, .inl (.iconst 0), 1), (2361, .inl (.ireturn), 1), (2362, .inl (.goto 849), 3), (2365, .inl (.aload_n 1), 1), (2366, .inl (.aload_n 0), 1), (2367, .inl (.iload 4), 2)],
  [(2369, .inl (.iconst 1), 1), (2370, .inl (.iadd), 1), (2371, .inl (.iaload), 1), (2372, .inl (.aload_n 0), 1), (2373, .inl (.iload 4), 2), (2375, .inl (.iconst 2), 1), (2376, .inl (.iadd), 1), (2377, .inl (.iaload), 1), (2378, .inl (.aload_n 0), 1), (2379, .inl (.iload 4), 2), (2381, .inl (.iconst 3), 1), (2382, .inl (.iadd), 1), (2383, .inl (.iaload), 1)],
  [(2384, .inl (.aload_n 3), 1), (2385, .inr (2, 194, 5), 3), (2388, .inl (.istore 5), 2), (2390, .inl (.aload_n 2), 1), (2391, .inl (.aload_n 0), 1), (2392, .inl (.iload 4), 2), (2394, .inl (.iconst 1), 1), (2395, .inl (.iadd), 1), (2396, .inl (.iaload), 1), (2397, .inl (.aload_n 0), 1), (2398, .inl (.iload 4), 2)],
  [(2400, .inl (.iconst 2), 1), (2401, .inl (.iadd), 1), (2402, .inl (.iaload), 1), (2403, .inl (.aload_n 0), 1), (2404, .inl (.iload 4), 2), (2406, .inl (.iconst 3), 1), (2407, .inl (.iadd), 1), (2408, .inl (.iaload), 1), (2409, .inr (2, 280, 4), 3), (2412, .inl (.istore 6), 2), (2414, .inl (.aload_n 2), 1), (2415, .inr (2, 229, 1), 3)],
  [(2418, .inl (.iload 5), 2), (2420, .inl (.if_icmp .eq 5), 3), (2423, .inl (.iconst 0), 1), (2424, .inl (.ireturn), 1), (2425, .inl (.iload 5), 2), (2427, .inl (.ifCond .ne 15), 3), (2430, .inl (.aload_n 3), 1), (2431, .inl (.iconst 0), 1)],
  [(2432, .inl (.laload), 1), (2433, .inl (.iload 6), 2), (2435, .inl (.i2l), 1), (2436, .inl (.lcmp), 1), (2437, .inl (.ifCond .eq 5), 3), (2440, .inl (.iconst 0), 1), (2441, .inl (.ireturn), 1), (2442, .inl (.goto 769), 3), (2445, .inl (.aload_n 1), 1), (2446, .inl (.aload_n 0), 1), (2447, .inl (.iload 4), 2)],
  [(2449, .inl (.iconst 1), 1), (2450, .inl (.iadd), 1), (2451, .inl (.iaload), 1), (2452, .inl (.aload_n 3), 1), (2453, .inr (2, 197, 3), 3), (2456, .inl (.istore 5), 2), (2458, .inl (.aload_n 2), 1), (2459, .inl (.aload_n 0), 1), (2460, .inl (.iload 4), 2), (2462, .inl (.iconst 1), 1), (2463, .inl (.iadd), 1)],
  [(2464, .inl (.iaload), 1), (2465, .inr (2, 338, 2), 3), (2468, .inl (.istore 6), 2), (2470, .inl (.aload_n 2), 1), (2471, .inr (2, 229, 1), 3), (2474, .inl (.iload 5), 2), (2476, .inl (.if_icmp .eq 5), 3), (2479, .inl (.iconst 0), 1)],
  [(2480, .inl (.ireturn), 1), (2481, .inl (.iload 5), 2), (2483, .inl (.ifCond .ne 15), 3), (2486, .inl (.aload_n 3), 1), (2487, .inl (.iconst 0), 1), (2488, .inl (.laload), 1), (2489, .inl (.iload 6), 2), (2491, .inl (.i2l), 1), (2492, .inl (.lcmp), 1), (2493, .inl (.ifCond .eq 5), 3)],
  [(2496, .inl (.iconst 0), 1), (2497, .inl (.ireturn), 1), (2498, .inl (.goto 713), 3), (2501, .inl (.aload_n 1), 1), (2502, .inl (.aload_n 0), 1), (2503, .inl (.iload 4), 2), (2505, .inl (.iconst 1), 1), (2506, .inl (.iadd), 1), (2507, .inl (.iaload), 1), (2508, .inl (.aload_n 0), 1), (2509, .inl (.iload 4), 2), (2511, .inl (.iconst 2), 1)],
  [(2512, .inl (.iadd), 1), (2513, .inl (.iaload), 1), (2514, .inl (.aload_n 3), 1), (2515, .inr (2, 199, 4), 3), (2518, .inl (.istore 5), 2), (2520, .inl (.aload_n 2), 1), (2521, .inl (.aload_n 0), 1), (2522, .inl (.iload 4), 2), (2524, .inl (.iconst 1), 1), (2525, .inl (.iadd), 1), (2526, .inl (.iaload), 1), (2527, .inl (.aload_n 0), 1)],
  [(2528, .inl (.iload 4), 2), (2530, .inl (.iconst 2), 1), (2531, .inl (.iadd), 1), (2532, .inl (.iaload), 1), (2533, .inr (2, 339, 3), 3), (2536, .inl (.istore 6), 2), (2538, .inl (.aload_n 2), 1), (2539, .inr (2, 229, 1), 3), (2542, .inl (.iload 5), 2)],
  [(2544, .inl (.if_icmp .eq 5), 3), (2547, .inl (.iconst 0), 1), (2548, .inl (.ireturn), 1), (2549, .inl (.iload 5), 2), (2551, .inl (.ifCond .ne 15), 3), (2554, .inl (.aload_n 3), 1), (2555, .inl (.iconst 0), 1), (2556, .inl (.laload), 1), (2557, .inl (.iload 6), 2), (2559, .inl (.i2l), 1)],
  [(2560, .inl (.lcmp), 1), (2561, .inl (.ifCond .eq 5), 3), (2564, .inl (.iconst 0), 1), (2565, .inl (.ireturn), 1), (2566, .inl (.goto 645), 3), (2569, .inl (.aload_n 1), 1), (2570, .inl (.aload_n 0), 1), (2571, .inl (.iload 4), 2), (2573, .inl (.iconst 1), 1), (2574, .inl (.iadd), 1), (2575, .inl (.iaload), 1)],
  [(2576, .inl (.aload_n 3), 1), (2577, .inr (2, 201, 3), 3), (2580, .inl (.istore 5), 2), (2582, .inl (.aload_n 2), 1), (2583, .inl (.aload_n 0), 1), (2584, .inl (.iload 4), 2), (2586, .inl (.iconst 1), 1), (2587, .inl (.iadd), 1), (2588, .inl (.iaload), 1), (2589, .inr (2, 340, 2), 3)],
  [(2592, .inl (.istore 6), 2), (2594, .inl (.aload_n 2), 1), (2595, .inr (2, 229, 1), 3), (2598, .inl (.iload 5), 2), (2600, .inl (.if_icmp .eq 5), 3), (2603, .inl (.iconst 0), 1), (2604, .inl (.ireturn), 1), (2605, .inl (.iload 5), 2), (2607, .inl (.ifCond .ne 15), 3)],
  [(2610, .inl (.aload_n 3), 1), (2611, .inl (.iconst 0), 1), (2612, .inl (.laload), 1), (2613, .inl (.iload 6), 2), (2615, .inl (.i2l), 1), (2616, .inl (.lcmp), 1), (2617, .inl (.ifCond .eq 5), 3), (2620, .inl (.iconst 0), 1), (2621, .inl (.ireturn), 1), (2622, .inl (.goto 589), 3)],
  [(2625, .inl (.aload_n 1), 1), (2626, .inl (.aload_n 0), 1), (2627, .inl (.iload 4), 2), (2629, .inl (.iconst 1), 1), (2630, .inl (.iadd), 1), (2631, .inl (.iaload), 1), (2632, .inl (.aload_n 3), 1), (2633, .inr (2, 204, 3), 3), (2636, .inl (.istore 5), 2), (2638, .inl (.aload_n 2), 1), (2639, .inl (.aload_n 0), 1)],
  [(2640, .inl (.iload 4), 2), (2642, .inl (.iconst 1), 1), (2643, .inl (.iadd), 1), (2644, .inl (.iaload), 1), (2645, .inr (2, 343, 2), 3), (2648, .inl (.istore 6), 2), (2650, .inl (.aload_n 2), 1), (2651, .inr (2, 229, 1), 3), (2654, .inl (.iload 5), 2)],
  [(2656, .inl (.if_icmp .eq 5), 3), (2659, .inl (.iconst 0), 1), (2660, .inl (.ireturn), 1), (2661, .inl (.iload 5), 2), (2663, .inl (.ifCond .ne 15), 3), (2666, .inl (.aload_n 3), 1), (2667, .inl (.iconst 0), 1), (2668, .inl (.laload), 1), (2669, .inl (.iload 6), 2), (2671, .inl (.i2l), 1)],
  [(2672, .inl (.lcmp), 1), (2673, .inl (.ifCond .eq 5), 3), (2676, .inl (.iconst 0), 1), (2677, .inl (.ireturn), 1), (2678, .inl (.goto 533), 3), (2681, .inl (.aload_n 1), 1), (2682, .inl (.aload_n 0), 1), (2683, .inl (.iload 4), 2), (2685, .inl (.iconst 1), 1), (2686, .inl (.iadd), 1), (2687, .inl (.iaload), 1)],
  [(2688, .inl (.aload_n 0), 1), (2689, .inl (.iload 4), 2), (2691, .inl (.iconst 2), 1), (2692, .inl (.iadd), 1), (2693, .inl (.iaload), 1), (2694, .inl (.aload_n 3), 1), (2695, .inr (2, 206, 4), 3), (2698, .inl (.istore 5), 2), (2700, .inl (.aload_n 2), 1), (2701, .inl (.aload_n 0), 1), (2702, .inl (.iload 4), 2)],
  [(2704, .inl (.iconst 1), 1), (2705, .inl (.iadd), 1), (2706, .inl (.iaload), 1), (2707, .inl (.aload_n 0), 1), (2708, .inl (.iload 4), 2), (2710, .inl (.iconst 2), 1), (2711, .inl (.iadd), 1), (2712, .inl (.iaload), 1), (2713, .inr (2, 344, 3), 3), (2716, .inl (.istore 6), 2), (2718, .inl (.aload_n 2), 1), (2719, .inr (2, 229, 1), 3)],
  [(2722, .inl (.iload 5), 2), (2724, .inl (.if_icmp .eq 5), 3), (2727, .inl (.iconst 0), 1), (2728, .inl (.ireturn), 1), (2729, .inl (.iload 5), 2), (2731, .inl (.ifCond .ne 15), 3), (2734, .inl (.aload_n 3), 1), (2735, .inl (.iconst 0), 1)],
  [(2736, .inl (.laload), 1), (2737, .inl (.iload 6), 2), (2739, .inl (.i2l), 1), (2740, .inl (.lcmp), 1), (2741, .inl (.ifCond .eq 5), 3), (2744, .inl (.iconst 0), 1), (2745, .inl (.ireturn), 1), (2746, .inl (.goto 465), 3), (2749, .inl (.aload_n 1), 1), (2750, .inl (.aload_n 0), 1), (2751, .inl (.iload 4), 2)],
  [(2753, .inl (.iconst 1), 1), (2754, .inl (.iadd), 1), (2755, .inl (.iaload), 1), (2756, .inl (.aload_n 3), 1), (2757, .inr (2, 210, 3), 3), (2760, .inl (.istore 5), 2), (2762, .inl (.aload_n 2), 1), (2763, .inl (.aload_n 0), 1), (2764, .inl (.iload 4), 2), (2766, .inl (.iconst 1), 1), (2767, .inl (.iadd), 1)],
  [(2768, .inl (.iaload), 1), (2769, .inr (2, 347, 2), 3), (2772, .inl (.istore 6), 2), (2774, .inl (.aload_n 2), 1), (2775, .inr (2, 229, 1), 3), (2778, .inl (.iload 5), 2), (2780, .inl (.if_icmp .eq 5), 3), (2783, .inl (.iconst 0), 1)],
  [(2784, .inl (.ireturn), 1), (2785, .inl (.iload 5), 2), (2787, .inl (.ifCond .ne 15), 3), (2790, .inl (.aload_n 3), 1), (2791, .inl (.iconst 0), 1), (2792, .inl (.laload), 1), (2793, .inl (.iload 6), 2), (2795, .inl (.i2l), 1), (2796, .inl (.lcmp), 1), (2797, .inl (.ifCond .eq 5), 3)],
  [(2800, .inl (.iconst 0), 1), (2801, .inl (.ireturn), 1), (2802, .inl (.goto 409), 3), (2805, .inl (.aload_n 1), 1), (2806, .inl (.aload_n 0), 1), (2807, .inl (.iload 4), 2), (2809, .inl (.iconst 1), 1), (2810, .inl (.iadd), 1), (2811, .inl (.iaload), 1), (2812, .inl (.aload_n 3), 1), (2813, .inr (2, 212, 3), 3)],
  [(2816, .inl (.istore 5), 2), (2818, .inl (.aload_n 2), 1), (2819, .inl (.aload_n 0), 1), (2820, .inl (.iload 4), 2), (2822, .inl (.iconst 1), 1), (2823, .inl (.iadd), 1), (2824, .inl (.iaload), 1), (2825, .inr (2, 348, 2), 3), (2828, .inl (.istore 6), 2), (2830, .inl (.aload_n 2), 1), (2831, .inr (2, 229, 1), 3)],
  [(2834, .inl (.iload 5), 2), (2836, .inl (.if_icmp .eq 5), 3), (2839, .inl (.iconst 0), 1), (2840, .inl (.ireturn), 1), (2841, .inl (.iload 5), 2), (2843, .inl (.ifCond .ne 15), 3), (2846, .inl (.aload_n 3), 1), (2847, .inl (.iconst 0), 1)],
  [(2848, .inl (.laload), 1), (2849, .inl (.iload 6), 2), (2851, .inl (.i2l), 1), (2852, .inl (.lcmp), 1), (2853, .inl (.ifCond .eq 5), 3), (2856, .inl (.iconst 0), 1), (2857, .inl (.ireturn), 1), (2858, .inl (.goto 353), 3), (2861, .inl (.aload_n 1), 1), (2862, .inr (2, 33, 1), 3)],
  [(2865, .inl (.aload_n 2), 1), (2866, .inr (2, 350, 1), 3), (2869, .inl (.if_icmp .eq 342), 3), (2872, .inl (.iconst 0), 1), (2873, .inl (.ireturn), 1), (2874, .inl (.aload_n 1), 1), (2875, .inr (2, 34, 1), 3), (2878, .inl (.aload_n 2), 1), (2879, .inr (2, 352, 1), 3)],
  [(2882, .inl (.if_icmp .eq 329), 3), (2885, .inl (.iconst 0), 1), (2886, .inl (.ireturn), 1), (2887, .inl (.aload_n 1), 1), (2888, .inl (.aload_n 0), 1), (2889, .inl (.iload 4), 2), (2891, .inl (.iconst 1), 1), (2892, .inl (.iadd), 1), (2893, .inl (.iaload), 1), (2894, .inl (.aload_n 0), 1), (2895, .inl (.iload 4), 2)],
  [(2897, .inl (.iconst 2), 1), (2898, .inl (.iadd), 1), (2899, .inl (.iaload), 1), (2900, .inl (.aload_n 0), 1), (2901, .inl (.iload 4), 2), (2903, .inl (.iconst 3), 1), (2904, .inl (.iadd), 1), (2905, .inl (.iaload), 1), (2906, .inr (2, 216, 4), 3), (2909, .inl (.istore 5), 2), (2911, .inl (.aload_n 2), 1)],
  [(2912, .inl (.aload_n 0), 1), (2913, .inl (.iload 4), 2), (2915, .inl (.iconst 1), 1), (2916, .inl (.iadd), 1), (2917, .inl (.iaload), 1), (2918, .inl (.aload_n 0), 1), (2919, .inl (.iload 4), 2), (2921, .inl (.iconst 2), 1), (2922, .inl (.iadd), 1), (2923, .inl (.iaload), 1), (2924, .inl (.aload_n 0), 1), (2925, .inl (.iload 4), 2), (2927, .inl (.iconst 3), 1)],
  [(2928, .inl (.iadd), 1), (2929, .inl (.iaload), 1), (2930, .inr (2, 353, 4), 3), (2933, .inl (.aload_n 2), 1), (2934, .inr (2, 229, 1), 3), (2937, .inl (.iload 5), 2), (2939, .inl (.if_icmp .eq 5), 3), (2942, .inl (.iconst 0), 1), (2943, .inl (.ireturn), 1)],
  [(2944, .inl (.goto 267), 3), (2947, .inl (.aload_n 1), 1), (2948, .inl (.aload_n 0), 1), (2949, .inl (.iload 4), 2), (2951, .inl (.iconst 1), 1), (2952, .inl (.iadd), 1), (2953, .inl (.iaload), 1), (2954, .inl (.aload_n 0), 1), (2955, .inl (.iload 4), 2), (2957, .inl (.iconst 2), 1), (2958, .inl (.iadd), 1), (2959, .inl (.iaload), 1)],
  [(2960, .inl (.aload_n 0), 1), (2961, .inl (.iload 4), 2), (2963, .inl (.iconst 3), 1), (2964, .inl (.iadd), 1), (2965, .inl (.iaload), 1), (2966, .inl (.i2l), 1), (2967, .inl (.bipush 32), 2), (2969, .inl (.lshl), 1), (2970, .inl (.aload_n 0), 1), (2971, .inl (.iload 4), 2), (2973, .inl (.iconst 4), 1), (2974, .inl (.iadd), 1), (2975, .inl (.iaload), 1)],
  [(2976, .inl (.i2l), 1), (2977, .inr (9, 0, 4294967295), 3), (2980, .inl (.land), 1), (2981, .inl (.lor), 1), (2982, .inl (.aload_n 3), 1), (2983, .inr (2, 219, 5), 3), (2986, .inl (.istore 5), 2), (2988, .inl (.aload_n 2), 1), (2989, .inl (.aload_n 0), 1), (2990, .inl (.iload 4), 2)],
  [(2992, .inl (.iconst 1), 1), (2993, .inl (.iadd), 1), (2994, .inl (.iaload), 1), (2995, .inl (.aload_n 0), 1), (2996, .inl (.iload 4), 2), (2998, .inl (.iconst 2), 1), (2999, .inl (.iadd), 1), (3000, .inl (.iaload), 1), (3001, .inl (.aload_n 0), 1), (3002, .inl (.iload 4), 2), (3004, .inl (.iconst 3), 1), (3005, .inl (.iadd), 1), (3006, .inl (.iaload), 1), (3007, .inl (.i2l), 1)],
  [(3008, .inl (.bipush 32), 2), (3010, .inl (.lshl), 1), (3011, .inl (.aload_n 0), 1), (3012, .inl (.iload 4), 2), (3014, .inl (.iconst 4), 1), (3015, .inl (.iadd), 1), (3016, .inl (.iaload), 1), (3017, .inl (.i2l), 1), (3018, .inr (9, 0, 4294967295), 3), (3021, .inl (.land), 1), (3022, .inl (.lor), 1), (3023, .inr (2, 354, 4), 3)],
  [(3026, .inl (.lstore 6), 2), (3028, .inl (.aload_n 2), 1), (3029, .inr (2, 229, 1), 3), (3032, .inl (.iload 5), 2), (3034, .inl (.if_icmp .eq 5), 3), (3037, .inl (.iconst 0), 1), (3038, .inl (.ireturn), 1), (3039, .inl (.iload 5), 2)],
  [(3041, .inl (.ifCond .ne 14), 3), (3044, .inl (.aload_n 3), 1), (3045, .inl (.iconst 0), 1), (3046, .inl (.laload), 1), (3047, .inl (.lload 6), 2), (3049, .inl (.lcmp), 1), (3050, .inl (.ifCond .eq 5), 3), (3053, .inl (.iconst 0), 1), (3054, .inl (.ireturn), 1), (3055, .inl (.goto 156), 3)],
  [(3058, .inl (.aload_n 1), 1), (3059, .inl (.aload_n 0), 1), (3060, .inl (.iload 4), 2), (3062, .inl (.iconst 1), 1), (3063, .inl (.iadd), 1), (3064, .inl (.iaload), 1), (3065, .inl (.aload_n 3), 1), (3066, .inr (2, 223, 3), 3), (3069, .inl (.istore 5), 2), (3071, .inl (.aload_n 2), 1)],
  [(3072, .inl (.aload_n 0), 1), (3073, .inl (.iload 4), 2), (3075, .inl (.iconst 1), 1), (3076, .inl (.iadd), 1), (3077, .inl (.iaload), 1), (3078, .inr (2, 356, 2), 3), (3081, .inl (.istore 6), 2), (3083, .inl (.aload_n 2), 1), (3084, .inr (2, 229, 1), 3), (3087, .inl (.iload 5), 2)],
  [(3089, .inl (.if_icmp .eq 5), 3), (3092, .inl (.iconst 0), 1), (3093, .inl (.ireturn), 1), (3094, .inl (.iload 5), 2), (3096, .inl (.ifCond .ne 15), 3), (3099, .inl (.aload_n 3), 1), (3100, .inl (.iconst 0), 1), (3101, .inl (.laload), 1), (3102, .inl (.iload 6), 2)],
  [(3104, .inl (.i2l), 1), (3105, .inl (.lcmp), 1), (3106, .inl (.ifCond .eq 5), 3), (3109, .inl (.iconst 0), 1), (3110, .inl (.ireturn), 1), (3111, .inl (.goto 100), 3), (3114, .inl (.aload_n 1), 1), (3115, .inl (.aload_n 0), 1), (3116, .inl (.iload 4), 2), (3118, .inl (.iconst 1), 1), (3119, .inl (.iadd), 1)],
  [(3120, .inl (.iaload), 1), (3121, .inr (2, 225, 2), 3), (3124, .inl (.istore 5), 2), (3126, .inl (.aload_n 2), 1), (3127, .inl (.aload_n 0), 1), (3128, .inl (.iload 4), 2), (3130, .inl (.iconst 1), 1), (3131, .inl (.iadd), 1), (3132, .inl (.iaload), 1), (3133, .inr (2, 357, 2), 3)],
  [(3136, .inl (.aload_n 2), 1), (3137, .inr (2, 229, 1), 3), (3140, .inl (.iload 5), 2), (3142, .inl (.if_icmp .eq 5), 3), (3145, .inl (.iconst 0), 1), (3146, .inl (.ireturn), 1), (3147, .inl (.goto 64), 3), (3150, .inl (.aload_n 1), 1), (3151, .inl (.aload_n 0), 1)],
  [(3152, .inl (.iload 4), 2), (3154, .inl (.iconst 1), 1), (3155, .inl (.iadd), 1), (3156, .inl (.iaload), 1), (3157, .inr (2, 227, 2), 3), (3160, .inl (.istore 5), 2), (3162, .inl (.aload_n 2), 1), (3163, .inl (.aload_n 0), 1), (3164, .inl (.iload 4), 2), (3166, .inl (.iconst 1), 1), (3167, .inl (.iadd), 1)],
  [(3168, .inl (.iaload), 1), (3169, .inr (2, 358, 2), 3), (3172, .inl (.aload_n 2), 1), (3173, .inr (2, 229, 1), 3), (3176, .inl (.iload 5), 2), (3178, .inl (.if_icmp .eq 5), 3), (3181, .inl (.iconst 0), 1), (3182, .inl (.ireturn), 1), (3183, .inl (.goto 28), 3)],
  [(3186, .inl (.aload_n 1), 1), (3187, .inl (.aload_n 0), 1), (3188, .inl (.iload 4), 2), (3190, .inl (.iconst 1), 1), (3191, .inl (.iadd), 1), (3192, .inl (.iaload), 1), (3193, .inr (2, 36, 2), 3), (3196, .inl (.aload_n 2), 1), (3197, .inl (.aload_n 0), 1), (3198, .inl (.iload 4), 2)],
  [(3200, .inl (.iconst 1), 1), (3201, .inl (.iadd), 1), (3202, .inl (.iaload), 1), (3203, .inr (2, 359, 2), 3), (3206, .inl (.if_icmp .eq 5), 3), (3209, .inl (.iconst 0), 1), (3210, .inl (.ireturn), 1), (3211, .inl (.iinc 4 6), 3), (3214, .inl (.goto (-3191)), 3)],
  [(3217, .inl (.iconst 1), 1), (3218, .inl (.ireturn), 1)]]
/-- the methods: their code; what they answer; how many variables; their tables -/
noncomputable def ab_cT : List (List (List (List (Nat × ab_I × Nat)))) := [
  [ab_c0, ab_c1, ab_c2, ab_c3, ab_c4, ab_c5, ab_c6, ab_c7, ab_c8, ab_c9, ab_c10, ab_c11, ab_c12, ab_c13, ab_c14, ab_c15, ab_c16, ab_c17, ab_c18, ab_c19],
  [ab_c20, ab_c21, ab_c22, ab_c23, ab_c24, ab_c25, ab_c26, ab_c27, ab_c28, ab_c29, ab_c30, ab_c31, ab_c32, ab_c33, ab_c34, ab_c35, ab_c36, ab_c37, ab_c38, ab_c39],
  [ab_c40, ab_c41, ab_c42, ab_c43, ab_c44, ab_c45, ab_c46, ab_c47, ab_c48, ab_c49, ab_c50, ab_c51, ab_c52, ab_c53, ab_c54, ab_c55, ab_c56, ab_c57, ab_c58, ab_c59],
  [ab_c60, ab_c61, ab_c62, ab_c63, ab_c64, ab_c65, ab_c66, ab_c67, ab_c68, ab_c69, ab_c70, ab_c71, ab_c72, ab_c73, ab_c74, ab_c75, ab_c76, ab_c77, ab_c78, ab_c79],
  [ab_c80, ab_c81, ab_c82, ab_c83, ab_c84, ab_c85, ab_c86, ab_c87, ab_c88, ab_c89, ab_c90, ab_c91, ab_c92, ab_c93, ab_c94, ab_c95, ab_c96, ab_c97, ab_c98, ab_c99],
  [ab_c100, ab_c101, ab_c102, ab_c103, ab_c104, ab_c105, ab_c106, ab_c107, ab_c108, ab_c109, ab_c110, ab_c111, ab_c112, ab_c113, ab_c114, ab_c115, ab_c116, ab_c117, ab_c118, ab_c119],
  [ab_c120, ab_c121, ab_c122, ab_c123, ab_c124, ab_c125, ab_c126, ab_c127, ab_c128, ab_c129, ab_c130, ab_c131, ab_c132, ab_c133, ab_c134, ab_c135, ab_c136, ab_c137, ab_c138, ab_c139],
  [ab_c140, ab_c141, ab_c142, ab_c143, ab_c144, ab_c145, ab_c146, ab_c147, ab_c148, ab_c149, ab_c150, ab_c151, ab_c152, ab_c153, ab_c154, ab_c155, ab_c156, ab_c157, ab_c158, ab_c159],
  [ab_c160, ab_c161, ab_c162, ab_c163, ab_c164, ab_c165, ab_c166, ab_c167, ab_c168, ab_c169, ab_c170, ab_c171, ab_c172, ab_c173, ab_c174, ab_c175, ab_c176, ab_c177, ab_c178, ab_c179],
  [ab_c180, ab_c181, ab_c182, ab_c183, ab_c184, ab_c185, ab_c186, ab_c187, ab_c188, ab_c189, ab_c190, ab_c191, ab_c192, ab_c193, ab_c194, ab_c195, ab_c196, ab_c197, ab_c198, ab_c199],
  [ab_c200, ab_c201, ab_c202, ab_c203, ab_c204, ab_c205, ab_c206, ab_c207, ab_c208, ab_c209, ab_c210, ab_c211, ab_c212, ab_c213, ab_c214, ab_c215, ab_c216, ab_c217, ab_c218, ab_c219],
  [ab_c220, ab_c221, ab_c222, ab_c223, ab_c224, ab_c225, ab_c226, ab_c227, ab_c228, ab_c229, ab_c230, ab_c231, ab_c232, ab_c233, ab_c234, ab_c235, ab_c236, ab_c237, ab_c238, ab_c239],
  [ab_c240, ab_c241, ab_c242, ab_c243, ab_c244, ab_c245, ab_c246, ab_c247, ab_c248, ab_c249, ab_c250, ab_c251, ab_c252, ab_c253, ab_c254, ab_c255, ab_c256, ab_c257, ab_c258, ab_c259],
  [ab_c260, ab_c261, ab_c262, ab_c263, ab_c264, ab_c265, ab_c266, ab_c267, ab_c268, ab_c269, ab_c270, ab_c271, ab_c272, ab_c273, ab_c274, ab_c275, ab_c276, ab_c277, ab_c278, ab_c279],
  [ab_c280, ab_c281, ab_c282, ab_c283, ab_c284, ab_c285, ab_c286, ab_c287, ab_c288, ab_c289, ab_c290, ab_c291, ab_c292, ab_c293, ab_c294, ab_c295, ab_c296, ab_c297, ab_c298, ab_c299],
  [ab_c300, ab_c301, ab_c302, ab_c303, ab_c304, ab_c305, ab_c306, ab_c307, ab_c308, ab_c309, ab_c310, ab_c311, ab_c312, ab_c313, ab_c314, ab_c315, ab_c316, ab_c317, ab_c318, ab_c319],
  [ab_c320, ab_c321, ab_c322, ab_c323, ab_c324, ab_c325, ab_c326, ab_c327, ab_c328, ab_c329, ab_c330, ab_c331, ab_c332, ab_c333, ab_c334, ab_c335, ab_c336, ab_c337, ab_c338, ab_c339],
  [ab_c340, ab_c341, ab_c342, ab_c343, ab_c344, ab_c345, ab_c346, ab_c347, ab_c348, ab_c349, ab_c350, ab_c351, ab_c352, ab_c353, ab_c354, ab_c355, ab_c356, ab_c357, ab_c358, ab_c359],
  [ab_c360]]
noncomputable def ab_rT : List (List (Nat)) := [
  [1, 1, 0, 0, 1, 4, 1, 1, 1, 1, 4, 1, 1, 1, 2, 2, 2, 0, 0, 1],
  [0, 1, 1, 4, 1, 1, 1, 1, 1, 2, 0, 1, 1, 1, 1, 1, 1, 1, 1, 1],
  [0, 0, 0, 0, 1, 3, 1, 5, 6, 4, 6, 0, 1, 1, 0, 0, 1, 0, 1, 0],
  [0, 0, 1, 0, 1, 0, 0, 0, 0, 0, 0, 0, 4, 0, 4, 0, 0, 0, 4, 4],
  [0, 0, 0, 0, 1, 1, 0, 1, 1, 1, 1, 0, 1, 1, 1, 0, 1, 1, 0, 1],
  [1, 1, 0, 0, 1, 1, 1, 0, 1, 1, 1, 1, 1, 1, 0, 0, 0, 1, 1, 1],
  [1, 1, 1, 1, 1, 1, 1, 0, 0, 0, 1, 1, 1, 1, 1, 1, 0, 1, 1, 1],
  [1, 1, 1, 1, 1, 0, 1, 0, 1, 1, 3, 1, 2, 1, 1, 1, 1, 1, 1, 4],
  [1, 1, 2, 0, 4, 1, 2, 1, 1, 1, 1, 1, 1, 1, 1, 1, 1, 1, 1, 0],
  [2, 0, 1, 1, 2, 1, 1, 0, 0, 1, 1, 1, 1, 1, 1, 1, 1, 1, 1, 1],
  [1, 1, 1, 1, 1, 1, 1, 1, 0, 1, 1, 1, 1, 1, 1, 1, 1, 0, 0, 1],
  [2, 0, 2, 1, 1, 1, 0, 1, 0, 1, 1, 1, 4, 1, 0, 4, 1, 4, 4, 0],
  [4, 4, 0, 1, 0, 0, 0, 0, 4, 1, 1, 0, 0, 0, 0, 0, 0, 0, 0, 4],
  [0, 0, 0, 1, 1, 1, 4, 1, 0, 0, 4, 1, 1, 1, 4, 1, 4, 1, 1, 1],
  [1, 4, 4, 1, 1, 1, 1, 1, 1, 0, 1, 4, 1, 1, 4, 1, 1, 1, 4, 1],
  [1, 1, 1, 0, 1, 1, 1, 1, 1, 1, 1, 4, 0, 1, 1, 0, 1, 1, 1, 2],
  [1, 1, 2, 1, 2, 1, 4, 2, 1, 1, 1, 1, 1, 1, 4, 4, 1, 1, 1, 1],
  [1, 1, 0, 1, 1, 1, 1, 1, 1, 1, 1, 1, 1, 0, 2, 2, 1, 0, 0, 1],
  [4]]
noncomputable def ab_mT : List (List (Nat)) := [
  [6, 6, 3, 3, 2, 1, 5, 4, 5, 2, 8, 5, 3, 2, 4, 4, 1, 3, 2, 2],
  [7, 2, 5, 2, 2, 3, 3, 4, 3, 3, 2, 3, 2, 1, 1, 3, 2, 1, 4, 2],
  [4, 1, 1, 3, 4, 5, 1, 1, 2, 1, 2, 2, 3, 3, 2, 2, 4, 3, 2, 2],
  [3, 6, 3, 6, 5, 6, 2, 3, 3, 4, 4, 4, 2, 2, 2, 5, 4, 3, 1, 1],
  [2, 2, 2, 2, 5, 3, 2, 4, 4, 5, 3, 2, 1, 5, 3, 2, 4, 2, 2, 4],
  [5, 3, 2, 4, 5, 5, 3, 2, 7, 5, 3, 4, 2, 4, 4, 3, 5, 4, 2, 4],
  [2, 5, 5, 3, 4, 5, 3, 3, 3, 4, 6, 4, 4, 5, 3, 4, 5, 4, 2, 2],
  [6, 4, 4, 4, 3, 5, 2, 1, 5, 7, 3, 3, 2, 7, 9, 4, 4, 5, 5, 4],
  [2, 4, 5, 6, 4, 5, 3, 4, 5, 5, 8, 5, 5, 6, 5, 3, 6, 5, 6, 1],
  [8, 3, 3, 4, 5, 6, 2, 4, 7, 2, 6, 7, 6, 8, 6, 4, 4, 4, 2, 5],
  [5, 4, 2, 3, 4, 6, 5, 9, 6, 6, 4, 5, 4, 3, 8, 3, 5, 5, 4, 7],
  [6, 4, 3, 4, 5, 3, 3, 3, 3, 1, 8, 3, 6, 2, 2, 1, 2, 1, 2, 2],
  [3, 4, 2, 4, 1, 2, 1, 5, 3, 4, 1, 3, 3, 1, 1, 1, 2, 1, 2, 2],
  [2, 1, 3, 1, 2, 5, 3, 1, 2, 5, 2, 4, 5, 4, 2, 4, 2, 2, 4, 3],
  [4, 2, 1, 6, 3, 6, 3, 3, 4, 2, 3, 1, 3, 3, 7, 5, 5, 2, 1, 5],
  [5, 4, 3, 4, 6, 6, 2, 4, 3, 7, 2, 1, 2, 3, 2, 2, 3, 8, 2, 1],
  [3, 2, 3, 4, 6, 7, 5, 5, 3, 6, 6, 5, 4, 6, 4, 5, 6, 7, 2, 5],
  [2, 4, 3, 7, 8, 5, 7, 4, 6, 4, 1, 4, 1, 5, 5, 6, 4, 3, 3, 2],
  [8]]
noncomputable def ab_hT : List (List (List (Nat × Nat × Nat × Nat))) := [
  [[], [], [], [], [], [], [], [], [], [], [], [], [], [], [], [], [], [], [], []],
  [[], [], [], [], [], [], [], [], [], [], [], [], [], [], [], [], [], [], [(0, 9, 12, 0)], []],
  [[], [], [], [], [], [], [], [], [], [], [], [], [], [], [], [], [], [], [], []],
  [[], [], [], [], [], [], [], [], [], [], [], [], [], [], [], [], [], [], [], []],
  [[], [], [], [], [(0, 10, 13, 1), (0, 10, 17, 0)], [], [], [], [], [(0, 10, 13, 1), (0, 10, 17, 0)], [], [], [], [(0, 10, 13, 1), (0, 10, 17, 0)], [], [], [(0, 9, 12, 1)], [], [], []],
  [[(0, 10, 13, 1), (0, 10, 17, 0)], [], [], [], [], [(0, 10, 13, 1), (0, 10, 17, 0)], [], [], [], [(0, 10, 13, 1), (0, 10, 17, 0)], [], [(0, 9, 12, 0)], [], [], [], [], [], [(0, 9, 12, 0)], [], [(0, 9, 12, 0)]],
  [[], [], [(0, 10, 13, 1)], [], [], [(0, 10, 13, 1), (0, 10, 17, 0)], [], [], [], [], [(0, 12, 15, 1), (0, 12, 19, 2), (0, 12, 23, 0)], [], [], [(0, 10, 13, 1), (0, 10, 17, 2)], [], [], [], [(0, 9, 12, 1)], [], []],
  [[(0, 12, 15, 1), (0, 12, 19, 0)], [], [], [(0, 9, 12, 0)], [], [], [], [], [(0, 10, 13, 1), (0, 10, 17, 2), (0, 10, 21, 0)], [], [], [], [], [], [], [(0, 9, 12, 1), (0, 9, 15, 2)], [], [(0, 10, 13, 0), (0, 10, 17, 2)], [], []],
  [[], [(0, 8, 11, 1), (0, 8, 14, 2), (0, 8, 17, 0)], [], [], [], [(0, 9, 12, 1), (0, 9, 16, 0)], [], [(0, 9, 12, 1)], [], [(0, 10, 13, 1), (0, 10, 17, 0)], [], [(0, 10, 13, 1), (0, 10, 17, 0)], [], [], [(0, 10, 13, 1), (0, 10, 17, 0)], [], [], [(0, 10, 13, 1), (0, 10, 17, 2), (0, 10, 21, 0)], [], []],
  [[], [], [], [], [], [], [], [], [], [], [(0, 12, 15, 1), (0, 12, 19, 0)], [], [(0, 12, 15, 1), (0, 12, 19, 0)], [], [(0, 12, 15, 1), (0, 12, 19, 0)], [], [], [(0, 9, 12, 0)], [], [(0, 10, 13, 0)]],
  [[], [(0, 9, 12, 0)], [], [], [(0, 9, 12, 0)], [], [(0, 10, 13, 1), (0, 10, 17, 2), (0, 10, 21, 0)], [], [], [], [(0, 9, 12, 1), (0, 9, 15, 2), (0, 9, 18, 0)], [], [(0, 9, 12, 1), (0, 9, 15, 2), (0, 9, 18, 0)], [], [], [], [(0, 7, 10, 1), (0, 7, 14, 0)], [], [], [(0, 11, 14, 1), (0, 11, 18, 2), (0, 11, 22, 3)]],
  [[], [], [], [(0, 9, 12, 1), (0, 9, 15, 2)], [], [(0, 5, 8, 1)], [], [(0, 5, 8, 1), (0, 5, 11, 2)], [], [], [], [], [], [], [], [], [], [], [], []],
  [[], [], [], [], [], [], [], [], [], [], [], [], [], [], [], [], [], [], [], []],
  [[], [], [], [], [], [], [], [], [], [], [], [], [], [], [], [], [], [], [], []],
  [[], [], [], [], [], [], [], [], [], [], [], [], [], [], [], [], [], [], [], []],
  [[], [], [], [], [], [], [], [], [], [], [], [], [], [], [], [], [], [], [], []],
  [[], [], [], [], [], [], [], [], [], [], [], [], [], [], [], [], [], [], [], []],
  [[], [], [], [], [], [], [], [], [], [], [], [], [], [], [], [], [], [], [], []],
  [[]]]
/-- the kind of the receiver that a method asks for; 99: none -/
noncomputable def ab_rkT : List (List (Nat)) := [
  [0, 1, 1, 99, 0, 0, 2, 2, 2, 99, 4, 99, 99, 99, 99, 99, 0, 6, 99, 99],
  [6, 3, 3, 2, 3, 99, 6, 6, 99, 0, 6, 6, 6, 0, 0, 2, 0, 99, 99, 0],
  [1, 2, 4, 1, 1, 1, 11, 11, 11, 11, 99, 99, 99, 1, 1, 1, 1, 2, 99, 1],
  [1, 1, 3, 1, 3, 3, 2, 1, 2, 1, 1, 1, 1, 4, 1, 1, 1, 1, 10, 10],
  [2, 3, 4, 5, 99, 0, 0, 3, 2, 99, 0, 0, 99, 99, 0, 0, 99, 0, 0, 2],
  [99, 0, 0, 0, 2, 99, 0, 0, 6, 99, 0, 99, 0, 2, 2, 6, 5, 99, 0, 99],
  [0, 2, 99, 0, 2, 99, 0, 0, 2, 2, 99, 0, 2, 99, 0, 2, 3, 99, 0, 2],
  [99, 0, 2, 99, 0, 2, 5, 5, 99, 0, 0, 0, 8, 2, 0, 99, 0, 99, 0, 0],
  [0, 99, 0, 0, 6, 99, 0, 99, 0, 99, 0, 99, 0, 6, 99, 0, 6, 99, 0, 7],
  [6, 7, 7, 7, 7, 99, 99, 7, 7, 7, 99, 0, 99, 0, 99, 0, 6, 99, 0, 99],
  [0, 99, 0, 6, 99, 0, 99, 0, 0, 6, 99, 0, 99, 0, 2, 2, 99, 0, 8, 99],
  [0, 8, 8, 99, 0, 99, 0, 99, 0, 9, 9, 9, 99, 9, 9, 99, 9, 99, 99, 9],
  [9, 9, 9, 9, 9, 9, 9, 9, 9, 99, 9, 9, 9, 9, 9, 9, 9, 9, 9, 9],
  [9, 9, 9, 9, 9, 9, 9, 9, 9, 9, 99, 9, 9, 9, 9, 9, 9, 9, 9, 9],
  [9, 9, 99, 9, 9, 9, 9, 9, 9, 9, 9, 9, 9, 99, 9, 9, 99, 99, 9, 9],
  [9, 9, 9, 9, 9, 9, 9, 9, 9, 9, 9, 99, 9, 9, 9, 9, 9, 9, 9, 9],
  [9, 99, 9, 9, 9, 9, 9, 9, 9, 9, 9, 9, 9, 9, 9, 9, 9, 9, 9, 9],
  [9, 9, 9, 9, 9, 9, 9, 9, 9, 9, 9, 9, 9, 9, 9, 9, 9, 9, 9, 9],
  [98]]
def ab_2 {α : Type} (T : List (List α)) (i : Nat) (d : α) : α := (T.getD (i / 20) []).getD (i % 20) d
noncomputable def ab_rt (m : Nat) : Nat := ab_2 ab_rT m 0
noncomputable def ab_ml (m : Nat) : Nat := ab_2 ab_mT m 0
noncomputable def ab_hs (m : Nat) : List (Nat × Nat × Nat × Nat) := ab_2 ab_hT m []
def ab_lk (l : List (Nat × ab_I × Nat)) (pc : Nat) : Option (ab_I × Nat) := match l with
  | [] => none
  | (p, r) :: l' => bif Nat.beq p pc then some r else ab_lk l' pc
noncomputable def ab_code (m pc : Nat) : Option (ab_I × Nat) := ab_lk ((ab_2 ab_cT m []).getD (pc / 16) []) pc
/-- a field's value: (0 z) (1 y) (2 token) (3 i) (4 a reference of the same number) (5 a reference of a given one) (6 the token's law) (7 the token's text) (8 int 0) -/
def ab_fv (s : ab_S) (i : Nat) (f : Nat × Nat × Nat) : ab_V :=
  match f.1 with
  | 0 => .inl (.int (sz s f.2.1))
  | 1 => .inl (.long (sy s f.2.1))
  | 2 => .inr (10, st s f.2.1)
  | 3 => .inl (.int (si s f.2.1 i))
  | 4 => .inr (f.2.1, i)
  | 5 => .inr (f.2.1, f.2.2)
  | 6 => .inl (.int (ab_tl i))
  | 7 => .inr (11, ab_tx i)
  | _ => .inl (.int 0)
def ab_gf (k i pos : Nat) (s : ab_S) : Option ab_V :=
  match ab_kds[k]? with
  | some (.inl (_, fs)) => match fs[pos]? with
    | some f => some (ab_fv s i f)
    | none => none
  | _ => none
def ab_pf (k i pos : Nat) (v : ab_V) (s : ab_S) : Option ab_S :=
  match ab_kds[k]? with
  | some (.inl (_, fs)) => match fs[pos]? with
    | some (0, f, _) => match v with
      | .inl (.int x) => some (pz s f x)
      | _ => none
    | some (1, f, _) => match v with
      | .inl (.long x) => some (py s f x)
      | _ => none
    | some (2, f, _) => match v with
      | .inr (k', t) => bif Nat.beq k' 10 then some (pt s f t) else none
      | _ => none
    | some (3, f, _) => match v with
      | .inl (.int x) => some (pi s f (va_up (si s f) i x))
      | _ => none
    | _ => none
  | _ => none
/-- the array at (k, i): its length -/
def ab_len (X : (Nat → Int32) × Nat) (k i : Nat) : Option Nat :=
  match ab_kds[k]? with
  | some (.inr (_, n, so, _)) => match so with
    | 6 => some X.2
    | 7 => some (ab_sl i)
    | _ => some n
  | _ => none
/-- an int of an array -/
def ab_ai (X : (Nat → Int32) × Nat) (k i : Nat) (s : ab_S) : Option (Nat → Int32) :=
  match ab_kds[k]? with
  | some (.inr (_, _, so, id)) => match so with
    | 0 => some (sa s id)
    | 1 => some (sA s id i)
    | 6 => some X.1
    | 7 => some (ab_sb i)
    | _ => none
  | _ => none
def ab_al (k i : Nat) (s : ab_S) : Option (Nat → Int64) :=
  match ab_kds[k]? with
  | some (.inr (_, _, so, id)) => match so with
    | 2 => some (sb s id)
    | 3 => some (sB s id i)
    | _ => none
  | _ => none
def ab_wi (k i : Nat) (f : Nat → Int32) (s : ab_S) : Option ab_S :=
  match ab_kds[k]? with
  | some (.inr (_, _, so, id)) => match so with
    | 0 => some (pa s id f)
    | 1 => some (pA s id (va_up (sA s id) i f))
    | _ => none
  | _ => none
def ab_wl (k i : Nat) (f : Nat → Int64) (s : ab_S) : Option ab_S :=
  match ab_kds[k]? with
  | some (.inr (_, _, so, id)) => match so with
    | 2 => some (pb s id f)
    | 3 => some (pB s id (va_up (sB s id) i f))
    | _ => none
  | _ => none
def ab_wr (k j : Nat) (v : ab_V) (s : ab_S) : Option ab_S :=
  match ab_kds[k]? with
  | some (.inr (ek, _, so, id)) => match so with
    | 4 => match v with
      | .inr (k', t) => bif Nat.beq k' ek then some (pq s id (va_up (sq s id) j (some t))) else none
      | _ => none
    | _ => none
  | _ => none
def ab_in (i : Int32) (n : Nat) : Prop := ¬ (i < 0 ∨ n ≤ i.toNatClampNeg)
def ab_ent (n : Nat) (as : List ab_V) : ab_L :=
  match as with
  | [] => List.replicate n none
  | .inl (.long x) :: as' => some (.inl (.long x)) :: none :: ab_ent (n - 2) as'
  | v :: as' => some v :: ab_ent (n - 1) as'
def ab_pop : Nat → List ab_V → List ab_V → Option (List ab_V × List ab_V)
  | 0, K, acc => some (acc, K)
  | n + 1, v :: K, acc => ab_pop n K (v :: acc)
  | _ + 1, [], _ => none
def ab_cat (v : ab_V) : Nat := match v with
  | .inl (.long _) => 2
  | .inl (.double _) => 2
  | _ => 1
def ab_sum (K : List ab_V) : Nat := match K with
  | [] => 0
  | v :: K' => ab_cat v + ab_sum K'
section ABX
variable {α : Type}
def ab_pI (K : List ab_V) (f : Int32 → List ab_V → Option α) : Option α := match K with
  | .inl (.int x) :: K' => f x K'
  | _ => none
def ab_pJ (K : List ab_V) (f : Int64 → List ab_V → Option α) : Option α := match K with
  | .inl (.long x) :: K' => f x K'
  | _ => none
def ab_pR (K : List ab_V) (f : Nat → Nat → List ab_V → Option α) : Option α := match K with
  | .inr (k, i) :: K' => f k i K'
  | _ => none
def ab_pA (K : List ab_V) (f : ab_V → List ab_V → Option α) : Option α := match K with
  | .inr r :: K' => f (.inr r) K'
  | .inl .null :: K' => f (.inl .null) K'
  | _ => none
def ab_p (K : List ab_V) (f : ab_V → List ab_V → Option α) : Option α := match K with
  | v :: K' => f v K'
  | _ => none
def ab_lI (L : ab_L) (i : Nat) (f : Int32 → Option α) : Option α := match L[i]? with
  | some (some (.inl (.int x))) => f x
  | _ => none
def ab_lJ (L : ab_L) (i : Nat) (f : Int64 → Option α) : Option α := match L[i]? with
  | some (some (.inl (.long x))) => f x
  | _ => none
def ab_lA (L : ab_L) (i : Nat) (f : ab_V → Option α) : Option α := match L[i]? with
  | some (some (.inr r)) => f (.inr r)
  | some (some (.inl .null)) => f (.inl .null)
  | _ => none
/-- what stands in a variable when the one behind it is written -/
def ab_clr (L : ab_L) (i : Nat) : ab_L := match i with
  | 0 => L
  | j + 1 => match L[j]? with
    | some (some (.inl (.long _))) => L.set j none
    | _ => L
def ab_s1 (L : ab_L) (i : Nat) (v : Option ab_V) (f : ab_L → Option α) : Option α := bif Nat.blt i L.length then f ((ab_clr L i).set i v) else none
def ab_s2 (L : ab_L) (i : Nat) (v : ab_V) (f : ab_L → Option α) : Option α := bif Nat.blt (i + 1) L.length then f (((ab_clr L i).set i (some v)).set (i + 1) none) else none
def ab_br (c : Jvm.ClassFile.Cond) (x y : Int32) (a b : Option α) : Option α := match c with
  | .eq => if x = y then a else b
  | .ne => if x = y then b else a
  | .lt => if x < y then a else b
  | .ge => if y ≤ x then a else b
  | .gt => if y < x then a else b
  | .le => if x ≤ y then a else b
def ab_tg (pc : Nat) (off : Int) : Nat := ((pc : Int) + off).toNat
def ab_rI (X : (Nat → Int32) × Nat) (k i : Nat) (j : Int32) (s : ab_S) (f : Int32 → Option α) : Option α :=
  match ab_len X k i, ab_ai X k i s with
  | some n, some g => if j < 0 ∨ n ≤ j.toNatClampNeg then none else f (g j.toNatClampNeg)
  | _, _ => none
def ab_rL (X : (Nat → Int32) × Nat) (k i : Nat) (j : Int32) (s : ab_S) (f : Int64 → Option α) : Option α :=
  match ab_len X k i, ab_al k i s with
  | some n, some g => if j < 0 ∨ n ≤ j.toNatClampNeg then none else f (g j.toNatClampNeg)
  | _, _ => none
def ab_rA (X : (Nat → Int32) × Nat) (k i : Nat) (j : Int32) (s : ab_S) (f : ab_V → Option α) : Option α :=
  match ab_len X k i, ab_kds[k]? with
  | some n, some (.inr (ek, _, so, id)) => if j < 0 ∨ n ≤ j.toNatClampNeg then none else match so with
    | 4 => match sq s id j.toNatClampNeg with
      | none => f (.inl .null)
      | some t => f (.inr (ek, t))
    | 8 => f (.inr (10, j.toNatClampNeg))
    | _ => none
  | _, _ => none
def ab_uI (X : (Nat → Int32) × Nat) (k i : Nat) (j x : Int32) (s : ab_S) (f : ab_S → Option α) : Option α :=
  match ab_len X k i, ab_ai X k i s with
  | some n, some g => if j < 0 ∨ n ≤ j.toNatClampNeg then none else match ab_wi k i (va_up g j.toNatClampNeg x) s with
    | some s' => f s'
    | none => none
  | _, _ => none
def ab_uL (X : (Nat → Int32) × Nat) (k i : Nat) (j : Int32) (x : Int64) (s : ab_S) (f : ab_S → Option α) : Option α :=
  match ab_len X k i, ab_al k i s with
  | some n, some g => if j < 0 ∨ n ≤ j.toNatClampNeg then none else match ab_wl k i (va_up g j.toNatClampNeg x) s with
    | some s' => f s'
    | none => none
  | _, _ => none
def ab_uA (X : (Nat → Int32) × Nat) (k i : Nat) (j : Int32) (v : ab_V) (s : ab_S) (f : ab_S → Option α) : Option α :=
  match ab_len X k i with
  | some n => if j < 0 ∨ n ≤ j.toNatClampNeg then none else match ab_wr k j.toNatClampNeg v s with
    | some s' => f s'
    | none => none
  | none => none
/-- plain instructions; rt: what the method answers (0 none, 1 int, 2 long, 3 a reference, 4 boolean, 5 byte, 6 char) -/
def ab_x (X : (Nat → Int32) × Nat) (rt : Nat) (I : Instr) (n pc : Nat) (L : ab_L) (K : List ab_V) (s : ab_S) (g : Nat → ab_L → List ab_V → ab_S → Option α) (r : Option ab_V → Option α) : Option α :=
  match I with
  | .aload i => ab_lA L i fun v => g (pc + n) L (v :: K) s
  | .aload_n i => ab_lA L i.val fun v => g (pc + n) L (v :: K) s
  | .iload i => ab_lI L i fun x => g (pc + n) L (.inl (.int x) :: K) s
  | .iload_n i => ab_lI L i.val fun x => g (pc + n) L (.inl (.int x) :: K) s
  | .lload i => ab_lJ L i fun x => g (pc + n) L (.inl (.long x) :: K) s
  | .lload_n i => ab_lJ L i.val fun x => g (pc + n) L (.inl (.long x) :: K) s
  | .astore i => ab_pA K fun v K => ab_s1 L i (some v) fun L => g (pc + n) L K s
  | .astore_n i => ab_pA K fun v K => ab_s1 L i.val (some v) fun L => g (pc + n) L K s
  | .istore i => ab_pI K fun x K => ab_s1 L i (some (.inl (.int x))) fun L => g (pc + n) L K s
  | .istore_n i => ab_pI K fun x K => ab_s1 L i.val (some (.inl (.int x))) fun L => g (pc + n) L K s
  | .lstore i => ab_pJ K fun x K => ab_s2 L i (.inl (.long x)) fun L => g (pc + n) L K s
  | .lstore_n i => ab_pJ K fun x K => ab_s2 L i.val (.inl (.long x)) fun L => g (pc + n) L K s
  | .iinc i v => ab_lI L i fun x => ab_s1 L i (some (.inl (.int (x + Int32.ofInt v)))) fun L => g (pc + n) L K s
  | .iconst v => g (pc + n) L (.inl (.int (Int32.ofInt v)) :: K) s
  | .bipush v => g (pc + n) L (.inl (.int (Int32.ofInt v)) :: K) s
  | .sipush v => g (pc + n) L (.inl (.int (Int32.ofInt v)) :: K) s
  | .lconst v => g (pc + n) L (.inl (.long (Int64.ofNat v.val)) :: K) s
  | .iadd => ab_pI K fun y K => ab_pI K fun x K => g (pc + n) L (.inl (.int (x + y)) :: K) s
  | .isub => ab_pI K fun y K => ab_pI K fun x K => g (pc + n) L (.inl (.int (x - y)) :: K) s
  | .imul => ab_pI K fun y K => ab_pI K fun x K => g (pc + n) L (.inl (.int (x * y)) :: K) s
  | .iand => ab_pI K fun y K => ab_pI K fun x K => g (pc + n) L (.inl (.int (x &&& y)) :: K) s
  | .ior => ab_pI K fun y K => ab_pI K fun x K => g (pc + n) L (.inl (.int (x ||| y)) :: K) s
  | .ixor => ab_pI K fun y K => ab_pI K fun x K => g (pc + n) L (.inl (.int (x ^^^ y)) :: K) s
  | .ishl => ab_pI K fun y K => ab_pI K fun x K => g (pc + n) L (.inl (.int (x <<< (y &&& 31))) :: K) s
  | .ishr => ab_pI K fun y K => ab_pI K fun x K => g (pc + n) L (.inl (.int (x >>> (y &&& 31))) :: K) s
  | .iushr => ab_pI K fun y K => ab_pI K fun x K => g (pc + n) L (.inl (.int ((x.toUInt32 >>> (y.toUInt32 &&& Int32.toUInt32 31)).toInt32)) :: K) s
  | .idiv => ab_pI K fun y K => ab_pI K fun x K => if y = 0 then none else g (pc + n) L (.inl (.int (x / y)) :: K) s
  | .irem => ab_pI K fun y K => ab_pI K fun x K => if y = 0 then none else g (pc + n) L (.inl (.int (x - x / y * y)) :: K) s
  | .ineg => ab_pI K fun x K => g (pc + n) L (.inl (.int (-x)) :: K) s
  | .ladd => ab_pJ K fun y K => ab_pJ K fun x K => g (pc + n) L (.inl (.long (x + y)) :: K) s
  | .lsub => ab_pJ K fun y K => ab_pJ K fun x K => g (pc + n) L (.inl (.long (x - y)) :: K) s
  | .lmul => ab_pJ K fun y K => ab_pJ K fun x K => g (pc + n) L (.inl (.long (x * y)) :: K) s
  | .land => ab_pJ K fun y K => ab_pJ K fun x K => g (pc + n) L (.inl (.long (x &&& y)) :: K) s
  | .lor => ab_pJ K fun y K => ab_pJ K fun x K => g (pc + n) L (.inl (.long (x ||| y)) :: K) s
  | .lxor => ab_pJ K fun y K => ab_pJ K fun x K => g (pc + n) L (.inl (.long (x ^^^ y)) :: K) s
  | .ldiv => ab_pJ K fun y K => ab_pJ K fun x K => if y = 0 then none else g (pc + n) L (.inl (.long (x / y)) :: K) s
  | .lrem => ab_pJ K fun y K => ab_pJ K fun x K => if y = 0 then none else g (pc + n) L (.inl (.long (x - x / y * y)) :: K) s
  | .lneg => ab_pJ K fun x K => g (pc + n) L (.inl (.long (-x)) :: K) s
  | .lshl => ab_pI K fun y K => ab_pJ K fun x K => g (pc + n) L (.inl (.long (x <<< (y.toInt64 &&& 63))) :: K) s
  | .lshr => ab_pI K fun y K => ab_pJ K fun x K => g (pc + n) L (.inl (.long (x >>> (y.toInt64 &&& 63))) :: K) s
  | .lushr => ab_pI K fun y K => ab_pJ K fun x K => g (pc + n) L (.inl (.long ((x.toUInt64 >>> (y.toInt64.toUInt64 &&& Int64.toUInt64 63)).toInt64)) :: K) s
  | .lcmp => ab_pJ K fun y K => ab_pJ K fun x K => g (pc + n) L (.inl (.int (lg_cmp x y)) :: K) s
  | .i2l => ab_pI K fun x K => g (pc + n) L (.inl (.long x.toInt64) :: K) s
  | .l2i => ab_pJ K fun x K => g (pc + n) L (.inl (.int x.toInt32) :: K) s
  | .i2b => ab_pI K fun x K => g (pc + n) L (.inl (.int x.toInt8.toInt32) :: K) s
  | .i2s => ab_pI K fun x K => g (pc + n) L (.inl (.int x.toInt16.toInt32) :: K) s
  | .i2c => ab_pI K fun x K => g (pc + n) L (.inl (.int (x.toUInt32 % 65536).toInt32) :: K) s
  | .pop => ab_pI K fun _ K => g (pc + n) L K s
  | .dup => ab_p K fun v K => bif Nat.beq (ab_cat v) 1 then g (pc + n) L (v :: v :: K) s else none
  | .dup2 => ab_p K fun v K => ab_p K fun w K => bif Nat.beq (ab_cat v) 1 && Nat.beq (ab_cat w) 1 then g (pc + n) L (v :: w :: v :: w :: K) s else none
  | .pop2 => ab_pJ K fun _ K => g (pc + n) L K s
  | .goto o => g (ab_tg pc o) L K s
  | .ifCond c o => ab_pI K fun x K => ab_br c x 0 (g (ab_tg pc o) L K s) (g (pc + n) L K s)
  | .if_icmp c o => ab_pI K fun y K => ab_pI K fun x K => ab_br c x y (g (ab_tg pc o) L K s) (g (pc + n) L K s)
  | .if_acmp c o => ab_pR K fun k2 i2 K => ab_pR K fun k1 i1 K => bif Nat.beq k1 10 && Nat.beq k2 10 then (match c with
      | .eq => if i1 = i2 then g (ab_tg pc o) L K s else g (pc + n) L K s
      | .ne => if i1 = i2 then g (pc + n) L K s else g (ab_tg pc o) L K s) else none
  | .ifnull o => match K with
    | .inl .null :: K => g (ab_tg pc o) L K s
    | .inr q :: K => bif Nat.beq q.1 55 then none else g (pc + n) L K s
    | _ => none
  | .ifnonnull o => match K with
    | .inl .null :: K => g (pc + n) L K s
    | .inr q :: K => bif Nat.beq q.1 55 then none else g (ab_tg pc o) L K s
    | _ => none
  | .tableswitch d lo hi offs => ab_pI K fun x K => if x.toInt < lo ∨ hi < x.toInt then g (ab_tg pc d) L K s else match offs[(x.toInt - lo).toNat]? with
    | some o => g (ab_tg pc o) L K s
    | none => none
  | .lookupswitch d ps => ab_pI K fun x K => g (ab_tg pc (Op.lookupswitch.offset ps.toList d x.toInt)) L K s
  | .arraylength => ab_pR K fun k i K => match ab_len X k i with
    | some m => g (pc + n) L (.inl (.int (Int32.ofNat m)) :: K) s
    | none => none
  | .iaload => ab_pI K fun j K => ab_pR K fun k i K => bif ab_isi k then ab_rI X k i j s fun x => g (pc + n) L (.inl (.int x) :: K) s else none
  | .baload => ab_pI K fun j K => ab_pR K fun k i K => bif ab_isb k then ab_rI X k i j s fun x => g (pc + n) L (.inl (.int x) :: K) s else none
  | .laload => ab_pI K fun j K => ab_pR K fun k i K => ab_rL X k i j s fun x => g (pc + n) L (.inl (.long x) :: K) s
  | .aaload => ab_pI K fun j K => ab_pR K fun k i K => ab_rA X k i j s fun v => g (pc + n) L (v :: K) s
  | .iastore => ab_pI K fun x K => ab_pI K fun j K => ab_pR K fun k i K => bif ab_isi k then ab_uI X k i j x s fun s => g (pc + n) L K s else none
  | .bastore => ab_pI K fun x K => ab_pI K fun j K => ab_pR K fun k i K => if x = 1 then (bif ab_isb k then ab_uI X k i j 1 s fun s => g (pc + n) L K s else none) else none
  | .lastore => ab_pJ K fun x K => ab_pI K fun j K => ab_pR K fun k i K => ab_uL X k i j x s fun s => g (pc + n) L K s
  | .aastore => ab_p K fun v K => ab_pI K fun j K => ab_pR K fun k i K => ab_uA X k i j v s fun s => g (pc + n) L K s
  | .ireturn => match K with
    | [.inl (.int x)] => match rt with
      | 1 => r (some (.inl (.int x)))
      | 4 => if x = 0 then r (some (.inl (.int 0))) else if x = 1 then r (some (.inl (.int 1))) else none
      | 5 => if x.toInt8.toInt32 = x then r (some (.inl (.int x))) else none
      | 6 => if (x.toUInt32 % 65536).toInt32 = x then r (some (.inl (.int x))) else none
      | _ => none
    | _ => none
  | .lreturn => match K with
    | [.inl (.long x)] => match rt with
      | 2 => r (some (.inl (.long x)))
      | _ => none
    | _ => none
  | .areturn => match K with
    | [.inr v] => match rt with
      | 3 => r (some (.inr v))
      | _ => none
    | _ => none
  | .return_ => match K with
    | [] => match rt with
      | 0 => r none
      | _ => none
    | _ => none
  | _ => none
end ABX
abbrev ab_O : Type := Option ab_V ⊕ Nat
/-- a row of bytes read and written by System.arraycopy: ints alone -/
def ab_cpy (X : (Nat → Int32) × Nat) (k0 i0 : Nat) (sp : Int32) (k1 i1 : Nat) (dp n : Int32) (s : ab_S) : Option ab_S :=
  match ab_len X k0 i0, ab_ai X k0 i0 s, ab_len X k1 i1, ab_ai X k1 i1 s with
  | some n0, some f, some n1, some g => bif ab_isi k0 && ab_isi k1 then (if sp < 0 ∨ dp < 0 ∨ n < 0 ∨ n0 < sp.toNatClampNeg + n.toNatClampNeg ∨ n1 < dp.toNatClampNeg + n.toNatClampNeg then none else ab_wi k1 i1 (va_cpy f g sp.toNatClampNeg dp.toNatClampNeg n.toNatClampNeg) s) else none
  | _, _, _, _ => none
/-- the receiver is of the kind that the method asks for -/
def ab_rk (k : Nat) (as : List ab_V) : Bool := bif Nat.beq k 99 then true else match as with
  | .inr (k', _) :: _ => Nat.beq k' k
  | _ => false
/-- where a row of the method's table takes up what was thrown at pc -/
def ab_hd (hs : List (Nat × Nat × Nat × Nat)) (pc E : Nat) : Option Nat := match hs with
  | [] => none
  | (a, b, h, e) :: hs' => bif Nat.ble a pc && Nat.blt pc b && ab_cs E e then some h else ab_hd hs' pc E
noncomputable def ab_run (X : (Nat → Int32) × Nat) : Nat → Nat → Nat → Nat → ab_L → List ab_V → ab_S → Option (ab_O × ab_S)
  | 0, _, _, _, _, _, _ => none
  | q + 1, d, m, pc, L, K, s =>
    match ab_code m pc with
    | some (.inl I, n) => ab_x X (ab_rt m) I n pc L K s (fun pc L K s => ab_run X q d m pc L K s) (fun v => some (.inl v, s))
    | some (.inr (op, a, b), n) => match op with
      | 0 => ab_pR K fun k i K => bif Nat.beq k a then (match ab_gf k i b.toNat s with
        | some v => ab_run X q d m (pc + n) L (v :: K) s
        | none => none) else none
      | 1 => ab_p K fun v K => ab_pR K fun k i K => bif Nat.beq k a then (match ab_pf k i b.toNat v s with
        | some s => ab_run X q d m (pc + n) L K s
        | none => none) else none
      | 2 => match d, ab_pop b.toNat K [] with
        | d' + 1, some (as, K) => bif Nat.ble (ab_sum K) 8 && Nat.ble (ab_sum as) (ab_ml a) && ab_rk (ab_2 ab_rkT a 99) as then (match ab_run X q d' a 0 (ab_ent (ab_ml a) as) [] s with
          | some (.inl none, s) => ab_run X q d m (pc + n) L K s
          | some (.inl (some v), s) => ab_run X q d m (pc + n) L (v :: K) s
          | some (.inr E, s) => match ab_hd (ab_hs m) pc E with
            | none => some (.inr E, s)
            | some h => match ab_code m h with
              | some (.inl (.astore_n j), n) => ab_s1 L j.val none fun L => ab_run X q d m (h + n) L [] s
              | some (.inl (.astore j), n) => ab_s1 L j none fun L => ab_run X q d m (h + n) L [] s
              | _ => none
          | none => none) else none
        | _, _ => none
      | 3 => ab_run X q d m (pc + n) L (.inr (10, a) :: K) s
      | 4 => ab_run X q d m (pc + n) L (.inr (13, 0) :: K) s
      | 5 => ab_run X q d m (pc + n) L (.inl (.int (Int32.ofInt b)) :: K) s
      | 6 => ab_run X q d m (pc + n) L (.inr (ab_fmk, 0) :: K) s
      | 7 => ab_run X q d m (pc + n) L (.inr (11, a) :: K) s
      | 8 => ab_run X q d m (pc + n) L (.inl (.int (Int32.ofInt b)) :: K) s
      | 9 => ab_run X q d m (pc + n) L (.inl (.long (Int64.ofInt b)) :: K) s
      | 10 => match ab_hs m with
        | [] => bif Nat.ble (ab_sum K) 8 then some (.inr a, pn (pn s 0 (sn s 0 + 1)) 1 (sn s 1 + 6)) else none
        | _ => none
      | 11 => match a with
        | 2 => bif Nat.ble (ab_sum K) 8 then ab_run X q d m (pc + n) L (.inr (2, sn s 2) :: K) (ab_newT s) else none
        | 8 => bif Nat.ble (ab_sum K) 8 then ab_run X q d m (pc + n) L (.inr (8, sn s 3) :: K) (ab_newR s) else none
        | _ => none
      | 12 => match K with
        | .inl (.int c) :: .inl (.int dp) :: .inr (k1, i1) :: .inl (.int sp) :: .inr (k0, i0) :: K => match (bif Nat.ble (ab_sum K) 8 then ab_cpy X k0 i0 sp k1 i1 dp c s else none) with
          | some s => ab_run X q d m (pc + n) L K s
          | none => none
        | _ => none
      | _ => none
    | none => none
