section
/-! AN ABSTRACT MACHINE over the claim's own objects: references are (kind, number), the objects' fields and arrays are plain functions. Part 'sound' shows that what it reckons the machine does. -/
abbrev ab_V : Type := Value ⊕ (Nat × Nat)
abbrev ab_L : Type := List (Option ab_V)
abbrev ab_I : Type := Instr ⊕ (Nat × Nat × Int)
/-- ints, longs, tokens of single objects; ints of many; int arrays of single objects, of many; long arrays of single objects, of many; arrays of references; counts -/
abbrev ab_S : Type := (Nat → Int32) × (Nat → Int64) × (Nat → Nat) × (Nat → Nat → Int32) × (Nat → Nat → Int32) × (Nat → Nat → Nat → Int32) × (Nat → Nat → Int64) × (Nat → Nat → Nat → Int64) × (Nat → Nat → Option Nat) × (Nat → Nat)
def sz (s : ab_S) (k : Nat) : Int32 := s.1 k
def sy (s : ab_S) (k : Nat) : Int64 := s.2.1 k
def st (s : ab_S) (k : Nat) : Nat := s.2.2.1 k
def si (s : ab_S) (k : Nat) : Nat → Int32 := s.2.2.2.1 k
def sa (s : ab_S) (k : Nat) : Nat → Int32 := s.2.2.2.2.1 k
def sA (s : ab_S) (k : Nat) : Nat → Nat → Int32 := s.2.2.2.2.2.1 k
def sb (s : ab_S) (k : Nat) : Nat → Int64 := s.2.2.2.2.2.2.1 k
def sB (s : ab_S) (k : Nat) : Nat → Nat → Int64 := s.2.2.2.2.2.2.2.1 k
def sq (s : ab_S) (k : Nat) : Nat → Option Nat := s.2.2.2.2.2.2.2.2.1 k
def sn (s : ab_S) (k : Nat) : Nat := s.2.2.2.2.2.2.2.2.2 k
def pz (s : ab_S) (k : Nat) (v : Int32) : ab_S := (va_up s.1 k v, s.2)
def py (s : ab_S) (k : Nat) (v : Int64) : ab_S := (s.1, va_up s.2.1 k v, s.2.2)
def pt (s : ab_S) (k : Nat) (v : Nat) : ab_S := (s.1, s.2.1, va_up s.2.2.1 k v, s.2.2.2)
def pi (s : ab_S) (k : Nat) (v : Nat → Int32) : ab_S := (s.1, s.2.1, s.2.2.1, va_up s.2.2.2.1 k v, s.2.2.2.2)
def pa (s : ab_S) (k : Nat) (v : Nat → Int32) : ab_S := (s.1, s.2.1, s.2.2.1, s.2.2.2.1, va_up s.2.2.2.2.1 k v, s.2.2.2.2.2)
def pA (s : ab_S) (k : Nat) (v : Nat → Nat → Int32) : ab_S := (s.1, s.2.1, s.2.2.1, s.2.2.2.1, s.2.2.2.2.1, va_up s.2.2.2.2.2.1 k v, s.2.2.2.2.2.2)
def pb (s : ab_S) (k : Nat) (v : Nat → Int64) : ab_S := (s.1, s.2.1, s.2.2.1, s.2.2.2.1, s.2.2.2.2.1, s.2.2.2.2.2.1, va_up s.2.2.2.2.2.2.1 k v, s.2.2.2.2.2.2.2)
def pB (s : ab_S) (k : Nat) (v : Nat → Nat → Int64) : ab_S := (s.1, s.2.1, s.2.2.1, s.2.2.2.1, s.2.2.2.2.1, s.2.2.2.2.2.1, s.2.2.2.2.2.2.1, va_up s.2.2.2.2.2.2.2.1 k v, s.2.2.2.2.2.2.2.2)
def pq (s : ab_S) (k : Nat) (v : Nat → Option Nat) : ab_S := (s.1, s.2.1, s.2.2.1, s.2.2.2.1, s.2.2.2.2.1, s.2.2.2.2.2.1, s.2.2.2.2.2.2.1, s.2.2.2.2.2.2.2.1, va_up s.2.2.2.2.2.2.2.2.1 k v, s.2.2.2.2.2.2.2.2.2)
def pn (s : ab_S) (k : Nat) (v : Nat) : ab_S := (s.1, s.2.1, s.2.2.1, s.2.2.2.1, s.2.2.2.2.1, s.2.2.2.2.2.1, s.2.2.2.2.2.2.1, s.2.2.2.2.2.2.2.1, s.2.2.2.2.2.2.2.2.1, va_up s.2.2.2.2.2.2.2.2.2 k v)
abbrev ab_kds : List ((Nat × List (Nat × Nat × Nat)) ⊕ (Nat × Nat × Nat × Nat)) := [
  .inl (0, [(5, 1, 0), (5, 2, 0), (5, 2, 1), (5, 6, 0), (5, 7, 0), (4, 16, 0), (4, 17, 0), (0, 0, 0)]),
  .inl (1, [(4, 18, 0), (0, 1, 0), (0, 2, 0), (0, 3, 0), (0, 4, 0), (0, 5, 0), (0, 6, 0), (0, 7, 0), (2, 0, 0)]),
  .inl (2, [(3, 0, 0), (3, 1, 0), (3, 2, 0), (3, 3, 0), (3, 4, 0), (3, 5, 0), (3, 6, 0), (4, 19, 0), (4, 20, 0), (4, 21, 0), (4, 3, 0), (4, 4, 0), (4, 5, 0)]),
  .inl (3, [(4, 22, 0), (4, 23, 0), (4, 24, 0), (3, 7, 0)]),
  .inl (4, [(4, 25, 0), (4, 26, 0), (3, 8, 0)]),
  .inl (5, [(4, 27, 0), (3, 9, 0)]),
  .inl (6, [(0, 8, 0), (0, 9, 0), (4, 28, 0), (4, 29, 0), (4, 30, 0), (4, 31, 0), (4, 32, 0), (4, 33, 0)]),
  .inl (7, [(4, 34, 0), (4, 35, 0), (0, 10, 0)]),
  .inl (8, [(4, 36, 0), (3, 10, 0), (3, 11, 0)]),
  .inl (9, [(4, 37, 0), (4, 38, 0), (4, 39, 0), (4, 40, 0), (0, 11, 0), (4, 41, 0), (0, 12, 0), (0, 13, 0), (0, 14, 0), (0, 15, 0), (0, 16, 0), (0, 17, 0), (0, 18, 0), (0, 19, 0), (0, 20, 0), (0, 21, 0), (0, 22, 0), (4, 42, 0), (4, 43, 0), (4, 44, 0), (4, 45, 0), (4, 46, 0), (4, 47, 0), (4, 48, 0), (0, 23, 0), (4, 49, 0), (4, 50, 0), (4, 51, 0), (1, 0, 0), (4, 52, 0), (4, 53, 0), (4, 54, 0)]),
  .inl (10, [(7, 0, 0), (6, 0, 0)]),
  .inl (11, [(4, 12, 0), (8, 0, 0)]),
  .inr (0, 0, 7, 0),
  .inr (10, 33, 8, 0),
  .inr (0, 0, 6, 0),
  .inr (1, 1, 2, 3),
  .inr (8, 4, 4, 0),
  .inr (2, 3, 4, 1),
  .inr (0, 900, 0, 0),
  .inr (0, 20, 1, 0),
  .inr (0, 8, 1, 1),
  .inr (0, 8, 1, 2),
  .inr (0, 80, 1, 3),
  .inr (0, 4, 1, 4),
  .inr (0, 4, 1, 5),
  .inr (0, 900, 1, 6),
  .inr (0, 40, 1, 7),
  .inr (0, 40, 1, 8),
  .inr (0, 20, 0, 1),
  .inr (0, 20, 0, 2),
  .inr (0, 20, 0, 3),
  .inr (0, 20, 0, 4),
  .inr (0, 20, 0, 5),
  .inr (0, 20, 0, 6),
  .inr (1, 8, 2, 0),
  .inr (0, 8, 0, 7),
  .inr (1, 30, 3, 0),
  .inr (0, 2300, 0, 8),
  .inr (0, 2300, 0, 9),
  .inr (0, 6900, 0, 10),
  .inr (2, 3, 0, 11),
  .inr (0, 900, 0, 12),
  .inr (0, 20, 0, 13),
  .inr (0, 20, 0, 14),
  .inr (0, 20, 0, 15),
  .inr (0, 20, 0, 16),
  .inr (0, 64, 0, 17),
  .inr (0, 123, 0, 18),
  .inr (0, 20, 0, 19),
  .inr (1, 8, 2, 1),
  .inr (0, 60, 0, 20),
  .inr (0, 8, 0, 21),
  .inr (0, 4, 0, 22),
  .inr (0, 4, 0, 23),
  .inr (1, 120, 2, 2)]
/-- the tokens' law numbers and texts -/
def ab_tl (i : Nat) : Int32 := [0, 0, 0, 0, 0, 0, 0, 0, 0, 0, 0, 0, 0, 0, 0, 0, 0, 0, 0, (-14), (-13), (-12), (-9), (-10), (-11), (-6), (-7), (-8), (-1), (-2), (-3), (-4), (-5)].getD i 0
def ab_tx (i : Nat) : Nat := [0, 0, 0, 0, 1, 2, 3, 4, 5, 6, 7, 8, 9, 10, 11, 12, 13, 14, 15, 16, 17, 18, 19, 20, 21, 22, 23, 24, 25, 26, 27, 28, 29].getD i 0
/-- the bytes of the texts -/
def ab_str : List (List Int32) := [[], [115, 116, 114, 101, 101, 116, 115], [114, 111, 117, 110, 100], [98, 97, 99, 107], [98, 121], [98, 108, 105, 110, 100], [112, 101, 114, 115, 111, 110], [115, 105, 103, 110], [104, 111, 117, 115, 101, 115], [114, 101, 115, 116], [59], [58], [40], [41], [91], [93], [111, 114], [97, 110, 100], [110, 111, 116], [61], [60], [62], [43], [45], [42], [100, 97, 121], [119, 101, 101, 107], [109, 111, 118, 101, 100], [112, 101, 111, 112, 108, 101], [119, 114, 111, 110, 103]]
def ab_sl (i : Nat) : Nat := (ab_str.getD i []).length
def ab_sb (i : Nat) (j : Nat) : Int32 := (ab_str.getD i []).getD j 0
/-- rows of ints; of bytes and booleans -/
def ab_isi (k : Nat) : Bool := [14, 18, 19, 20, 21, 22, 23, 24, 25, 26, 27, 28, 29, 30, 31, 32, 33, 35, 37, 38, 39, 41, 42, 43, 44, 45, 46, 47, 48, 50, 51, 52, 53].elem k
def ab_isb (k : Nat) : Bool := [12, 40].elem k
def ab_fmk : Nat := 55
/-- which exception a row takes up -/
def ab_cs (E e : Nat) : Bool := Nat.beq E e
/-- a new town, as its constructor makes it -/
def ab_newT (s : ab_S) : ab_S := pn (pn (pn (pA (pA (pA (pA (pA (pA (pA (pA (pA (pi (pi (pi (pi (pi (pi (pi (pi (pi (pi s 0 (va_up (si s 0) (sn s 2) 0)) 1 (va_up (si s 1) (sn s 2) 0)) 2 (va_up (si s 2) (sn s 2) 9)) 3 (va_up (si s 3) (sn s 2) 0)) 4 (va_up (si s 4) (sn s 2) 0)) 5 (va_up (si s 5) (sn s 2) 0)) 6 (va_up (si s 6) (sn s 2) 0)) 7 (va_up (si s 7) (sn s 2) 0)) 8 (va_up (si s 8) (sn s 2) 0)) 9 (va_up (si s 9) (sn s 2) 0)) 0 (va_up (sA s 0) (sn s 2) (fun _ => 0))) 1 (va_up (sA s 1) (sn s 2) (fun _ => 0))) 2 (va_up (sA s 2) (sn s 2) (fun _ => 0))) 3 (va_up (sA s 3) (sn s 2) (fun _ => 0))) 4 (va_up (sA s 4) (sn s 2) (fun _ => 0))) 5 (va_up (sA s 5) (sn s 2) (fun _ => 0))) 6 (va_up (sA s 6) (sn s 2) (fun _ => 0))) 7 (va_up (sA s 7) (sn s 2) (fun _ => 0))) 8 (va_up (sA s 8) (sn s 2) (fun _ => 0))) 0 (sn s 0 + 13)) 1 (sn s 1 + 1126)) 2 (sn s 2 + 1)
/-- a new tray -/
def ab_newR (s : ab_S) : ab_S := pn (pn (pn (pi (pi (pB s 0 (va_up (sB s 0) (sn s 3) (fun _ => 0))) 10 (va_up (si s 10) (sn s 3) 0)) 11 (va_up (si s 11) (sn s 3) 0)) 0 (sn s 0 + 2)) 1 (sn s 1 + 33)) 3 (sn s 3 + 1)
/-- how many objects of a kind there are: by its group -/
def ab_grp : List Nat := [0, 0, 1, 1, 1, 1, 0, 0, 2, 0, 3, 4, 4, 0, 0, 0, 0, 0, 0, 1, 1, 1, 1, 1, 1, 1, 1, 1, 0, 0, 0, 0, 0, 0, 0, 0, 2, 0, 0, 0, 0, 0, 0, 0, 0, 0, 0, 0, 0, 0, 0, 0, 0, 0, 0, 0]
def ab_lim (k : Nat) (s : ab_S) : Nat := match ab_grp.getD k 0 with
  | 0 => 1
  | 1 => sn s 2
  | 2 => sn s 3
  | 3 => 33
  | _ => 30
-- MovingNames.feed(IIIII)I
set_option maxRecDepth 100000 in
noncomputable def ab_c0 : List (List (Nat × ab_I × Nat)) := [[(0, .inl (.aload_n 0), 1), (1, .inr (0, 0, 0), 3), (4, .inl (.iload_n 1), 1), (5, .inl (.iload_n 2), 1), (6, .inl (.iload_n 3), 1), (7, .inl (.iload 4), 2), (9, .inl (.iload 5), 2), (11, .inr (2, 1, 6), 3), (14, .inl (.ireturn), 1)]]
-- MovingNames$Reader.append(IIIII)I
set_option maxRecDepth 100000 in
noncomputable def ab_c1 : List (List (Nat × ab_I × Nat)) := [[(0, .inl (.aload_n 0), 1), (1, .inr (0, 1, 1), 3), (4, .inl (.sipush 880), 3), (7, .inl (.if_icmp .le 5), 3), (10, .inl (.iconst (-1)), 1), (11, .inl (.ireturn), 1), (12, .inl (.aload_n 0), 1), (13, .inl (.iload_n 1), 1), (14, .inr (2, 2, 2), 3)],
  [(17, .inl (.aload_n 0), 1), (18, .inl (.iload_n 2), 1), (19, .inr (2, 2, 2), 3), (22, .inl (.aload_n 0), 1), (23, .inl (.iload_n 3), 1), (24, .inr (2, 2, 2), 3), (27, .inl (.aload_n 0), 1), (28, .inl (.iload 4), 2), (30, .inr (2, 2, 2), 3)],
  [(33, .inl (.aload_n 0), 1), (34, .inl (.iload 5), 2), (36, .inr (2, 2, 2), 3), (39, .inl (.aload_n 0), 1), (40, .inr (0, 1, 1), 3), (43, .inl (.ireturn), 1)]]
-- MovingNames$Reader.appendFour(I)V
set_option maxRecDepth 100000 in
noncomputable def ab_c2 : List (List (Nat × ab_I × Nat)) := [[(0, .inl (.bipush 24), 2), (2, .inl (.istore_n 2), 1), (3, .inl (.iload_n 2), 1), (4, .inl (.ifCond .lt 37), 3), (7, .inl (.aload_n 0), 1), (8, .inr (0, 1, 0), 3), (11, .inl (.aload_n 0), 1), (12, .inr (0, 1, 1), 3), (15, .inl (.iload_n 1), 1)],
  [(16, .inl (.iload_n 2), 1), (17, .inl (.iushr), 1), (18, .inl (.sipush 255), 3), (21, .inl (.iand), 1), (22, .inr (2, 3, 3), 3), (25, .inl (.aload_n 0), 1), (26, .inl (.dup), 1), (27, .inr (0, 1, 1), 3), (30, .inl (.iconst 1), 1), (31, .inl (.iadd), 1)],
  [(32, .inr (1, 1, 1), 3), (35, .inl (.iinc 2 (-8)), 3), (38, .inl (.goto (-35)), 3), (41, .inl (.return_), 1)]]
-- MovingNames.put([III)V
set_option maxRecDepth 100000 in
noncomputable def ab_c3 : List (List (Nat × ab_I × Nat)) := [[(0, .inl (.iload_n 1), 1), (1, .inl (.ifCond .lt 13), 3), (4, .inl (.iload_n 1), 1), (5, .inl (.aload_n 0), 1), (6, .inl (.arraylength), 1), (7, .inl (.if_icmp .ge 7), 3), (10, .inl (.aload_n 0), 1), (11, .inl (.iload_n 1), 1), (12, .inl (.iload_n 2), 1), (13, .inl (.iastore), 1), (14, .inl (.return_), 1)]]
-- MovingNames.fault(I)I
set_option maxRecDepth 100000 in
noncomputable def ab_c4 : List (List (Nat × ab_I × Nat)) := [[(0, .inl (.iload_n 1), 1), (1, .inl (.lookupswitch 43 #[(0, 27), (1, 35)]), 27)],
  [(28, .inl (.aload_n 0), 1), (29, .inr (0, 0, 0), 3)],
  [(32, .inr (0, 1, 2), 3), (35, .inl (.ireturn), 1), (36, .inl (.aload_n 0), 1), (37, .inr (0, 0, 0), 3), (40, .inr (0, 1, 3), 3), (43, .inl (.ireturn), 1), (44, .inl (.iconst (-1)), 1), (45, .inl (.ireturn), 1)]]
-- MovingNames.rests()Z
set_option maxRecDepth 100000 in
noncomputable def ab_c5 : List (List (Nat × ab_I × Nat)) := [[(0, .inl (.aload_n 0), 1), (1, .inr (0, 0, 1), 3), (4, .inl (.iconst 1), 1), (5, .inr (2, 6, 2), 3), (8, .inl (.ifCond .ne 7), 3), (11, .inl (.iconst 1), 1), (12, .inl (.goto 4), 3), (15, .inl (.iconst 0), 1)],
  [(16, .inl (.ireturn), 1)]]
-- MovingNames$Town.movesAmong(I)I
set_option maxRecDepth 100000 in
noncomputable def ab_c6 : List (List (Nat × ab_I × Nat)) := [[(0, .inl (.aload_n 0), 1), (1, .inr (2, 7, 1), 3), (4, .inl (.istore_n 2), 1), (5, .inl (.iconst 0), 1), (6, .inl (.istore_n 3), 1), (7, .inl (.iconst 0), 1), (8, .inl (.istore 4), 2), (10, .inl (.iload 4), 2), (12, .inl (.iload_n 1), 1), (13, .inl (.if_icmp .ge 40), 3)],
  [(16, .inl (.aload_n 0), 1), (17, .inr (0, 2, 11), 3), (20, .inl (.aload_n 0), 1), (21, .inr (0, 2, 4), 3), (24, .inl (.iload 4), 2), (26, .inl (.iadd), 1), (27, .inl (.aload_n 0), 1), (28, .inr (0, 2, 5), 3), (31, .inl (.iload_n 3), 1)],
  [(32, .inl (.iadd), 1), (33, .inl (.aload_n 0), 1), (34, .inr (0, 2, 3), 3), (37, .inl (.iload_n 2), 1), (38, .inr (2, 10, 5), 3), (41, .inl (.ifCond .ne 6), 3), (44, .inl (.iinc 3 1), 3), (47, .inl (.iinc 4 1), 3)],
  [(50, .inl (.goto (-40)), 3), (53, .inl (.iload_n 3), 1), (54, .inl (.ireturn), 1)]]
-- MovingNames$Town.wrongStreets()I
set_option maxRecDepth 100000 in
noncomputable def ab_c7 : List (List (Nat × ab_I × Nat)) := [[(0, .inl (.aload_n 0), 1), (1, .inr (2, 8, 1), 3), (4, .inl (.istore_n 1), 1), (5, .inl (.iconst 0), 1), (6, .inl (.istore_n 2), 1), (7, .inl (.iconst 0), 1), (8, .inl (.istore_n 3), 1), (9, .inl (.iload_n 3), 1), (10, .inl (.aload_n 0), 1), (11, .inr (0, 2, 1), 3), (14, .inl (.if_icmp .ge 24), 3)],
  [(17, .inl (.iload_n 2), 1), (18, .inl (.iload_n 1), 1), (19, .inl (.aload_n 0), 1), (20, .inr (0, 2, 7), 3), (23, .inl (.iload_n 3), 1), (24, .inr (2, 9, 2), 3), (27, .inl (.ishr), 1), (28, .inl (.iconst 1), 1), (29, .inl (.iand), 1), (30, .inl (.iadd), 1), (31, .inl (.istore_n 2), 1)],
  [(32, .inl (.iinc 3 1), 3), (35, .inl (.goto (-26)), 3), (38, .inl (.iload_n 2), 1), (39, .inl (.ireturn), 1)]]
-- MovingNames$Town.sharedNames()I
set_option maxRecDepth 100000 in
noncomputable def ab_c8 : List (List (Nat × ab_I × Nat)) := [[(0, .inl (.iconst 0), 1), (1, .inl (.istore_n 1), 1), (2, .inl (.iconst 0), 1), (3, .inl (.istore_n 2), 1), (4, .inl (.iconst 0), 1), (5, .inl (.istore_n 3), 1), (6, .inl (.iload_n 3), 1), (7, .inl (.aload_n 0), 1), (8, .inr (0, 2, 1), 3), (11, .inl (.if_icmp .ge 33), 3), (14, .inl (.iconst 1), 1), (15, .inl (.aload_n 0), 1)],
  [(16, .inr (0, 2, 7), 3), (19, .inl (.iload_n 3), 1), (20, .inr (2, 9, 2), 3), (23, .inl (.ishl), 1), (24, .inl (.istore 4), 2), (26, .inl (.iload_n 2), 1), (27, .inl (.iload_n 1), 1), (28, .inl (.iload 4), 2), (30, .inl (.iand), 1), (31, .inl (.ior), 1)],
  [(32, .inl (.istore_n 2), 1), (33, .inl (.iload_n 1), 1), (34, .inl (.iload 4), 2), (36, .inl (.ior), 1), (37, .inl (.istore_n 1), 1), (38, .inl (.iinc 3 1), 3), (41, .inl (.goto (-35)), 3), (44, .inl (.iload_n 2), 1), (45, .inl (.ireturn), 1)]]
-- MovingNames.at([II)I
set_option maxRecDepth 100000 in
noncomputable def ab_c9 : List (List (Nat × ab_I × Nat)) := [[(0, .inl (.iload_n 1), 1), (1, .inl (.ifCond .lt 15), 3), (4, .inl (.iload_n 1), 1), (5, .inl (.aload_n 0), 1), (6, .inl (.arraylength), 1), (7, .inl (.if_icmp .ge 9), 3), (10, .inl (.aload_n 0), 1), (11, .inl (.iload_n 1), 1), (12, .inl (.iaload), 1), (13, .inl (.goto 4), 3)],
  [(16, .inl (.iconst 0), 1), (17, .inl (.ireturn), 1)]]
-- MovingNames$Law.holds(IIII)Z
set_option maxRecDepth 100000 in
noncomputable def ab_c10 : List (List (Nat × ab_I × Nat)) := [[(0, .inl (.iconst 0), 1), (1, .inl (.istore 5), 2), (3, .inl (.iconst 0), 1), (4, .inl (.istore 6), 2), (6, .inl (.iload 6), 2), (8, .inl (.aload_n 0), 1), (9, .inr (0, 4, 2), 3), (12, .inl (.if_icmp .ge 143), 3), (15, .inl (.iload 6), 2)],
  [(17, .inl (.aload_n 0), 1), (18, .inr (0, 4, 0), 3), (21, .inl (.arraylength), 1), (22, .inl (.if_icmp .ge 133), 3), (25, .inl (.aload_n 0), 1), (26, .inr (0, 4, 0), 3), (29, .inl (.iload 6), 2), (31, .inl (.iaload), 1)],
  [(32, .inl (.istore 7), 2), (34, .inl (.iload 7), 2), (36, .inl (.bipush (-5)), 2), (38, .inl (.if_icmp .lt 38), 3), (41, .inl (.aload_n 0), 1), (42, .inr (0, 4, 1), 3), (45, .inl (.iload 5), 2), (47, .inl (.iload 7), 2)],
  [(49, .inl (.ifCond .lt 8), 3), (52, .inl (.iload 7), 2), (54, .inl (.goto 13), 3), (57, .inl (.iload 7), 2), (59, .inl (.iload_n 1), 1), (60, .inl (.iload_n 2), 1), (61, .inl (.iload_n 3), 1), (62, .inl (.iload 4), 2)],
  [(64, .inr (2, 11, 5), 3), (67, .inr (2, 3, 3), 3), (70, .inl (.iinc 5 1), 3), (73, .inl (.goto 76), 3), (76, .inl (.iload 7), 2), (78, .inl (.bipush (-12)), 2)],
  [(80, .inl (.if_icmp .ne 30), 3), (83, .inl (.aload_n 0), 1), (84, .inr (0, 4, 1), 3), (87, .inl (.iload 5), 2), (89, .inl (.iconst 1), 1), (90, .inl (.isub), 1), (91, .inl (.iconst 1), 1), (92, .inl (.aload_n 0), 1), (93, .inr (0, 4, 1), 3)],
  [(96, .inl (.iload 5), 2), (98, .inl (.iconst 1), 1), (99, .inl (.isub), 1), (100, .inr (2, 9, 2), 3), (103, .inl (.isub), 1), (104, .inr (2, 3, 3), 3), (107, .inl (.goto 42), 3), (110, .inl (.iinc 5 (-1)), 3)],
  [(113, .inl (.aload_n 0), 1), (114, .inr (0, 4, 1), 3), (117, .inl (.iload 5), 2), (119, .inl (.iconst 1), 1), (120, .inl (.isub), 1), (121, .inl (.iload 7), 2), (123, .inl (.aload_n 0), 1), (124, .inr (0, 4, 1), 3), (127, .inl (.iload 5), 2)],
  [(129, .inl (.iconst 1), 1), (130, .inl (.isub), 1), (131, .inr (2, 9, 2), 3), (134, .inl (.aload_n 0), 1), (135, .inr (0, 4, 1), 3), (138, .inl (.iload 5), 2), (140, .inr (2, 9, 2), 3), (143, .inr (2, 12, 3), 3)],
  [(146, .inr (2, 3, 3), 3), (149, .inl (.iinc 6 1), 3), (152, .inl (.goto (-146)), 3), (155, .inl (.iload 5), 2), (157, .inl (.ifCond .le 18), 3)],
  [(160, .inl (.aload_n 0), 1), (161, .inr (0, 4, 1), 3), (164, .inl (.iconst 0), 1), (165, .inr (2, 9, 2), 3), (168, .inl (.ifCond .eq 7), 3), (171, .inl (.iconst 1), 1), (172, .inl (.goto 4), 3), (175, .inl (.iconst 0), 1)],
  [(176, .inl (.ireturn), 1)]]
-- MovingNames$Law.reading(IIIII)I
set_option maxRecDepth 100000 in
noncomputable def ab_c11 : List (List (Nat × ab_I × Nat)) := [[(0, .inl (.iload_n 0), 1), (1, .inl (.tableswitch 46 (-4) (-1) #[44, 38, 33, 31]), 31)],
  [],
  [(32, .inl (.iload_n 1), 1), (33, .inl (.ireturn), 1), (34, .inl (.iload_n 1), 1), (35, .inl (.bipush 7), 2), (37, .inl (.irem), 1), (38, .inl (.ireturn), 1), (39, .inl (.iload_n 2), 1), (40, .inl (.sipush 1000), 3), (43, .inl (.irem), 1), (44, .inl (.ireturn), 1), (45, .inl (.iload_n 3), 1), (46, .inl (.ireturn), 1), (47, .inl (.iload 4), 2)],
  [(49, .inl (.ireturn), 1)]]
-- MovingNames$Law.reckon(III)I
set_option maxRecDepth 100000 in
noncomputable def ab_c12 : List (List (Nat × ab_I × Nat)) := [[(0, .inl (.iload_n 0), 1), (1, .inl (.tableswitch 111 (-13) (-6) #[107, 111, 96, 85, 74, 65, 56, 47]), 47)],
  [],
  [],
  [(48, .inl (.iload_n 1), 1), (49, .inl (.i2l), 1), (50, .inl (.iload_n 2), 1), (51, .inl (.i2l), 1), (52, .inl (.ladd), 1), (53, .inr (2, 13, 1), 3), (56, .inl (.ireturn), 1), (57, .inl (.iload_n 1), 1), (58, .inl (.i2l), 1), (59, .inl (.iload_n 2), 1), (60, .inl (.i2l), 1), (61, .inl (.lsub), 1), (62, .inr (2, 13, 1), 3)],
  [(65, .inl (.ireturn), 1), (66, .inl (.iload_n 1), 1), (67, .inl (.i2l), 1), (68, .inl (.iload_n 2), 1), (69, .inl (.i2l), 1), (70, .inl (.lmul), 1), (71, .inr (2, 13, 1), 3), (74, .inl (.ireturn), 1), (75, .inl (.iload_n 1), 1), (76, .inl (.iload_n 2), 1), (77, .inl (.if_icmp .ne 7), 3)],
  [(80, .inl (.iconst 1), 1), (81, .inl (.goto 4), 3), (84, .inl (.iconst 0), 1), (85, .inl (.ireturn), 1), (86, .inl (.iload_n 1), 1), (87, .inl (.iload_n 2), 1), (88, .inl (.if_icmp .ge 7), 3), (91, .inl (.iconst 1), 1), (92, .inl (.goto 4), 3), (95, .inl (.iconst 0), 1)],
  [(96, .inl (.ireturn), 1), (97, .inl (.iload_n 1), 1), (98, .inl (.iload_n 2), 1), (99, .inl (.if_icmp .le 7), 3), (102, .inl (.iconst 1), 1), (103, .inl (.goto 4), 3), (106, .inl (.iconst 0), 1), (107, .inl (.ireturn), 1), (108, .inl (.iload_n 1), 1), (109, .inl (.iload_n 2), 1), (110, .inl (.iand), 1), (111, .inl (.ireturn), 1)],
  [(112, .inl (.iload_n 1), 1), (113, .inl (.iload_n 2), 1), (114, .inl (.ior), 1), (115, .inl (.ireturn), 1)]]
-- MovingNames$Law.keep(J)I
set_option maxRecDepth 100000 in
noncomputable def ab_c13 : List (List (Nat × ab_I × Nat)) := [[(0, .inr (9, 0, (-1000000)), 3), (3, .inr (9, 0, 1000000), 3), (6, .inl (.lload_n 0), 1), (7, .inr (2, 14, 2), 3), (10, .inr (2, 15, 2), 3), (13, .inl (.l2i), 1), (14, .inl (.ireturn), 1)]]
-- java/lang/Math.min(JJ)J
set_option maxRecDepth 100000 in
noncomputable def ab_c14 : List (List (Nat × ab_I × Nat)) := [[(0, .inl (.lload_n 0), 1), (1, .inl (.lload_n 2), 1), (2, .inl (.lcmp), 1), (3, .inl (.ifCond .gt 7), 3), (6, .inl (.lload_n 0), 1), (7, .inl (.goto 4), 3), (10, .inl (.lload_n 2), 1), (11, .inl (.lreturn), 1)]]
-- java/lang/Math.max(JJ)J
set_option maxRecDepth 100000 in
noncomputable def ab_c15 : List (List (Nat × ab_I × Nat)) := [[(0, .inl (.lload_n 0), 1), (1, .inl (.lload_n 2), 1), (2, .inl (.lcmp), 1), (3, .inl (.ifCond .lt 7), 3), (6, .inl (.lload_n 0), 1), (7, .inl (.goto 4), 3), (10, .inl (.lload_n 2), 1), (11, .inl (.lreturn), 1)]]
-- MovingNames.period()J
set_option maxRecDepth 100000 in
noncomputable def ab_c16 : List (List (Nat × ab_I × Nat)) := [[(0, .inl (.aload_n 0), 1), (1, .inr (0, 0, 3), 3), (4, .inl (.aload_n 0), 1), (5, .inr (0, 0, 1), 3), (8, .inr (2, 17, 2), 3), (11, .inl (.aload_n 0), 1), (12, .inr (0, 0, 3), 3), (15, .inr (2, 26, 1), 3)],
  [(18, .inl (.i2l), 1), (19, .inl (.lreturn), 1)]]
-- MovingNames$Outlook.look(LMovingNames$Town;)V
set_option maxRecDepth 100000 in
noncomputable def ab_c17 : List (List (Nat × ab_I × Nat)) := [[(0, .inl (.aload_n 0), 1), (1, .inl (.aload_n 1), 1), (2, .inr (0, 2, 1), 3), (5, .inr (1, 6, 0), 3), (8, .inl (.aload_n 0), 1), (9, .inl (.aload_n 1), 1), (10, .inr (2, 8, 1), 3), (13, .inr (1, 6, 1), 3)],
  [(16, .inl (.aload_n 0), 1), (17, .inr (0, 6, 2), 3), (20, .inl (.aload_n 1), 1), (21, .inr (0, 2, 7), 3), (24, .inr (2, 18, 2), 3), (27, .inl (.iconst 0), 1), (28, .inl (.istore_n 2), 1), (29, .inl (.iload_n 2), 1), (30, .inl (.aload_n 0), 1), (31, .inr (0, 6, 0), 3)],
  [(34, .inl (.if_icmp .ge 27), 3), (37, .inl (.aload_n 0), 1), (38, .inr (0, 6, 5), 3), (41, .inl (.iload_n 2), 1), (42, .inl (.iload_n 2), 1), (43, .inr (2, 3, 3), 3), (46, .inl (.aload_n 0), 1), (47, .inr (0, 6, 3), 3)],
  [(50, .inl (.iload_n 2), 1), (51, .inl (.iload_n 2), 1), (52, .inr (2, 3, 3), 3), (55, .inl (.iinc 2 1), 3), (58, .inl (.goto (-29)), 3), (61, .inl (.iconst 0), 1), (62, .inl (.istore_n 2), 1), (63, .inl (.iload_n 2), 1)],
  [(64, .inl (.aload_n 1), 1), (65, .inr (0, 2, 10), 3), (68, .inr (0, 3, 3), 3), (71, .inl (.if_icmp .ge 15), 3), (74, .inl (.aload_n 0), 1), (75, .inl (.aload_n 1), 1), (76, .inl (.iload_n 2), 1), (77, .inr (2, 20, 3), 3)],
  [(80, .inl (.iinc 2 1), 3), (83, .inl (.goto (-20)), 3), (86, .inl (.iconst 0), 1), (87, .inl (.istore_n 2), 1), (88, .inl (.iload_n 2), 1), (89, .inl (.aload_n 0), 1), (90, .inr (0, 6, 0), 3), (93, .inl (.if_icmp .ge 25), 3)],
  [(96, .inl (.aload_n 0), 1), (97, .inr (0, 6, 4), 3), (100, .inl (.aload_n 0), 1), (101, .inr (0, 6, 3), 3), (104, .inl (.iload_n 2), 1), (105, .inr (2, 9, 2), 3), (108, .inl (.iload_n 2), 1), (109, .inr (2, 3, 3), 3)],
  [(112, .inl (.iinc 2 1), 3), (115, .inl (.goto (-27)), 3), (118, .inl (.return_), 1)]]
-- MovingNames.fillFrom([I[I)V
set_option maxRecDepth 100000 in
noncomputable def ab_c18 : List (List (Nat × ab_I × Nat)) := [[(0, .inl (.aload_n 1), 1), (1, .inl (.iconst 0), 1), (2, .inl (.aload_n 0), 1), (3, .inl (.iconst 0), 1), (4, .inl (.aload_n 0), 1), (5, .inl (.arraylength), 1), (6, .inl (.aload_n 1), 1), (7, .inl (.arraylength), 1), (8, .inr (2, 19, 2), 3), (11, .inr (12, 0, 0), 3), (14, .inl (.return_), 1)]]
-- java/lang/Math.min(II)I
set_option maxRecDepth 100000 in
noncomputable def ab_c19 : List (List (Nat × ab_I × Nat)) := [[(0, .inl (.iload_n 0), 1), (1, .inl (.iload_n 1), 1), (2, .inl (.if_icmp .gt 7), 3), (5, .inl (.iload_n 0), 1), (6, .inl (.goto 4), 3), (9, .inl (.iload_n 1), 1), (10, .inl (.ireturn), 1)]]
-- MovingNames$Outlook.goRound(LMovingNames$Town;I)V
set_option maxRecDepth 100000 in
noncomputable def ab_c20 : List (List (Nat × ab_I × Nat)) := [[(0, .inl (.iconst 0), 1), (1, .inl (.istore_n 3), 1), (2, .inl (.aload_n 1), 1), (3, .inr (0, 2, 10), 3), (6, .inl (.iload_n 2), 1), (7, .inr (2, 21, 2), 3), (10, .inl (.istore 4), 2), (12, .inl (.iconst 0), 1), (13, .inl (.istore 5), 2), (15, .inl (.iload 5), 2)],
  [(17, .inl (.iload 4), 2), (19, .inl (.if_icmp .ge 43), 3), (22, .inl (.aload_n 1), 1), (23, .inr (0, 2, 10), 3), (26, .inl (.iload_n 2), 1), (27, .inl (.iload 5), 2), (29, .inr (2, 22, 3), 3)],
  [(32, .inl (.istore 6), 2), (34, .inl (.aload_n 1), 1), (35, .inl (.iload 6), 2), (37, .inr (2, 23, 2), 3), (40, .inl (.ifCond .ne 16), 3), (43, .inl (.aload_n 0), 1), (44, .inr (0, 6, 6), 3), (47, .inl (.iload_n 3), 1)],
  [(48, .inl (.iload 6), 2), (50, .inr (2, 3, 3), 3), (53, .inl (.iinc 3 1), 3), (56, .inl (.iinc 5 1), 3), (59, .inl (.goto (-44)), 3), (62, .inl (.iconst 0), 1), (63, .inl (.istore 5), 2)],
  [(65, .inl (.iload 5), 2), (67, .inl (.aload_n 0), 1), (68, .inr (0, 6, 0), 3), (71, .inl (.if_icmp .ge 20), 3), (74, .inl (.aload_n 0), 1), (75, .inr (0, 6, 7), 3), (78, .inl (.iload 5), 2)],
  [(80, .inl (.iload 5), 2), (82, .inr (2, 3, 3), 3), (85, .inl (.iinc 5 1), 3), (88, .inl (.goto (-23)), 3), (91, .inl (.aload_n 1), 1), (92, .inr (0, 2, 10), 3), (95, .inl (.iload_n 2), 1)],
  [(96, .inr (2, 24, 2), 3), (99, .inl (.istore 5), 2), (101, .inl (.iconst 0), 1), (102, .inl (.istore 6), 2), (104, .inl (.iload 6), 2), (106, .inl (.iload_n 3), 1), (107, .inl (.if_icmp .ge 41), 3), (110, .inl (.aload_n 0), 1), (111, .inr (0, 6, 7), 3)],
  [(114, .inl (.aload_n 0), 1), (115, .inr (0, 6, 6), 3), (118, .inl (.iload 6), 2), (120, .inr (2, 9, 2), 3), (123, .inl (.aload_n 0), 1), (124, .inr (0, 6, 6), 3), (127, .inl (.iload 6), 2)],
  [(129, .inl (.iload 5), 2), (131, .inl (.iadd), 1), (132, .inl (.iload_n 3), 1), (133, .inr (2, 25, 2), 3), (136, .inr (2, 9, 2), 3), (139, .inr (2, 3, 3), 3), (142, .inl (.iinc 6 1), 3)],
  [(145, .inl (.goto (-41)), 3), (148, .inl (.iconst 0), 1), (149, .inl (.istore 6), 2), (151, .inl (.iload 6), 2), (153, .inl (.aload_n 0), 1), (154, .inr (0, 6, 0), 3), (157, .inl (.if_icmp .ge 34), 3)],
  [(160, .inl (.aload_n 0), 1), (161, .inr (0, 6, 3), 3), (164, .inl (.iload 6), 2), (166, .inl (.aload_n 0), 1), (167, .inr (0, 6, 7), 3), (170, .inl (.aload_n 0), 1), (171, .inr (0, 6, 3), 3), (174, .inl (.iload 6), 2)],
  [(176, .inr (2, 9, 2), 3), (179, .inr (2, 9, 2), 3), (182, .inr (2, 3, 3), 3), (185, .inl (.iinc 6 1), 3), (188, .inl (.goto (-37)), 3), (191, .inl (.return_), 1)]]
-- MovingNames$Rounds.sizeOf(I)I
set_option maxRecDepth 100000 in
noncomputable def ab_c21 : List (List (Nat × ab_I × Nat)) := [[(0, .inl (.aload_n 0), 1), (1, .inr (0, 3, 1), 3), (4, .inl (.iload_n 1), 1), (5, .inr (2, 9, 2), 3), (8, .inl (.ireturn), 1)]]
-- MovingNames$Rounds.streetAt(II)I
set_option maxRecDepth 100000 in
noncomputable def ab_c22 : List (List (Nat × ab_I × Nat)) := [[(0, .inl (.iload_n 1), 1), (1, .inl (.bipush 20), 2), (3, .inl (.imul), 1), (4, .inl (.iload_n 2), 1), (5, .inl (.iadd), 1), (6, .inl (.istore_n 3), 1), (7, .inl (.iload_n 1), 1), (8, .inl (.ifCond .lt 30), 3), (11, .inl (.iload_n 1), 1), (12, .inl (.aload_n 0), 1), (13, .inr (0, 3, 1), 3)],
  [(16, .inl (.arraylength), 1), (17, .inl (.if_icmp .ge 21), 3), (20, .inl (.iload_n 2), 1), (21, .inl (.ifCond .lt 17), 3), (24, .inl (.iload_n 2), 1), (25, .inl (.aload_n 0), 1), (26, .inr (0, 3, 1), 3), (29, .inl (.iload_n 1), 1), (30, .inl (.iaload), 1), (31, .inl (.if_icmp .ge 7), 3)],
  [(34, .inl (.iconst 1), 1), (35, .inl (.goto 4), 3), (38, .inl (.iconst 0), 1), (39, .inl (.istore 4), 2), (41, .inl (.iload 4), 2), (43, .inl (.ifCond .eq 21), 3), (46, .inl (.iload_n 3), 1), (47, .inl (.aload_n 0), 1)],
  [(48, .inr (0, 3, 0), 3), (51, .inl (.arraylength), 1), (52, .inl (.if_icmp .ge 12), 3), (55, .inl (.aload_n 0), 1), (56, .inr (0, 3, 0), 3), (59, .inl (.iload_n 3), 1), (60, .inl (.iaload), 1), (61, .inl (.goto 4), 3)],
  [(64, .inl (.iconst (-1)), 1), (65, .inl (.ireturn), 1)]]
-- MovingNames$Town.isBlind(I)Z
set_option maxRecDepth 100000 in
noncomputable def ab_c23 : List (List (Nat × ab_I × Nat)) := [[(0, .inl (.aload_n 0), 1), (1, .inr (0, 2, 6), 3), (4, .inl (.iload_n 1), 1), (5, .inl (.ishr), 1), (6, .inl (.iconst 1), 1), (7, .inl (.iand), 1), (8, .inl (.ifCond .eq 7), 3), (11, .inl (.iconst 1), 1), (12, .inl (.goto 4), 3), (15, .inl (.iconst 0), 1)],
  [(16, .inl (.ireturn), 1)]]
-- MovingNames$Rounds.byOf(I)I
set_option maxRecDepth 100000 in
noncomputable def ab_c24 : List (List (Nat × ab_I × Nat)) := [[(0, .inl (.aload_n 0), 1), (1, .inr (0, 3, 2), 3), (4, .inl (.iload_n 1), 1), (5, .inr (2, 9, 2), 3), (8, .inl (.ireturn), 1)]]
-- java/lang/Math.floorMod(II)I
set_option maxRecDepth 100000 in
noncomputable def ab_c25 : List (List (Nat × ab_I × Nat)) := [[(0, .inl (.iload_n 0), 1), (1, .inl (.iload_n 1), 1), (2, .inl (.irem), 1), (3, .inl (.istore_n 2), 1), (4, .inl (.iload_n 0), 1), (5, .inl (.iload_n 1), 1), (6, .inl (.ixor), 1), (7, .inl (.ifCond .ge 11), 3), (10, .inl (.iload_n 2), 1), (11, .inl (.ifCond .eq 7), 3), (14, .inl (.iload_n 2), 1), (15, .inl (.iload_n 1), 1)],
  [(16, .inl (.iadd), 1), (17, .inl (.ireturn), 1), (18, .inl (.iload_n 2), 1), (19, .inl (.ireturn), 1)]]
-- MovingNames$Outlook.periodLength()I
set_option maxRecDepth 100000 in
noncomputable def ab_c26 : List (List (Nat × ab_I × Nat)) := [[(0, .inl (.iconst 1), 1), (1, .inl (.istore_n 1), 1), (2, .inl (.iconst 0), 1), (3, .inl (.istore_n 2), 1), (4, .inl (.iload_n 2), 1), (5, .inl (.aload_n 0), 1), (6, .inr (0, 6, 0), 3), (9, .inl (.if_icmp .ge 19), 3), (12, .inl (.iload_n 1), 1), (13, .inl (.aload_n 0), 1), (14, .inl (.iload_n 2), 1), (15, .inr (2, 27, 2), 3)],
  [(18, .inr (2, 28, 2), 3), (21, .inl (.istore_n 1), 1), (22, .inl (.iinc 2 1), 3), (25, .inl (.goto (-21)), 3), (28, .inl (.iload_n 1), 1), (29, .inl (.ireturn), 1)]]
-- MovingNames$Outlook.cycleOf(I)I
set_option maxRecDepth 100000 in
noncomputable def ab_c27 : List (List (Nat × ab_I × Nat)) := [[(0, .inl (.aload_n 0), 1), (1, .inr (0, 6, 3), 3), (4, .inl (.iload_n 1), 1), (5, .inr (2, 9, 2), 3), (8, .inl (.istore_n 2), 1), (9, .inl (.iconst 1), 1), (10, .inl (.istore_n 3), 1), (11, .inl (.iload_n 3), 1), (12, .inl (.bipush 20), 2), (14, .inl (.if_icmp .ge 23), 3)],
  [(17, .inl (.iload_n 2), 1), (18, .inl (.iload_n 1), 1), (19, .inl (.if_icmp .eq 18), 3), (22, .inl (.aload_n 0), 1), (23, .inr (0, 6, 3), 3), (26, .inl (.iload_n 2), 1), (27, .inr (2, 9, 2), 3), (30, .inl (.istore_n 2), 1), (31, .inl (.iinc 3 1), 3)],
  [(34, .inl (.goto (-23)), 3), (37, .inl (.iload_n 3), 1), (38, .inl (.ireturn), 1)]]
-- MovingNames$Outlook.commonMultiple(II)I
set_option maxRecDepth 100000 in
noncomputable def ab_c28 : List (List (Nat × ab_I × Nat)) := [[(0, .inl (.iconst 1), 1), (1, .inl (.istore_n 2), 1), (2, .inl (.iload_n 2), 1), (3, .inl (.iload_n 1), 1), (4, .inl (.if_icmp .ge 21), 3), (7, .inl (.iload_n 0), 1), (8, .inl (.iload_n 2), 1), (9, .inl (.imul), 1), (10, .inl (.iload_n 1), 1), (11, .inl (.irem), 1), (12, .inl (.ifCond .ne 7), 3), (15, .inl (.iload_n 0), 1)],
  [(16, .inl (.iload_n 2), 1), (17, .inl (.imul), 1), (18, .inl (.ireturn), 1), (19, .inl (.iinc 2 1), 3), (22, .inl (.goto (-20)), 3), (25, .inl (.iload_n 0), 1), (26, .inl (.iload_n 1), 1), (27, .inl (.imul), 1), (28, .inl (.ireturn), 1)]]
-- MovingNames.asNow()J
set_option maxRecDepth 100000 in
noncomputable def ab_c29 : List (List (Nat × ab_I × Nat)) := [[(0, .inl (.aload_n 0), 1), (1, .inr (0, 0, 3), 3), (4, .inl (.aload_n 0), 1), (5, .inr (0, 0, 1), 3), (8, .inr (2, 17, 2), 3), (11, .inl (.aload_n 0), 1), (12, .inr (0, 0, 3), 3), (15, .inr (2, 26, 1), 3)],
  [(18, .inl (.istore_n 1), 1), (19, .inl (.iconst 1), 1), (20, .inl (.istore_n 2), 1), (21, .inl (.iload_n 2), 1), (22, .inl (.iload_n 1), 1), (23, .inl (.if_icmp .ge 36), 3), (26, .inl (.aload_n 0), 1), (27, .inr (0, 0, 3), 3), (30, .inr (2, 30, 1), 3)],
  [(33, .inl (.aload_n 0), 1), (34, .inr (0, 0, 3), 3), (37, .inr (2, 31, 1), 3), (40, .inl (.aload_n 0), 1), (41, .inr (0, 0, 1), 3), (44, .inr (0, 2, 1), 3), (47, .inl (.if_icmp .ne 6), 3)],
  [(50, .inl (.iload_n 2), 1), (51, .inl (.i2l), 1), (52, .inl (.lreturn), 1), (53, .inl (.iinc 2 1), 3), (56, .inl (.goto (-35)), 3), (59, .inl (.iload_n 1), 1), (60, .inl (.i2l), 1), (61, .inl (.lreturn), 1)]]
-- MovingNames$Outlook.step()V
set_option maxRecDepth 100000 in
noncomputable def ab_c30 : List (List (Nat × ab_I × Nat)) := [[(0, .inl (.iconst 0), 1), (1, .inl (.istore_n 1), 1), (2, .inl (.iload_n 1), 1), (3, .inl (.aload_n 0), 1), (4, .inr (0, 6, 0), 3), (7, .inl (.if_icmp .ge 32), 3), (10, .inl (.aload_n 0), 1), (11, .inr (0, 6, 5), 3), (14, .inl (.iload_n 1), 1), (15, .inl (.aload_n 0), 1)],
  [(16, .inr (0, 6, 4), 3), (19, .inl (.aload_n 0), 1), (20, .inr (0, 6, 5), 3), (23, .inl (.iload_n 1), 1), (24, .inr (2, 9, 2), 3), (27, .inr (2, 9, 2), 3), (30, .inr (2, 3, 3), 3)],
  [(33, .inl (.iinc 1 1), 3), (36, .inl (.goto (-34)), 3), (39, .inl (.return_), 1)]]
-- MovingNames$Outlook.rightStreets()I
set_option maxRecDepth 100000 in
noncomputable def ab_c31 : List (List (Nat × ab_I × Nat)) := [[(0, .inl (.iconst 0), 1), (1, .inl (.istore_n 1), 1), (2, .inl (.iconst 0), 1), (3, .inl (.istore_n 2), 1), (4, .inl (.iload_n 2), 1), (5, .inl (.aload_n 0), 1), (6, .inr (0, 6, 0), 3), (9, .inl (.if_icmp .ge 28), 3), (12, .inl (.aload_n 0), 1), (13, .inl (.iload_n 2), 1), (14, .inr (2, 32, 2), 3)],
  [(17, .inl (.aload_n 0), 1), (18, .inr (0, 6, 2), 3), (21, .inl (.iload_n 2), 1), (22, .inr (2, 9, 2), 3), (25, .inl (.if_icmp .ne 6), 3), (28, .inl (.iinc 1 1), 3), (31, .inl (.iinc 2 1), 3)],
  [(34, .inl (.goto (-30)), 3), (37, .inl (.iload_n 1), 1), (38, .inl (.ireturn), 1)]]
-- MovingNames$Outlook.nameThen(I)I
set_option maxRecDepth 100000 in
noncomputable def ab_c32 : List (List (Nat × ab_I × Nat)) := [[(0, .inl (.aload_n 0), 1), (1, .inr (0, 6, 2), 3), (4, .inl (.aload_n 0), 1), (5, .inr (0, 6, 5), 3), (8, .inl (.iload_n 1), 1), (9, .inr (2, 9, 2), 3), (12, .inr (2, 9, 2), 3), (15, .inl (.ireturn), 1)]]
-- MovingNames.twice()I
set_option maxRecDepth 100000 in
noncomputable def ab_c33 : List (List (Nat × ab_I × Nat)) := [[(0, .inl (.aload_n 0), 1), (1, .inr (0, 0, 1), 3), (4, .inr (2, 8, 1), 3), (7, .inl (.ireturn), 1)]]
-- MovingNames.lost()I
set_option maxRecDepth 100000 in
noncomputable def ab_c34 : List (List (Nat × ab_I × Nat)) := [[(0, .inl (.aload_n 0), 1), (1, .inr (0, 0, 1), 3), (4, .inr (2, 35, 1), 3), (7, .inl (.ireturn), 1)]]
-- MovingNames$Town.lostNames()I
set_option maxRecDepth 100000 in
noncomputable def ab_c35 : List (List (Nat × ab_I × Nat)) := [[(0, .inl (.iconst 1), 1), (1, .inl (.aload_n 0), 1), (2, .inr (0, 2, 1), 3), (5, .inl (.ishl), 1), (6, .inl (.iconst 1), 1), (7, .inl (.isub), 1), (8, .inl (.istore_n 1), 1), (9, .inl (.iconst 0), 1), (10, .inl (.istore_n 2), 1), (11, .inl (.iload_n 2), 1), (12, .inl (.aload_n 0), 1), (13, .inr (0, 2, 1), 3)],
  [(16, .inl (.if_icmp .ge 24), 3), (19, .inl (.iload_n 1), 1), (20, .inl (.iconst 1), 1), (21, .inl (.aload_n 0), 1), (22, .inr (0, 2, 7), 3), (25, .inl (.iload_n 2), 1), (26, .inr (2, 9, 2), 3), (29, .inl (.ishl), 1), (30, .inl (.iconst (-1)), 1), (31, .inl (.ixor), 1)],
  [(32, .inl (.iand), 1), (33, .inl (.istore_n 1), 1), (34, .inl (.iinc 2 1), 3), (37, .inl (.goto (-26)), 3), (40, .inl (.iload_n 1), 1), (41, .inl (.ireturn), 1)]]
-- MovingNames.count(I)I
set_option maxRecDepth 100000 in
noncomputable def ab_c36 : List (List (Nat × ab_I × Nat)) := [[(0, .inl (.iload_n 1), 1), (1, .inl (.tableswitch 156 0 10 #[59, 67, 75, 86, 94, 102, 110, 118, 129, 137, 148]), 59)],
  [],
  [],
  [(60, .inl (.aload_n 0), 1), (61, .inr (0, 0, 1), 3)],
  [(64, .inr (0, 2, 0), 3), (67, .inl (.ireturn), 1), (68, .inl (.aload_n 0), 1), (69, .inr (0, 0, 1), 3), (72, .inr (0, 2, 1), 3), (75, .inl (.ireturn), 1), (76, .inl (.aload_n 0), 1), (77, .inr (0, 0, 1), 3)],
  [(80, .inr (0, 2, 10), 3), (83, .inr (0, 3, 3), 3), (86, .inl (.ireturn), 1), (87, .inl (.aload_n 0), 1), (88, .inr (0, 0, 1), 3), (91, .inr (0, 2, 3), 3), (94, .inl (.ireturn), 1), (95, .inl (.aload_n 0), 1)],
  [(96, .inr (0, 0, 1), 3), (99, .inr (0, 2, 2), 3), (102, .inl (.ireturn), 1), (103, .inl (.aload_n 0), 1), (104, .inr (0, 0, 1), 3), (107, .inr (0, 2, 4), 3), (110, .inl (.ireturn), 1), (111, .inl (.aload_n 0), 1)],
  [(112, .inr (0, 0, 1), 3), (115, .inr (0, 2, 5), 3), (118, .inl (.ireturn), 1), (119, .inl (.aload_n 0), 1), (120, .inr (0, 0, 1), 3), (123, .inr (0, 2, 6), 3), (126, .inr (2, 37, 1), 3)],
  [(129, .inl (.ireturn), 1), (130, .inl (.aload_n 0), 1), (131, .inr (0, 0, 1), 3), (134, .inr (2, 7, 1), 3), (137, .inl (.ireturn), 1), (138, .inl (.aload_n 0), 1), (139, .inr (0, 0, 1), 3), (142, .inr (0, 2, 12), 3)],
  [(145, .inr (0, 5, 1), 3), (148, .inl (.ireturn), 1), (149, .inl (.aload_n 0), 1), (150, .inr (0, 0, 0), 3), (153, .inr (0, 1, 1), 3), (156, .inl (.ireturn), 1), (157, .inl (.iconst (-1)), 1), (158, .inl (.ireturn), 1)]]
-- java/lang/Integer.bitCount(I)I
set_option maxRecDepth 100000 in
noncomputable def ab_c37 : List (List (Nat × ab_I × Nat)) := [[(0, .inl (.iload_n 0), 1), (1, .inl (.iload_n 0), 1), (2, .inl (.iconst 1), 1), (3, .inl (.iushr), 1), (4, .inr (8, 0, 1431655765), 3), (7, .inl (.iand), 1), (8, .inl (.isub), 1), (9, .inl (.istore_n 0), 1), (10, .inl (.iload_n 0), 1), (11, .inr (8, 0, 858993459), 3), (14, .inl (.iand), 1), (15, .inl (.iload_n 0), 1)],
  [(16, .inl (.iconst 2), 1), (17, .inl (.iushr), 1), (18, .inr (8, 0, 858993459), 3), (21, .inl (.iand), 1), (22, .inl (.iadd), 1), (23, .inl (.istore_n 0), 1), (24, .inl (.iload_n 0), 1), (25, .inl (.iload_n 0), 1), (26, .inl (.iconst 4), 1), (27, .inl (.iushr), 1), (28, .inl (.iadd), 1), (29, .inr (8, 0, 252645135), 3)],
  [(32, .inl (.iand), 1), (33, .inl (.istore_n 0), 1), (34, .inl (.iload_n 0), 1), (35, .inl (.iload_n 0), 1), (36, .inl (.bipush 8), 2), (38, .inl (.iushr), 1), (39, .inl (.iadd), 1), (40, .inl (.istore_n 0), 1), (41, .inl (.iload_n 0), 1), (42, .inl (.iload_n 0), 1), (43, .inl (.bipush 16), 2), (45, .inl (.iushr), 1), (46, .inl (.iadd), 1), (47, .inl (.istore_n 0), 1)],
  [(48, .inl (.iload_n 0), 1), (49, .inl (.bipush 63), 2), (51, .inl (.iand), 1), (52, .inl (.ireturn), 1)]]
-- MovingNamesLaw.town(LMovingNames;I[J)I
set_option maxRecDepth 100000 in
noncomputable def ab_c38 : List (List (Nat × ab_I × Nat)) := [[(0, .inl (.aload_n 2), 1), (1, .inl (.iconst 0), 1), (2, .inl (.aload_n 0), 1), (3, .inl (.iload_n 1), 1), (4, .inr (2, 39, 2), 3), (7, .inl (.i2l), 1), (8, .inl (.lastore), 1), (9, .inl (.goto 6), 3), (12, .inl (.astore_n 3), 1), (13, .inl (.iconst 1), 1), (14, .inl (.ireturn), 1), (15, .inl (.iconst 0), 1)],
  [(16, .inl (.ireturn), 1)]]
-- MovingNames.town(I)I
set_option maxRecDepth 100000 in
noncomputable def ab_c39 : List (List (Nat × ab_I × Nat)) := [[(0, .inl (.iload_n 1), 1), (1, .inl (.ifCond .lt 14), 3), (4, .inl (.iload_n 1), 1), (5, .inl (.aload_n 0), 1), (6, .inr (0, 0, 0), 3), (9, .inr (0, 1, 1), 3), (12, .inl (.if_icmp .le 13), 3), (15, .inr (10, 0, 0), 10)],
  [(25, .inl (.aload_n 0), 1), (26, .inr (0, 0, 0), 3), (29, .inl (.iload_n 1), 1), (30, .inl (.aload_n 0), 1), (31, .inr (0, 0, 2), 3)],
  [(34, .inr (2, 40, 3), 3), (37, .inl (.aload_n 0), 1), (38, .inr (0, 0, 0), 3), (41, .inr (0, 1, 2), 3), (44, .inl (.ifCond .eq 14), 3), (47, .inl (.bipush (-10)), 2)],
  [(49, .inl (.aload_n 0), 1), (50, .inr (0, 0, 0), 3), (53, .inr (0, 1, 2), 3), (56, .inl (.isub), 1), (57, .inl (.ireturn), 1), (58, .inl (.aload_n 0), 1), (59, .inr (0, 0, 1), 3), (62, .inl (.aload_n 0), 1), (63, .inr (0, 0, 2), 3)],
  [(66, .inr (2, 80, 2), 3), (69, .inl (.aload_n 0), 1), (70, .inr (0, 0, 1), 3), (73, .inr (0, 2, 0), 3), (76, .inl (.ireturn), 1)]]
-- MovingNames$Reader.read(ILMovingNames$Town;)V
set_option maxRecDepth 100000 in
noncomputable def ab_c40 : List (List (Nat × ab_I × Nat)) := [[(0, .inl (.aload_n 0), 1), (1, .inl (.iload_n 1), 1), (2, .inl (.aload_n 0), 1), (3, .inr (0, 1, 0), 3), (6, .inl (.arraylength), 1), (7, .inr (2, 19, 2), 3), (10, .inr (1, 1, 4), 3), (13, .inl (.aload_n 0), 1), (14, .inl (.iconst 0), 1), (15, .inr (1, 1, 1), 3)],
  [(18, .inl (.aload_n 0), 1), (19, .inl (.iconst 0), 1), (20, .inr (1, 1, 6), 3), (23, .inl (.aload_n 0), 1), (24, .inl (.iconst 0), 1), (25, .inr (1, 1, 2), 3), (28, .inl (.aload_n 0), 1), (29, .inl (.iconst (-1)), 1), (30, .inr (1, 1, 3), 3)],
  [(33, .inl (.aload_n 2), 1), (34, .inr (2, 41, 1), 3), (37, .inl (.aload_n 0), 1), (38, .inr (2, 43, 1), 3), (41, .inl (.aload_n 0), 1), (42, .inr (3, 4, 0), 3), (45, .inr (2, 54, 2), 3)],
  [(48, .inl (.aload_n 2), 1), (49, .inl (.aload_n 0), 1), (50, .inl (.iconst 1), 1), (51, .inl (.bipush 20), 2), (53, .inr (2, 56, 3), 3), (56, .inr (2, 57, 2), 3), (59, .inl (.aload_n 0), 1), (60, .inl (.aload_n 2), 1), (61, .inr (2, 59, 2), 3)],
  [(64, .inl (.iconst 0), 1), (65, .inl (.istore_n 3), 1), (66, .inl (.iload_n 3), 1), (67, .inl (.sipush 900), 3), (70, .inl (.if_icmp .ge 31), 3), (73, .inl (.aload_n 0), 1), (74, .inr (0, 1, 2), 3), (77, .inl (.ifCond .ne 24), 3)],
  [(80, .inl (.aload_n 0), 1), (81, .inr (0, 1, 8), 3), (84, .inr (3, 0, 0), 3), (87, .inl (.if_acmp .eq 14), 3), (90, .inl (.aload_n 0), 1), (91, .inl (.aload_n 2), 1), (92, .inr (2, 60, 2), 3), (95, .inl (.iinc 3 1), 3)],
  [(98, .inl (.goto (-32)), 3), (101, .inl (.return_), 1)]]
-- MovingNames$Town.clear()V
set_option maxRecDepth 100000 in
noncomputable def ab_c41 : List (List (Nat × ab_I × Nat)) := [[(0, .inl (.aload_n 0), 1), (1, .inl (.iconst 0), 1), (2, .inr (1, 2, 0), 3), (5, .inl (.aload_n 0), 1), (6, .inl (.iconst 0), 1), (7, .inr (1, 2, 1), 3), (10, .inl (.aload_n 0), 1), (11, .inl (.bipush 9), 2), (13, .inr (1, 2, 2), 3)],
  [(16, .inl (.aload_n 0), 1), (17, .inl (.iconst 0), 1), (18, .inr (1, 2, 3), 3), (21, .inl (.aload_n 0), 1), (22, .inl (.iconst 0), 1), (23, .inr (1, 2, 4), 3), (26, .inl (.aload_n 0), 1), (27, .inl (.iconst 0), 1), (28, .inr (1, 2, 5), 3), (31, .inl (.aload_n 0), 1)],
  [(32, .inl (.iconst 0), 1), (33, .inr (1, 2, 6), 3), (36, .inl (.aload_n 0), 1), (37, .inr (0, 2, 10), 3), (40, .inl (.iconst 0), 1), (41, .inr (1, 3, 3), 3), (44, .inl (.aload_n 0), 1), (45, .inr (0, 2, 11), 3)],
  [(48, .inr (2, 42, 1), 3), (51, .inl (.aload_n 0), 1), (52, .inr (0, 2, 12), 3), (55, .inl (.iconst 0), 1), (56, .inr (1, 5, 1), 3), (59, .inl (.return_), 1)]]
-- MovingNames$Law.clear()V
set_option maxRecDepth 100000 in
noncomputable def ab_c42 : List (List (Nat × ab_I × Nat)) := [[(0, .inl (.aload_n 0), 1), (1, .inl (.iconst 0), 1), (2, .inr (1, 4, 2), 3), (5, .inl (.return_), 1)]]
-- MovingNames$Reader.advance()V
set_option maxRecDepth 100000 in
noncomputable def ab_c43 : List (List (Nat × ab_I × Nat)) := [[(0, .inl (.aload_n 0), 1), (1, .inr (0, 1, 2), 3), (4, .inl (.ifCond .eq 4), 3), (7, .inl (.return_), 1), (8, .inl (.aload_n 0), 1), (9, .inr (0, 1, 6), 3), (12, .inl (.aload_n 0), 1), (13, .inr (0, 1, 4), 3)],
  [(16, .inl (.if_icmp .ge 56), 3), (19, .inl (.aload_n 0), 1), (20, .inr (0, 1, 6), 3), (23, .inl (.aload_n 0), 1), (24, .inr (0, 1, 0), 3), (27, .inl (.arraylength), 1), (28, .inl (.if_icmp .ge 44), 3), (31, .inl (.aload_n 0), 1)],
  [(32, .inr (0, 1, 0), 3), (35, .inl (.aload_n 0), 1), (36, .inr (0, 1, 6), 3), (39, .inl (.iaload), 1), (40, .inl (.bipush 32), 2), (42, .inl (.if_icmp .eq 17), 3), (45, .inl (.aload_n 0), 1), (46, .inr (0, 1, 0), 3)],
  [(49, .inl (.aload_n 0), 1), (50, .inr (0, 1, 6), 3), (53, .inl (.iaload), 1), (54, .inl (.bipush 10), 2), (56, .inl (.if_icmp .ne 16), 3), (59, .inl (.aload_n 0), 1), (60, .inl (.dup), 1), (61, .inr (0, 1, 6), 3)],
  [(64, .inl (.iconst 1), 1), (65, .inl (.iadd), 1), (66, .inr (1, 1, 6), 3), (69, .inl (.goto (-61)), 3), (72, .inl (.aload_n 0), 1), (73, .inl (.aload_n 0), 1), (74, .inr (0, 1, 6), 3), (77, .inr (1, 1, 5), 3)],
  [(80, .inl (.aload_n 0), 1), (81, .inl (.bipush 97), 2), (83, .inl (.bipush 122), 2), (85, .inr (2, 44, 3), 3), (88, .inl (.istore_n 1), 1), (89, .inl (.aload_n 0), 1), (90, .inl (.bipush 48), 2), (92, .inl (.bipush 57), 2), (94, .inr (2, 44, 3), 3)],
  [(97, .inl (.istore_n 2), 1), (98, .inl (.aload_n 0), 1), (99, .inr (0, 1, 5), 3), (102, .inl (.aload_n 0), 1), (103, .inr (0, 1, 4), 3), (106, .inl (.if_icmp .lt 13), 3), (109, .inl (.aload_n 0), 1), (110, .inr (3, 0, 0), 3)],
  [(113, .inr (1, 1, 8), 3), (116, .inl (.goto 98), 3), (119, .inl (.iload_n 1), 1), (120, .inl (.aload_n 0), 1), (121, .inr (0, 1, 5), 3), (124, .inl (.if_icmp .le 22), 3), (127, .inl (.aload_n 0), 1)],
  [(128, .inl (.iload_n 1), 1), (129, .inr (1, 1, 6), 3), (132, .inl (.aload_n 0), 1), (133, .inl (.aload_n 0), 1), (134, .inr (3, 3, 0), 3), (137, .inr (2, 45, 2), 3), (140, .inr (1, 1, 8), 3), (143, .inl (.goto 71), 3)],
  [(146, .inl (.iload_n 2), 1), (147, .inl (.aload_n 0), 1), (148, .inr (0, 1, 5), 3), (151, .inl (.if_icmp .le 42), 3), (154, .inl (.aload_n 0), 1), (155, .inl (.iload_n 2), 1), (156, .inr (1, 1, 6), 3), (159, .inl (.aload_n 0), 1)],
  [(160, .inl (.iload_n 2), 1), (161, .inl (.aload_n 0), 1), (162, .inr (0, 1, 5), 3), (165, .inl (.isub), 1), (166, .inl (.iconst 3), 1), (167, .inl (.if_icmp .le 9), 3), (170, .inr (3, 1, 0), 3), (173, .inl (.goto 6), 3)],
  [(176, .inr (3, 2, 0), 3), (179, .inr (1, 1, 8), 3), (182, .inl (.aload_n 0), 1), (183, .inl (.aload_n 0), 1), (184, .inr (2, 53, 1), 3), (187, .inr (1, 1, 7), 3), (190, .inl (.goto 24), 3)],
  [(193, .inl (.aload_n 0), 1), (194, .inl (.aload_n 0), 1), (195, .inr (0, 1, 5), 3), (198, .inl (.iconst 1), 1), (199, .inl (.iadd), 1), (200, .inr (1, 1, 6), 3), (203, .inl (.aload_n 0), 1), (204, .inl (.aload_n 0), 1), (205, .inr (3, 1, 0), 3)],
  [(208, .inr (2, 45, 2), 3), (211, .inr (1, 1, 8), 3), (214, .inl (.return_), 1)]]
-- MovingNames$Reader.endOfRun(II)I
set_option maxRecDepth 100000 in
noncomputable def ab_c44 : List (List (Nat × ab_I × Nat)) := [[(0, .inl (.aload_n 0), 1), (1, .inr (0, 1, 5), 3), (4, .inl (.istore_n 3), 1), (5, .inl (.iload_n 3), 1), (6, .inl (.aload_n 0), 1), (7, .inr (0, 1, 4), 3), (10, .inl (.if_icmp .ge 38), 3), (13, .inl (.iload_n 3), 1), (14, .inl (.aload_n 0), 1), (15, .inr (0, 1, 0), 3)],
  [(18, .inl (.arraylength), 1), (19, .inl (.if_icmp .ge 29), 3), (22, .inl (.aload_n 0), 1), (23, .inr (0, 1, 0), 3), (26, .inl (.iload_n 3), 1), (27, .inl (.iaload), 1), (28, .inl (.iload_n 1), 1), (29, .inl (.if_icmp .lt 19), 3)],
  [(32, .inl (.aload_n 0), 1), (33, .inr (0, 1, 0), 3), (36, .inl (.iload_n 3), 1), (37, .inl (.iaload), 1), (38, .inl (.iload_n 2), 1), (39, .inl (.if_icmp .gt 9), 3), (42, .inl (.iinc 3 1), 3), (45, .inl (.goto (-40)), 3)],
  [(48, .inl (.iload_n 3), 1), (49, .inl (.ireturn), 1)]]
-- MovingNames$Reader.spelled(LMovingNames$Token;)LMovingNames$Token;
set_option maxRecDepth 100000 in
noncomputable def ab_c45 : List (List (Nat × ab_I × Nat)) := [[(0, .inl (.iconst 0), 1), (1, .inl (.istore_n 2), 1), (2, .inl (.iload_n 2), 1), (3, .inr (4, 0, 0), 3), (6, .inl (.arraylength), 1), (7, .inl (.if_icmp .ge 115), 3), (10, .inr (4, 0, 0), 3), (13, .inl (.iload_n 2), 1), (14, .inl (.aaload), 1), (15, .inr (0, 10, 0), 3)],
  [(18, .inl (.astore_n 3), 1), (19, .inl (.iconst 0), 1), (20, .inl (.istore 4), 2), (22, .inl (.iload 4), 2), (24, .inl (.aload_n 3), 1), (25, .inr (2, 46, 1), 3), (28, .inl (.if_icmp .ge 59), 3), (31, .inl (.aload_n 0), 1)],
  [(32, .inr (0, 1, 5), 3), (35, .inl (.iload 4), 2), (37, .inl (.iadd), 1), (38, .inl (.aload_n 0), 1), (39, .inr (0, 1, 6), 3), (42, .inl (.if_icmp .ge 45), 3), (45, .inl (.aload_n 0), 1), (46, .inr (0, 1, 5), 3)],
  [(49, .inl (.iload 4), 2), (51, .inl (.iadd), 1), (52, .inl (.aload_n 0), 1), (53, .inr (0, 1, 0), 3), (56, .inl (.arraylength), 1), (57, .inl (.if_icmp .ge 30), 3), (60, .inl (.aload_n 3), 1), (61, .inl (.iload 4), 2), (63, .inr (2, 48, 2), 3)],
  [(66, .inl (.aload_n 0), 1), (67, .inr (0, 1, 0), 3), (70, .inl (.aload_n 0), 1), (71, .inr (0, 1, 5), 3), (74, .inl (.iload 4), 2), (76, .inl (.iadd), 1), (77, .inl (.iaload), 1), (78, .inl (.if_icmp .ne 9), 3)],
  [(81, .inl (.iinc 4 1), 3), (84, .inl (.goto (-62)), 3), (87, .inl (.iload 4), 2), (89, .inl (.aload_n 3), 1), (90, .inr (2, 46, 1), 3), (93, .inl (.if_icmp .ne 23), 3)],
  [(96, .inl (.aload_n 0), 1), (97, .inr (0, 1, 5), 3), (100, .inl (.iload 4), 2), (102, .inl (.iadd), 1), (103, .inl (.aload_n 0), 1), (104, .inr (0, 1, 6), 3), (107, .inl (.if_icmp .ne 9), 3), (110, .inr (4, 0, 0), 3)],
  [(113, .inl (.iload_n 2), 1), (114, .inl (.aaload), 1), (115, .inl (.areturn), 1), (116, .inl (.iinc 2 1), 3), (119, .inl (.goto (-117)), 3), (122, .inl (.aload_n 1), 1), (123, .inl (.areturn), 1)]]
-- java/lang/String.length()I
set_option maxRecDepth 100000 in
noncomputable def ab_c46 : List (List (Nat × ab_I × Nat)) := [[(0, .inl (.aload_n 0), 1), (1, .inr (0, 11, 0), 3), (4, .inl (.arraylength), 1), (5, .inl (.aload_n 0), 1), (6, .inr (2, 47, 1), 3), (9, .inl (.ishr), 1), (10, .inl (.ireturn), 1)]]
-- java/lang/String.coder()B
set_option maxRecDepth 100000 in
noncomputable def ab_c47 : List (List (Nat × ab_I × Nat)) := [[(0, .inr (5, 0, 1), 3), (3, .inl (.ifCond .eq 10), 3), (6, .inl (.aload_n 0), 1), (7, .inr (0, 11, 1), 3), (10, .inl (.goto 4), 3), (13, .inl (.iconst 1), 1), (14, .inl (.ireturn), 1)]]
-- java/lang/String.charAt(I)C
set_option maxRecDepth 100000 in
noncomputable def ab_c48 : List (List (Nat × ab_I × Nat)) := [[(0, .inl (.aload_n 0), 1), (1, .inr (2, 49, 1), 3), (4, .inl (.ifCond .eq 12), 3), (7, .inl (.aload_n 0), 1), (8, .inr (0, 11, 0), 3), (11, .inl (.iload_n 1), 1), (12, .inr (2, 50, 2), 3), (15, .inl (.ireturn), 1)],
  [(16, .inl (.aload_n 0), 1), (17, .inr (0, 11, 0), 3), (20, .inl (.iload_n 1), 1), (24, .inl (.ireturn), 1)]]
-- java/lang/String.isLatin1()Z
set_option maxRecDepth 100000 in
noncomputable def ab_c49 : List (List (Nat × ab_I × Nat)) := [[(0, .inr (5, 0, 1), 3), (3, .inl (.ifCond .eq 14), 3), (6, .inl (.aload_n 0), 1), (7, .inr (0, 11, 1), 3), (10, .inl (.ifCond .ne 7), 3), (13, .inl (.iconst 1), 1), (14, .inl (.goto 4), 3)],
  [(17, .inl (.iconst 0), 1), (18, .inl (.ireturn), 1)]]
-- java/lang/StringLatin1.charAt([BI)C
set_option maxRecDepth 100000 in
noncomputable def ab_c50 : List (List (Nat × ab_I × Nat)) := [[(0, .inl (.iload_n 1), 1), (1, .inl (.aload_n 0), 1), (2, .inl (.arraylength), 1), (3, .inr (2, 51, 2), 3), (6, .inl (.aload_n 0), 1), (7, .inl (.iload_n 1), 1), (8, .inl (.baload), 1), (9, .inl (.sipush 255), 3), (12, .inl (.iand), 1), (13, .inl (.i2c), 1), (14, .inl (.ireturn), 1)]]
-- java/lang/String.checkIndex(II)V
set_option maxRecDepth 100000 in
noncomputable def ab_c51 : List (List (Nat × ab_I × Nat)) := [[(0, .inl (.iload_n 0), 1), (1, .inl (.iload_n 1), 1), (2, .inr (6, 0, 0), 3), (5, .inr (2, 52, 3), 3), (8, .inl (.pop), 1), (9, .inl (.return_), 1)]]
-- jdk/internal/util/Preconditions.checkIndex(IILjava/util/function/BiFunction;)I
set_option maxRecDepth 100000 in
noncomputable def ab_c52 : List (List (Nat × ab_I × Nat)) := [[(0, .inl (.iload_n 0), 1), (1, .inl (.ifCond .lt 8), 3), (4, .inl (.iload_n 0), 1), (5, .inl (.iload_n 1), 1), (6, .inl (.if_icmp .lt 10), 3), (9, .inl (.aload_n 2), 1), (10, .inl (.iload_n 0), 1), (11, .inl (.iload_n 1), 1), (15, .inl (.athrow), 1)],
  [(16, .inl (.iload_n 0), 1), (17, .inl (.ireturn), 1)]]
-- MovingNames$Reader.numberRead()I
set_option maxRecDepth 100000 in
noncomputable def ab_c53 : List (List (Nat × ab_I × Nat)) := [[(0, .inl (.iconst 0), 1), (1, .inl (.istore_n 1), 1), (2, .inl (.aload_n 0), 1), (3, .inr (0, 1, 5), 3), (6, .inl (.istore_n 2), 1), (7, .inl (.iload_n 2), 1), (8, .inl (.aload_n 0), 1), (9, .inr (0, 1, 6), 3), (12, .inl (.if_icmp .ge 43), 3), (15, .inl (.iload_n 2), 1)],
  [(16, .inl (.aload_n 0), 1), (17, .inr (0, 1, 5), 3), (20, .inl (.iconst 3), 1), (21, .inl (.iadd), 1), (22, .inl (.if_icmp .ge 33), 3), (25, .inl (.iload_n 2), 1), (26, .inl (.aload_n 0), 1), (27, .inr (0, 1, 0), 3), (30, .inl (.arraylength), 1), (31, .inl (.if_icmp .ge 24), 3)],
  [(34, .inl (.iload_n 1), 1), (35, .inl (.bipush 10), 2), (37, .inl (.imul), 1), (38, .inl (.aload_n 0), 1), (39, .inr (0, 1, 0), 3), (42, .inl (.iload_n 2), 1), (43, .inl (.iaload), 1), (44, .inl (.iadd), 1), (45, .inl (.bipush 48), 2), (47, .inl (.isub), 1)],
  [(48, .inl (.istore_n 1), 1), (49, .inl (.iinc 2 1), 3), (52, .inl (.goto (-45)), 3), (55, .inl (.iload_n 1), 1), (56, .inl (.ireturn), 1)]]
-- MovingNames$Reader.take(LMovingNames$Token;)V
set_option maxRecDepth 100000 in
noncomputable def ab_c54 : List (List (Nat × ab_I × Nat)) := [[(0, .inl (.aload_n 0), 1), (1, .inr (0, 1, 8), 3), (4, .inl (.aload_n 1), 1), (5, .inl (.if_acmp .eq 11), 3), (8, .inl (.aload_n 0), 1), (9, .inl (.iconst 2), 1), (10, .inr (2, 55, 2), 3), (13, .inl (.goto 7), 3)],
  [(16, .inl (.aload_n 0), 1), (17, .inr (2, 43, 1), 3), (20, .inl (.return_), 1)]]
-- MovingNames$Reader.refuse(I)V
set_option maxRecDepth 100000 in
noncomputable def ab_c55 : List (List (Nat × ab_I × Nat)) := [[(0, .inl (.aload_n 0), 1), (1, .inr (0, 1, 2), 3), (4, .inl (.ifCond .ne 30), 3), (7, .inl (.aload_n 0), 1), (8, .inl (.aload_n 0), 1), (9, .inr (0, 1, 8), 3), (12, .inr (3, 1, 0), 3), (15, .inl (.if_acmp .ne 7), 3)],
  [(18, .inl (.iconst 1), 1), (19, .inl (.goto 4), 3), (22, .inl (.iload_n 1), 1), (23, .inr (1, 1, 2), 3), (26, .inl (.aload_n 0), 1), (27, .inl (.aload_n 0), 1), (28, .inr (0, 1, 5), 3), (31, .inr (1, 1, 3), 3)],
  [(34, .inl (.return_), 1)]]
-- MovingNames$Reader.takeNumber(II)I
set_option maxRecDepth 100000 in
noncomputable def ab_c56 : List (List (Nat × ab_I × Nat)) := [[(0, .inl (.aload_n 0), 1), (1, .inr (0, 1, 7), 3), (4, .inl (.istore_n 3), 1), (5, .inl (.aload_n 0), 1), (6, .inr (0, 1, 8), 3), (9, .inr (3, 2, 0), 3), (12, .inl (.if_acmp .eq 11), 3), (15, .inl (.aload_n 0), 1)],
  [(16, .inl (.iconst 2), 1), (17, .inr (2, 55, 2), 3), (20, .inl (.goto 25), 3), (23, .inl (.iload_n 3), 1), (24, .inl (.iload_n 1), 1), (25, .inl (.if_icmp .lt 8), 3), (28, .inl (.iload_n 3), 1), (29, .inl (.iload_n 2), 1), (30, .inl (.if_icmp .le 11), 3)],
  [(33, .inl (.aload_n 0), 1), (34, .inl (.iconst 3), 1), (35, .inr (2, 55, 2), 3), (38, .inl (.goto 7), 3), (41, .inl (.aload_n 0), 1), (42, .inr (2, 43, 1), 3), (45, .inl (.iload_n 3), 1), (46, .inl (.ireturn), 1)]]
-- MovingNames$Town.settle(I)V
set_option maxRecDepth 100000 in
noncomputable def ab_c57 : List (List (Nat × ab_I × Nat)) := [[(0, .inl (.aload_n 0), 1), (1, .inl (.iconst 0), 1), (2, .inl (.iload_n 1), 1), (3, .inl (.bipush 20), 2), (5, .inr (2, 19, 2), 3), (8, .inr (2, 58, 2), 3), (11, .inr (1, 2, 1), 3), (14, .inl (.iconst 0), 1), (15, .inl (.istore_n 2), 1)],
  [(16, .inl (.iload_n 2), 1), (17, .inl (.aload_n 0), 1), (18, .inr (0, 2, 1), 3), (21, .inl (.if_icmp .ge 18), 3), (24, .inl (.aload_n 0), 1), (25, .inr (0, 2, 7), 3), (28, .inl (.iload_n 2), 1), (29, .inl (.iload_n 2), 1), (30, .inr (2, 3, 3), 3)],
  [(33, .inl (.iinc 2 1), 3), (36, .inl (.goto (-20)), 3), (39, .inl (.return_), 1)]]
-- java/lang/Math.max(II)I
set_option maxRecDepth 100000 in
noncomputable def ab_c58 : List (List (Nat × ab_I × Nat)) := [[(0, .inl (.iload_n 0), 1), (1, .inl (.iload_n 1), 1), (2, .inl (.if_icmp .lt 7), 3), (5, .inl (.iload_n 0), 1), (6, .inl (.goto 4), 3), (9, .inl (.iload_n 1), 1), (10, .inl (.ireturn), 1)]]
-- MovingNames$Reader.endLine(LMovingNames$Town;)V
set_option maxRecDepth 100000 in
noncomputable def ab_c59 : List (List (Nat × ab_I × Nat)) := [[(0, .inl (.aload_n 0), 1), (1, .inr (3, 13, 0), 3), (4, .inr (2, 54, 2), 3), (7, .inl (.aload_n 1), 1), (8, .inl (.dup), 1), (9, .inr (0, 2, 0), 3), (12, .inl (.iconst 1), 1), (13, .inl (.iadd), 1), (14, .inr (1, 2, 0), 3)],
  [(17, .inl (.return_), 1)]]
-- MovingNames$Reader.readLine(LMovingNames$Town;)V
set_option maxRecDepth 100000 in
noncomputable def ab_c60 : List (List (Nat × ab_I × Nat)) := [[(0, .inl (.aload_n 0), 1), (1, .inr (0, 1, 8), 3), (4, .inr (3, 5, 0), 3), (7, .inl (.if_acmp .ne 11), 3), (10, .inl (.aload_n 0), 1), (11, .inl (.aload_n 1), 1), (12, .inr (2, 61, 2), 3), (15, .inl (.goto 174), 3)],
  [(18, .inl (.aload_n 0), 1), (19, .inr (0, 1, 8), 3), (22, .inr (3, 8, 0), 3), (25, .inl (.if_acmp .ne 25), 3), (28, .inl (.aload_n 0), 1), (29, .inr (2, 43, 1), 3)],
  [(32, .inl (.aload_n 1), 1), (33, .inl (.aload_n 0), 1), (34, .inl (.iconst 0), 1), (35, .inl (.aload_n 1), 1), (36, .inr (0, 2, 1), 3), (39, .inl (.iconst 1), 1), (40, .inl (.isub), 1), (41, .inr (2, 56, 3), 3), (44, .inr (2, 66, 2), 3), (47, .inl (.goto 142), 3)],
  [(50, .inl (.aload_n 0), 1), (51, .inr (0, 1, 8), 3), (54, .inr (3, 9, 0), 3), (57, .inl (.if_acmp .ne 11), 3), (60, .inl (.aload_n 0), 1), (61, .inl (.aload_n 1), 1), (62, .inr (2, 67, 2), 3)],
  [(65, .inl (.goto 124), 3), (68, .inl (.aload_n 0), 1), (69, .inr (0, 1, 8), 3), (72, .inr (3, 10, 0), 3), (75, .inl (.if_acmp .ne 41), 3), (78, .inl (.aload_n 0), 1), (79, .inr (2, 43, 1), 3)],
  [(82, .inl (.aload_n 0), 1), (83, .inl (.iconst 0), 1), (84, .inl (.aload_n 1), 1), (85, .inr (0, 2, 1), 3), (88, .inl (.iconst 1), 1), (89, .inl (.isub), 1), (90, .inr (2, 56, 3), 3), (93, .inl (.istore_n 2), 1), (94, .inl (.aload_n 1), 1), (95, .inr (0, 2, 7), 3)],
  [(98, .inl (.iload_n 2), 1), (99, .inl (.aload_n 0), 1), (100, .inl (.iconst 0), 1), (101, .inl (.aload_n 1), 1), (102, .inr (0, 2, 1), 3), (105, .inl (.iconst 1), 1), (106, .inl (.isub), 1), (107, .inr (2, 56, 3), 3), (110, .inr (2, 3, 3), 3)],
  [(113, .inl (.goto 76), 3), (116, .inl (.aload_n 0), 1), (117, .inr (0, 1, 8), 3), (120, .inr (3, 11, 0), 3), (123, .inl (.if_acmp .ne 28), 3), (126, .inl (.aload_n 1), 1), (127, .inr (0, 2, 3), 3)],
  [(130, .inl (.ifCond .ne 21), 3), (133, .inl (.aload_n 0), 1), (134, .inr (2, 43, 1), 3), (137, .inl (.aload_n 1), 1), (138, .inl (.aload_n 0), 1), (139, .inl (.iconst 1), 1), (140, .inl (.bipush 99), 2), (142, .inr (2, 56, 3), 3)],
  [(145, .inr (1, 2, 2), 3), (148, .inl (.goto 41), 3), (151, .inl (.aload_n 0), 1), (152, .inr (0, 1, 8), 3), (155, .inr (3, 12, 0), 3), (158, .inl (.if_acmp .ne 26), 3)],
  [(161, .inl (.aload_n 0), 1), (162, .inr (2, 43, 1), 3), (165, .inl (.aload_n 1), 1), (166, .inr (0, 2, 11), 3), (169, .inr (2, 42, 1), 3), (172, .inl (.aload_n 0), 1), (173, .inl (.aload_n 1), 1), (174, .inr (0, 2, 11), 3)],
  [(177, .inl (.iconst 0), 1), (178, .inr (2, 69, 3), 3), (181, .inl (.goto 8), 3), (184, .inl (.aload_n 0), 1), (185, .inl (.iconst 2), 1), (186, .inr (2, 55, 2), 3), (189, .inl (.aload_n 0), 1), (190, .inl (.aload_n 1), 1), (191, .inr (2, 59, 2), 3)],
  [(194, .inl (.return_), 1)]]
-- MovingNames$Reader.readRound(LMovingNames$Town;)V
set_option maxRecDepth 100000 in
noncomputable def ab_c61 : List (List (Nat × ab_I × Nat)) := [[(0, .inl (.aload_n 1), 1), (1, .inr (0, 2, 10), 3), (4, .inr (0, 3, 3), 3), (7, .inl (.iconst 4), 1), (8, .inl (.if_icmp .ne 9), 3), (11, .inl (.aload_n 0), 1), (12, .inl (.iconst 4), 1), (13, .inr (2, 55, 2), 3)],
  [(16, .inl (.return_), 1), (17, .inl (.aload_n 0), 1), (18, .inr (2, 43, 1), 3), (21, .inl (.iconst 1), 1), (22, .inl (.istore_n 2), 1), (23, .inl (.aload_n 0), 1), (24, .inr (0, 1, 8), 3), (27, .inr (3, 6, 0), 3), (30, .inl (.if_acmp .ne 9), 3)],
  [(33, .inl (.aload_n 0), 1), (34, .inr (2, 43, 1), 3), (37, .inl (.iconst (-1)), 1), (38, .inl (.istore_n 2), 1), (39, .inl (.iconst 1), 1), (40, .inl (.istore_n 3), 1), (41, .inl (.aload_n 0), 1), (42, .inr (0, 1, 8), 3), (45, .inr (3, 7, 0), 3)],
  [(48, .inl (.if_acmp .ne 15), 3), (51, .inl (.aload_n 0), 1), (52, .inr (2, 43, 1), 3), (55, .inl (.aload_n 0), 1), (56, .inl (.iconst 1), 1), (57, .inl (.bipush 9), 2), (59, .inr (2, 56, 3), 3), (62, .inl (.istore_n 3), 1), (63, .inl (.aload_n 0), 1)],
  [(64, .inr (3, 14, 0), 3), (67, .inr (2, 54, 2), 3), (70, .inl (.aload_n 1), 1), (71, .inr (0, 2, 10), 3), (74, .inl (.iload_n 2), 1), (75, .inl (.iload_n 3), 1), (76, .inl (.imul), 1), (77, .inr (2, 62, 2), 3)],
  [(80, .inl (.istore 4), 2), (82, .inl (.iconst 0), 1), (83, .inl (.istore 5), 2), (85, .inl (.iload 5), 2), (87, .inl (.bipush 20), 2), (89, .inl (.if_icmp .gt 40), 3), (92, .inl (.aload_n 0), 1), (93, .inr (0, 1, 2), 3)],
  [(96, .inl (.ifCond .ne 33), 3), (99, .inl (.iload 5), 2), (101, .inl (.ifCond .eq 13), 3), (104, .inl (.aload_n 0), 1), (105, .inr (0, 1, 8), 3), (108, .inr (3, 2, 0), 3), (111, .inl (.if_acmp .ne 18), 3)],
  [(114, .inl (.aload_n 0), 1), (115, .inl (.aload_n 1), 1), (116, .inl (.iload 4), 2), (118, .inl (.iload 5), 2), (120, .inr (2, 63, 4), 3), (123, .inl (.iinc 5 1), 3), (126, .inl (.goto (-41)), 3)],
  [(129, .inl (.return_), 1)]]
-- MovingNames$Rounds.begin(I)I
set_option maxRecDepth 100000 in
noncomputable def ab_c62 : List (List (Nat × ab_I × Nat)) := [[(0, .inl (.aload_n 0), 1), (1, .inr (0, 3, 3), 3), (4, .inl (.istore_n 2), 1), (5, .inl (.aload_n 0), 1), (6, .inr (0, 3, 1), 3), (9, .inl (.iload_n 2), 1), (10, .inl (.iconst 0), 1), (11, .inr (2, 3, 3), 3), (14, .inl (.aload_n 0), 1), (15, .inr (0, 3, 2), 3)],
  [(18, .inl (.iload_n 2), 1), (19, .inl (.iload_n 1), 1), (20, .inr (2, 3, 3), 3), (23, .inl (.aload_n 0), 1), (24, .inl (.iload_n 2), 1), (25, .inl (.iconst 1), 1), (26, .inl (.iadd), 1), (27, .inl (.iconst 4), 1), (28, .inr (2, 19, 2), 3), (31, .inr (1, 3, 3), 3)],
  [(34, .inl (.iload_n 2), 1), (35, .inl (.ireturn), 1)]]
-- MovingNames$Reader.readStop(LMovingNames$Town;II)V
set_option maxRecDepth 100000 in
noncomputable def ab_c63 : List (List (Nat × ab_I × Nat)) := [[(0, .inl (.aload_n 0), 1), (1, .inr (0, 1, 7), 3), (4, .inl (.istore 4), 2), (6, .inl (.aload_n 0), 1), (7, .inr (0, 1, 8), 3), (10, .inr (3, 2, 0), 3), (13, .inl (.if_acmp .ne 21), 3)],
  [(16, .inl (.aload_n 1), 1), (17, .inr (0, 2, 10), 3), (20, .inl (.iload_n 2), 1), (21, .inl (.iload 4), 2), (23, .inr (2, 64, 3), 3), (26, .inl (.iconst (-1)), 1), (27, .inl (.if_icmp .eq 7), 3), (30, .inl (.iconst 1), 1), (31, .inl (.goto 4), 3)],
  [(34, .inl (.iconst 0), 1), (35, .inl (.istore 5), 2), (37, .inl (.iload 5), 2), (39, .inl (.ifCond .eq 9), 3), (42, .inl (.aload_n 0), 1), (43, .inl (.iconst 3), 1), (44, .inr (2, 55, 2), 3), (47, .inl (.return_), 1)],
  [(48, .inl (.aload_n 0), 1), (49, .inl (.iconst 0), 1), (50, .inl (.aload_n 1), 1), (51, .inr (0, 2, 1), 3), (54, .inl (.iconst 1), 1), (55, .inl (.isub), 1), (56, .inr (2, 56, 3), 3), (59, .inl (.pop), 1), (60, .inl (.aload_n 0), 1), (61, .inr (0, 1, 2), 3)],
  [(64, .inl (.ifCond .ne 14), 3), (67, .inl (.aload_n 1), 1), (68, .inr (0, 2, 10), 3), (71, .inl (.iload_n 2), 1), (72, .inl (.iload_n 3), 1), (73, .inl (.iload 4), 2), (75, .inr (2, 65, 4), 3), (78, .inl (.return_), 1)]]
-- MovingNames$Rounds.placeOf(II)I
set_option maxRecDepth 100000 in
noncomputable def ab_c64 : List (List (Nat × ab_I × Nat)) := [[(0, .inl (.aload_n 0), 1), (1, .inl (.iload_n 1), 1), (2, .inr (2, 21, 2), 3), (5, .inl (.istore_n 3), 1), (6, .inl (.iconst 0), 1), (7, .inl (.istore 4), 2), (9, .inl (.iload 4), 2), (11, .inl (.iload_n 3), 1), (12, .inl (.if_icmp .ge 23), 3), (15, .inl (.aload_n 0), 1)],
  [(16, .inl (.iload_n 1), 1), (17, .inl (.iload 4), 2), (19, .inr (2, 22, 3), 3), (22, .inl (.iload_n 2), 1), (23, .inl (.if_icmp .ne 6), 3), (26, .inl (.iload 4), 2), (28, .inl (.ireturn), 1), (29, .inl (.iinc 4 1), 3)],
  [(32, .inl (.goto (-23)), 3), (35, .inl (.iconst (-1)), 1), (36, .inl (.ireturn), 1)]]
-- MovingNames$Rounds.insert(III)V
set_option maxRecDepth 100000 in
noncomputable def ab_c65 : List (List (Nat × ab_I × Nat)) := [[(0, .inl (.aload_n 0), 1), (1, .inl (.iload_n 1), 1), (2, .inr (2, 21, 2), 3), (5, .inl (.istore 4), 2), (7, .inl (.iload 4), 2), (9, .inl (.bipush 20), 2), (11, .inl (.if_icmp .lt 4), 3), (14, .inl (.return_), 1), (15, .inl (.iload 4), 2)],
  [(17, .inl (.istore 5), 2), (19, .inl (.iload 5), 2), (21, .inl (.iload_n 2), 1), (22, .inl (.if_icmp .le 32), 3), (25, .inl (.aload_n 0), 1), (26, .inr (0, 3, 0), 3), (29, .inl (.iload_n 1), 1), (30, .inl (.bipush 20), 2)],
  [(32, .inl (.imul), 1), (33, .inl (.iload 5), 2), (35, .inl (.iadd), 1), (36, .inl (.aload_n 0), 1), (37, .inl (.iload_n 1), 1), (38, .inl (.iload 5), 2), (40, .inl (.iconst 1), 1), (41, .inl (.isub), 1), (42, .inr (2, 22, 3), 3), (45, .inr (2, 3, 3), 3)],
  [(48, .inl (.iinc 5 (-1)), 3), (51, .inl (.goto (-32)), 3), (54, .inl (.aload_n 0), 1), (55, .inr (0, 3, 0), 3), (58, .inl (.iload_n 1), 1), (59, .inl (.bipush 20), 2), (61, .inl (.imul), 1), (62, .inl (.iload_n 2), 1), (63, .inl (.iadd), 1)],
  [(64, .inl (.iload_n 3), 1), (65, .inr (2, 3, 3), 3), (68, .inl (.aload_n 0), 1), (69, .inr (0, 3, 1), 3), (72, .inl (.iload_n 1), 1), (73, .inl (.iload 4), 2), (75, .inl (.iconst 1), 1), (76, .inl (.iadd), 1), (77, .inr (2, 3, 3), 3)],
  [(80, .inl (.return_), 1)]]
-- MovingNames$Town.makeBlind(I)V
set_option maxRecDepth 100000 in
noncomputable def ab_c66 : List (List (Nat × ab_I × Nat)) := [[(0, .inl (.aload_n 0), 1), (1, .inl (.dup), 1), (2, .inr (0, 2, 6), 3), (5, .inl (.iconst 1), 1), (6, .inl (.iload_n 1), 1), (7, .inl (.ishl), 1), (8, .inl (.ior), 1), (9, .inr (1, 2, 6), 3), (12, .inl (.return_), 1)]]
-- MovingNames$Reader.readPerson(LMovingNames$Town;)V
set_option maxRecDepth 100000 in
noncomputable def ab_c67 : List (List (Nat × ab_I × Nat)) := [[(0, .inl (.aload_n 1), 1), (1, .inr (0, 2, 3), 3), (4, .inl (.bipush 8), 2), (6, .inl (.if_icmp .ne 9), 3), (9, .inl (.aload_n 0), 1), (10, .inl (.iconst 4), 1), (11, .inr (2, 55, 2), 3), (14, .inl (.return_), 1), (15, .inl (.aload_n 0), 1)],
  [(16, .inr (2, 43, 1), 3), (19, .inl (.aload_n 0), 1), (20, .inl (.iconst 0), 1), (21, .inl (.aload_n 1), 1), (22, .inr (0, 2, 1), 3), (25, .inl (.iconst 1), 1), (26, .inl (.isub), 1), (27, .inr (2, 56, 3), 3), (30, .inl (.istore_n 2), 1), (31, .inl (.aload_n 1), 1)],
  [(32, .inl (.iload_n 2), 1), (33, .inl (.aload_n 0), 1), (34, .inl (.iconst 1), 1), (35, .inl (.aload_n 1), 1), (36, .inr (0, 2, 2), 3), (39, .inr (2, 56, 3), 3), (42, .inr (2, 68, 3), 3), (45, .inl (.return_), 1)]]
-- MovingNames$Town.addPerson(II)V
set_option maxRecDepth 100000 in
noncomputable def ab_c68 : List (List (Nat × ab_I × Nat)) := [[(0, .inl (.aload_n 0), 1), (1, .inr (0, 2, 8), 3), (4, .inl (.aload_n 0), 1), (5, .inr (0, 2, 3), 3), (8, .inl (.iload_n 1), 1), (9, .inr (2, 3, 3), 3), (12, .inl (.aload_n 0), 1), (13, .inr (0, 2, 9), 3)],
  [(16, .inl (.aload_n 0), 1), (17, .inr (0, 2, 3), 3), (20, .inl (.iload_n 2), 1), (21, .inr (2, 3, 3), 3), (24, .inl (.aload_n 0), 1), (25, .inl (.aload_n 0), 1), (26, .inr (0, 2, 3), 3), (29, .inl (.iconst 1), 1), (30, .inl (.iadd), 1), (31, .inl (.bipush 8), 2)],
  [(33, .inr (2, 19, 2), 3), (36, .inr (1, 2, 3), 3), (39, .inl (.return_), 1)]]
-- MovingNames$Reader.readTruth(LMovingNames$Law;I)V
set_option maxRecDepth 100000 in
noncomputable def ab_c69 : List (List (Nat × ab_I × Nat)) := [[(0, .inl (.aload_n 0), 1), (1, .inl (.aload_n 1), 1), (2, .inl (.iload_n 2), 1), (3, .inr (2, 70, 3), 3), (6, .inl (.iconst 0), 1), (7, .inl (.istore_n 3), 1), (8, .inl (.iload_n 3), 1), (9, .inl (.sipush 900), 3), (12, .inl (.if_icmp .ge 42), 3), (15, .inl (.aload_n 0), 1)],
  [(16, .inr (0, 1, 2), 3), (19, .inl (.ifCond .ne 35), 3), (22, .inl (.aload_n 0), 1), (23, .inr (0, 1, 8), 3), (26, .inr (3, 19, 0), 3), (29, .inl (.if_acmp .ne 25), 3)],
  [(32, .inl (.aload_n 0), 1), (33, .inr (2, 43, 1), 3), (36, .inl (.aload_n 0), 1), (37, .inl (.aload_n 1), 1), (38, .inl (.iload_n 2), 1), (39, .inr (2, 70, 3), 3), (42, .inl (.aload_n 1), 1), (43, .inl (.bipush (-14)), 2), (45, .inr (2, 73, 2), 3)],
  [(48, .inl (.iinc 3 1), 3), (51, .inl (.goto (-43)), 3), (54, .inl (.return_), 1)]]
-- MovingNames$Reader.readBoth(LMovingNames$Law;I)V
set_option maxRecDepth 100000 in
noncomputable def ab_c70 : List (List (Nat × ab_I × Nat)) := [[(0, .inl (.aload_n 0), 1), (1, .inl (.aload_n 1), 1), (2, .inl (.iload_n 2), 1), (3, .inr (2, 71, 3), 3), (6, .inl (.iconst 0), 1), (7, .inl (.istore_n 3), 1), (8, .inl (.iload_n 3), 1), (9, .inl (.sipush 900), 3), (12, .inl (.if_icmp .ge 42), 3), (15, .inl (.aload_n 0), 1)],
  [(16, .inr (0, 1, 2), 3), (19, .inl (.ifCond .ne 35), 3), (22, .inl (.aload_n 0), 1), (23, .inr (0, 1, 8), 3), (26, .inr (3, 20, 0), 3), (29, .inl (.if_acmp .ne 25), 3)],
  [(32, .inl (.aload_n 0), 1), (33, .inr (2, 43, 1), 3), (36, .inl (.aload_n 0), 1), (37, .inl (.aload_n 1), 1), (38, .inl (.iload_n 2), 1), (39, .inr (2, 71, 3), 3), (42, .inl (.aload_n 1), 1), (43, .inl (.bipush (-13)), 2), (45, .inr (2, 73, 2), 3)],
  [(48, .inl (.iinc 3 1), 3), (51, .inl (.goto (-43)), 3), (54, .inl (.return_), 1)]]
-- MovingNames$Reader.readUnit(LMovingNames$Law;I)V
set_option maxRecDepth 100000 in
noncomputable def ab_c71 : List (List (Nat × ab_I × Nat)) := [[(0, .inl (.aload_n 0), 1), (1, .inr (0, 1, 8), 3), (4, .inr (3, 21, 0), 3), (7, .inl (.if_acmp .ne 28), 3), (10, .inl (.aload_n 0), 1), (11, .inl (.iload_n 2), 1), (12, .inr (2, 72, 2), 3), (15, .inl (.ifCond .eq 62), 3)],
  [(18, .inl (.aload_n 0), 1), (19, .inl (.aload_n 1), 1), (20, .inl (.iload_n 2), 1), (21, .inl (.iconst 1), 1), (22, .inl (.iadd), 1), (23, .inr (2, 71, 3), 3), (26, .inl (.aload_n 1), 1), (27, .inl (.bipush (-12)), 2), (29, .inr (2, 73, 2), 3)],
  [(32, .inl (.goto 45), 3), (35, .inl (.aload_n 0), 1), (36, .inr (0, 1, 8), 3), (39, .inr (3, 17, 0), 3), (42, .inl (.if_acmp .ne 29), 3), (45, .inl (.aload_n 0), 1), (46, .inl (.iload_n 2), 1), (47, .inr (2, 72, 2), 3)],
  [(50, .inl (.ifCond .eq 27), 3), (53, .inl (.aload_n 0), 1), (54, .inl (.aload_n 1), 1), (55, .inl (.iload_n 2), 1), (56, .inl (.iconst 1), 1), (57, .inl (.iadd), 1), (58, .inr (2, 69, 3), 3), (61, .inl (.aload_n 0), 1), (62, .inr (3, 18, 0), 3)],
  [(65, .inr (2, 54, 2), 3), (68, .inl (.goto 9), 3), (71, .inl (.aload_n 0), 1), (72, .inl (.aload_n 1), 1), (73, .inl (.iload_n 2), 1), (74, .inr (2, 74, 3), 3), (77, .inl (.return_), 1)]]
-- MovingNames$Reader.enters(I)Z
set_option maxRecDepth 100000 in
noncomputable def ab_c72 : List (List (Nat × ab_I × Nat)) := [[(0, .inl (.iload_n 1), 1), (1, .inl (.bipush 6), 2), (3, .inl (.if_icmp .lt 10), 3), (6, .inl (.aload_n 0), 1), (7, .inl (.iconst 4), 1), (8, .inr (2, 55, 2), 3), (11, .inl (.iconst 0), 1), (12, .inl (.ireturn), 1), (13, .inl (.aload_n 0), 1), (14, .inr (2, 43, 1), 3)],
  [(17, .inl (.iconst 1), 1), (18, .inl (.ireturn), 1)]]
-- MovingNames$Law.add(I)V
set_option maxRecDepth 100000 in
noncomputable def ab_c73 : List (List (Nat × ab_I × Nat)) := [[(0, .inl (.aload_n 0), 1), (1, .inr (0, 4, 0), 3), (4, .inl (.aload_n 0), 1), (5, .inr (0, 4, 2), 3), (8, .inl (.iload_n 1), 1), (9, .inr (2, 3, 3), 3), (12, .inl (.aload_n 0), 1), (13, .inl (.aload_n 0), 1), (14, .inr (0, 4, 2), 3)],
  [(17, .inl (.iconst 1), 1), (18, .inl (.iadd), 1), (19, .inl (.aload_n 0), 1), (20, .inr (0, 4, 0), 3), (23, .inl (.arraylength), 1), (24, .inr (2, 19, 2), 3), (27, .inr (1, 4, 2), 3), (30, .inl (.return_), 1)]]
-- MovingNames$Reader.readComparison(LMovingNames$Law;I)V
set_option maxRecDepth 100000 in
noncomputable def ab_c74 : List (List (Nat × ab_I × Nat)) := [[(0, .inl (.aload_n 0), 1), (1, .inl (.aload_n 1), 1), (2, .inl (.iload_n 2), 1), (3, .inr (2, 75, 3), 3), (6, .inl (.aload_n 0), 1), (7, .inr (0, 1, 8), 3), (10, .inr (0, 10, 1), 3), (13, .inl (.istore_n 3), 1), (14, .inl (.aload_n 0), 1), (15, .inr (0, 1, 8), 3)],
  [(18, .inr (2, 79, 1), 3), (21, .inl (.ifCond .ne 8), 3), (24, .inl (.aload_n 0), 1), (25, .inl (.iconst 2), 1), (26, .inr (2, 55, 2), 3), (29, .inl (.aload_n 0), 1), (30, .inr (0, 1, 2), 3)],
  [(33, .inl (.ifCond .ne 18), 3), (36, .inl (.aload_n 0), 1), (37, .inr (2, 43, 1), 3), (40, .inl (.aload_n 0), 1), (41, .inl (.aload_n 1), 1), (42, .inl (.iload_n 2), 1), (43, .inr (2, 75, 3), 3), (46, .inl (.aload_n 1), 1), (47, .inl (.iload_n 3), 1)],
  [(48, .inr (2, 73, 2), 3), (51, .inl (.return_), 1)]]
-- MovingNames$Reader.readSum(LMovingNames$Law;I)V
set_option maxRecDepth 100000 in
noncomputable def ab_c75 : List (List (Nat × ab_I × Nat)) := [[(0, .inl (.aload_n 0), 1), (1, .inl (.aload_n 1), 1), (2, .inl (.iload_n 2), 1), (3, .inr (2, 76, 3), 3), (6, .inl (.iconst 0), 1), (7, .inl (.istore_n 3), 1), (8, .inl (.iload_n 3), 1), (9, .inl (.sipush 900), 3), (12, .inl (.if_icmp .ge 61), 3), (15, .inl (.aload_n 0), 1)],
  [(16, .inr (0, 1, 2), 3), (19, .inl (.ifCond .ne 54), 3), (22, .inl (.aload_n 0), 1), (23, .inr (0, 1, 8), 3), (26, .inr (3, 25, 0), 3), (29, .inl (.if_acmp .eq 13), 3)],
  [(32, .inl (.aload_n 0), 1), (33, .inr (0, 1, 8), 3), (36, .inr (3, 26, 0), 3), (39, .inl (.if_acmp .ne 34), 3), (42, .inl (.aload_n 0), 1), (43, .inr (0, 1, 8), 3), (46, .inr (0, 10, 1), 3)],
  [(49, .inl (.istore 4), 2), (51, .inl (.aload_n 0), 1), (52, .inr (2, 43, 1), 3), (55, .inl (.aload_n 0), 1), (56, .inl (.aload_n 1), 1), (57, .inl (.iload_n 2), 1), (58, .inr (2, 76, 3), 3), (61, .inl (.aload_n 1), 1), (62, .inl (.iload 4), 2)],
  [(64, .inr (2, 73, 2), 3), (67, .inl (.iinc 3 1), 3), (70, .inl (.goto (-62)), 3), (73, .inl (.return_), 1)]]
-- MovingNames$Reader.readTerm(LMovingNames$Law;I)V
set_option maxRecDepth 100000 in
noncomputable def ab_c76 : List (List (Nat × ab_I × Nat)) := [[(0, .inl (.aload_n 0), 1), (1, .inl (.aload_n 1), 1), (2, .inl (.iload_n 2), 1), (3, .inr (2, 77, 3), 3), (6, .inl (.iconst 0), 1), (7, .inl (.istore_n 3), 1), (8, .inl (.iload_n 3), 1), (9, .inl (.sipush 900), 3), (12, .inl (.if_icmp .ge 42), 3), (15, .inl (.aload_n 0), 1)],
  [(16, .inr (0, 1, 2), 3), (19, .inl (.ifCond .ne 35), 3), (22, .inl (.aload_n 0), 1), (23, .inr (0, 1, 8), 3), (26, .inr (3, 27, 0), 3), (29, .inl (.if_acmp .ne 25), 3)],
  [(32, .inl (.aload_n 0), 1), (33, .inr (2, 43, 1), 3), (36, .inl (.aload_n 0), 1), (37, .inl (.aload_n 1), 1), (38, .inl (.iload_n 2), 1), (39, .inr (2, 77, 3), 3), (42, .inl (.aload_n 1), 1), (43, .inl (.bipush (-8)), 2), (45, .inr (2, 73, 2), 3)],
  [(48, .inl (.iinc 3 1), 3), (51, .inl (.goto (-43)), 3), (54, .inl (.return_), 1)]]
-- MovingNames$Reader.readAtom(LMovingNames$Law;I)V
set_option maxRecDepth 100000 in
noncomputable def ab_c77 : List (List (Nat × ab_I × Nat)) := [[(0, .inl (.aload_n 0), 1), (1, .inr (0, 1, 8), 3), (4, .inr (3, 2, 0), 3), (7, .inl (.if_acmp .ne 18), 3), (10, .inl (.aload_n 1), 1), (11, .inl (.aload_n 0), 1), (12, .inr (0, 1, 7), 3), (15, .inr (2, 73, 2), 3)],
  [(18, .inl (.aload_n 0), 1), (19, .inr (2, 43, 1), 3), (22, .inl (.goto 72), 3), (25, .inl (.aload_n 0), 1), (26, .inr (0, 1, 8), 3), (29, .inr (2, 78, 1), 3)],
  [(32, .inl (.ifCond .eq 21), 3), (35, .inl (.aload_n 1), 1), (36, .inl (.aload_n 0), 1), (37, .inr (0, 1, 8), 3), (40, .inr (0, 10, 1), 3), (43, .inr (2, 73, 2), 3), (46, .inl (.aload_n 0), 1), (47, .inr (2, 43, 1), 3)],
  [(50, .inl (.goto 44), 3), (53, .inl (.aload_n 0), 1), (54, .inr (0, 1, 8), 3), (57, .inr (3, 15, 0), 3), (60, .inl (.if_acmp .eq 11), 3), (63, .inl (.aload_n 0), 1)],
  [(64, .inl (.iconst 2), 1), (65, .inr (2, 55, 2), 3), (68, .inl (.goto 26), 3), (71, .inl (.aload_n 0), 1), (72, .inl (.iload_n 2), 1), (73, .inr (2, 72, 2), 3), (76, .inl (.ifCond .eq 18), 3), (79, .inl (.aload_n 0), 1)],
  [(80, .inl (.aload_n 1), 1), (81, .inl (.iload_n 2), 1), (82, .inl (.iconst 1), 1), (83, .inl (.iadd), 1), (84, .inr (2, 75, 3), 3), (87, .inl (.aload_n 0), 1), (88, .inr (3, 16, 0), 3), (91, .inr (2, 54, 2), 3), (94, .inl (.return_), 1)]]
-- MovingNames$Token.isReading()Z
set_option maxRecDepth 100000 in
noncomputable def ab_c78 : List (List (Nat × ab_I × Nat)) := [[(0, .inl (.aload_n 0), 1), (1, .inr (0, 10, 1), 3), (4, .inl (.iconst (-1)), 1), (5, .inl (.if_icmp .gt 16), 3), (8, .inl (.aload_n 0), 1), (9, .inr (0, 10, 1), 3), (12, .inl (.bipush (-5)), 2), (14, .inl (.if_icmp .lt 7), 3)],
  [(17, .inl (.iconst 1), 1), (18, .inl (.goto 4), 3), (21, .inl (.iconst 0), 1), (22, .inl (.ireturn), 1)]]
-- MovingNames$Token.isComparison()Z
set_option maxRecDepth 100000 in
noncomputable def ab_c79 : List (List (Nat × ab_I × Nat)) := [[(0, .inl (.aload_n 0), 1), (1, .inr (0, 10, 1), 3), (4, .inl (.bipush (-9)), 2), (6, .inl (.if_icmp .gt 16), 3), (9, .inl (.aload_n 0), 1), (10, .inr (0, 10, 1), 3), (13, .inl (.bipush (-11)), 2), (15, .inl (.if_icmp .lt 7), 3)],
  [(18, .inl (.iconst 1), 1), (19, .inl (.goto 4), 3), (22, .inl (.iconst 0), 1), (23, .inl (.ireturn), 1)]]
-- MovingNames$Town.takeOver(LMovingNames$Town;)V
set_option maxRecDepth 100000 in
noncomputable def ab_c80 : List (List (Nat × ab_I × Nat)) := [[(0, .inl (.aload_n 0), 1), (1, .inl (.aload_n 1), 1), (2, .inr (0, 2, 0), 3), (5, .inr (1, 2, 0), 3), (8, .inl (.aload_n 0), 1), (9, .inl (.aload_n 1), 1), (10, .inr (0, 2, 1), 3), (13, .inr (1, 2, 1), 3)],
  [(16, .inl (.aload_n 0), 1), (17, .inl (.aload_n 1), 1), (18, .inr (0, 2, 2), 3), (21, .inr (1, 2, 2), 3), (24, .inl (.aload_n 0), 1), (25, .inl (.aload_n 1), 1), (26, .inr (0, 2, 3), 3), (29, .inr (1, 2, 3), 3)],
  [(32, .inl (.aload_n 0), 1), (33, .inl (.aload_n 1), 1), (34, .inr (0, 2, 4), 3), (37, .inr (1, 2, 4), 3), (40, .inl (.aload_n 0), 1), (41, .inl (.aload_n 1), 1), (42, .inr (0, 2, 5), 3), (45, .inr (1, 2, 5), 3)],
  [(48, .inl (.aload_n 0), 1), (49, .inl (.aload_n 1), 1), (50, .inr (0, 2, 6), 3), (53, .inr (1, 2, 6), 3), (56, .inl (.aload_n 0), 1), (57, .inr (0, 2, 7), 3), (60, .inl (.aload_n 1), 1), (61, .inr (0, 2, 7), 3)],
  [(64, .inr (2, 18, 2), 3), (67, .inl (.aload_n 0), 1), (68, .inr (0, 2, 8), 3), (71, .inl (.aload_n 1), 1), (72, .inr (0, 2, 8), 3), (75, .inr (2, 18, 2), 3), (78, .inl (.aload_n 0), 1), (79, .inr (0, 2, 9), 3)],
  [(82, .inl (.aload_n 1), 1), (83, .inr (0, 2, 9), 3), (86, .inr (2, 18, 2), 3), (89, .inl (.aload_n 0), 1), (90, .inr (0, 2, 10), 3), (93, .inl (.aload_n 1), 1), (94, .inr (0, 2, 10), 3)],
  [(97, .inr (2, 81, 2), 3), (100, .inl (.aload_n 0), 1), (101, .inr (0, 2, 11), 3), (104, .inl (.aload_n 1), 1), (105, .inr (0, 2, 11), 3), (108, .inr (2, 82, 2), 3), (111, .inl (.aload_n 0), 1)],
  [(112, .inr (0, 2, 12), 3), (115, .inl (.aload_n 1), 1), (116, .inr (0, 2, 12), 3), (119, .inr (2, 83, 2), 3), (122, .inl (.return_), 1)]]
-- MovingNames$Rounds.takeOver(LMovingNames$Rounds;)V
set_option maxRecDepth 100000 in
noncomputable def ab_c81 : List (List (Nat × ab_I × Nat)) := [[(0, .inl (.aload_n 0), 1), (1, .inr (0, 3, 0), 3), (4, .inl (.aload_n 1), 1), (5, .inr (0, 3, 0), 3), (8, .inr (2, 18, 2), 3), (11, .inl (.aload_n 0), 1), (12, .inr (0, 3, 1), 3), (15, .inl (.aload_n 1), 1)],
  [(16, .inr (0, 3, 1), 3), (19, .inr (2, 18, 2), 3), (22, .inl (.aload_n 0), 1), (23, .inr (0, 3, 2), 3), (26, .inl (.aload_n 1), 1), (27, .inr (0, 3, 2), 3), (30, .inr (2, 18, 2), 3)],
  [(33, .inl (.aload_n 0), 1), (34, .inl (.aload_n 1), 1), (35, .inr (0, 3, 3), 3), (38, .inr (1, 3, 3), 3), (41, .inl (.return_), 1)]]
-- MovingNames$Law.takeOver(LMovingNames$Law;)V
set_option maxRecDepth 100000 in
noncomputable def ab_c82 : List (List (Nat × ab_I × Nat)) := [[(0, .inl (.aload_n 1), 1), (1, .inr (0, 4, 0), 3), (4, .inl (.iconst 0), 1), (5, .inl (.aload_n 0), 1), (6, .inr (0, 4, 0), 3), (9, .inl (.iconst 0), 1), (10, .inl (.aload_n 1), 1), (11, .inr (0, 4, 2), 3), (14, .inl (.aload_n 0), 1), (15, .inr (0, 4, 0), 3)],
  [(18, .inl (.arraylength), 1), (19, .inr (2, 19, 2), 3), (22, .inr (12, 0, 0), 3), (25, .inl (.aload_n 0), 1), (26, .inl (.aload_n 1), 1), (27, .inr (0, 4, 2), 3), (30, .inr (1, 4, 2), 3)],
  [(33, .inl (.return_), 1)]]
-- MovingNames$Deeds.takeOver(LMovingNames$Deeds;)V
set_option maxRecDepth 100000 in
noncomputable def ab_c83 : List (List (Nat × ab_I × Nat)) := [[(0, .inl (.aload_n 0), 1), (1, .inr (0, 5, 0), 3), (4, .inl (.aload_n 1), 1), (5, .inr (0, 5, 0), 3), (8, .inr (2, 18, 2), 3), (11, .inl (.aload_n 0), 1), (12, .inl (.aload_n 1), 1), (13, .inr (0, 5, 1), 3)],
  [(16, .inr (1, 5, 1), 3), (19, .inl (.return_), 1)]]
-- MovingNamesLaw.street(LMovingNames;II[J)I
set_option maxRecDepth 100000 in
noncomputable def ab_c84 : List (List (Nat × ab_I × Nat)) := [[(0, .inl (.aload_n 3), 1), (1, .inl (.iconst 0), 1), (2, .inl (.aload_n 0), 1), (3, .inl (.iload_n 1), 1), (4, .inl (.iload_n 2), 1), (5, .inr (2, 85, 3), 3), (8, .inl (.i2l), 1), (9, .inl (.lastore), 1), (10, .inl (.goto 11), 3), (13, .inl (.astore 4), 2), (15, .inl (.iconst 1), 1)],
  [(16, .inl (.ireturn), 1), (17, .inl (.astore 4), 2), (19, .inl (.iconst 2), 1), (20, .inl (.ireturn), 1), (21, .inl (.iconst 0), 1), (22, .inl (.ireturn), 1)]]
-- MovingNames.street(II)I
set_option maxRecDepth 100000 in
noncomputable def ab_c85 : List (List (Nat × ab_I × Nat)) := [[(0, .inl (.aload_n 0), 1), (1, .inl (.iload_n 1), 1), (2, .inr (2, 86, 2), 3), (5, .inl (.iload_n 2), 1), (6, .inl (.tableswitch 104 0 4 #[34, 46, 63, 75, 95]), 34)],
  [],
  [(40, .inl (.aload_n 0), 1), (41, .inr (0, 0, 1), 3), (44, .inr (0, 2, 7), 3), (47, .inl (.iload_n 1), 1)],
  [(48, .inr (2, 9, 2), 3), (51, .inl (.ireturn), 1), (52, .inl (.aload_n 0), 1), (53, .inr (0, 0, 1), 3), (56, .inl (.iload_n 1), 1), (57, .inr (2, 23, 2), 3), (60, .inl (.ifCond .eq 7), 3), (63, .inl (.iconst 1), 1)],
  [(64, .inl (.goto 4), 3), (67, .inl (.iconst 0), 1), (68, .inl (.ireturn), 1), (69, .inl (.aload_n 0), 1), (70, .inr (0, 0, 1), 3), (73, .inr (0, 2, 10), 3), (76, .inl (.iload_n 1), 1), (77, .inr (2, 87, 2), 3)],
  [(80, .inl (.ireturn), 1), (81, .inl (.aload_n 0), 1), (82, .inr (0, 0, 3), 3), (85, .inl (.aload_n 0), 1), (86, .inr (0, 0, 1), 3), (89, .inr (2, 17, 2), 3), (92, .inl (.aload_n 0), 1), (93, .inr (0, 0, 3), 3)],
  [(96, .inl (.iload_n 1), 1), (97, .inr (2, 27, 2), 3), (100, .inl (.ireturn), 1), (101, .inl (.aload_n 0), 1), (102, .inr (0, 0, 1), 3), (105, .inl (.iload_n 1), 1), (106, .inr (2, 88, 2), 3), (109, .inl (.ireturn), 1), (110, .inr (10, 0, 0), 10)]]
-- MovingNames.needStreet(I)V
set_option maxRecDepth 100000 in
noncomputable def ab_c86 : List (List (Nat × ab_I × Nat)) := [[(0, .inl (.iload_n 1), 1), (1, .inl (.ifCond .lt 14), 3), (4, .inl (.iload_n 1), 1), (5, .inl (.aload_n 0), 1), (6, .inr (0, 0, 1), 3), (9, .inr (0, 2, 1), 3), (12, .inl (.if_icmp .lt 14), 3), (15, .inr (10, 1, 0), 11)],
  [(26, .inl (.return_), 1)]]
-- MovingNames$Rounds.roundsOf(I)I
set_option maxRecDepth 100000 in
noncomputable def ab_c87 : List (List (Nat × ab_I × Nat)) := [[(0, .inl (.iconst 0), 1), (1, .inl (.istore_n 2), 1), (2, .inl (.iconst 0), 1), (3, .inl (.istore_n 3), 1), (4, .inl (.iload_n 3), 1), (5, .inl (.aload_n 0), 1), (6, .inr (0, 3, 3), 3), (9, .inl (.if_icmp .ge 25), 3), (12, .inl (.aload_n 0), 1), (13, .inl (.iload_n 3), 1), (14, .inl (.iload_n 1), 1), (15, .inr (2, 64, 3), 3)],
  [(18, .inl (.iconst (-1)), 1), (19, .inl (.if_icmp .eq 9), 3), (22, .inl (.iload_n 2), 1), (23, .inl (.iconst 1), 1), (24, .inl (.iload_n 3), 1), (25, .inl (.ishl), 1), (26, .inl (.ior), 1), (27, .inl (.istore_n 2), 1), (28, .inl (.iinc 3 1), 3), (31, .inl (.goto (-27)), 3)],
  [(34, .inl (.iload_n 2), 1), (35, .inl (.ireturn), 1)]]
-- MovingNames$Town.peopleOn(I)I
set_option maxRecDepth 100000 in
noncomputable def ab_c88 : List (List (Nat × ab_I × Nat)) := [[(0, .inl (.iconst 0), 1), (1, .inl (.istore_n 2), 1), (2, .inl (.iconst 0), 1), (3, .inl (.istore_n 3), 1), (4, .inl (.iload_n 3), 1), (5, .inl (.aload_n 0), 1), (6, .inr (0, 2, 3), 3), (9, .inl (.if_icmp .ge 27), 3), (12, .inl (.aload_n 0), 1), (13, .inr (0, 2, 8), 3)],
  [(16, .inl (.iload_n 3), 1), (17, .inr (2, 9, 2), 3), (20, .inl (.iload_n 1), 1), (21, .inl (.if_icmp .ne 9), 3), (24, .inl (.iload_n 2), 1), (25, .inl (.iconst 1), 1), (26, .inl (.iload_n 3), 1), (27, .inl (.ishl), 1), (28, .inl (.ior), 1), (29, .inl (.istore_n 2), 1), (30, .inl (.iinc 3 1), 3)],
  [(33, .inl (.goto (-29)), 3), (36, .inl (.iload_n 2), 1), (37, .inl (.ireturn), 1)]]
-- MovingNamesLaw.round(LMovingNames;II[J)I
set_option maxRecDepth 100000 in
noncomputable def ab_c89 : List (List (Nat × ab_I × Nat)) := [[(0, .inl (.aload_n 3), 1), (1, .inl (.iconst 0), 1), (2, .inl (.aload_n 0), 1), (3, .inl (.iload_n 1), 1), (4, .inl (.iload_n 2), 1), (5, .inr (2, 90, 3), 3), (8, .inl (.i2l), 1), (9, .inl (.lastore), 1), (10, .inl (.goto 11), 3), (13, .inl (.astore 4), 2), (15, .inl (.iconst 1), 1)],
  [(16, .inl (.ireturn), 1), (17, .inl (.astore 4), 2), (19, .inl (.iconst 2), 1), (20, .inl (.ireturn), 1), (21, .inl (.iconst 0), 1), (22, .inl (.ireturn), 1)]]
-- MovingNames.round(II)I
set_option maxRecDepth 100000 in
noncomputable def ab_c90 : List (List (Nat × ab_I × Nat)) := [[(0, .inl (.aload_n 0), 1), (1, .inl (.iload_n 1), 1), (2, .inr (2, 91, 2), 3), (5, .inl (.iload_n 2), 1), (6, .inl (.tableswitch 73 0 2 #[26, 38, 53]), 26)],
  [],
  [(32, .inl (.aload_n 0), 1), (33, .inr (0, 0, 1), 3), (36, .inr (0, 2, 10), 3), (39, .inl (.iload_n 1), 1), (40, .inr (2, 21, 2), 3), (43, .inl (.ireturn), 1), (44, .inl (.aload_n 0), 1), (45, .inr (0, 0, 1), 3)],
  [(48, .inr (0, 2, 10), 3), (51, .inl (.iload_n 1), 1), (52, .inr (2, 24, 2), 3), (55, .inr (2, 92, 1), 3), (58, .inl (.ireturn), 1), (59, .inl (.aload_n 0), 1), (60, .inr (0, 0, 1), 3), (63, .inr (0, 2, 10), 3)],
  [(66, .inl (.iload_n 1), 1), (67, .inr (2, 24, 2), 3), (70, .inl (.ifCond .ge 7), 3), (73, .inl (.iconst 1), 1), (74, .inl (.goto 4), 3), (77, .inl (.iconst 0), 1), (78, .inl (.ireturn), 1), (79, .inl (.iload_n 2), 1)],
  [(80, .inl (.bipush 10), 2), (82, .inl (.if_icmp .lt 9), 3), (85, .inl (.iload_n 2), 1), (86, .inl (.bipush 30), 2), (88, .inl (.if_icmp .lt 13), 3), (91, .inr (10, 0, 0), 10)],
  [(101, .inl (.aload_n 0), 1), (102, .inr (0, 0, 1), 3), (105, .inr (0, 2, 10), 3), (108, .inl (.iload_n 1), 1), (109, .inl (.iload_n 2), 1), (110, .inl (.bipush 10), 2)],
  [(112, .inl (.isub), 1), (113, .inr (2, 22, 3), 3), (116, .inl (.ireturn), 1)]]
-- MovingNames.needRound(I)V
set_option maxRecDepth 100000 in
noncomputable def ab_c91 : List (List (Nat × ab_I × Nat)) := [[(0, .inl (.iload_n 1), 1), (1, .inl (.ifCond .lt 17), 3), (4, .inl (.iload_n 1), 1), (5, .inl (.aload_n 0), 1), (6, .inr (0, 0, 1), 3), (9, .inr (0, 2, 10), 3), (12, .inr (0, 3, 3), 3), (15, .inl (.if_icmp .lt 14), 3)],
  [(18, .inr (10, 1, 0), 11), (29, .inl (.return_), 1)]]
-- java/lang/Math.abs(I)I
set_option maxRecDepth 100000 in
noncomputable def ab_c92 : List (List (Nat × ab_I × Nat)) := [[(0, .inl (.iload_n 0), 1), (1, .inl (.ifCond .ge 8), 3), (4, .inl (.iload_n 0), 1), (5, .inl (.ineg), 1), (6, .inl (.goto 4), 3), (9, .inl (.iload_n 0), 1), (10, .inl (.ireturn), 1)]]
-- MovingNamesLaw.person(LMovingNames;II[J)I
set_option maxRecDepth 100000 in
noncomputable def ab_c93 : List (List (Nat × ab_I × Nat)) := [[(0, .inl (.aload_n 3), 1), (1, .inl (.iconst 0), 1), (2, .inl (.aload_n 0), 1), (3, .inl (.iload_n 1), 1), (4, .inl (.iload_n 2), 1), (5, .inr (2, 94, 3), 3), (8, .inl (.i2l), 1), (9, .inl (.lastore), 1), (10, .inl (.goto 11), 3), (13, .inl (.astore 4), 2), (15, .inl (.iconst 1), 1)],
  [(16, .inl (.ireturn), 1), (17, .inl (.astore 4), 2), (19, .inl (.iconst 2), 1), (20, .inl (.ireturn), 1), (21, .inl (.iconst 0), 1), (22, .inl (.ireturn), 1)]]
-- MovingNames.person(II)I
set_option maxRecDepth 100000 in
noncomputable def ab_c94 : List (List (Nat × ab_I × Nat)) := [[(0, .inl (.aload_n 0), 1), (1, .inl (.iload_n 1), 1), (2, .inr (2, 95, 2), 3), (5, .inl (.iload_n 2), 1), (6, .inl (.tableswitch 72 0 2 #[26, 38, 50]), 26)],
  [],
  [(32, .inl (.aload_n 0), 1), (33, .inr (0, 0, 1), 3), (36, .inr (0, 2, 8), 3), (39, .inl (.iload_n 1), 1), (40, .inr (2, 9, 2), 3), (43, .inl (.ireturn), 1), (44, .inl (.aload_n 0), 1), (45, .inr (0, 0, 1), 3)],
  [(48, .inr (0, 2, 9), 3), (51, .inl (.iload_n 1), 1), (52, .inr (2, 9, 2), 3), (55, .inl (.ireturn), 1), (56, .inl (.aload_n 0), 1), (57, .inr (0, 0, 1), 3), (60, .inr (0, 2, 7), 3), (63, .inl (.aload_n 0), 1)],
  [(64, .inr (0, 0, 1), 3), (67, .inr (0, 2, 8), 3), (70, .inl (.iload_n 1), 1), (71, .inr (2, 9, 2), 3), (74, .inr (2, 9, 2), 3), (77, .inl (.ireturn), 1), (78, .inr (10, 0, 0), 10)]]
-- MovingNames.needPerson(I)V
set_option maxRecDepth 100000 in
noncomputable def ab_c95 : List (List (Nat × ab_I × Nat)) := [[(0, .inl (.iload_n 1), 1), (1, .inl (.ifCond .lt 14), 3), (4, .inl (.iload_n 1), 1), (5, .inl (.aload_n 0), 1), (6, .inr (0, 0, 1), 3), (9, .inr (0, 2, 3), 3), (12, .inl (.if_icmp .lt 14), 3), (15, .inr (10, 1, 0), 11)],
  [(26, .inl (.return_), 1)]]
-- MovingNamesLaw.where(LMovingNames;I[J)I
set_option maxRecDepth 100000 in
noncomputable def ab_c96 : List (List (Nat × ab_I × Nat)) := [[(0, .inl (.aload_n 2), 1), (1, .inl (.iconst 0), 1), (2, .inl (.aload_n 0), 1), (3, .inl (.iload_n 1), 1), (4, .inr (2, 97, 2), 3), (7, .inl (.i2l), 1), (8, .inl (.lastore), 1), (9, .inl (.goto 6), 3), (12, .inl (.astore_n 3), 1), (13, .inl (.iconst 1), 1), (14, .inl (.ireturn), 1), (15, .inl (.iconst 0), 1)],
  [(16, .inl (.ireturn), 1)]]
-- MovingNames.where(I)I
set_option maxRecDepth 100000 in
noncomputable def ab_c97 : List (List (Nat × ab_I × Nat)) := [[(0, .inl (.aload_n 0), 1), (1, .inl (.iload_n 1), 1), (2, .inr (2, 98, 2), 3), (5, .inl (.aload_n 0), 1), (6, .inr (0, 0, 1), 3), (9, .inl (.iload_n 1), 1), (10, .inr (2, 99, 2), 3), (13, .inl (.ireturn), 1)]]
-- MovingNames.needName(I)V
set_option maxRecDepth 100000 in
noncomputable def ab_c98 : List (List (Nat × ab_I × Nat)) := [[(0, .inl (.iload_n 1), 1), (1, .inl (.ifCond .lt 14), 3), (4, .inl (.iload_n 1), 1), (5, .inl (.aload_n 0), 1), (6, .inr (0, 0, 1), 3), (9, .inr (0, 2, 1), 3), (12, .inl (.if_icmp .lt 14), 3), (15, .inr (10, 1, 0), 11)],
  [(26, .inl (.return_), 1)]]
-- MovingNames$Town.streetsOf(I)I
set_option maxRecDepth 100000 in
noncomputable def ab_c99 : List (List (Nat × ab_I × Nat)) := [[(0, .inl (.iconst 0), 1), (1, .inl (.istore_n 2), 1), (2, .inl (.iconst 0), 1), (3, .inl (.istore_n 3), 1), (4, .inl (.iload_n 3), 1), (5, .inl (.aload_n 0), 1), (6, .inr (0, 2, 1), 3), (9, .inl (.if_icmp .ge 27), 3), (12, .inl (.aload_n 0), 1), (13, .inr (0, 2, 7), 3)],
  [(16, .inl (.iload_n 3), 1), (17, .inr (2, 9, 2), 3), (20, .inl (.iload_n 1), 1), (21, .inl (.if_icmp .ne 9), 3), (24, .inl (.iload_n 2), 1), (25, .inl (.iconst 1), 1), (26, .inl (.iload_n 3), 1), (27, .inl (.ishl), 1), (28, .inl (.ior), 1), (29, .inl (.istore_n 2), 1), (30, .inl (.iinc 3 1), 3)],
  [(33, .inl (.goto (-29)), 3), (36, .inl (.iload_n 2), 1), (37, .inl (.ireturn), 1)]]
-- MovingNamesLaw.finds(LMovingNames;II[J)I
set_option maxRecDepth 100000 in
noncomputable def ab_c100 : List (List (Nat × ab_I × Nat)) := [[(0, .inl (.aload_n 3), 1), (1, .inl (.iconst 0), 1), (2, .inl (.aload_n 0), 1), (3, .inl (.iload_n 1), 1), (4, .inl (.iload_n 2), 1), (5, .inr (2, 101, 3), 3), (8, .inl (.i2l), 1), (9, .inl (.lastore), 1), (10, .inl (.goto 11), 3), (13, .inl (.astore 4), 2), (15, .inl (.iconst 1), 1)],
  [(16, .inl (.ireturn), 1), (17, .inl (.astore 4), 2), (19, .inl (.iconst 2), 1), (20, .inl (.ireturn), 1), (21, .inl (.iconst 0), 1), (22, .inl (.ireturn), 1)]]
-- MovingNames.finds(II)I
set_option maxRecDepth 100000 in
noncomputable def ab_c101 : List (List (Nat × ab_I × Nat)) := [[(0, .inl (.aload_n 0), 1), (1, .inl (.iload_n 1), 1), (2, .inr (2, 98, 2), 3), (5, .inl (.aload_n 0), 1), (6, .inl (.iload_n 2), 1), (7, .inr (2, 102, 2), 3), (10, .inl (.aload_n 0), 1), (11, .inr (0, 0, 1), 3), (14, .inl (.iload_n 2), 1), (15, .inl (.aload_n 0), 1)],
  [(16, .inr (0, 0, 1), 3), (19, .inl (.iload_n 1), 1), (20, .inr (2, 99, 2), 3), (23, .inr (2, 104, 3), 3), (26, .inl (.ireturn), 1)]]
-- MovingNames.needHouse(I)V
set_option maxRecDepth 100000 in
noncomputable def ab_c102 : List (List (Nat × ab_I × Nat)) := [[(0, .inl (.aload_n 0), 1), (1, .inl (.iload_n 1), 1), (2, .inl (.iconst 1), 1), (3, .inl (.aload_n 0), 1), (4, .inr (0, 0, 1), 3), (7, .inr (0, 2, 2), 3), (10, .inr (2, 103, 4), 3), (13, .inl (.return_), 1)]]
-- MovingNames.needWithin(III)V
set_option maxRecDepth 100000 in
noncomputable def ab_c103 : List (List (Nat × ab_I × Nat)) := [[(0, .inl (.iload_n 1), 1), (1, .inl (.iload_n 2), 1), (2, .inl (.if_icmp .lt 8), 3), (5, .inl (.iload_n 1), 1), (6, .inl (.iload_n 3), 1), (7, .inl (.if_icmp .le 14), 3), (10, .inr (10, 0, 0), 11)],
  [(21, .inl (.return_), 1)]]
-- MovingNames$Town.peopleIn(II)I
set_option maxRecDepth 100000 in
noncomputable def ab_c104 : List (List (Nat × ab_I × Nat)) := [[(0, .inl (.iconst 0), 1), (1, .inl (.istore_n 3), 1), (2, .inl (.iconst 0), 1), (3, .inl (.istore 4), 2), (5, .inl (.iload 4), 2), (7, .inl (.aload_n 0), 1), (8, .inr (0, 2, 3), 3), (11, .inl (.if_icmp .ge 45), 3), (14, .inl (.aload_n 0), 1), (15, .inr (0, 2, 9), 3)],
  [(18, .inl (.iload 4), 2), (20, .inr (2, 9, 2), 3), (23, .inl (.iload_n 1), 1), (24, .inl (.if_icmp .ne 26), 3), (27, .inl (.iload_n 2), 1), (28, .inl (.aload_n 0), 1), (29, .inr (0, 2, 8), 3)],
  [(32, .inl (.iload 4), 2), (34, .inr (2, 9, 2), 3), (37, .inl (.ishr), 1), (38, .inl (.iconst 1), 1), (39, .inl (.iand), 1), (40, .inl (.ifCond .eq 10), 3), (43, .inl (.iload_n 3), 1), (44, .inl (.iconst 1), 1), (45, .inl (.iload 4), 2), (47, .inl (.ishl), 1)],
  [(48, .inl (.ior), 1), (49, .inl (.istore_n 3), 1), (50, .inl (.iinc 4 1), 3), (53, .inl (.goto (-48)), 3), (56, .inl (.iload_n 3), 1), (57, .inl (.ireturn), 1)]]
-- MovingNamesLaw.nameIn(LMovingNames;II[J)I
set_option maxRecDepth 100000 in
noncomputable def ab_c105 : List (List (Nat × ab_I × Nat)) := [[(0, .inl (.aload_n 3), 1), (1, .inl (.iconst 0), 1), (2, .inl (.aload_n 0), 1), (3, .inl (.iload_n 1), 1), (4, .inl (.iload_n 2), 1), (5, .inr (2, 106, 3), 3), (8, .inl (.i2l), 1), (9, .inl (.lastore), 1), (10, .inl (.goto 11), 3), (13, .inl (.astore 4), 2), (15, .inl (.iconst 1), 1)],
  [(16, .inl (.ireturn), 1), (17, .inl (.astore 4), 2), (19, .inl (.iconst 2), 1), (20, .inl (.ireturn), 1), (21, .inl (.iconst 0), 1), (22, .inl (.ireturn), 1)]]
-- MovingNames.nameIn(II)I
set_option maxRecDepth 100000 in
noncomputable def ab_c106 : List (List (Nat × ab_I × Nat)) := [[(0, .inl (.aload_n 0), 1), (1, .inl (.iload_n 1), 1), (2, .inr (2, 86, 2), 3), (5, .inl (.aload_n 0), 1), (6, .inl (.iload_n 2), 1), (7, .inr (2, 107, 2), 3), (10, .inl (.aload_n 0), 1), (11, .inr (0, 0, 3), 3), (14, .inl (.aload_n 0), 1), (15, .inr (0, 0, 1), 3)],
  [(18, .inr (2, 17, 2), 3), (21, .inl (.aload_n 0), 1), (22, .inr (0, 0, 3), 3), (25, .inr (0, 6, 2), 3), (28, .inl (.aload_n 0), 1), (29, .inr (0, 0, 3), 3)],
  [(32, .inl (.iload_n 1), 1), (33, .inl (.iload_n 2), 1), (34, .inl (.ineg), 1), (35, .inr (2, 108, 3), 3), (38, .inr (2, 9, 2), 3), (41, .inl (.ireturn), 1)]]
-- MovingNames.needReach(I)V
set_option maxRecDepth 100000 in
noncomputable def ab_c107 : List (List (Nat × ab_I × Nat)) := [[(0, .inl (.aload_n 0), 1), (1, .inl (.iload_n 1), 1), (2, .inl (.sipush (-9999)), 3), (5, .inl (.sipush 9999), 3), (8, .inr (2, 103, 4), 3), (11, .inl (.return_), 1)]]
-- MovingNames$Outlook.ahead(II)I
set_option maxRecDepth 100000 in
noncomputable def ab_c108 : List (List (Nat × ab_I × Nat)) := [[(0, .inl (.aload_n 0), 1), (1, .inl (.iload_n 1), 1), (2, .inr (2, 27, 2), 3), (5, .inl (.istore_n 3), 1), (6, .inl (.iload_n 3), 1), (7, .inl (.ifCond .le 11), 3), (10, .inl (.iload_n 2), 1), (11, .inl (.iload_n 3), 1), (12, .inr (2, 25, 2), 3), (15, .inl (.goto 4), 3)],
  [(18, .inl (.iconst 0), 1), (19, .inl (.istore 4), 2), (21, .inl (.iload_n 1), 1), (22, .inl (.istore 5), 2), (24, .inl (.iconst 0), 1), (25, .inl (.istore 6), 2), (27, .inl (.iload 6), 2), (29, .inl (.iload 4), 2), (31, .inl (.if_icmp .ge 20), 3)],
  [(34, .inl (.aload_n 0), 1), (35, .inr (0, 6, 3), 3), (38, .inl (.iload 5), 2), (40, .inr (2, 9, 2), 3), (43, .inl (.istore 5), 2), (45, .inl (.iinc 6 1), 3)],
  [(48, .inl (.goto (-21)), 3), (51, .inl (.iload 5), 2), (53, .inl (.ireturn), 1)]]
-- MovingNamesLaw.goesTo(LMovingNames;II[J)I
set_option maxRecDepth 100000 in
noncomputable def ab_c109 : List (List (Nat × ab_I × Nat)) := [[(0, .inl (.aload_n 3), 1), (1, .inl (.iconst 0), 1), (2, .inl (.aload_n 0), 1), (3, .inl (.iload_n 1), 1), (4, .inl (.iload_n 2), 1), (5, .inr (2, 110, 3), 3), (8, .inl (.i2l), 1), (9, .inl (.lastore), 1), (10, .inl (.goto 11), 3), (13, .inl (.astore 4), 2), (15, .inl (.iconst 1), 1)],
  [(16, .inl (.ireturn), 1), (17, .inl (.astore 4), 2), (19, .inl (.iconst 2), 1), (20, .inl (.ireturn), 1), (21, .inl (.iconst 0), 1), (22, .inl (.ireturn), 1)]]
-- MovingNames.goesTo(II)I
set_option maxRecDepth 100000 in
noncomputable def ab_c110 : List (List (Nat × ab_I × Nat)) := [[(0, .inl (.aload_n 0), 1), (1, .inl (.iload_n 1), 1), (2, .inr (2, 86, 2), 3), (5, .inl (.aload_n 0), 1), (6, .inl (.iload_n 2), 1), (7, .inr (2, 107, 2), 3), (10, .inl (.aload_n 0), 1), (11, .inr (0, 0, 3), 3), (14, .inl (.aload_n 0), 1), (15, .inr (0, 0, 1), 3)],
  [(18, .inr (2, 17, 2), 3), (21, .inl (.aload_n 0), 1), (22, .inr (0, 0, 3), 3), (25, .inl (.iload_n 1), 1), (26, .inl (.iload_n 2), 1), (27, .inr (2, 108, 3), 3), (30, .inl (.ireturn), 1)]]
-- MovingNamesLaw.nights(LMovingNames;I[J)I
set_option maxRecDepth 100000 in
noncomputable def ab_c111 : List (List (Nat × ab_I × Nat)) := [[(0, .inl (.aload_n 2), 1), (1, .inl (.iconst 0), 1), (2, .inl (.aload_n 0), 1), (3, .inl (.iload_n 1), 1), (4, .inr (2, 112, 2), 3), (7, .inl (.i2l), 1), (8, .inl (.lastore), 1), (9, .inl (.goto 6), 3), (12, .inl (.astore_n 3), 1), (13, .inl (.iconst 1), 1), (14, .inl (.ireturn), 1), (15, .inl (.iconst 0), 1)],
  [(16, .inl (.ireturn), 1)]]
-- MovingNames.nights(I)I
set_option maxRecDepth 100000 in
noncomputable def ab_c112 : List (List (Nat × ab_I × Nat)) := [[(0, .inl (.aload_n 0), 1), (1, .inl (.iload_n 1), 1), (2, .inl (.iconst 1), 1), (3, .inl (.bipush 99), 2), (5, .inr (2, 103, 4), 3), (8, .inl (.aload_n 0), 1), (9, .inr (0, 0, 1), 3), (12, .inl (.iload_n 1), 1), (13, .inl (.aload_n 0), 1), (14, .inr (0, 0, 3), 3)],
  [(17, .inr (2, 113, 3), 3), (20, .inl (.ireturn), 1)]]
-- MovingNames$Town.passNights(ILMovingNames$Outlook;)I
set_option maxRecDepth 100000 in
noncomputable def ab_c113 : List (List (Nat × ab_I × Nat)) := [[(0, .inl (.aload_n 0), 1), (1, .inl (.iload_n 1), 1), (2, .inr (2, 6, 2), 3), (5, .inl (.istore_n 3), 1), (6, .inl (.aload_n 0), 1), (7, .inl (.iload_n 3), 1), (8, .inl (.aload_n 2), 1), (9, .inr (2, 114, 3), 3), (12, .inl (.aload_n 0), 1), (13, .inl (.dup), 1), (14, .inr (0, 2, 4), 3)],
  [(17, .inl (.iload_n 1), 1), (18, .inl (.iadd), 1), (19, .inr (1, 2, 4), 3), (22, .inl (.aload_n 0), 1), (23, .inl (.dup), 1), (24, .inr (0, 2, 5), 3), (27, .inl (.iload_n 3), 1), (28, .inl (.iadd), 1), (29, .inr (1, 2, 5), 3)],
  [(32, .inl (.aload_n 0), 1), (33, .inr (0, 2, 12), 3), (36, .inl (.iconst 1), 1), (37, .inl (.iload_n 1), 1), (38, .inl (.iload_n 3), 1), (39, .inl (.iconst 0), 1), (40, .inr (2, 116, 5), 3), (43, .inl (.iload_n 3), 1), (44, .inl (.ireturn), 1)]]
-- MovingNames$Town.goOn(ILMovingNames$Outlook;)V
set_option maxRecDepth 100000 in
noncomputable def ab_c114 : List (List (Nat × ab_I × Nat)) := [[(0, .inl (.aload_n 2), 1), (1, .inl (.aload_n 0), 1), (2, .inr (2, 17, 2), 3), (5, .inl (.aload_n 2), 1), (6, .inl (.iload_n 1), 1), (7, .inr (2, 115, 2), 3), (10, .inl (.iconst 0), 1), (11, .inl (.istore_n 3), 1), (12, .inl (.iload_n 3), 1), (13, .inl (.aload_n 0), 1), (14, .inr (0, 2, 1), 3)],
  [(17, .inl (.if_icmp .ge 22), 3), (20, .inl (.aload_n 0), 1), (21, .inr (0, 2, 7), 3), (24, .inl (.iload_n 3), 1), (25, .inl (.aload_n 2), 1), (26, .inl (.iload_n 3), 1), (27, .inr (2, 32, 2), 3), (30, .inr (2, 3, 3), 3)],
  [(33, .inl (.iinc 3 1), 3), (36, .inl (.goto (-24)), 3), (39, .inl (.return_), 1)]]
-- MovingNames$Outlook.leap(I)V
set_option maxRecDepth 100000 in
noncomputable def ab_c115 : List (List (Nat × ab_I × Nat)) := [[(0, .inl (.iconst 0), 1), (1, .inl (.istore_n 2), 1), (2, .inl (.iload_n 2), 1), (3, .inl (.aload_n 0), 1), (4, .inr (0, 6, 0), 3), (7, .inl (.if_icmp .ge 24), 3), (10, .inl (.aload_n 0), 1), (11, .inr (0, 6, 5), 3), (14, .inl (.iload_n 2), 1), (15, .inl (.aload_n 0), 1)],
  [(16, .inl (.iload_n 2), 1), (17, .inl (.iload_n 1), 1), (18, .inl (.ineg), 1), (19, .inr (2, 108, 3), 3), (22, .inr (2, 3, 3), 3), (25, .inl (.iinc 2 1), 3), (28, .inl (.goto (-26)), 3), (31, .inl (.return_), 1)]]
-- MovingNames$Deeds.note(IIII)V
set_option maxRecDepth 100000 in
noncomputable def ab_c116 : List (List (Nat × ab_I × Nat)) := [[(0, .inl (.aload_n 0), 1), (1, .inr (0, 5, 1), 3), (4, .inl (.bipush 10), 2), (6, .inl (.if_icmp .lt 29), 3), (9, .inl (.aload_n 0), 1), (10, .inr (0, 5, 0), 3), (13, .inl (.iconst 4), 1), (14, .inl (.aload_n 0), 1), (15, .inr (0, 5, 0), 3)],
  [(18, .inl (.iconst 0), 1), (19, .inl (.aload_n 0), 1), (20, .inr (0, 5, 0), 3), (23, .inl (.arraylength), 1), (24, .inl (.iconst 4), 1), (25, .inl (.isub), 1), (26, .inr (12, 0, 0), 3), (29, .inl (.aload_n 0), 1), (30, .inl (.bipush 9), 2)],
  [(32, .inr (1, 5, 1), 3), (35, .inl (.aload_n 0), 1), (36, .inr (0, 5, 0), 3), (39, .inl (.aload_n 0), 1), (40, .inr (0, 5, 1), 3), (43, .inl (.iconst 4), 1), (44, .inl (.imul), 1), (45, .inl (.iload_n 1), 1), (46, .inr (2, 3, 3), 3)],
  [(49, .inl (.aload_n 0), 1), (50, .inr (0, 5, 0), 3), (53, .inl (.aload_n 0), 1), (54, .inr (0, 5, 1), 3), (57, .inl (.iconst 4), 1), (58, .inl (.imul), 1), (59, .inl (.iconst 1), 1), (60, .inl (.iadd), 1), (61, .inl (.iload_n 2), 1), (62, .inr (2, 3, 3), 3)],
  [(65, .inl (.aload_n 0), 1), (66, .inr (0, 5, 0), 3), (69, .inl (.aload_n 0), 1), (70, .inr (0, 5, 1), 3), (73, .inl (.iconst 4), 1), (74, .inl (.imul), 1), (75, .inl (.iconst 2), 1), (76, .inl (.iadd), 1), (77, .inl (.iload_n 3), 1), (78, .inr (2, 3, 3), 3)],
  [(81, .inl (.aload_n 0), 1), (82, .inr (0, 5, 0), 3), (85, .inl (.aload_n 0), 1), (86, .inr (0, 5, 1), 3), (89, .inl (.iconst 4), 1), (90, .inl (.imul), 1), (91, .inl (.iconst 3), 1), (92, .inl (.iadd), 1), (93, .inl (.iload 4), 2), (95, .inr (2, 3, 3), 3)],
  [(98, .inl (.aload_n 0), 1), (99, .inl (.dup), 1), (100, .inr (0, 5, 1), 3), (103, .inl (.iconst 1), 1), (104, .inl (.iadd), 1), (105, .inr (1, 5, 1), 3), (108, .inl (.return_), 1)]]
-- MovingNamesLaw.movesIn(LMovingNames;I[J)I
set_option maxRecDepth 100000 in
noncomputable def ab_c117 : List (List (Nat × ab_I × Nat)) := [[(0, .inl (.aload_n 2), 1), (1, .inl (.iconst 0), 1), (2, .inl (.aload_n 0), 1), (3, .inl (.iload_n 1), 1), (4, .inr (2, 118, 2), 3), (7, .inl (.i2l), 1), (8, .inl (.lastore), 1), (9, .inl (.goto 6), 3), (12, .inl (.astore_n 3), 1), (13, .inl (.iconst 1), 1), (14, .inl (.ireturn), 1), (15, .inl (.iconst 0), 1)],
  [(16, .inl (.ireturn), 1)]]
-- MovingNames.movesIn(I)I
set_option maxRecDepth 100000 in
noncomputable def ab_c118 : List (List (Nat × ab_I × Nat)) := [[(0, .inl (.aload_n 0), 1), (1, .inl (.iload_n 1), 1), (2, .inl (.iconst 0), 1), (3, .inl (.sipush 999), 3), (6, .inr (2, 103, 4), 3), (9, .inl (.aload_n 0), 1), (10, .inr (0, 0, 1), 3), (13, .inl (.iload_n 1), 1), (14, .inr (2, 6, 2), 3)],
  [(17, .inl (.ireturn), 1)]]
-- MovingNamesLaw.nightsFor(LMovingNames;I[J)I
set_option maxRecDepth 100000 in
noncomputable def ab_c119 : List (List (Nat × ab_I × Nat)) := [[(0, .inl (.aload_n 2), 1), (1, .inl (.iconst 0), 1), (2, .inl (.aload_n 0), 1), (3, .inl (.iload_n 1), 1), (4, .inr (2, 120, 2), 3), (7, .inl (.i2l), 1), (8, .inl (.lastore), 1), (9, .inl (.goto 6), 3), (12, .inl (.astore_n 3), 1), (13, .inl (.iconst 1), 1), (14, .inl (.ireturn), 1), (15, .inl (.iconst 0), 1)],
  [(16, .inl (.ireturn), 1)]]
-- MovingNames.nightsFor(I)I
set_option maxRecDepth 100000 in
noncomputable def ab_c120 : List (List (Nat × ab_I × Nat)) := [[(0, .inl (.aload_n 0), 1), (1, .inl (.iload_n 1), 1), (2, .inl (.iconst 0), 1), (3, .inl (.sipush 999), 3), (6, .inr (2, 103, 4), 3), (9, .inl (.aload_n 0), 1), (10, .inr (0, 0, 1), 3), (13, .inl (.iload_n 1), 1), (14, .inr (2, 121, 2), 3)],
  [(17, .inl (.ireturn), 1)]]
-- MovingNames$Town.nightsTill(I)I
set_option maxRecDepth 100000 in
noncomputable def ab_c121 : List (List (Nat × ab_I × Nat)) := [[(0, .inl (.aload_n 0), 1), (1, .inr (2, 7, 1), 3), (4, .inl (.istore_n 2), 1), (5, .inl (.iconst 0), 1), (6, .inl (.istore_n 3), 1), (7, .inl (.iconst 0), 1), (8, .inl (.istore 4), 2), (10, .inl (.iload 4), 2), (12, .inl (.sipush 999), 3), (15, .inl (.if_icmp .ge 55), 3)],
  [(18, .inl (.iload_n 3), 1), (19, .inl (.iload_n 1), 1), (20, .inl (.if_icmp .ge 50), 3), (23, .inl (.aload_n 0), 1), (24, .inr (0, 2, 11), 3), (27, .inl (.aload_n 0), 1), (28, .inr (0, 2, 4), 3), (31, .inl (.iload 4), 2)],
  [(33, .inl (.iadd), 1), (34, .inl (.aload_n 0), 1), (35, .inr (0, 2, 5), 3), (38, .inl (.iload_n 3), 1), (39, .inl (.iadd), 1), (40, .inl (.aload_n 0), 1), (41, .inr (0, 2, 3), 3), (44, .inl (.iload_n 2), 1), (45, .inr (2, 10, 5), 3)],
  [(48, .inl (.ifCond .ne 16), 3), (51, .inl (.iinc 3 1), 3), (54, .inl (.iload_n 3), 1), (55, .inl (.iload_n 1), 1), (56, .inl (.if_icmp .ne 8), 3), (59, .inl (.iload 4), 2), (61, .inl (.iconst 1), 1), (62, .inl (.iadd), 1), (63, .inl (.ireturn), 1)],
  [(64, .inl (.iinc 4 1), 3), (67, .inl (.goto (-57)), 3), (70, .inl (.iload_n 1), 1), (71, .inl (.ifCond .ne 7), 3), (74, .inl (.iconst 0), 1), (75, .inl (.goto 4), 3), (78, .inl (.iconst (-1)), 1), (79, .inl (.ireturn), 1)]]
-- MovingNamesLaw.hang(LMovingNames;II[J)I
set_option maxRecDepth 100000 in
noncomputable def ab_c122 : List (List (Nat × ab_I × Nat)) := [[(0, .inl (.aload_n 3), 1), (1, .inl (.iconst 0), 1), (2, .inl (.aload_n 0), 1), (3, .inl (.iload_n 1), 1), (4, .inl (.iload_n 2), 1), (5, .inr (2, 123, 3), 3), (8, .inl (.i2l), 1), (9, .inl (.lastore), 1), (10, .inl (.goto 7), 3), (13, .inl (.astore 4), 2), (15, .inl (.iconst 1), 1)],
  [(16, .inl (.ireturn), 1), (17, .inl (.iconst 0), 1), (18, .inl (.ireturn), 1)]]
-- MovingNames.hang(II)I
set_option maxRecDepth 100000 in
noncomputable def ab_c123 : List (List (Nat × ab_I × Nat)) := [[(0, .inl (.aload_n 0), 1), (1, .inl (.iload_n 1), 1), (2, .inr (2, 86, 2), 3), (5, .inl (.aload_n 0), 1), (6, .inl (.iload_n 2), 1), (7, .inr (2, 98, 2), 3), (10, .inl (.aload_n 0), 1), (11, .inr (0, 0, 1), 3), (14, .inl (.iload_n 1), 1), (15, .inl (.iload_n 2), 1)],
  [(16, .inr (2, 124, 3), 3), (19, .inl (.ireturn), 1)]]
-- MovingNames$Town.hangSign(II)I
set_option maxRecDepth 100000 in
noncomputable def ab_c124 : List (List (Nat × ab_I × Nat)) := [[(0, .inl (.aload_n 0), 1), (1, .inr (0, 2, 7), 3), (4, .inl (.iload_n 1), 1), (5, .inr (2, 9, 2), 3), (8, .inl (.istore_n 3), 1), (9, .inl (.aload_n 0), 1), (10, .inr (0, 2, 7), 3), (13, .inl (.iload_n 1), 1), (14, .inl (.iload_n 2), 1), (15, .inr (2, 3, 3), 3)],
  [(18, .inl (.aload_n 0), 1), (19, .inr (0, 2, 12), 3), (22, .inl (.iconst 2), 1), (23, .inl (.iload_n 1), 1), (24, .inl (.iload_n 3), 1), (25, .inl (.iconst 0), 1), (26, .inr (2, 116, 5), 3), (29, .inl (.iload_n 3), 1), (30, .inl (.ireturn), 1)]]
-- MovingNamesLaw.change(LMovingNames;II[J)I
set_option maxRecDepth 100000 in
noncomputable def ab_c125 : List (List (Nat × ab_I × Nat)) := [[(0, .inl (.aload_n 3), 1), (1, .inl (.iconst 0), 1), (2, .inl (.aload_n 0), 1), (3, .inl (.iload_n 1), 1), (4, .inl (.iload_n 2), 1), (5, .inr (2, 126, 3), 3), (8, .inl (.i2l), 1), (9, .inl (.lastore), 1), (10, .inl (.goto 11), 3), (13, .inl (.astore 4), 2), (15, .inl (.iconst 1), 1)],
  [(16, .inl (.ireturn), 1), (17, .inl (.astore 4), 2), (19, .inl (.iconst 2), 1), (20, .inl (.ireturn), 1), (21, .inl (.iconst 0), 1), (22, .inl (.ireturn), 1)]]
-- MovingNames.change(II)I
set_option maxRecDepth 100000 in
noncomputable def ab_c126 : List (List (Nat × ab_I × Nat)) := [[(0, .inl (.aload_n 0), 1), (1, .inl (.iload_n 1), 1), (2, .inl (.iload_n 2), 1), (3, .inr (2, 127, 3), 3), (6, .inl (.aload_n 0), 1), (7, .inr (0, 0, 1), 3), (10, .inl (.iload_n 1), 1), (11, .inl (.iload_n 2), 1), (12, .inr (2, 128, 3), 3), (15, .inl (.aload_n 0), 1)],
  [(16, .inr (0, 0, 1), 3), (19, .inr (2, 7, 1), 3), (22, .inl (.ireturn), 1)]]
-- MovingNames.needTwoStreets(II)V
set_option maxRecDepth 100000 in
noncomputable def ab_c127 : List (List (Nat × ab_I × Nat)) := [[(0, .inl (.aload_n 0), 1), (1, .inl (.iload_n 1), 1), (2, .inr (2, 86, 2), 3), (5, .inl (.aload_n 0), 1), (6, .inl (.iload_n 2), 1), (7, .inr (2, 86, 2), 3), (10, .inl (.iload_n 1), 1), (11, .inl (.iload_n 2), 1), (12, .inl (.if_icmp .ne 14), 3), (15, .inr (10, 0, 0), 11)],
  [(26, .inl (.return_), 1)]]
-- MovingNames$Town.exchangeSigns(II)V
set_option maxRecDepth 100000 in
noncomputable def ab_c128 : List (List (Nat × ab_I × Nat)) := [[(0, .inl (.aload_n 0), 1), (1, .inl (.iload_n 1), 1), (2, .inl (.iload_n 2), 1), (3, .inr (2, 129, 3), 3), (6, .inl (.aload_n 0), 1), (7, .inr (0, 2, 12), 3), (10, .inl (.iconst 3), 1), (11, .inl (.iload_n 1), 1), (12, .inl (.iload_n 2), 1), (13, .inl (.iconst 0), 1), (14, .inr (2, 116, 5), 3)],
  [(17, .inl (.return_), 1)]]
-- MovingNames$Town.swapNames(II)V
set_option maxRecDepth 100000 in
noncomputable def ab_c129 : List (List (Nat × ab_I × Nat)) := [[(0, .inl (.aload_n 0), 1), (1, .inr (0, 2, 7), 3), (4, .inl (.iload_n 1), 1), (5, .inr (2, 9, 2), 3), (8, .inl (.istore_n 3), 1), (9, .inl (.aload_n 0), 1), (10, .inr (0, 2, 7), 3), (13, .inl (.iload_n 1), 1), (14, .inl (.aload_n 0), 1), (15, .inr (0, 2, 7), 3)],
  [(18, .inl (.iload_n 2), 1), (19, .inr (2, 9, 2), 3), (22, .inr (2, 3, 3), 3), (25, .inl (.aload_n 0), 1), (26, .inr (0, 2, 7), 3), (29, .inl (.iload_n 2), 1), (30, .inl (.iload_n 3), 1), (31, .inr (2, 3, 3), 3)],
  [(34, .inl (.return_), 1)]]
-- MovingNamesLaw.letIn(LMovingNames;III[J)I
set_option maxRecDepth 100000 in
noncomputable def ab_c130 : List (List (Nat × ab_I × Nat)) := [[(0, .inl (.aload 4), 2), (2, .inl (.iconst 0), 1), (3, .inl (.aload_n 0), 1), (4, .inl (.iload_n 1), 1), (5, .inl (.iload_n 2), 1), (6, .inl (.iload_n 3), 1), (7, .inr (2, 131, 4), 3), (10, .inl (.i2l), 1), (11, .inl (.lastore), 1), (12, .inl (.goto 15), 3), (15, .inl (.astore 5), 2)],
  [(17, .inl (.iconst 1), 1), (18, .inl (.ireturn), 1), (19, .inl (.astore 5), 2), (21, .inl (.iconst 2), 1), (22, .inl (.ireturn), 1), (23, .inl (.astore 5), 2), (25, .inl (.iconst 3), 1), (26, .inl (.ireturn), 1), (27, .inl (.iconst 0), 1), (28, .inl (.ireturn), 1)]]
-- MovingNames.letIn(III)I
set_option maxRecDepth 100000 in
noncomputable def ab_c131 : List (List (Nat × ab_I × Nat)) := [[(0, .inl (.aload_n 0), 1), (1, .inl (.iload_n 1), 1), (2, .inr (2, 86, 2), 3), (5, .inl (.aload_n 0), 1), (6, .inl (.iload_n 2), 1), (7, .inr (2, 91, 2), 3), (10, .inl (.aload_n 0), 1), (11, .inr (0, 0, 1), 3), (14, .inr (0, 2, 10), 3)],
  [(17, .inl (.iload_n 2), 1), (18, .inl (.iload_n 1), 1), (19, .inr (2, 64, 3), 3), (22, .inl (.iconst (-1)), 1), (23, .inl (.if_icmp .eq 13), 3), (26, .inr (10, 2, 0), 10)],
  [(36, .inl (.aload_n 0), 1), (37, .inl (.iload_n 3), 1), (38, .inl (.iconst 0), 1), (39, .inl (.aload_n 0), 1), (40, .inr (0, 0, 1), 3), (43, .inr (0, 2, 10), 3), (46, .inl (.iload_n 2), 1), (47, .inr (2, 21, 2), 3)],
  [(50, .inr (2, 103, 4), 3), (53, .inl (.aload_n 0), 1), (54, .inr (0, 0, 1), 3), (57, .inl (.iload_n 1), 1), (58, .inl (.iload_n 2), 1), (59, .inl (.iload_n 3), 1), (60, .inr (2, 132, 4), 3), (63, .inl (.ireturn), 1)]]
-- MovingNames$Town.join(III)I
set_option maxRecDepth 100000 in
noncomputable def ab_c132 : List (List (Nat × ab_I × Nat)) := [[(0, .inl (.aload_n 0), 1), (1, .inr (0, 2, 10), 3), (4, .inl (.iload_n 2), 1), (5, .inl (.iload_n 3), 1), (6, .inl (.iload_n 1), 1), (7, .inr (2, 65, 4), 3), (10, .inl (.aload_n 0), 1), (11, .inr (0, 2, 12), 3), (14, .inl (.iconst 4), 1), (15, .inl (.iload_n 1), 1)],
  [(16, .inl (.iload_n 2), 1), (17, .inl (.iload_n 3), 1), (18, .inr (2, 116, 5), 3), (21, .inl (.aload_n 0), 1), (22, .inr (0, 2, 10), 3), (25, .inl (.iload_n 2), 1), (26, .inr (2, 21, 2), 3), (29, .inl (.ireturn), 1)]]
-- MovingNamesLaw.takeOut(LMovingNames;II[J)I
set_option maxRecDepth 100000 in
noncomputable def ab_c133 : List (List (Nat × ab_I × Nat)) := [[(0, .inl (.aload_n 3), 1), (1, .inl (.iconst 0), 1), (2, .inl (.aload_n 0), 1), (3, .inl (.iload_n 1), 1), (4, .inl (.iload_n 2), 1), (5, .inr (2, 134, 3), 3), (8, .inl (.i2l), 1), (9, .inl (.lastore), 1), (10, .inl (.goto 11), 3), (13, .inl (.astore 4), 2), (15, .inl (.iconst 1), 1)],
  [(16, .inl (.ireturn), 1), (17, .inl (.astore 4), 2), (19, .inl (.iconst 2), 1), (20, .inl (.ireturn), 1), (21, .inl (.iconst 0), 1), (22, .inl (.ireturn), 1)]]
-- MovingNames.takeOut(II)I
set_option maxRecDepth 100000 in
noncomputable def ab_c134 : List (List (Nat × ab_I × Nat)) := [[(0, .inl (.aload_n 0), 1), (1, .inl (.iload_n 1), 1), (2, .inr (2, 86, 2), 3), (5, .inl (.aload_n 0), 1), (6, .inl (.iload_n 2), 1), (7, .inr (2, 91, 2), 3), (10, .inl (.aload_n 0), 1), (11, .inr (0, 0, 1), 3), (14, .inr (0, 2, 10), 3)],
  [(17, .inl (.iload_n 2), 1), (18, .inl (.iload_n 1), 1), (19, .inr (2, 64, 3), 3), (22, .inl (.iconst (-1)), 1), (23, .inl (.if_icmp .ne 13), 3), (26, .inr (10, 2, 0), 10)],
  [(36, .inl (.aload_n 0), 1), (37, .inr (0, 0, 1), 3), (40, .inl (.iload_n 1), 1), (41, .inl (.iload_n 2), 1), (42, .inr (2, 135, 3), 3), (45, .inl (.ireturn), 1)]]
-- MovingNames$Town.leave(II)I
set_option maxRecDepth 100000 in
noncomputable def ab_c135 : List (List (Nat × ab_I × Nat)) := [[(0, .inl (.aload_n 0), 1), (1, .inr (0, 2, 10), 3), (4, .inl (.iload_n 2), 1), (5, .inl (.iload_n 1), 1), (6, .inr (2, 64, 3), 3), (9, .inl (.istore_n 3), 1), (10, .inl (.aload_n 0), 1), (11, .inr (0, 2, 10), 3), (14, .inl (.iload_n 2), 1), (15, .inl (.iload_n 3), 1)],
  [(16, .inr (2, 136, 3), 3), (19, .inl (.aload_n 0), 1), (20, .inr (0, 2, 12), 3), (23, .inl (.iconst 5), 1), (24, .inl (.iload_n 1), 1), (25, .inl (.iload_n 2), 1), (26, .inl (.iload_n 3), 1), (27, .inr (2, 116, 5), 3), (30, .inl (.aload_n 0), 1), (31, .inr (0, 2, 10), 3)],
  [(34, .inl (.iload_n 2), 1), (35, .inr (2, 21, 2), 3), (38, .inl (.ireturn), 1)]]
-- MovingNames$Rounds.remove(II)V
set_option maxRecDepth 100000 in
noncomputable def ab_c136 : List (List (Nat × ab_I × Nat)) := [[(0, .inl (.aload_n 0), 1), (1, .inl (.iload_n 1), 1), (2, .inr (2, 21, 2), 3), (5, .inl (.istore_n 3), 1), (6, .inl (.iload_n 3), 1), (7, .inl (.ifCond .gt 4), 3), (10, .inl (.return_), 1), (11, .inl (.iload_n 2), 1), (12, .inl (.istore 4), 2), (14, .inl (.iload 4), 2)],
  [(16, .inl (.iload_n 3), 1), (17, .inl (.iconst 1), 1), (18, .inl (.isub), 1), (19, .inl (.if_icmp .ge 32), 3), (22, .inl (.aload_n 0), 1), (23, .inr (0, 3, 0), 3), (26, .inl (.iload_n 1), 1), (27, .inl (.bipush 20), 2), (29, .inl (.imul), 1), (30, .inl (.iload 4), 2)],
  [(32, .inl (.iadd), 1), (33, .inl (.aload_n 0), 1), (34, .inl (.iload_n 1), 1), (35, .inl (.iload 4), 2), (37, .inl (.iconst 1), 1), (38, .inl (.iadd), 1), (39, .inr (2, 22, 3), 3), (42, .inr (2, 3, 3), 3), (45, .inl (.iinc 4 1), 3)],
  [(48, .inl (.goto (-34)), 3), (51, .inl (.aload_n 0), 1), (52, .inr (0, 3, 1), 3), (55, .inl (.iload_n 1), 1), (56, .inl (.iload_n 3), 1), (57, .inl (.iconst 1), 1), (58, .inl (.isub), 1), (59, .inr (2, 3, 3), 3), (62, .inl (.return_), 1)]]
-- MovingNamesLaw.blind(LMovingNames;I[J)I
set_option maxRecDepth 100000 in
noncomputable def ab_c137 : List (List (Nat × ab_I × Nat)) := [[(0, .inl (.aload_n 2), 1), (1, .inl (.iconst 0), 1), (2, .inl (.aload_n 0), 1), (3, .inl (.iload_n 1), 1), (4, .inr (2, 138, 2), 3), (7, .inl (.i2l), 1), (8, .inl (.lastore), 1), (9, .inl (.goto 6), 3), (12, .inl (.astore_n 3), 1), (13, .inl (.iconst 1), 1), (14, .inl (.ireturn), 1), (15, .inl (.iconst 0), 1)],
  [(16, .inl (.ireturn), 1)]]
-- MovingNames.blind(I)I
set_option maxRecDepth 100000 in
noncomputable def ab_c138 : List (List (Nat × ab_I × Nat)) := [[(0, .inl (.aload_n 0), 1), (1, .inl (.iload_n 1), 1), (2, .inr (2, 86, 2), 3), (5, .inl (.aload_n 0), 1), (6, .inr (0, 0, 1), 3), (9, .inl (.iload_n 1), 1), (10, .inr (2, 139, 2), 3), (13, .inl (.ireturn), 1)]]
-- MovingNames$Town.turnBlind(I)I
set_option maxRecDepth 100000 in
noncomputable def ab_c139 : List (List (Nat × ab_I × Nat)) := [[(0, .inl (.aload_n 0), 1), (1, .inl (.dup), 1), (2, .inr (0, 2, 6), 3), (5, .inl (.iconst 1), 1), (6, .inl (.iload_n 1), 1), (7, .inl (.ishl), 1), (8, .inl (.ixor), 1), (9, .inr (1, 2, 6), 3), (12, .inl (.aload_n 0), 1), (13, .inr (0, 2, 12), 3)],
  [(16, .inl (.bipush 6), 2), (18, .inl (.iload_n 1), 1), (19, .inl (.iconst 0), 1), (20, .inl (.iconst 0), 1), (21, .inr (2, 116, 5), 3), (24, .inl (.aload_n 0), 1), (25, .inl (.iload_n 1), 1), (26, .inr (2, 23, 2), 3), (29, .inl (.ifCond .eq 7), 3)],
  [(32, .inl (.iconst 1), 1), (33, .inl (.goto 4), 3), (36, .inl (.iconst 0), 1), (37, .inl (.ireturn), 1)]]
-- MovingNamesLaw.moves(LMovingNames;III[J)I
set_option maxRecDepth 100000 in
noncomputable def ab_c140 : List (List (Nat × ab_I × Nat)) := [[(0, .inl (.aload 4), 2), (2, .inl (.iconst 0), 1), (3, .inl (.aload_n 0), 1), (4, .inl (.iload_n 1), 1), (5, .inl (.iload_n 2), 1), (6, .inl (.iload_n 3), 1), (7, .inr (2, 141, 4), 3), (10, .inl (.i2l), 1), (11, .inl (.lastore), 1), (12, .inl (.goto 11), 3), (15, .inl (.astore 5), 2)],
  [(17, .inl (.iconst 1), 1), (18, .inl (.ireturn), 1), (19, .inl (.astore 5), 2), (21, .inl (.iconst 2), 1), (22, .inl (.ireturn), 1), (23, .inl (.iconst 0), 1), (24, .inl (.ireturn), 1)]]
-- MovingNames.moves(III)I
set_option maxRecDepth 100000 in
noncomputable def ab_c141 : List (List (Nat × ab_I × Nat)) := [[(0, .inl (.aload_n 0), 1), (1, .inl (.iload_n 1), 1), (2, .inr (2, 95, 2), 3), (5, .inl (.aload_n 0), 1), (6, .inl (.iload_n 2), 1), (7, .inr (2, 86, 2), 3), (10, .inl (.aload_n 0), 1), (11, .inl (.iload_n 3), 1), (12, .inr (2, 102, 2), 3), (15, .inl (.aload_n 0), 1)],
  [(16, .inr (0, 0, 1), 3), (19, .inl (.iload_n 1), 1), (20, .inl (.iload_n 2), 1), (21, .inl (.iload_n 3), 1), (22, .inr (2, 142, 4), 3), (25, .inl (.ireturn), 1)]]
-- MovingNames$Town.moveHouse(III)I
set_option maxRecDepth 100000 in
noncomputable def ab_c142 : List (List (Nat × ab_I × Nat)) := [[(0, .inl (.aload_n 0), 1), (1, .inr (0, 2, 12), 3), (4, .inl (.bipush 7), 2), (6, .inl (.iload_n 1), 1), (7, .inl (.aload_n 0), 1), (8, .inr (0, 2, 8), 3), (11, .inl (.iload_n 1), 1), (12, .inr (2, 9, 2), 3), (15, .inl (.aload_n 0), 1)],
  [(16, .inr (0, 2, 9), 3), (19, .inl (.iload_n 1), 1), (20, .inr (2, 9, 2), 3), (23, .inr (2, 116, 5), 3), (26, .inl (.aload_n 0), 1), (27, .inr (0, 2, 8), 3), (30, .inl (.iload_n 1), 1), (31, .inl (.iload_n 2), 1)],
  [(32, .inr (2, 3, 3), 3), (35, .inl (.aload_n 0), 1), (36, .inr (0, 2, 9), 3), (39, .inl (.iload_n 1), 1), (40, .inl (.iload_n 3), 1), (41, .inr (2, 3, 3), 3), (44, .inl (.aload_n 0), 1), (45, .inr (0, 2, 7), 3)],
  [(48, .inl (.iload_n 2), 1), (49, .inr (2, 9, 2), 3), (52, .inl (.ireturn), 1)]]
-- MovingNamesLaw.undo(LMovingNames;I[J)I
set_option maxRecDepth 100000 in
noncomputable def ab_c143 : List (List (Nat × ab_I × Nat)) := [[(0, .inl (.aload_n 2), 1), (1, .inl (.iconst 0), 1), (2, .inl (.aload_n 0), 1), (3, .inl (.iload_n 1), 1), (4, .inr (2, 144, 2), 3), (7, .inl (.i2l), 1), (8, .inl (.lastore), 1), (9, .inl (.goto 6), 3), (12, .inl (.astore_n 3), 1), (13, .inl (.iconst 1), 1), (14, .inl (.ireturn), 1), (15, .inl (.iconst 0), 1)],
  [(16, .inl (.ireturn), 1)]]
-- MovingNames.undo(I)I
set_option maxRecDepth 100000 in
noncomputable def ab_c144 : List (List (Nat × ab_I × Nat)) := [[(0, .inl (.aload_n 0), 1), (1, .inl (.iload_n 1), 1), (2, .inl (.iconst 1), 1), (3, .inl (.aload_n 0), 1), (4, .inr (0, 0, 1), 3), (7, .inr (0, 2, 12), 3), (10, .inr (0, 5, 1), 3), (13, .inr (2, 103, 4), 3)],
  [(16, .inl (.iconst 0), 1), (17, .inl (.istore_n 2), 1), (18, .inl (.iload_n 2), 1), (19, .inl (.iload_n 1), 1), (20, .inl (.if_icmp .ge 20), 3), (23, .inl (.aload_n 0), 1), (24, .inr (0, 0, 1), 3), (27, .inl (.aload_n 0), 1), (28, .inr (0, 0, 3), 3), (31, .inr (2, 145, 2), 3)],
  [(34, .inl (.iinc 2 1), 3), (37, .inl (.goto (-19)), 3), (40, .inl (.aload_n 0), 1), (41, .inr (0, 0, 1), 3), (44, .inr (0, 2, 12), 3), (47, .inr (0, 5, 1), 3)],
  [(50, .inl (.ireturn), 1)]]
-- MovingNames$Town.undoLatest(LMovingNames$Outlook;)V
set_option maxRecDepth 100000 in
noncomputable def ab_c145 : List (List (Nat × ab_I × Nat)) := [[(0, .inl (.aload_n 0), 1), (1, .inr (0, 2, 12), 3), (4, .inl (.iconst 1), 1), (5, .inr (2, 146, 2), 3), (8, .inl (.istore_n 2), 1), (9, .inl (.aload_n 0), 1), (10, .inr (0, 2, 12), 3), (13, .inl (.iconst 2), 1), (14, .inr (2, 146, 2), 3)],
  [(17, .inl (.istore_n 3), 1), (18, .inl (.aload_n 0), 1), (19, .inr (0, 2, 12), 3), (22, .inl (.iconst 3), 1), (23, .inr (2, 146, 2), 3), (26, .inl (.istore 4), 2), (28, .inl (.aload_n 0), 1), (29, .inr (0, 2, 12), 3)],
  [(32, .inl (.iconst 0), 1), (33, .inr (2, 146, 2), 3), (36, .inl (.tableswitch 159 1 7 #[44, 74, 86, 95, 108, 122, 137]), 44)],
  [],
  [],
  [(80, .inl (.aload_n 0), 1), (81, .inl (.iload_n 3), 1), (82, .inl (.ineg), 1), (83, .inl (.aload_n 1), 1), (84, .inr (2, 114, 3), 3), (87, .inl (.aload_n 0), 1), (88, .inl (.dup), 1), (89, .inr (0, 2, 4), 3), (92, .inl (.iload_n 2), 1), (93, .inl (.isub), 1), (94, .inr (1, 2, 4), 3)],
  [(97, .inl (.aload_n 0), 1), (98, .inl (.dup), 1), (99, .inr (0, 2, 5), 3), (102, .inl (.iload_n 3), 1), (103, .inl (.isub), 1), (104, .inr (1, 2, 5), 3), (107, .inl (.goto 88), 3), (110, .inl (.aload_n 0), 1), (111, .inr (0, 2, 7), 3)],
  [(114, .inl (.iload_n 2), 1), (115, .inl (.iload_n 3), 1), (116, .inr (2, 3, 3), 3), (119, .inl (.goto 76), 3), (122, .inl (.aload_n 0), 1), (123, .inl (.iload_n 2), 1), (124, .inl (.iload_n 3), 1), (125, .inr (2, 129, 3), 3)],
  [(128, .inl (.goto 67), 3), (131, .inl (.aload_n 0), 1), (132, .inr (0, 2, 10), 3), (135, .inl (.iload_n 3), 1), (136, .inl (.iload 4), 2), (138, .inr (2, 136, 3), 3), (141, .inl (.goto 54), 3)],
  [(144, .inl (.aload_n 0), 1), (145, .inr (0, 2, 10), 3), (148, .inl (.iload_n 3), 1), (149, .inl (.iload 4), 2), (151, .inl (.iload_n 2), 1), (152, .inr (2, 65, 4), 3), (155, .inl (.goto 40), 3), (158, .inl (.aload_n 0), 1), (159, .inl (.dup), 1)],
  [(160, .inr (0, 2, 6), 3), (163, .inl (.iconst 1), 1), (164, .inl (.iload_n 2), 1), (165, .inl (.ishl), 1), (166, .inl (.ixor), 1), (167, .inr (1, 2, 6), 3), (170, .inl (.goto 25), 3), (173, .inl (.aload_n 0), 1), (174, .inr (0, 2, 8), 3)],
  [(177, .inl (.iload_n 2), 1), (178, .inl (.iload_n 3), 1), (179, .inr (2, 3, 3), 3), (182, .inl (.aload_n 0), 1), (183, .inr (0, 2, 9), 3), (186, .inl (.iload_n 2), 1), (187, .inl (.iload 4), 2), (189, .inr (2, 3, 3), 3)],
  [(192, .inl (.goto 3), 3), (195, .inl (.aload_n 0), 1), (196, .inr (0, 2, 12), 3), (199, .inr (2, 147, 1), 3), (202, .inl (.return_), 1)]]
-- MovingNames$Deeds.ofLatest(I)I
set_option maxRecDepth 100000 in
noncomputable def ab_c146 : List (List (Nat × ab_I × Nat)) := [[(0, .inl (.aload_n 0), 1), (1, .inr (0, 5, 0), 3), (4, .inl (.aload_n 0), 1), (5, .inr (0, 5, 1), 3), (8, .inl (.iconst 1), 1), (9, .inl (.isub), 1), (10, .inl (.iconst 4), 1), (11, .inl (.imul), 1), (12, .inl (.iload_n 1), 1), (13, .inl (.iadd), 1), (14, .inr (2, 9, 2), 3)],
  [(17, .inl (.ireturn), 1)]]
-- MovingNames$Deeds.dropLatest()V
set_option maxRecDepth 100000 in
noncomputable def ab_c147 : List (List (Nat × ab_I × Nat)) := [[(0, .inl (.aload_n 0), 1), (1, .inl (.iconst 0), 1), (2, .inl (.aload_n 0), 1), (3, .inr (0, 5, 1), 3), (6, .inl (.iconst 1), 1), (7, .inl (.isub), 1), (8, .inr (2, 58, 2), 3), (11, .inr (1, 5, 1), 3), (14, .inl (.return_), 1)]]
-- MovingNamesLaw.judge(LMovingNames;II[J)I
set_option maxRecDepth 100000 in
noncomputable def ab_c148 : List (List (Nat × ab_I × Nat)) := [[(0, .inl (.aload_n 3), 1), (1, .inl (.iconst 0), 1), (2, .inl (.aload_n 0), 1), (3, .inl (.iload_n 1), 1), (4, .inl (.iload_n 2), 1), (5, .inr (2, 149, 3), 3), (8, .inl (.i2l), 1), (9, .inl (.lastore), 1), (10, .inl (.goto 15), 3), (13, .inl (.astore 4), 2), (15, .inl (.iconst 1), 1)],
  [(16, .inl (.ireturn), 1), (17, .inl (.astore 4), 2), (19, .inl (.iconst 2), 1), (20, .inl (.ireturn), 1), (21, .inl (.astore 4), 2), (23, .inl (.iconst 3), 1), (24, .inl (.ireturn), 1), (25, .inl (.iconst 0), 1), (26, .inl (.ireturn), 1)]]
-- MovingNames.judge(II)I
set_option maxRecDepth 100000 in
noncomputable def ab_c149 : List (List (Nat × ab_I × Nat)) := [[(0, .inl (.aload_n 0), 1), (1, .inl (.iload_n 1), 1), (2, .inr (2, 150, 2), 3), (5, .inl (.astore_n 3), 1), (6, .inl (.aload_n 0), 1), (7, .inl (.iload_n 2), 1), (8, .inl (.iconst 0), 1), (9, .inl (.iconst 3), 1), (10, .inr (2, 103, 4), 3), (13, .inl (.aload_n 0), 1), (14, .inl (.aload_n 3), 1), (15, .inr (2, 151, 2), 3)],
  [(18, .inl (.istore 4), 2), (20, .inl (.aload_n 0), 1), (21, .inr (0, 0, 2), 3), (24, .inl (.aload_n 0), 1), (25, .inr (0, 0, 1), 3), (28, .inr (2, 80, 2), 3), (31, .inl (.aload_n 0), 1)],
  [(32, .inl (.aload_n 3), 1), (33, .inl (.iload 4), 2), (35, .inl (.aload_n 0), 1), (36, .inr (0, 0, 2), 3), (39, .inr (2, 154, 4), 3), (42, .inl (.istore 5), 2), (44, .inl (.iload 4), 2), (46, .inl (.aload_n 3), 1), (47, .inr (0, 8, 2), 3)],
  [(50, .inl (.if_icmp .ne 7), 3), (53, .inl (.iconst 1), 1), (54, .inl (.goto 4), 3), (57, .inl (.iconst 0), 1), (58, .inl (.istore 6), 2), (60, .inl (.iload_n 2), 1), (61, .inl (.tableswitch 65 0 2 #[27, 39, 62]), 27)],
  [],
  [(88, .inl (.iload 6), 2), (90, .inl (.ifCond .eq 7), 3), (93, .inl (.iconst (-1)), 1), (94, .inl (.goto 5), 3)],
  [(97, .inl (.iload 4), 2), (99, .inl (.ireturn), 1), (100, .inl (.iload 6), 2), (102, .inl (.ifCond .eq 7), 3), (105, .inl (.iconst 0), 1), (106, .inl (.goto 16), 3), (109, .inl (.aload_n 0), 1), (110, .inr (0, 0, 1), 3)],
  [(113, .inl (.aload_n 3), 1), (114, .inl (.iload 4), 2), (116, .inr (2, 152, 2), 3), (119, .inr (2, 153, 2), 3), (122, .inl (.ireturn), 1), (123, .inl (.iload 5), 2), (125, .inl (.ireturn), 1), (126, .inl (.aload_n 0), 1), (127, .inr (0, 0, 2), 3)],
  [(130, .inr (2, 7, 1), 3), (133, .inl (.ireturn), 1)]]
-- MovingNames.needTray(I)LMovingNames$Tray;
set_option maxRecDepth 100000 in
noncomputable def ab_c150 : List (List (Nat × ab_I × Nat)) := [[(0, .inl (.iload_n 1), 1), (1, .inl (.ifCond .lt 12), 3), (4, .inl (.iload_n 1), 1), (5, .inl (.aload_n 0), 1), (6, .inr (0, 0, 5), 3), (9, .inl (.arraylength), 1), (10, .inl (.if_icmp .lt 14), 3), (13, .inr (10, 1, 0), 11)],
  [(24, .inl (.aload_n 0), 1), (25, .inr (0, 0, 5), 3), (28, .inl (.iload_n 1), 1), (29, .inl (.aaload), 1), (30, .inl (.astore_n 2), 1), (31, .inl (.aload_n 2), 1)],
  [(32, .inl (.ifnonnull 14), 3), (35, .inr (10, 2, 0), 11), (46, .inl (.aload_n 2), 1), (47, .inl (.areturn), 1)]]
-- MovingNames.doable(LMovingNames$Tray;)I
set_option maxRecDepth 100000 in
noncomputable def ab_c151 : List (List (Nat × ab_I × Nat)) := [[(0, .inl (.iconst 0), 1), (1, .inl (.istore_n 2), 1), (2, .inl (.iload_n 2), 1), (3, .inl (.aload_n 1), 1), (4, .inr (0, 8, 2), 3), (7, .inl (.if_icmp .ge 24), 3), (10, .inl (.aload_n 0), 1), (11, .inr (0, 0, 1), 3), (14, .inl (.aload_n 1), 1), (15, .inl (.iload_n 2), 1)],
  [(16, .inr (2, 152, 2), 3), (19, .inr (2, 153, 2), 3), (22, .inl (.ifCond .ne 9), 3), (25, .inl (.iinc 2 1), 3), (28, .inl (.goto (-26)), 3), (31, .inl (.iload_n 2), 1)],
  [(32, .inl (.ireturn), 1)]]
-- MovingNames$Tray.get(I)J
set_option maxRecDepth 100000 in
noncomputable def ab_c152 : List (List (Nat × ab_I × Nat)) := [[(0, .inl (.iload_n 1), 1), (1, .inl (.ifCond .lt 29), 3), (4, .inl (.iload_n 1), 1), (5, .inl (.aload_n 0), 1), (6, .inr (0, 8, 2), 3), (9, .inl (.if_icmp .ge 21), 3), (12, .inl (.iload_n 1), 1), (13, .inl (.aload_n 0), 1), (14, .inr (0, 8, 0), 3)],
  [(17, .inl (.arraylength), 1), (18, .inl (.if_icmp .ge 12), 3), (21, .inl (.aload_n 0), 1), (22, .inr (0, 8, 0), 3), (25, .inl (.iload_n 1), 1), (26, .inl (.laload), 1), (27, .inl (.goto 4), 3), (30, .inl (.lconst 0), 1), (31, .inl (.lreturn), 1)]]
-- MovingNames$Town.troubleOf(J)I
set_option maxRecDepth 100000 in
noncomputable def ab_c153 : List (List (Nat × ab_I × Nat)) := [[(0, .inl (.lload_n 1), 1), (1, .inr (9, 0, (-1)), 3), (4, .inl (.lcmp), 1), (5, .inl (.ifCond .ne 5), 3), (8, .inl (.iconst 0), 1), (9, .inl (.ireturn), 1), (10, .inl (.lload_n 1), 1), (11, .inl (.lconst 0), 1), (12, .inl (.lcmp), 1), (13, .inl (.ifCond .lt 11), 3)],
  [(16, .inl (.lload_n 1), 1), (17, .inr (9, 0, 800), 3), (20, .inl (.lcmp), 1), (21, .inl (.ifCond .lt 5), 3), (24, .inl (.iconst 1), 1), (25, .inl (.ireturn), 1), (26, .inl (.lload_n 1), 1), (27, .inr (9, 0, 400), 3), (30, .inl (.lrem), 1), (31, .inr (9, 0, 20), 3)],
  [(34, .inl (.lrem), 1), (35, .inl (.lstore_n 3), 1), (36, .inl (.lload_n 1), 1), (37, .inr (9, 0, 400), 3), (40, .inl (.lrem), 1), (41, .inr (9, 0, 20), 3), (44, .inl (.ldiv), 1), (45, .inl (.lstore 5), 2), (47, .inl (.lload_n 3), 1)],
  [(48, .inl (.aload_n 0), 1), (49, .inr (0, 2, 1), 3), (52, .inl (.i2l), 1), (53, .inl (.lcmp), 1), (54, .inl (.ifCond .ge 14), 3), (57, .inl (.lload 5), 2), (59, .inl (.aload_n 0), 1), (60, .inr (0, 2, 1), 3), (63, .inl (.i2l), 1)],
  [(64, .inl (.lcmp), 1), (65, .inl (.ifCond .lt 5), 3), (68, .inl (.iconst 1), 1), (69, .inl (.ireturn), 1), (70, .inl (.lload_n 1), 1), (71, .inr (9, 0, 400), 3), (74, .inl (.lcmp), 1), (75, .inl (.ifCond .lt 14), 3), (78, .inl (.lload_n 3), 1), (79, .inl (.lload 5), 2)],
  [(81, .inl (.lcmp), 1), (82, .inl (.ifCond .ne 7), 3), (85, .inl (.iconst 2), 1), (86, .inl (.goto 4), 3), (89, .inl (.iconst 0), 1), (90, .inl (.ireturn), 1)]]
-- MovingNames.doTold(LMovingNames$Tray;ILMovingNames$Town;)I
set_option maxRecDepth 100000 in
noncomputable def ab_c154 : List (List (Nat × ab_I × Nat)) := [[(0, .inl (.iconst 0), 1), (1, .inl (.istore 4), 2), (3, .inl (.iconst 0), 1), (4, .inl (.istore 5), 2), (6, .inl (.iload 5), 2), (8, .inl (.iload_n 2), 1), (9, .inl (.if_icmp .ge 91), 3), (12, .inl (.aload_n 1), 1), (13, .inl (.iload 5), 2), (15, .inr (2, 152, 2), 3)],
  [(18, .inl (.l2i), 1), (19, .inl (.istore 6), 2), (21, .inl (.iload 6), 2), (23, .inl (.sipush 400), 3), (26, .inl (.irem), 1), (27, .inl (.bipush 20), 2), (29, .inl (.irem), 1), (30, .inl (.istore 7), 2)],
  [(32, .inl (.iload 6), 2), (34, .inl (.sipush 400), 3), (37, .inl (.irem), 1), (38, .inl (.bipush 20), 2), (40, .inl (.idiv), 1), (41, .inl (.istore 8), 2), (43, .inl (.iload 6), 2), (45, .inl (.iconst (-1)), 1), (46, .inl (.if_icmp .ne 20), 3)],
  [(49, .inl (.iload 4), 2), (51, .inl (.aload_n 3), 1), (52, .inl (.iconst 1), 1), (53, .inl (.aload_n 0), 1), (54, .inr (0, 0, 3), 3), (57, .inr (2, 113, 3), 3), (60, .inl (.iadd), 1), (61, .inl (.istore 4), 2), (63, .inl (.goto 31), 3)],
  [(66, .inl (.iload 6), 2), (68, .inl (.sipush 400), 3), (71, .inl (.if_icmp .ge 15), 3), (74, .inl (.aload_n 3), 1), (75, .inl (.iload 7), 2), (77, .inl (.iload 8), 2), (79, .inr (2, 124, 3), 3)],
  [(82, .inl (.pop), 1), (83, .inl (.goto 11), 3), (86, .inl (.aload_n 3), 1), (87, .inl (.iload 7), 2), (89, .inl (.iload 8), 2), (91, .inr (2, 128, 3), 3), (94, .inl (.iinc 5 1), 3)],
  [(97, .inl (.goto (-91)), 3), (100, .inl (.iload 4), 2), (102, .inl (.ireturn), 1)]]
-- MovingNamesLaw.perform(LMovingNames;I[J)I
set_option maxRecDepth 100000 in
noncomputable def ab_c155 : List (List (Nat × ab_I × Nat)) := [[(0, .inl (.aload_n 2), 1), (1, .inl (.iconst 0), 1), (2, .inl (.aload_n 0), 1), (3, .inl (.iload_n 1), 1), (4, .inr (2, 156, 2), 3), (7, .inl (.i2l), 1), (8, .inl (.lastore), 1), (9, .inl (.goto 9), 3), (12, .inl (.astore_n 3), 1), (13, .inl (.iconst 1), 1), (14, .inl (.ireturn), 1), (15, .inl (.astore_n 3), 1)],
  [(16, .inl (.iconst 2), 1), (17, .inl (.ireturn), 1), (18, .inl (.iconst 0), 1), (19, .inl (.ireturn), 1)]]
-- MovingNames.perform(I)I
set_option maxRecDepth 100000 in
noncomputable def ab_c156 : List (List (Nat × ab_I × Nat)) := [[(0, .inl (.aload_n 0), 1), (1, .inl (.iload_n 1), 1), (2, .inr (2, 150, 2), 3), (5, .inl (.astore_n 2), 1), (6, .inl (.aload_n 0), 1), (7, .inl (.aload_n 2), 1), (8, .inr (2, 151, 2), 3), (11, .inl (.istore_n 3), 1), (12, .inl (.aload_n 0), 1), (13, .inl (.aload_n 2), 1), (14, .inl (.iload_n 3), 1), (15, .inl (.aload_n 0), 1)],
  [(16, .inr (0, 0, 1), 3), (19, .inr (2, 154, 4), 3), (22, .inl (.pop), 1), (23, .inl (.iload_n 3), 1), (24, .inl (.ireturn), 1)]]
-- MovingNamesLaw.month(LMovingNames;II[J)I
set_option maxRecDepth 100000 in
noncomputable def ab_c157 : List (List (Nat × ab_I × Nat)) := [[(0, .inl (.aload_n 3), 1), (1, .inl (.iconst 0), 1), (2, .inl (.aload_n 0), 1), (3, .inl (.iload_n 1), 1), (4, .inl (.iload_n 2), 1), (5, .inr (2, 158, 3), 3), (8, .inl (.i2l), 1), (9, .inl (.lastore), 1), (10, .inl (.goto 11), 3), (13, .inl (.astore 4), 2), (15, .inl (.iconst 1), 1)],
  [(16, .inl (.ireturn), 1), (17, .inl (.astore 4), 2), (19, .inl (.iconst 2), 1), (20, .inl (.ireturn), 1), (21, .inl (.iconst 0), 1), (22, .inl (.ireturn), 1)]]
-- MovingNames.month(II)I
set_option maxRecDepth 100000 in
noncomputable def ab_c158 : List (List (Nat × ab_I × Nat)) := [[(0, .inl (.aload_n 0), 1), (1, .inl (.iload_n 2), 1), (2, .inl (.iconst 1), 1), (3, .inl (.bipush 30), 2), (5, .inr (2, 103, 4), 3), (8, .inl (.aload_n 0), 1), (9, .inr (0, 0, 1), 3), (12, .inr (0, 2, 1), 3), (15, .inl (.ifCond .ne 14), 3)],
  [(18, .inr (10, 2, 0), 11), (29, .inl (.aload_n 0), 1), (30, .inl (.iload_n 1), 1), (31, .inr (1, 0, 7), 3)],
  [(34, .inl (.iconst 0), 1), (35, .inl (.istore_n 3), 1), (36, .inl (.iconst 0), 1), (37, .inl (.istore 4), 2), (39, .inl (.iload 4), 2), (41, .inl (.iload_n 2), 1), (42, .inl (.if_icmp .ge 19), 3), (45, .inl (.aload_n 0), 1), (46, .inr (2, 159, 1), 3)],
  [(49, .inl (.ifCond .eq 6), 3), (52, .inl (.iinc 3 1), 3), (55, .inl (.iinc 4 1), 3), (58, .inl (.goto (-19)), 3), (61, .inl (.iload_n 3), 1), (62, .inl (.ireturn), 1)]]
-- MovingNames.doDrawn()Z
set_option maxRecDepth 100000 in
noncomputable def ab_c159 : List (List (Nat × ab_I × Nat)) := [[(0, .inl (.aload_n 0), 1), (1, .inl (.iconst 4), 1), (2, .inr (2, 160, 2), 3), (5, .inl (.istore_n 1), 1), (6, .inl (.iload_n 1), 1), (7, .inl (.iconst 2), 1), (8, .inl (.if_icmp .ge 18), 3), (11, .inl (.aload_n 0), 1), (12, .inr (0, 0, 1), 3), (15, .inl (.iconst 1), 1)],
  [(16, .inl (.aload_n 0), 1), (17, .inr (0, 0, 3), 3), (20, .inr (2, 113, 3), 3), (23, .inl (.pop), 1), (24, .inl (.iconst 1), 1), (25, .inl (.ireturn), 1), (26, .inl (.aload_n 0), 1), (27, .inl (.aload_n 0), 1), (28, .inr (0, 0, 1), 3), (31, .inr (0, 2, 1), 3)],
  [(34, .inr (2, 160, 2), 3), (37, .inl (.istore_n 2), 1), (38, .inl (.aload_n 0), 1), (39, .inl (.aload_n 0), 1), (40, .inr (0, 0, 1), 3), (43, .inr (0, 2, 1), 3), (46, .inr (2, 160, 2), 3)],
  [(49, .inl (.istore_n 3), 1), (50, .inl (.iload_n 1), 1), (51, .inl (.iconst 2), 1), (52, .inl (.if_icmp .ne 15), 3), (55, .inl (.aload_n 0), 1), (56, .inr (0, 0, 1), 3), (59, .inl (.iload_n 2), 1), (60, .inl (.iload_n 3), 1), (61, .inr (2, 124, 3), 3)],
  [(64, .inl (.pop), 1), (65, .inl (.iconst 1), 1), (66, .inl (.ireturn), 1), (67, .inl (.iload_n 2), 1), (68, .inl (.iload_n 3), 1), (69, .inl (.if_icmp .ne 5), 3), (72, .inl (.iconst 0), 1), (73, .inl (.ireturn), 1), (74, .inl (.aload_n 0), 1), (75, .inr (0, 0, 1), 3), (78, .inl (.iload_n 2), 1), (79, .inl (.iload_n 3), 1)],
  [(80, .inr (2, 128, 3), 3), (83, .inl (.iconst 1), 1), (84, .inl (.ireturn), 1)]]
-- MovingNames.drawBelow(I)I
set_option maxRecDepth 100000 in
noncomputable def ab_c160 : List (List (Nat × ab_I × Nat)) := [[(0, .inl (.aload_n 0), 1), (1, .inr (8, 0, 1103515245), 3), (4, .inl (.aload_n 0), 1), (5, .inr (0, 0, 7), 3), (8, .inl (.imul), 1), (9, .inl (.sipush 12345), 3), (12, .inl (.iadd), 1), (13, .inr (1, 0, 7), 3)],
  [(16, .inl (.iload_n 1), 1), (17, .inl (.ifCond .le 15), 3), (20, .inl (.aload_n 0), 1), (21, .inr (0, 0, 7), 3), (24, .inl (.bipush 16), 2), (26, .inl (.iushr), 1), (27, .inl (.iload_n 1), 1), (28, .inl (.irem), 1), (29, .inl (.goto 4), 3)],
  [(32, .inl (.iconst 0), 1), (33, .inl (.ireturn), 1)]]
-- MovingNamesLaw.when(LMovingNames;I[J)I
set_option maxRecDepth 100000 in
noncomputable def ab_c161 : List (List (Nat × ab_I × Nat)) := [[(0, .inl (.aload_n 2), 1), (1, .inl (.iconst 0), 1), (2, .inl (.aload_n 0), 1), (3, .inl (.iload_n 1), 1), (4, .inr (2, 162, 2), 3), (7, .inl (.lastore), 1), (8, .inl (.goto 12), 3), (11, .inl (.astore_n 3), 1), (12, .inl (.iconst 1), 1), (13, .inl (.ireturn), 1), (14, .inl (.astore_n 3), 1), (15, .inl (.iconst 2), 1)],
  [(16, .inl (.ireturn), 1), (17, .inl (.astore_n 3), 1), (18, .inl (.iconst 3), 1), (19, .inl (.ireturn), 1), (20, .inl (.iconst 0), 1), (21, .inl (.ireturn), 1)]]
-- MovingNames.when(I)J
set_option maxRecDepth 100000 in
noncomputable def ab_c162 : List (List (Nat × ab_I × Nat)) := [[(0, .inl (.aload_n 0), 1), (1, .inl (.iload_n 1), 1), (2, .inr (2, 150, 2), 3), (5, .inl (.astore_n 2), 1), (6, .inl (.aload_n 0), 1), (7, .inl (.aload_n 2), 1), (8, .inl (.bipush 10), 2), (10, .inr (2, 163, 3), 3), (13, .inl (.aload_n 0), 1), (14, .inr (0, 0, 3), 3)],
  [(17, .inl (.aload_n 0), 1), (18, .inr (0, 0, 1), 3), (21, .inr (2, 17, 2), 3), (24, .inl (.aload_n 0), 1), (25, .inr (0, 0, 3), 3), (28, .inr (2, 26, 1), 3), (31, .inl (.istore_n 3), 1)],
  [(32, .inl (.iconst 0), 1), (33, .inl (.istore 4), 2), (35, .inl (.iload 4), 2), (37, .inl (.iload_n 3), 1), (38, .inl (.if_icmp .ge 31), 3), (41, .inl (.aload_n 0), 1), (42, .inr (0, 0, 3), 3), (45, .inl (.aload_n 2), 1), (46, .inr (2, 164, 2), 3)],
  [(49, .inl (.ifCond .eq 7), 3), (52, .inl (.iload 4), 2), (54, .inl (.i2l), 1), (55, .inl (.lreturn), 1), (56, .inl (.aload_n 0), 1), (57, .inr (0, 0, 3), 3), (60, .inr (2, 30, 1), 3), (63, .inl (.iinc 4 1), 3)],
  [(66, .inl (.goto (-31)), 3), (69, .inr (9, 0, (-1)), 3), (72, .inl (.lreturn), 1)]]
-- MovingNames.needToldSigns(LMovingNames$Tray;I)V
set_option maxRecDepth 100000 in
noncomputable def ab_c163 : List (List (Nat × ab_I × Nat)) := [[(0, .inl (.aload_n 0), 1), (1, .inl (.aload_n 1), 1), (2, .inr (0, 8, 2), 3), (5, .inl (.iconst 1), 1), (6, .inl (.iload_n 2), 1), (7, .inr (2, 103, 4), 3), (10, .inl (.iconst 0), 1), (11, .inl (.istore_n 3), 1), (12, .inl (.iload_n 3), 1), (13, .inl (.aload_n 1), 1), (14, .inr (0, 8, 2), 3)],
  [(17, .inl (.if_icmp .ge 70), 3), (20, .inl (.aload_n 1), 1), (21, .inl (.iload_n 3), 1), (22, .inr (2, 152, 2), 3), (25, .inl (.lstore 4), 2), (27, .inl (.lload 4), 2), (29, .inl (.lconst 0), 1), (30, .inl (.lcmp), 1), (31, .inl (.ifCond .lt 39), 3)],
  [(34, .inl (.lload 4), 2), (36, .inr (9, 0, 20), 3), (39, .inl (.lrem), 1), (40, .inl (.aload_n 0), 1), (41, .inr (0, 0, 1), 3), (44, .inr (0, 2, 1), 3), (47, .inl (.i2l), 1)],
  [(48, .inl (.lcmp), 1), (49, .inl (.ifCond .ge 21), 3), (52, .inl (.lload 4), 2), (54, .inr (9, 0, 20), 3), (57, .inl (.ldiv), 1), (58, .inl (.aload_n 0), 1), (59, .inr (0, 0, 1), 3), (62, .inr (0, 2, 1), 3)],
  [(65, .inl (.i2l), 1), (66, .inl (.lcmp), 1), (67, .inl (.ifCond .lt 14), 3), (70, .inr (10, 0, 0), 11)],
  [(81, .inl (.iinc 3 1), 3), (84, .inl (.goto (-72)), 3), (87, .inl (.return_), 1)]]
-- MovingNames$Outlook.allHang(LMovingNames$Tray;)Z
set_option maxRecDepth 100000 in
noncomputable def ab_c164 : List (List (Nat × ab_I × Nat)) := [[(0, .inl (.iconst 0), 1), (1, .inl (.istore_n 2), 1), (2, .inl (.iload_n 2), 1), (3, .inl (.aload_n 1), 1), (4, .inr (0, 8, 2), 3), (7, .inl (.if_icmp .ge 33), 3), (10, .inl (.aload_n 1), 1), (11, .inl (.iload_n 2), 1), (12, .inr (2, 152, 2), 3), (15, .inl (.l2i), 1)],
  [(16, .inl (.istore_n 3), 1), (17, .inl (.aload_n 0), 1), (18, .inl (.iload_n 3), 1), (19, .inl (.bipush 20), 2), (21, .inl (.irem), 1), (22, .inr (2, 32, 2), 3), (25, .inl (.iload_n 3), 1), (26, .inl (.bipush 20), 2), (28, .inl (.idiv), 1), (29, .inl (.if_icmp .eq 5), 3)],
  [(32, .inl (.iconst 0), 1), (33, .inl (.ireturn), 1), (34, .inl (.iinc 2 1), 3), (37, .inl (.goto (-35)), 3), (40, .inl (.iconst 1), 1), (41, .inl (.ireturn), 1)]]
-- MovingNamesLaw.follows(LMovingNames;II[J)I
set_option maxRecDepth 100000 in
noncomputable def ab_c165 : List (List (Nat × ab_I × Nat)) := [[(0, .inl (.aload_n 3), 1), (1, .inl (.iconst 0), 1), (2, .inl (.aload_n 0), 1), (3, .inl (.iload_n 1), 1), (4, .inl (.iload_n 2), 1), (5, .inr (2, 166, 3), 3), (8, .inl (.lastore), 1), (9, .inl (.goto 11), 3), (12, .inl (.astore 4), 2), (14, .inl (.iconst 1), 1), (15, .inl (.ireturn), 1)],
  [(16, .inl (.astore 4), 2), (18, .inl (.iconst 2), 1), (19, .inl (.ireturn), 1), (20, .inl (.iconst 0), 1), (21, .inl (.ireturn), 1)]]
-- MovingNames.follows(II)J
set_option maxRecDepth 100000 in
noncomputable def ab_c166 : List (List (Nat × ab_I × Nat)) := [[(0, .inl (.aload_n 0), 1), (1, .inl (.iload_n 1), 1), (2, .inl (.iload_n 2), 1), (3, .inr (2, 127, 3), 3), (6, .inl (.aload_n 0), 1), (7, .inr (0, 0, 3), 3), (10, .inl (.aload_n 0), 1), (11, .inr (0, 0, 1), 3), (14, .inr (2, 17, 2), 3)],
  [(17, .inl (.aload_n 0), 1), (18, .inr (0, 0, 3), 3), (21, .inl (.iload_n 2), 1), (22, .inl (.iconst 1), 1), (23, .inr (2, 108, 3), 3), (26, .inl (.iload_n 1), 1), (27, .inl (.if_icmp .ne 7), 3), (30, .inl (.lconst 0), 1), (31, .inl (.goto 6), 3)],
  [(34, .inr (9, 0, (-1)), 3), (37, .inl (.lreturn), 1)]]
-- MovingNamesLaw.again(LMovingNames;I[J)I
set_option maxRecDepth 100000 in
noncomputable def ab_c167 : List (List (Nat × ab_I × Nat)) := [[(0, .inl (.aload_n 2), 1), (1, .inl (.iconst 0), 1), (2, .inl (.aload_n 0), 1), (3, .inl (.iload_n 1), 1), (4, .inr (2, 168, 2), 3), (7, .inl (.i2l), 1), (8, .inl (.lastore), 1), (9, .inl (.goto 6), 3), (12, .inl (.astore_n 3), 1), (13, .inl (.iconst 1), 1), (14, .inl (.ireturn), 1), (15, .inl (.iconst 0), 1)],
  [(16, .inl (.ireturn), 1)]]
-- MovingNames.again(I)I
set_option maxRecDepth 100000 in
noncomputable def ab_c168 : List (List (Nat × ab_I × Nat)) := [[(0, .inl (.aload_n 0), 1), (1, .inl (.iload_n 1), 1), (2, .inr (2, 86, 2), 3), (5, .inl (.aload_n 0), 1), (6, .inr (0, 0, 3), 3), (9, .inl (.aload_n 0), 1), (10, .inr (0, 0, 1), 3), (13, .inr (2, 17, 2), 3)],
  [(16, .inl (.aload_n 0), 1), (17, .inr (0, 0, 3), 3), (20, .inr (0, 6, 2), 3), (23, .inl (.iload_n 1), 1), (24, .inr (2, 9, 2), 3), (27, .inl (.istore_n 2), 1), (28, .inl (.aload_n 0), 1), (29, .inr (0, 0, 3), 3)],
  [(32, .inr (0, 6, 4), 3), (35, .inl (.iload_n 1), 1), (36, .inr (2, 9, 2), 3), (39, .inl (.istore_n 3), 1), (40, .inl (.iconst 1), 1), (41, .inl (.istore 4), 2), (43, .inl (.iload 4), 2), (45, .inl (.bipush 20), 2), (47, .inl (.if_icmp .ge 36), 3)],
  [(50, .inl (.aload_n 0), 1), (51, .inr (0, 0, 3), 3), (54, .inr (0, 6, 2), 3), (57, .inl (.iload_n 3), 1), (58, .inr (2, 9, 2), 3), (61, .inl (.iload_n 2), 1), (62, .inl (.if_icmp .eq 21), 3)],
  [(65, .inl (.aload_n 0), 1), (66, .inr (0, 0, 3), 3), (69, .inr (0, 6, 4), 3), (72, .inl (.iload_n 3), 1), (73, .inr (2, 9, 2), 3), (76, .inl (.istore_n 3), 1), (77, .inl (.iinc 4 1), 3)],
  [(80, .inl (.goto (-37)), 3), (83, .inl (.iload 4), 2), (85, .inl (.ireturn), 1)]]
-- MovingNamesLaw.beside(LMovingNames;II[J)I
set_option maxRecDepth 100000 in
noncomputable def ab_c169 : List (List (Nat × ab_I × Nat)) := [[(0, .inl (.aload_n 3), 1), (1, .inl (.iconst 0), 1), (2, .inl (.aload_n 0), 1), (3, .inl (.iload_n 1), 1), (4, .inl (.iload_n 2), 1), (5, .inr (2, 170, 3), 3), (8, .inl (.i2l), 1), (9, .inl (.lastore), 1), (10, .inl (.goto 11), 3), (13, .inl (.astore 4), 2), (15, .inl (.iconst 1), 1)],
  [(16, .inl (.ireturn), 1), (17, .inl (.astore 4), 2), (19, .inl (.iconst 2), 1), (20, .inl (.ireturn), 1), (21, .inl (.iconst 0), 1), (22, .inl (.ireturn), 1)]]
-- MovingNames.beside(II)I
set_option maxRecDepth 100000 in
noncomputable def ab_c170 : List (List (Nat × ab_I × Nat)) := [[(0, .inl (.aload_n 0), 1), (1, .inl (.iload_n 1), 1), (2, .inl (.iload_n 2), 1), (3, .inr (2, 127, 3), 3), (6, .inl (.aload_n 0), 1), (7, .inr (0, 0, 3), 3), (10, .inl (.aload_n 0), 1), (11, .inr (0, 0, 1), 3), (14, .inr (2, 17, 2), 3)],
  [(17, .inl (.aload_n 0), 1), (18, .inr (0, 0, 3), 3), (21, .inr (2, 26, 1), 3), (24, .inl (.istore_n 3), 1), (25, .inl (.iload_n 1), 1), (26, .inl (.istore 4), 2), (28, .inl (.iload_n 2), 1), (29, .inl (.istore 5), 2), (31, .inl (.iconst 0), 1)],
  [(32, .inl (.istore 6), 2), (34, .inl (.iconst 0), 1), (35, .inl (.istore 7), 2), (37, .inl (.iload 7), 2), (39, .inl (.iload_n 3), 1), (40, .inl (.if_icmp .ge 52), 3), (43, .inl (.iload 4), 2), (45, .inl (.iload 5), 2), (47, .inl (.isub), 1)],
  [(48, .inr (2, 92, 1), 3), (51, .inl (.iconst 1), 1), (52, .inl (.if_icmp .ne 6), 3), (55, .inl (.iinc 6 1), 3), (58, .inl (.aload_n 0), 1), (59, .inr (0, 0, 3), 3), (62, .inr (0, 6, 3), 3)],
  [(65, .inl (.iload 4), 2), (67, .inr (2, 9, 2), 3), (70, .inl (.istore 4), 2), (72, .inl (.aload_n 0), 1), (73, .inr (0, 0, 3), 3), (76, .inr (0, 6, 3), 3), (79, .inl (.iload 5), 2)],
  [(81, .inr (2, 9, 2), 3), (84, .inl (.istore 5), 2), (86, .inl (.iinc 7 1), 3), (89, .inl (.goto (-52)), 3), (92, .inl (.iload 6), 2), (94, .inl (.ireturn), 1)]]
-- MovingNamesLaw.visits(LMovingNames;II[J)I
set_option maxRecDepth 100000 in
noncomputable def ab_c171 : List (List (Nat × ab_I × Nat)) := [[(0, .inl (.aload_n 3), 1), (1, .inl (.iconst 0), 1), (2, .inl (.aload_n 0), 1), (3, .inl (.iload_n 1), 1), (4, .inl (.iload_n 2), 1), (5, .inr (2, 172, 3), 3), (8, .inl (.i2l), 1), (9, .inl (.lastore), 1), (10, .inl (.goto 11), 3), (13, .inl (.astore 4), 2), (15, .inl (.iconst 1), 1)],
  [(16, .inl (.ireturn), 1), (17, .inl (.astore 4), 2), (19, .inl (.iconst 2), 1), (20, .inl (.ireturn), 1), (21, .inl (.iconst 0), 1), (22, .inl (.ireturn), 1)]]
-- MovingNames.visits(II)I
set_option maxRecDepth 100000 in
noncomputable def ab_c172 : List (List (Nat × ab_I × Nat)) := [[(0, .inl (.aload_n 0), 1), (1, .inl (.iload_n 1), 1), (2, .inr (2, 98, 2), 3), (5, .inl (.aload_n 0), 1), (6, .inl (.iload_n 2), 1), (7, .inl (.iconst 0), 1), (8, .inl (.sipush 999), 3), (11, .inr (2, 103, 4), 3), (14, .inl (.aload_n 0), 1), (15, .inr (0, 0, 3), 3)],
  [(18, .inl (.aload_n 0), 1), (19, .inr (0, 0, 1), 3), (22, .inr (2, 17, 2), 3), (25, .inl (.iconst 0), 1), (26, .inl (.istore_n 3), 1), (27, .inl (.iconst 0), 1), (28, .inl (.istore 4), 2), (30, .inl (.iload 4), 2)],
  [(32, .inl (.aload_n 0), 1), (33, .inr (0, 0, 1), 3), (36, .inr (0, 2, 1), 3), (39, .inl (.if_icmp .ge 38), 3), (42, .inl (.aload_n 0), 1), (43, .inr (0, 0, 1), 3), (46, .inr (0, 2, 7), 3)],
  [(49, .inl (.iload 4), 2), (51, .inr (2, 9, 2), 3), (54, .inl (.iload_n 1), 1), (55, .inl (.if_icmp .ne 16), 3), (58, .inl (.iload_n 3), 1), (59, .inl (.aload_n 0), 1), (60, .inr (0, 0, 3), 3), (63, .inl (.iload 4), 2)],
  [(65, .inl (.iload_n 2), 1), (66, .inr (2, 173, 3), 3), (69, .inl (.ior), 1), (70, .inl (.istore_n 3), 1), (71, .inl (.iinc 4 1), 3), (74, .inl (.goto (-44)), 3), (77, .inl (.iload_n 3), 1), (78, .inl (.ireturn), 1)]]
-- MovingNames$Outlook.visitedBy(II)I
set_option maxRecDepth 100000 in
noncomputable def ab_c173 : List (List (Nat × ab_I × Nat)) := [[(0, .inl (.iconst 0), 1), (1, .inl (.istore_n 3), 1), (2, .inl (.iload_n 1), 1), (3, .inl (.istore 4), 2), (5, .inl (.iconst 0), 1), (6, .inl (.istore 5), 2), (8, .inl (.iload 5), 2), (10, .inl (.iload_n 2), 1), (11, .inl (.if_icmp .gt 34), 3), (14, .inl (.iload 5), 2)],
  [(16, .inl (.bipush 20), 2), (18, .inl (.if_icmp .ge 27), 3), (21, .inl (.iload_n 3), 1), (22, .inl (.iconst 1), 1), (23, .inl (.iload 4), 2), (25, .inl (.ishl), 1), (26, .inl (.ior), 1), (27, .inl (.istore_n 3), 1), (28, .inl (.aload_n 0), 1), (29, .inr (0, 6, 3), 3)],
  [(32, .inl (.iload 4), 2), (34, .inr (2, 9, 2), 3), (37, .inl (.istore 4), 2), (39, .inl (.iinc 5 1), 3), (42, .inl (.goto (-34)), 3), (45, .inl (.iload_n 3), 1), (46, .inl (.ireturn), 1)]]
-- MovingNamesLaw.under(LMovingNames;II[J)I
set_option maxRecDepth 100000 in
noncomputable def ab_c174 : List (List (Nat × ab_I × Nat)) := [[(0, .inl (.aload_n 3), 1), (1, .inl (.iconst 0), 1), (2, .inl (.aload_n 0), 1), (3, .inl (.iload_n 1), 1), (4, .inl (.iload_n 2), 1), (5, .inr (2, 175, 3), 3), (8, .inl (.i2l), 1), (9, .inl (.lastore), 1), (10, .inl (.goto 11), 3), (13, .inl (.astore 4), 2), (15, .inl (.iconst 1), 1)],
  [(16, .inl (.ireturn), 1), (17, .inl (.astore 4), 2), (19, .inl (.iconst 2), 1), (20, .inl (.ireturn), 1), (21, .inl (.iconst 0), 1), (22, .inl (.ireturn), 1)]]
-- MovingNames.under(II)I
set_option maxRecDepth 100000 in
noncomputable def ab_c175 : List (List (Nat × ab_I × Nat)) := [[(0, .inl (.aload_n 0), 1), (1, .inl (.iload_n 1), 1), (2, .inr (2, 95, 2), 3), (5, .inl (.aload_n 0), 1), (6, .inl (.iload_n 2), 1), (7, .inl (.iconst 0), 1), (8, .inl (.sipush 999), 3), (11, .inr (2, 103, 4), 3), (14, .inl (.aload_n 0), 1), (15, .inr (0, 0, 3), 3)],
  [(18, .inl (.aload_n 0), 1), (19, .inr (0, 0, 1), 3), (22, .inr (2, 17, 2), 3), (25, .inl (.aload_n 0), 1), (26, .inr (0, 0, 3), 3), (29, .inl (.aload_n 0), 1), (30, .inr (0, 0, 1), 3)],
  [(33, .inr (0, 2, 8), 3), (36, .inl (.iload_n 1), 1), (37, .inr (2, 9, 2), 3), (40, .inl (.iload_n 2), 1), (41, .inr (2, 176, 3), 3), (44, .inl (.ireturn), 1)]]
-- MovingNames$Outlook.namesOn(II)I
set_option maxRecDepth 100000 in
noncomputable def ab_c176 : List (List (Nat × ab_I × Nat)) := [[(0, .inl (.iconst 0), 1), (1, .inl (.istore_n 3), 1), (2, .inl (.iload_n 1), 1), (3, .inl (.istore 4), 2), (5, .inl (.iconst 0), 1), (6, .inl (.istore 5), 2), (8, .inl (.iload 5), 2), (10, .inl (.iload_n 2), 1), (11, .inl (.if_icmp .gt 41), 3), (14, .inl (.iload 5), 2)],
  [(16, .inl (.bipush 20), 2), (18, .inl (.if_icmp .ge 34), 3), (21, .inl (.iload_n 3), 1), (22, .inl (.iconst 1), 1), (23, .inl (.aload_n 0), 1), (24, .inr (0, 6, 2), 3), (27, .inl (.iload 4), 2), (29, .inr (2, 9, 2), 3)],
  [(32, .inl (.ishl), 1), (33, .inl (.ior), 1), (34, .inl (.istore_n 3), 1), (35, .inl (.aload_n 0), 1), (36, .inr (0, 6, 4), 3), (39, .inl (.iload 4), 2), (41, .inr (2, 9, 2), 3), (44, .inl (.istore 4), 2), (46, .inl (.iinc 5 1), 3)],
  [(49, .inl (.goto (-41)), 3), (52, .inl (.iload_n 3), 1), (53, .inl (.ireturn), 1)]]
-- MovingNamesLaw.home(LMovingNames;II[J)I
set_option maxRecDepth 100000 in
noncomputable def ab_c177 : List (List (Nat × ab_I × Nat)) := [[(0, .inl (.aload_n 3), 1), (1, .inl (.iconst 0), 1), (2, .inl (.aload_n 0), 1), (3, .inl (.iload_n 1), 1), (4, .inl (.iload_n 2), 1), (5, .inr (2, 178, 3), 3), (8, .inl (.i2l), 1), (9, .inl (.lastore), 1), (10, .inl (.goto 15), 3), (13, .inl (.astore 4), 2), (15, .inl (.iconst 1), 1)],
  [(16, .inl (.ireturn), 1), (17, .inl (.astore 4), 2), (19, .inl (.iconst 2), 1), (20, .inl (.ireturn), 1), (21, .inl (.astore 4), 2), (23, .inl (.iconst 3), 1), (24, .inl (.ireturn), 1), (25, .inl (.iconst 0), 1), (26, .inl (.ireturn), 1)]]
-- MovingNames.home(II)I
set_option maxRecDepth 100000 in
noncomputable def ab_c178 : List (List (Nat × ab_I × Nat)) := [[(0, .inl (.aload_n 0), 1), (1, .inl (.iload_n 1), 1), (2, .inr (2, 150, 2), 3), (5, .inl (.astore_n 3), 1), (6, .inl (.aload_n 0), 1), (7, .inl (.aload_n 3), 1), (8, .inl (.bipush 8), 2), (10, .inr (2, 163, 3), 3), (13, .inl (.iload_n 2), 1), (14, .inl (.ifCond .eq 19), 3)],
  [(17, .inl (.aload_n 0), 1), (18, .inl (.iload_n 2), 1), (19, .inl (.bipush 10), 2), (21, .inl (.bipush 10), 2), (23, .inl (.aload_n 3), 1), (24, .inr (0, 8, 2), 3), (27, .inl (.iadd), 1), (28, .inl (.iconst 1), 1), (29, .inl (.isub), 1), (30, .inr (2, 103, 4), 3)],
  [(33, .inl (.aload_n 0), 1), (34, .inr (0, 0, 3), 3), (37, .inl (.aload_n 0), 1), (38, .inr (0, 0, 1), 3), (41, .inr (2, 17, 2), 3), (44, .inl (.aload_n 0), 1), (45, .inr (0, 0, 4), 3)],
  [(48, .inr (2, 179, 1), 3), (51, .inl (.iconst 0), 1), (52, .inl (.istore 4), 2), (54, .inl (.iload 4), 2), (56, .inl (.aload_n 3), 1), (57, .inr (0, 8, 2), 3), (60, .inl (.if_icmp .ge 44), 3), (63, .inl (.aload_n 3), 1)],
  [(64, .inl (.iload 4), 2), (66, .inr (2, 152, 2), 3), (69, .inl (.l2i), 1), (70, .inl (.istore 5), 2), (72, .inl (.aload_n 0), 1), (73, .inr (0, 0, 4), 3), (76, .inl (.aload_n 0), 1), (77, .inr (0, 0, 3), 3)],
  [(80, .inl (.iload 5), 2), (82, .inl (.bipush 20), 2), (84, .inl (.idiv), 1), (85, .inl (.iload 5), 2), (87, .inl (.bipush 20), 2), (89, .inl (.irem), 1), (90, .inl (.bipush 59), 2), (92, .inr (2, 180, 4), 3), (95, .inr (2, 181, 2), 3)],
  [(98, .inl (.iinc 4 1), 3), (101, .inl (.goto (-47)), 3), (104, .inl (.aload_n 0), 1), (105, .inr (0, 0, 4), 3), (108, .inr (2, 182, 1), 3), (111, .inl (.istore 4), 2)],
  [(113, .inl (.iload_n 2), 1), (114, .inl (.ifCond .ne 8), 3), (117, .inl (.iload 4), 2), (119, .inl (.goto 14), 3), (122, .inl (.aload_n 0), 1), (123, .inr (0, 0, 4), 3), (126, .inl (.iload_n 2), 1), (127, .inl (.bipush 10), 2)],
  [(129, .inl (.isub), 1), (130, .inr (2, 189, 2), 3), (133, .inl (.ireturn), 1)]]
-- MovingNames$Letters.clear()V
set_option maxRecDepth 100000 in
noncomputable def ab_c179 : List (List (Nat × ab_I × Nat)) := [[(0, .inl (.aload_n 0), 1), (1, .inl (.iconst 0), 1), (2, .inr (1, 7, 2), 3), (5, .inl (.return_), 1)]]
-- MovingNames$Outlook.nightsOf(III)J
set_option maxRecDepth 100000 in
noncomputable def ab_c180 : List (List (Nat × ab_I × Nat)) := [[(0, .inl (.lconst 0), 1), (1, .inl (.lstore 4), 2), (3, .inl (.iload_n 2), 1), (4, .inl (.istore 6), 2), (6, .inl (.iconst 0), 1), (7, .inl (.istore 7), 2), (9, .inl (.iload 7), 2), (11, .inl (.iload_n 3), 1), (12, .inl (.if_icmp .gt 42), 3), (15, .inl (.aload_n 0), 1)],
  [(16, .inr (0, 6, 2), 3), (19, .inl (.iload 6), 2), (21, .inr (2, 9, 2), 3), (24, .inl (.iload_n 1), 1), (25, .inl (.if_icmp .ne 12), 3), (28, .inl (.lload 4), 2), (30, .inl (.lconst 1), 1), (31, .inl (.iload 7), 2)],
  [(33, .inl (.lshl), 1), (34, .inl (.lor), 1), (35, .inl (.lstore 4), 2), (37, .inl (.aload_n 0), 1), (38, .inr (0, 6, 4), 3), (41, .inl (.iload 6), 2), (43, .inr (2, 9, 2), 3), (46, .inl (.istore 6), 2)],
  [(48, .inl (.iinc 7 1), 3), (51, .inl (.goto (-42)), 3), (54, .inl (.lload 4), 2), (56, .inl (.lreturn), 1)]]
-- MovingNames$Letters.add(J)V
set_option maxRecDepth 100000 in
noncomputable def ab_c181 : List (List (Nat × ab_I × Nat)) := [[(0, .inl (.aload_n 0), 1), (1, .inr (0, 7, 2), 3), (4, .inl (.aload_n 0), 1), (5, .inr (0, 7, 0), 3), (8, .inl (.arraylength), 1), (9, .inl (.if_icmp .ge 35), 3), (12, .inl (.aload_n 0), 1), (13, .inr (0, 7, 0), 3)],
  [(16, .inl (.aload_n 0), 1), (17, .inr (0, 7, 2), 3), (20, .inl (.lload_n 1), 1), (21, .inl (.lastore), 1), (22, .inl (.aload_n 0), 1), (23, .inr (0, 7, 1), 3), (26, .inl (.aload_n 0), 1), (27, .inr (0, 7, 2), 3), (30, .inl (.iconst (-1)), 1), (31, .inr (2, 3, 3), 3)],
  [(34, .inl (.aload_n 0), 1), (35, .inl (.dup), 1), (36, .inr (0, 7, 2), 3), (39, .inl (.iconst 1), 1), (40, .inl (.iadd), 1), (41, .inr (1, 7, 2), 3), (44, .inl (.return_), 1)]]
-- MovingNames$Letters.bringAll()I
set_option maxRecDepth 100000 in
noncomputable def ab_c182 : List (List (Nat × ab_I × Nat)) := [[(0, .inl (.aload_n 0), 1), (1, .inr (2, 183, 1), 3), (4, .inl (.istore_n 1), 1), (5, .inl (.iload_n 1), 1), (6, .inl (.iconst (-1)), 1), (7, .inl (.if_icmp .eq 52), 3), (10, .inl (.iconst 0), 1), (11, .inl (.istore_n 2), 1), (12, .inl (.iload_n 2), 1), (13, .inl (.aload_n 0), 1), (14, .inr (0, 7, 2), 3)],
  [(17, .inl (.if_icmp .ge 21), 3), (20, .inl (.aload_n 0), 1), (21, .inl (.iload_n 2), 1), (22, .inr (9, 0, 2), 3), (25, .inl (.iload_n 1), 1), (26, .inl (.lshl), 1), (27, .inl (.lconst 1), 1), (28, .inl (.lsub), 1), (29, .inr (2, 187, 3), 3)],
  [(32, .inl (.iinc 2 1), 3), (35, .inl (.goto (-23)), 3), (38, .inl (.iconst 0), 1), (39, .inl (.istore_n 2), 1), (40, .inl (.iload_n 2), 1), (41, .inl (.aload_n 0), 1), (42, .inr (0, 7, 2), 3), (45, .inl (.if_icmp .ge 14), 3)],
  [(48, .inl (.aload_n 0), 1), (49, .inl (.iload_n 2), 1), (50, .inr (2, 188, 2), 3), (53, .inl (.iinc 2 1), 3), (56, .inl (.goto (-16)), 3), (59, .inl (.iload_n 1), 1), (60, .inl (.ireturn), 1)]]
-- MovingNames$Letters.earliestEnd()I
set_option maxRecDepth 100000 in
noncomputable def ab_c183 : List (List (Nat × ab_I × Nat)) := [[(0, .inl (.iconst (-1)), 1), (1, .inl (.istore_n 1), 1), (2, .inl (.iconst 1), 1), (3, .inl (.istore_n 2), 1), (4, .inl (.iload_n 2), 1), (5, .inl (.iconst 1), 1), (6, .inl (.aload_n 0), 1), (7, .inr (0, 7, 2), 3), (10, .inl (.ishl), 1), (11, .inl (.if_icmp .ge 35), 3), (14, .inl (.aload_n 0), 1), (15, .inl (.iload_n 2), 1)],
  [(16, .inr (2, 184, 2), 3), (19, .inl (.iload_n 2), 1), (20, .inr (2, 37, 1), 3), (23, .inr (2, 185, 2), 3), (26, .inl (.istore_n 3), 1), (27, .inl (.iload_n 3), 1), (28, .inl (.iconst (-1)), 1), (29, .inl (.if_icmp .ne 5), 3)],
  [(32, .inl (.iconst (-1)), 1), (33, .inl (.ireturn), 1), (34, .inl (.iload_n 1), 1), (35, .inl (.iload_n 3), 1), (36, .inr (2, 58, 2), 3), (39, .inl (.istore_n 1), 1), (40, .inl (.iinc 2 1), 3), (43, .inl (.goto (-39)), 3), (46, .inl (.iload_n 1), 1), (47, .inl (.ireturn), 1)]]
-- MovingNames$Letters.nightsAmong(I)J
set_option maxRecDepth 100000 in
noncomputable def ab_c184 : List (List (Nat × ab_I × Nat)) := [[(0, .inl (.lconst 0), 1), (1, .inl (.lstore_n 2), 1), (2, .inl (.iconst 0), 1), (3, .inl (.istore 4), 2), (5, .inl (.iload 4), 2), (7, .inl (.aload_n 0), 1), (8, .inr (0, 7, 2), 3), (11, .inl (.if_icmp .ge 38), 3), (14, .inl (.iload 4), 2)],
  [(16, .inl (.aload_n 0), 1), (17, .inr (0, 7, 0), 3), (20, .inl (.arraylength), 1), (21, .inl (.if_icmp .ge 28), 3), (24, .inl (.iload_n 1), 1), (25, .inl (.iload 4), 2), (27, .inl (.ishr), 1), (28, .inl (.iconst 1), 1), (29, .inl (.iand), 1), (30, .inl (.ifCond .eq 13), 3)],
  [(33, .inl (.lload_n 2), 1), (34, .inl (.aload_n 0), 1), (35, .inr (0, 7, 0), 3), (38, .inl (.iload 4), 2), (40, .inl (.laload), 1), (41, .inl (.lor), 1), (42, .inl (.lstore_n 2), 1), (43, .inl (.iinc 4 1), 3), (46, .inl (.goto (-41)), 3)],
  [(49, .inl (.lload_n 2), 1), (50, .inl (.lreturn), 1)]]
-- MovingNames$Letters.bitOf(JI)I
set_option maxRecDepth 100000 in
noncomputable def ab_c185 : List (List (Nat × ab_I × Nat)) := [[(0, .inl (.lload_n 0), 1), (1, .inl (.lstore_n 3), 1), (2, .inl (.iconst 1), 1), (3, .inl (.istore 5), 2), (5, .inl (.iload 5), 2), (7, .inl (.iload_n 2), 1), (8, .inl (.if_icmp .ge 15), 3), (11, .inl (.lload_n 3), 1), (12, .inl (.lload_n 3), 1), (13, .inl (.lconst 1), 1), (14, .inl (.lsub), 1), (15, .inl (.land), 1)],
  [(16, .inl (.lstore_n 3), 1), (17, .inl (.iinc 5 1), 3), (20, .inl (.goto (-15)), 3), (23, .inl (.lload_n 3), 1), (24, .inl (.lconst 0), 1), (25, .inl (.lcmp), 1), (26, .inl (.ifCond .ne 7), 3), (29, .inl (.iconst (-1)), 1), (30, .inl (.goto 12), 3)],
  [(33, .inl (.lload_n 3), 1), (34, .inl (.lload_n 3), 1), (35, .inl (.lneg), 1), (36, .inl (.land), 1), (37, .inl (.lconst 1), 1), (38, .inl (.lsub), 1), (39, .inr (2, 186, 1), 3), (42, .inl (.ireturn), 1)]]
-- java/lang/Long.bitCount(J)I
set_option maxRecDepth 100000 in
noncomputable def ab_c186 : List (List (Nat × ab_I × Nat)) := [[(0, .inl (.lload_n 0), 1), (1, .inl (.lload_n 0), 1), (2, .inl (.iconst 1), 1), (3, .inl (.lushr), 1), (4, .inr (9, 0, 6148914691236517205), 3), (7, .inl (.land), 1), (8, .inl (.lsub), 1), (9, .inl (.lstore_n 0), 1), (10, .inl (.lload_n 0), 1), (11, .inr (9, 0, 3689348814741910323), 3), (14, .inl (.land), 1), (15, .inl (.lload_n 0), 1)],
  [(16, .inl (.iconst 2), 1), (17, .inl (.lushr), 1), (18, .inr (9, 0, 3689348814741910323), 3), (21, .inl (.land), 1), (22, .inl (.ladd), 1), (23, .inl (.lstore_n 0), 1), (24, .inl (.lload_n 0), 1), (25, .inl (.lload_n 0), 1), (26, .inl (.iconst 4), 1), (27, .inl (.lushr), 1), (28, .inl (.ladd), 1), (29, .inr (9, 0, 1085102592571150095), 3)],
  [(32, .inl (.land), 1), (33, .inl (.lstore_n 0), 1), (34, .inl (.lload_n 0), 1), (35, .inl (.lload_n 0), 1), (36, .inl (.bipush 8), 2), (38, .inl (.lushr), 1), (39, .inl (.ladd), 1), (40, .inl (.lstore_n 0), 1), (41, .inl (.lload_n 0), 1), (42, .inl (.lload_n 0), 1), (43, .inl (.bipush 16), 2), (45, .inl (.lushr), 1), (46, .inl (.ladd), 1), (47, .inl (.lstore_n 0), 1)],
  [(48, .inl (.lload_n 0), 1), (49, .inl (.lload_n 0), 1), (50, .inl (.bipush 32), 2), (52, .inl (.lushr), 1), (53, .inl (.ladd), 1), (54, .inl (.lstore_n 0), 1), (55, .inl (.lload_n 0), 1), (56, .inl (.l2i), 1), (57, .inl (.bipush 127), 2), (59, .inl (.iand), 1), (60, .inl (.ireturn), 1)]]
-- MovingNames$Letters.keep(IJ)V
set_option maxRecDepth 100000 in
noncomputable def ab_c187 : List (List (Nat × ab_I × Nat)) := [[(0, .inl (.iload_n 1), 1), (1, .inl (.ifCond .lt 22), 3), (4, .inl (.iload_n 1), 1), (5, .inl (.aload_n 0), 1), (6, .inr (0, 7, 0), 3), (9, .inl (.arraylength), 1), (10, .inl (.if_icmp .ge 13), 3), (13, .inl (.aload_n 0), 1), (14, .inr (0, 7, 0), 3)],
  [(17, .inl (.iload_n 1), 1), (18, .inl (.dup2), 1), (19, .inl (.laload), 1), (20, .inl (.lload_n 2), 1), (21, .inl (.land), 1), (22, .inl (.lastore), 1), (23, .inl (.return_), 1)]]
-- MovingNames$Letters.bring(I)V
set_option maxRecDepth 100000 in
noncomputable def ab_c188 : List (List (Nat × ab_I × Nat)) := [[(0, .inl (.lconst 0), 1), (1, .inl (.lstore_n 2), 1), (2, .inl (.iconst 1), 1), (3, .inl (.istore 4), 2), (5, .inl (.iload 4), 2), (7, .inl (.iconst 1), 1), (8, .inl (.aload_n 0), 1), (9, .inr (0, 7, 2), 3), (12, .inl (.iload_n 1), 1), (13, .inl (.isub), 1), (14, .inl (.iconst 1), 1), (15, .inl (.isub), 1)],
  [(16, .inl (.ishl), 1), (17, .inl (.if_icmp .ge 39), 3), (20, .inl (.aload_n 0), 1), (21, .inl (.iload 4), 2), (23, .inl (.iload_n 1), 1), (24, .inl (.iconst 1), 1), (25, .inl (.iadd), 1), (26, .inl (.ishl), 1), (27, .inr (2, 184, 2), 3), (30, .inl (.lstore 5), 2)],
  [(32, .inl (.lload 5), 2), (34, .inr (2, 186, 1), 3), (37, .inl (.iload 4), 2), (39, .inr (2, 37, 1), 3), (42, .inl (.if_icmp .ne 8), 3), (45, .inl (.lload_n 2), 1), (46, .inl (.lload 5), 2)],
  [(48, .inl (.lor), 1), (49, .inl (.lstore_n 2), 1), (50, .inl (.iinc 4 1), 3), (53, .inl (.goto (-48)), 3), (56, .inl (.iload_n 1), 1), (57, .inl (.ifCond .lt 27), 3), (60, .inl (.iload_n 1), 1), (61, .inl (.aload_n 0), 1), (62, .inr (0, 7, 0), 3)],
  [(65, .inl (.arraylength), 1), (66, .inl (.if_icmp .ge 18), 3), (69, .inl (.aload_n 0), 1), (70, .inr (0, 7, 0), 3), (73, .inl (.iload_n 1), 1), (74, .inl (.laload), 1), (75, .inl (.lload_n 2), 1), (76, .inr (9, 0, (-1)), 3), (79, .inl (.lxor), 1)],
  [(80, .inl (.land), 1), (81, .inl (.goto 4), 3), (84, .inl (.lconst 0), 1), (85, .inl (.lstore 4), 2), (87, .inl (.aload_n 0), 1), (88, .inr (0, 7, 1), 3), (91, .inl (.iload_n 1), 1), (92, .inl (.lload 4), 2), (94, .inl (.iconst 1), 1), (95, .inr (2, 185, 2), 3)],
  [(98, .inr (2, 3, 3), 3), (101, .inl (.iload_n 1), 1), (102, .inl (.iconst 1), 1), (103, .inl (.iadd), 1), (104, .inl (.istore 6), 2), (106, .inl (.iload 6), 2), (108, .inl (.aload_n 0), 1), (109, .inr (0, 7, 2), 3)],
  [(112, .inl (.if_icmp .ge 25), 3), (115, .inl (.aload_n 0), 1), (116, .inl (.iload 6), 2), (118, .inl (.lload 4), 2), (120, .inl (.lload 4), 2), (122, .inl (.lneg), 1), (123, .inl (.land), 1), (124, .inr (9, 0, (-1)), 3), (127, .inl (.lxor), 1)],
  [(128, .inr (2, 187, 3), 3), (131, .inl (.iinc 6 1), 3), (134, .inl (.goto (-28)), 3), (137, .inl (.return_), 1)]]
-- MovingNames$Letters.nightOf(I)I
set_option maxRecDepth 100000 in
noncomputable def ab_c189 : List (List (Nat × ab_I × Nat)) := [[(0, .inl (.aload_n 0), 1), (1, .inr (0, 7, 1), 3), (4, .inl (.iload_n 1), 1), (5, .inr (2, 9, 2), 3), (8, .inl (.ireturn), 1)]]
-- MovingNamesLaw.written(LMovingNames;III[J)I
set_option maxRecDepth 100000 in
noncomputable def ab_c190 : List (List (Nat × ab_I × Nat)) := [[(0, .inl (.aload 4), 2), (2, .inl (.iconst 0), 1), (3, .inl (.aload_n 0), 1), (4, .inl (.iload_n 1), 1), (5, .inl (.iload_n 2), 1), (6, .inl (.iload_n 3), 1), (7, .inr (2, 191, 4), 3), (10, .inl (.i2l), 1), (11, .inl (.lastore), 1), (12, .inl (.goto 11), 3), (15, .inl (.astore 5), 2)],
  [(17, .inl (.iconst 1), 1), (18, .inl (.ireturn), 1), (19, .inl (.astore 5), 2), (21, .inl (.iconst 2), 1), (22, .inl (.ireturn), 1), (23, .inl (.iconst 0), 1), (24, .inl (.ireturn), 1)]]
-- MovingNames.written(III)I
set_option maxRecDepth 100000 in
noncomputable def ab_c191 : List (List (Nat × ab_I × Nat)) := [[(0, .inl (.aload_n 0), 1), (1, .inl (.iload_n 1), 1), (2, .inr (2, 98, 2), 3), (5, .inl (.aload_n 0), 1), (6, .inl (.iload_n 2), 1), (7, .inr (2, 86, 2), 3), (10, .inl (.aload_n 0), 1), (11, .inl (.iload_n 3), 1), (12, .inl (.iconst 0), 1), (13, .inl (.bipush 99), 2), (15, .inr (2, 103, 4), 3)],
  [(18, .inl (.aload_n 0), 1), (19, .inr (0, 0, 3), 3), (22, .inl (.aload_n 0), 1), (23, .inr (0, 0, 1), 3), (26, .inr (2, 17, 2), 3), (29, .inl (.iload_n 2), 1), (30, .inl (.istore 4), 2)],
  [(32, .inl (.iconst 0), 1), (33, .inl (.istore 5), 2), (35, .inl (.iconst 0), 1), (36, .inl (.istore 6), 2), (38, .inl (.iload 6), 2), (40, .inl (.bipush 99), 2), (42, .inl (.if_icmp .gt 48), 3), (45, .inl (.iload 6), 2), (47, .inl (.iload_n 3), 1)],
  [(48, .inl (.if_icmp .lt 22), 3), (51, .inl (.aload_n 0), 1), (52, .inr (0, 0, 3), 3), (55, .inr (0, 6, 2), 3), (58, .inl (.iload 4), 2), (60, .inr (2, 9, 2), 3), (63, .inl (.iload_n 1), 1)],
  [(64, .inl (.if_icmp .ne 6), 3), (67, .inl (.iinc 5 1), 3), (70, .inl (.aload_n 0), 1), (71, .inr (0, 0, 3), 3), (74, .inr (0, 6, 3), 3), (77, .inl (.iload 4), 2), (79, .inr (2, 9, 2), 3)],
  [(82, .inl (.istore 4), 2), (84, .inl (.iinc 6 1), 3), (87, .inl (.goto (-49)), 3), (90, .inl (.iload 5), 2), (92, .inl (.ireturn), 1)]]
-- MovingNamesLaw.served(LMovingNames;III[J)I
set_option maxRecDepth 100000 in
noncomputable def ab_c192 : List (List (Nat × ab_I × Nat)) := [[(0, .inl (.aload 4), 2), (2, .inl (.iconst 0), 1), (3, .inl (.aload_n 0), 1), (4, .inl (.iload_n 1), 1), (5, .inl (.iload_n 2), 1), (6, .inl (.iload_n 3), 1), (7, .inr (2, 193, 4), 3), (10, .inl (.i2l), 1), (11, .inl (.lastore), 1), (12, .inl (.goto 11), 3), (15, .inl (.astore 5), 2)],
  [(17, .inl (.iconst 1), 1), (18, .inl (.ireturn), 1), (19, .inl (.astore 5), 2), (21, .inl (.iconst 2), 1), (22, .inl (.ireturn), 1), (23, .inl (.iconst 0), 1), (24, .inl (.ireturn), 1)]]
-- MovingNames.served(III)I
set_option maxRecDepth 100000 in
noncomputable def ab_c193 : List (List (Nat × ab_I × Nat)) := [[(0, .inl (.aload_n 0), 1), (1, .inl (.iload_n 1), 1), (2, .inr (2, 95, 2), 3), (5, .inl (.aload_n 0), 1), (6, .inl (.iload_n 2), 1), (7, .inr (2, 98, 2), 3), (10, .inl (.aload_n 0), 1), (11, .inl (.iload_n 3), 1), (12, .inl (.iconst 0), 1), (13, .inl (.iconst 1), 1), (14, .inr (2, 103, 4), 3)],
  [(17, .inl (.aload_n 0), 1), (18, .inr (0, 0, 3), 3), (21, .inl (.aload_n 0), 1), (22, .inr (0, 0, 1), 3), (25, .inr (2, 17, 2), 3), (28, .inl (.aload_n 0), 1), (29, .inr (0, 0, 1), 3)],
  [(32, .inr (0, 2, 8), 3), (35, .inl (.iload_n 1), 1), (36, .inr (2, 9, 2), 3), (39, .inl (.istore 4), 2), (41, .inl (.iconst 0), 1), (42, .inl (.istore 5), 2), (44, .inl (.iconst (-1)), 1), (45, .inl (.istore 6), 2), (47, .inl (.iconst 0), 1)],
  [(48, .inl (.istore 7), 2), (50, .inl (.iload 7), 2), (52, .inl (.bipush 100), 2), (54, .inl (.if_icmp .ge 56), 3), (57, .inl (.aload_n 0), 1), (58, .inr (0, 0, 3), 3), (61, .inr (0, 6, 2), 3)],
  [(64, .inl (.iload 4), 2), (66, .inr (2, 9, 2), 3), (69, .inl (.iload_n 2), 1), (70, .inl (.if_icmp .ne 20), 3), (73, .inl (.iload 5), 2), (75, .inl (.ifCond .ne 8), 3), (78, .inl (.iload 7), 2)],
  [(80, .inl (.goto 5), 3), (83, .inl (.iload 6), 2), (85, .inl (.istore 6), 2), (87, .inl (.iinc 5 1), 3), (90, .inl (.aload_n 0), 1), (91, .inr (0, 0, 3), 3), (94, .inr (0, 6, 4), 3)],
  [(97, .inl (.iload 4), 2), (99, .inr (2, 9, 2), 3), (102, .inl (.istore 4), 2), (104, .inl (.iinc 7 1), 3), (107, .inl (.goto (-57)), 3), (110, .inl (.iload_n 3), 1), (111, .inl (.ifCond .ne 8), 3)],
  [(114, .inl (.iload 5), 2), (116, .inl (.goto 5), 3), (119, .inl (.iload 6), 2), (121, .inl (.ireturn), 1)]]
-- MovingNamesLaw.findsIn(LMovingNames;III[J)I
set_option maxRecDepth 100000 in
noncomputable def ab_c194 : List (List (Nat × ab_I × Nat)) := [[(0, .inl (.aload 4), 2), (2, .inl (.iconst 0), 1), (3, .inl (.aload_n 0), 1), (4, .inl (.iload_n 1), 1), (5, .inl (.iload_n 2), 1), (6, .inl (.iload_n 3), 1), (7, .inr (2, 195, 4), 3), (10, .inl (.i2l), 1), (11, .inl (.lastore), 1), (12, .inl (.goto 11), 3), (15, .inl (.astore 5), 2)],
  [(17, .inl (.iconst 1), 1), (18, .inl (.ireturn), 1), (19, .inl (.astore 5), 2), (21, .inl (.iconst 2), 1), (22, .inl (.ireturn), 1), (23, .inl (.iconst 0), 1), (24, .inl (.ireturn), 1)]]
-- MovingNames.findsIn(III)I
set_option maxRecDepth 100000 in
noncomputable def ab_c195 : List (List (Nat × ab_I × Nat)) := [[(0, .inl (.aload_n 0), 1), (1, .inl (.iload_n 1), 1), (2, .inr (2, 98, 2), 3), (5, .inl (.aload_n 0), 1), (6, .inl (.iload_n 2), 1), (7, .inr (2, 102, 2), 3), (10, .inl (.aload_n 0), 1), (11, .inl (.iload_n 3), 1), (12, .inr (2, 107, 2), 3), (15, .inl (.aload_n 0), 1)],
  [(16, .inr (0, 0, 3), 3), (19, .inl (.aload_n 0), 1), (20, .inr (0, 0, 1), 3), (23, .inr (2, 17, 2), 3), (26, .inl (.aload_n 0), 1), (27, .inr (0, 0, 3), 3), (30, .inl (.iload_n 3), 1), (31, .inr (2, 115, 2), 3)],
  [(34, .inl (.aload_n 0), 1), (35, .inr (0, 0, 1), 3), (38, .inl (.iload_n 2), 1), (39, .inl (.aload_n 0), 1), (40, .inr (0, 0, 3), 3), (43, .inl (.iload_n 1), 1), (44, .inr (2, 196, 2), 3), (47, .inr (2, 104, 3), 3)],
  [(50, .inl (.ireturn), 1)]]
-- MovingNames$Outlook.streetsThen(I)I
set_option maxRecDepth 100000 in
noncomputable def ab_c196 : List (List (Nat × ab_I × Nat)) := [[(0, .inl (.iconst 0), 1), (1, .inl (.istore_n 2), 1), (2, .inl (.iconst 0), 1), (3, .inl (.istore_n 3), 1), (4, .inl (.iload_n 3), 1), (5, .inl (.aload_n 0), 1), (6, .inr (0, 6, 0), 3), (9, .inl (.if_icmp .ge 24), 3), (12, .inl (.aload_n 0), 1), (13, .inl (.iload_n 3), 1), (14, .inr (2, 32, 2), 3)],
  [(17, .inl (.iload_n 1), 1), (18, .inl (.if_icmp .ne 9), 3), (21, .inl (.iload_n 2), 1), (22, .inl (.iconst 1), 1), (23, .inl (.iload_n 3), 1), (24, .inl (.ishl), 1), (25, .inl (.ior), 1), (26, .inl (.istore_n 2), 1), (27, .inl (.iinc 3 1), 3), (30, .inl (.goto (-26)), 3)],
  [(33, .inl (.iload_n 2), 1), (34, .inl (.ireturn), 1)]]
-- MovingNamesLaw.right(LMovingNames;I[J)I
set_option maxRecDepth 100000 in
noncomputable def ab_c197 : List (List (Nat × ab_I × Nat)) := [[(0, .inl (.aload_n 2), 1), (1, .inl (.iconst 0), 1), (2, .inl (.aload_n 0), 1), (3, .inl (.iload_n 1), 1), (4, .inr (2, 198, 2), 3), (7, .inl (.i2l), 1), (8, .inl (.lastore), 1), (9, .inl (.goto 6), 3), (12, .inl (.astore_n 3), 1), (13, .inl (.iconst 1), 1), (14, .inl (.ireturn), 1), (15, .inl (.iconst 0), 1)],
  [(16, .inl (.ireturn), 1)]]
-- MovingNames.right(I)I
set_option maxRecDepth 100000 in
noncomputable def ab_c198 : List (List (Nat × ab_I × Nat)) := [[(0, .inl (.aload_n 0), 1), (1, .inl (.iload_n 1), 1), (2, .inr (2, 107, 2), 3), (5, .inl (.aload_n 0), 1), (6, .inr (0, 0, 3), 3), (9, .inl (.aload_n 0), 1), (10, .inr (0, 0, 1), 3), (13, .inr (2, 17, 2), 3)],
  [(16, .inl (.aload_n 0), 1), (17, .inr (0, 0, 3), 3), (20, .inl (.iload_n 1), 1), (21, .inr (2, 115, 2), 3), (24, .inl (.aload_n 0), 1), (25, .inr (0, 0, 3), 3), (28, .inr (2, 31, 1), 3), (31, .inl (.ireturn), 1)]]
-- MovingNamesLaw.rightDays(LMovingNames;II[J)I
set_option maxRecDepth 100000 in
noncomputable def ab_c199 : List (List (Nat × ab_I × Nat)) := [[(0, .inl (.aload_n 3), 1), (1, .inl (.iconst 0), 1), (2, .inl (.aload_n 0), 1), (3, .inl (.iload_n 1), 1), (4, .inl (.iload_n 2), 1), (5, .inr (2, 200, 3), 3), (8, .inl (.i2l), 1), (9, .inl (.lastore), 1), (10, .inl (.goto 7), 3), (13, .inl (.astore 4), 2), (15, .inl (.iconst 1), 1)],
  [(16, .inl (.ireturn), 1), (17, .inl (.iconst 0), 1), (18, .inl (.ireturn), 1)]]
-- MovingNames.rightDays(II)I
set_option maxRecDepth 100000 in
noncomputable def ab_c200 : List (List (Nat × ab_I × Nat)) := [[(0, .inl (.aload_n 0), 1), (1, .inl (.iload_n 2), 1), (2, .inl (.iconst 0), 1), (3, .inl (.sipush 999), 3), (6, .inr (2, 103, 4), 3), (9, .inl (.iload_n 1), 1), (10, .inl (.ifCond .ge 14), 3), (13, .inr (10, 0, 0), 11)],
  [(24, .inl (.aload_n 0), 1), (25, .inr (0, 0, 3), 3), (28, .inl (.aload_n 0), 1), (29, .inr (0, 0, 1), 3)],
  [(32, .inr (2, 17, 2), 3), (35, .inl (.iconst 0), 1), (36, .inl (.istore_n 3), 1), (37, .inl (.iconst 0), 1), (38, .inl (.istore 4), 2), (40, .inl (.iload 4), 2), (42, .inl (.iload_n 2), 1), (43, .inl (.if_icmp .ge 30), 3), (46, .inl (.aload_n 0), 1), (47, .inr (0, 0, 3), 3)],
  [(50, .inr (2, 30, 1), 3), (53, .inl (.aload_n 0), 1), (54, .inr (0, 0, 3), 3), (57, .inr (2, 31, 1), 3), (60, .inl (.iload_n 1), 1), (61, .inl (.if_icmp .lt 6), 3)],
  [(64, .inl (.iinc 3 1), 3), (67, .inl (.iinc 4 1), 3), (70, .inl (.goto (-30)), 3), (73, .inl (.iload_n 3), 1), (74, .inl (.ireturn), 1)]]
-- MovingNamesLaw.harm(LMovingNames;I[J)I
set_option maxRecDepth 100000 in
noncomputable def ab_c201 : List (List (Nat × ab_I × Nat)) := [[(0, .inl (.aload_n 2), 1), (1, .inl (.iconst 0), 1), (2, .inl (.aload_n 0), 1), (3, .inl (.iload_n 1), 1), (4, .inr (2, 202, 2), 3), (7, .inl (.i2l), 1), (8, .inl (.lastore), 1), (9, .inl (.goto 6), 3), (12, .inl (.astore_n 3), 1), (13, .inl (.iconst 1), 1), (14, .inl (.ireturn), 1), (15, .inl (.iconst 0), 1)],
  [(16, .inl (.ireturn), 1)]]
-- MovingNames.harm(I)I
set_option maxRecDepth 100000 in
noncomputable def ab_c202 : List (List (Nat × ab_I × Nat)) := [[(0, .inl (.aload_n 0), 1), (1, .inl (.iload_n 1), 1), (2, .inr (2, 107, 2), 3), (5, .inl (.aload_n 0), 1), (6, .inr (0, 0, 3), 3), (9, .inl (.aload_n 0), 1), (10, .inr (0, 0, 1), 3), (13, .inr (2, 17, 2), 3)],
  [(16, .inl (.aload_n 0), 1), (17, .inr (0, 0, 3), 3), (20, .inl (.iload_n 1), 1), (21, .inr (2, 115, 2), 3), (24, .inl (.aload_n 0), 1), (25, .inr (0, 0, 3), 3), (28, .inr (2, 203, 1), 3), (31, .inl (.ireturn), 1)]]
-- MovingNames$Outlook.harmThen()I
set_option maxRecDepth 100000 in
noncomputable def ab_c203 : List (List (Nat × ab_I × Nat)) := [[(0, .inl (.iconst 0), 1), (1, .inl (.istore_n 1), 1), (2, .inl (.iconst 0), 1), (3, .inl (.istore_n 2), 1), (4, .inl (.iload_n 2), 1), (5, .inl (.aload_n 0), 1), (6, .inr (0, 6, 0), 3), (9, .inl (.if_icmp .ge 40), 3), (12, .inl (.aload_n 0), 1), (13, .inr (0, 6, 1), 3)],
  [(16, .inl (.aload_n 0), 1), (17, .inl (.iload_n 2), 1), (18, .inr (2, 32, 2), 3), (21, .inl (.ishr), 1), (22, .inl (.iconst 1), 1), (23, .inl (.iand), 1), (24, .inl (.ifCond .ne 19), 3), (27, .inl (.iload_n 1), 1), (28, .inl (.iload_n 2), 1), (29, .inl (.aload_n 0), 1), (30, .inr (0, 6, 5), 3)],
  [(33, .inl (.iload_n 2), 1), (34, .inr (2, 9, 2), 3), (37, .inl (.isub), 1), (38, .inr (2, 92, 1), 3), (41, .inl (.iadd), 1), (42, .inl (.istore_n 1), 1), (43, .inl (.iinc 2 1), 3), (46, .inl (.goto (-42)), 3)],
  [(49, .inl (.iload_n 1), 1), (50, .inl (.ireturn), 1)]]
-- MovingNamesLaw.leastHarm(LMovingNames;I[J)I
set_option maxRecDepth 100000 in
noncomputable def ab_c204 : List (List (Nat × ab_I × Nat)) := [[(0, .inl (.aload_n 2), 1), (1, .inl (.iconst 0), 1), (2, .inl (.aload_n 0), 1), (3, .inl (.iload_n 1), 1), (4, .inr (2, 205, 2), 3), (7, .inl (.i2l), 1), (8, .inl (.lastore), 1), (9, .inl (.goto 6), 3), (12, .inl (.astore_n 3), 1), (13, .inl (.iconst 1), 1), (14, .inl (.ireturn), 1), (15, .inl (.iconst 0), 1)],
  [(16, .inl (.ireturn), 1)]]
-- MovingNames.leastHarm(I)I
set_option maxRecDepth 100000 in
noncomputable def ab_c205 : List (List (Nat × ab_I × Nat)) := [[(0, .inl (.aload_n 0), 1), (1, .inl (.iload_n 1), 1), (2, .inl (.iconst 1), 1), (3, .inl (.sipush 999), 3), (6, .inr (2, 103, 4), 3), (9, .inl (.aload_n 0), 1), (10, .inr (0, 0, 3), 3), (13, .inl (.aload_n 0), 1), (14, .inr (0, 0, 1), 3)],
  [(17, .inr (2, 17, 2), 3), (20, .inl (.aload_n 0), 1), (21, .inr (0, 0, 3), 3), (24, .inr (2, 30, 1), 3), (27, .inl (.iconst 1), 1), (28, .inl (.istore_n 2), 1), (29, .inl (.aload_n 0), 1), (30, .inr (0, 0, 3), 3)],
  [(33, .inr (2, 203, 1), 3), (36, .inl (.istore_n 3), 1), (37, .inl (.iconst 2), 1), (38, .inl (.istore 4), 2), (40, .inl (.iload 4), 2), (42, .inl (.iload_n 1), 1), (43, .inl (.if_icmp .gt 41), 3), (46, .inl (.iload_n 3), 1), (47, .inl (.ifCond .le 37), 3)],
  [(50, .inl (.aload_n 0), 1), (51, .inr (0, 0, 3), 3), (54, .inr (2, 30, 1), 3), (57, .inl (.aload_n 0), 1), (58, .inr (0, 0, 3), 3), (61, .inr (2, 203, 1), 3)],
  [(64, .inl (.istore 5), 2), (66, .inl (.iload 5), 2), (68, .inl (.iload_n 3), 1), (69, .inl (.if_icmp .ge 9), 3), (72, .inl (.iload 5), 2), (74, .inl (.istore_n 3), 1), (75, .inl (.iload 4), 2), (77, .inl (.istore_n 2), 1), (78, .inl (.iinc 4 1), 3)],
  [(81, .inl (.goto (-41)), 3), (84, .inl (.iload_n 2), 1), (85, .inl (.ireturn), 1)]]
-- MovingNamesLaw.errors(LMovingNames;II[J)I
set_option maxRecDepth 100000 in
noncomputable def ab_c206 : List (List (Nat × ab_I × Nat)) := [[(0, .inl (.aload_n 3), 1), (1, .inl (.iconst 0), 1), (2, .inl (.aload_n 0), 1), (3, .inl (.iload_n 1), 1), (4, .inl (.iload_n 2), 1), (5, .inr (2, 207, 3), 3), (8, .inl (.i2l), 1), (9, .inl (.lastore), 1), (10, .inl (.goto 15), 3), (13, .inl (.astore 4), 2), (15, .inl (.iconst 1), 1)],
  [(16, .inl (.ireturn), 1), (17, .inl (.astore 4), 2), (19, .inl (.iconst 2), 1), (20, .inl (.ireturn), 1), (21, .inl (.astore 4), 2), (23, .inl (.iconst 3), 1), (24, .inl (.ireturn), 1), (25, .inl (.iconst 0), 1), (26, .inl (.ireturn), 1)]]
-- MovingNames.errors(II)I
set_option maxRecDepth 100000 in
noncomputable def ab_c207 : List (List (Nat × ab_I × Nat)) := [[(0, .inl (.aload_n 0), 1), (1, .inl (.iload_n 1), 1), (2, .inr (2, 150, 2), 3), (5, .inl (.astore_n 3), 1), (6, .inl (.aload_n 0), 1), (7, .inl (.aload_n 3), 1), (8, .inl (.iconst (-1)), 1), (9, .inr (2, 208, 3), 3), (12, .inl (.aload_n 0), 1), (13, .inl (.iload_n 2), 1), (14, .inl (.iconst 0), 1), (15, .inl (.iconst 2), 1)],
  [(16, .inr (2, 103, 4), 3), (19, .inl (.aload_n 0), 1), (20, .inr (0, 0, 3), 3), (23, .inl (.aload_n 0), 1), (24, .inr (0, 0, 1), 3), (27, .inr (2, 17, 2), 3), (30, .inl (.aload_n 0), 1), (31, .inr (0, 0, 3), 3)],
  [(34, .inr (2, 26, 1), 3), (37, .inl (.istore 4), 2), (39, .inl (.iconst 0), 1), (40, .inl (.istore 5), 2), (42, .inl (.aload_n 0), 1), (43, .inr (0, 0, 3), 3), (46, .inl (.aload_n 3), 1), (47, .inr (2, 209, 2), 3)],
  [(50, .inl (.istore 6), 2), (52, .inl (.iconst 1), 1), (53, .inl (.istore 7), 2), (55, .inl (.iload 7), 2), (57, .inl (.iload 4), 2), (59, .inl (.if_icmp .ge 47), 3), (62, .inl (.aload_n 0), 1), (63, .inr (0, 0, 3), 3)],
  [(66, .inr (2, 30, 1), 3), (69, .inl (.aload_n 0), 1), (70, .inr (0, 0, 3), 3), (73, .inl (.aload_n 3), 1), (74, .inr (2, 209, 2), 3), (77, .inl (.istore 8), 2), (79, .inl (.iload 8), 2)],
  [(81, .inr (2, 37, 1), 3), (84, .inl (.iload 6), 2), (86, .inr (2, 37, 1), 3), (89, .inl (.if_icmp .ge 11), 3), (92, .inl (.iload 8), 2), (94, .inl (.istore 6), 2)],
  [(96, .inl (.iload 7), 2), (98, .inl (.istore 5), 2), (100, .inl (.iinc 7 1), 3), (103, .inl (.goto (-48)), 3), (106, .inl (.iload_n 2), 1), (107, .inl (.lookupswitch 34 #[(0, 25), (1, 31)]), 25)],
  [],
  [(132, .inl (.iload 6), 2), (134, .inr (2, 37, 1), 3), (137, .inl (.ireturn), 1), (138, .inl (.iload 5), 2), (140, .inl (.ireturn), 1), (141, .inl (.iload 6), 2), (143, .inl (.ireturn), 1)]]
-- MovingNames.needNames(LMovingNames$Tray;I)V
set_option maxRecDepth 100000 in
noncomputable def ab_c208 : List (List (Nat × ab_I × Nat)) := [[(0, .inl (.aload_n 0), 1), (1, .inl (.aload_n 1), 1), (2, .inr (0, 8, 2), 3), (5, .inl (.aload_n 0), 1), (6, .inr (0, 0, 1), 3), (9, .inr (0, 2, 1), 3), (12, .inl (.aload_n 0), 1), (13, .inr (0, 0, 1), 3)],
  [(16, .inr (0, 2, 1), 3), (19, .inr (2, 103, 4), 3), (22, .inl (.iconst 0), 1), (23, .inl (.istore_n 3), 1), (24, .inl (.iload_n 3), 1), (25, .inl (.aload_n 1), 1), (26, .inr (0, 8, 2), 3), (29, .inl (.if_icmp .ge 49), 3)],
  [(32, .inl (.aload_n 1), 1), (33, .inl (.iload_n 3), 1), (34, .inr (2, 152, 2), 3), (37, .inl (.lstore 4), 2), (39, .inl (.lload 4), 2), (41, .inl (.iload_n 2), 1), (42, .inl (.i2l), 1), (43, .inl (.lcmp), 1), (44, .inl (.ifCond .lt 17), 3), (47, .inl (.lload 4), 2)],
  [(49, .inl (.aload_n 0), 1), (50, .inr (0, 0, 1), 3), (53, .inr (0, 2, 1), 3), (56, .inl (.i2l), 1), (57, .inl (.lcmp), 1), (58, .inl (.ifCond .lt 14), 3), (61, .inr (10, 0, 0), 11)],
  [(72, .inl (.iinc 3 1), 3), (75, .inl (.goto (-51)), 3), (78, .inl (.return_), 1)]]
-- MovingNames$Outlook.streetsUnlike(LMovingNames$Tray;)I
set_option maxRecDepth 100000 in
noncomputable def ab_c209 : List (List (Nat × ab_I × Nat)) := [[(0, .inl (.iconst 0), 1), (1, .inl (.istore_n 2), 1), (2, .inl (.iconst 0), 1), (3, .inl (.istore_n 3), 1), (4, .inl (.iload_n 3), 1), (5, .inl (.aload_n 0), 1), (6, .inr (0, 6, 0), 3), (9, .inl (.if_icmp .ge 43), 3), (12, .inl (.aload_n 1), 1), (13, .inl (.iload_n 3), 1), (14, .inr (2, 152, 2), 3)],
  [(17, .inl (.lstore 4), 2), (19, .inl (.lload 4), 2), (21, .inr (9, 0, (-1)), 3), (24, .inl (.lcmp), 1), (25, .inl (.ifCond .eq 21), 3), (28, .inl (.lload 4), 2), (30, .inl (.aload_n 0), 1), (31, .inl (.iload_n 3), 1)],
  [(32, .inr (2, 32, 2), 3), (35, .inl (.i2l), 1), (36, .inl (.lcmp), 1), (37, .inl (.ifCond .eq 9), 3), (40, .inl (.iload_n 2), 1), (41, .inl (.iconst 1), 1), (42, .inl (.iload_n 3), 1), (43, .inl (.ishl), 1), (44, .inl (.ior), 1), (45, .inl (.istore_n 2), 1), (46, .inl (.iinc 3 1), 3)],
  [(49, .inl (.goto (-45)), 3), (52, .inl (.iload_n 2), 1), (53, .inl (.ireturn), 1)]]
-- MovingNamesLaw.ink(LMovingNames;I[J)I
set_option maxRecDepth 100000 in
noncomputable def ab_c210 : List (List (Nat × ab_I × Nat)) := [[(0, .inl (.aload_n 2), 1), (1, .inl (.iconst 0), 1), (2, .inl (.aload_n 0), 1), (3, .inl (.iload_n 1), 1), (4, .inr (2, 211, 2), 3), (7, .inl (.i2l), 1), (8, .inl (.lastore), 1), (9, .inl (.goto 12), 3), (12, .inl (.astore_n 3), 1), (13, .inl (.iconst 1), 1), (14, .inl (.ireturn), 1), (15, .inl (.astore_n 3), 1)],
  [(16, .inl (.iconst 2), 1), (17, .inl (.ireturn), 1), (18, .inl (.astore_n 3), 1), (19, .inl (.iconst 3), 1), (20, .inl (.ireturn), 1), (21, .inl (.iconst 0), 1), (22, .inl (.ireturn), 1)]]
-- MovingNames.ink(I)I
set_option maxRecDepth 100000 in
noncomputable def ab_c211 : List (List (Nat × ab_I × Nat)) := [[(0, .inl (.aload_n 0), 1), (1, .inl (.iload_n 1), 1), (2, .inr (2, 150, 2), 3), (5, .inl (.astore_n 2), 1), (6, .inl (.aload_n 0), 1), (7, .inl (.aload_n 2), 1), (8, .inl (.iconst 0), 1), (9, .inr (2, 208, 3), 3), (12, .inl (.iconst 0), 1), (13, .inl (.istore_n 3), 1), (14, .inl (.iconst 0), 1), (15, .inl (.istore 4), 2)],
  [(17, .inl (.iload 4), 2), (19, .inl (.aload_n 0), 1), (20, .inr (0, 0, 1), 3), (23, .inr (0, 2, 1), 3), (26, .inl (.if_icmp .ge 35), 3), (29, .inl (.aload_n 2), 1), (30, .inl (.iload 4), 2)],
  [(32, .inr (2, 152, 2), 3), (35, .inl (.aload_n 0), 1), (36, .inr (0, 0, 1), 3), (39, .inr (0, 2, 7), 3), (42, .inl (.iload 4), 2), (44, .inr (2, 9, 2), 3), (47, .inl (.i2l), 1)],
  [(48, .inl (.lcmp), 1), (49, .inl (.ifCond .eq 6), 3), (52, .inl (.iinc 3 1), 3), (55, .inl (.iinc 4 1), 3), (58, .inl (.goto (-41)), 3), (61, .inl (.iload_n 3), 1), (62, .inl (.ireturn), 1)]]
-- MovingNamesLaw.changes(LMovingNames;I[J)I
set_option maxRecDepth 100000 in
noncomputable def ab_c212 : List (List (Nat × ab_I × Nat)) := [[(0, .inl (.aload_n 2), 1), (1, .inl (.iconst 0), 1), (2, .inl (.aload_n 0), 1), (3, .inl (.iload_n 1), 1), (4, .inr (2, 213, 2), 3), (7, .inl (.i2l), 1), (8, .inl (.lastore), 1), (9, .inl (.goto 12), 3), (12, .inl (.astore_n 3), 1), (13, .inl (.iconst 1), 1), (14, .inl (.ireturn), 1), (15, .inl (.astore_n 3), 1)],
  [(16, .inl (.iconst 2), 1), (17, .inl (.ireturn), 1), (18, .inl (.astore_n 3), 1), (19, .inl (.iconst 3), 1), (20, .inl (.ireturn), 1), (21, .inl (.iconst 0), 1), (22, .inl (.ireturn), 1)]]
-- MovingNames.changes(I)I
set_option maxRecDepth 100000 in
noncomputable def ab_c213 : List (List (Nat × ab_I × Nat)) := [[(0, .inl (.aload_n 0), 1), (1, .inl (.iload_n 1), 1), (2, .inr (2, 150, 2), 3), (5, .inl (.astore_n 2), 1), (6, .inl (.aload_n 0), 1), (7, .inl (.aload_n 2), 1), (8, .inl (.iconst 0), 1), (9, .inr (2, 208, 3), 3), (12, .inl (.aload_n 0), 1), (13, .inr (0, 0, 1), 3)],
  [(16, .inr (2, 8, 1), 3), (19, .inl (.ifCond .eq 6), 3), (22, .inl (.bipush (-2)), 2), (24, .inl (.ireturn), 1), (25, .inl (.aload_n 0), 1), (26, .inr (0, 0, 1), 3), (29, .inl (.aload_n 2), 1), (30, .inr (2, 214, 2), 3)],
  [(33, .inl (.ireturn), 1)]]
-- MovingNames$Town.fewestChanges(LMovingNames$Tray;)I
set_option maxRecDepth 100000 in
noncomputable def ab_c214 : List (List (Nat × ab_I × Nat)) := [[(0, .inl (.iconst 1), 1), (1, .inl (.aload_n 0), 1), (2, .inr (0, 2, 1), 3), (5, .inl (.ishl), 1), (6, .inl (.iconst 1), 1), (7, .inl (.isub), 1), (8, .inl (.istore_n 2), 1), (9, .inl (.iconst 0), 1), (10, .inl (.istore_n 3), 1), (11, .inl (.iload_n 3), 1), (12, .inl (.aload_n 0), 1), (13, .inr (0, 2, 1), 3)],
  [(16, .inl (.if_icmp .ge 22), 3), (19, .inl (.iload_n 2), 1), (20, .inl (.iconst 1), 1), (21, .inl (.aload_n 1), 1), (22, .inl (.iload_n 3), 1), (23, .inr (2, 152, 2), 3), (26, .inl (.l2i), 1), (27, .inl (.ishl), 1), (28, .inl (.iconst (-1)), 1), (29, .inl (.ixor), 1), (30, .inl (.iand), 1), (31, .inl (.istore_n 2), 1)],
  [(32, .inl (.iinc 3 1), 3), (35, .inl (.goto (-24)), 3), (38, .inl (.iload_n 2), 1), (39, .inl (.ifCond .eq 5), 3), (42, .inl (.iconst (-1)), 1), (43, .inl (.ireturn), 1), (44, .inl (.aload_n 0), 1), (45, .inr (0, 2, 1), 3)],
  [(48, .inl (.istore_n 3), 1), (49, .inl (.iconst 0), 1), (50, .inl (.istore 4), 2), (52, .inl (.iconst 0), 1), (53, .inl (.istore 5), 2), (55, .inl (.iload 5), 2), (57, .inl (.aload_n 0), 1), (58, .inr (0, 2, 1), 3), (61, .inl (.if_icmp .ge 75), 3)],
  [(64, .inl (.iload_n 3), 1), (65, .inl (.iconst 1), 1), (66, .inl (.iload 4), 2), (68, .inl (.iload 5), 2), (70, .inl (.ishr), 1), (71, .inl (.iconst 1), 1), (72, .inl (.iand), 1), (73, .inl (.isub), 1), (74, .inl (.isub), 1), (75, .inl (.istore_n 3), 1), (76, .inl (.iload 5), 2), (78, .inl (.istore 6), 2)],
  [(80, .inl (.iconst 0), 1), (81, .inl (.istore 7), 2), (83, .inl (.iload 7), 2), (85, .inl (.aload_n 0), 1), (86, .inr (0, 2, 1), 3), (89, .inl (.if_icmp .ge 41), 3), (92, .inl (.iload 4), 2), (94, .inl (.iload 6), 2)],
  [(96, .inl (.ishr), 1), (97, .inl (.iconst 1), 1), (98, .inl (.iand), 1), (99, .inl (.ifCond .ne 31), 3), (102, .inl (.iload 4), 2), (104, .inl (.iconst 1), 1), (105, .inl (.iload 6), 2), (107, .inl (.ishl), 1), (108, .inl (.ior), 1), (109, .inl (.istore 4), 2), (111, .inl (.aload_n 0), 1)],
  [(112, .inl (.aload_n 1), 1), (113, .inl (.iload 6), 2), (115, .inr (2, 152, 2), 3), (118, .inl (.l2i), 1), (119, .inr (2, 215, 2), 3), (122, .inl (.istore 6), 2), (124, .inl (.iinc 7 1), 3), (127, .inl (.goto (-44)), 3)],
  [(130, .inl (.iinc 5 1), 3), (133, .inl (.goto (-78)), 3), (136, .inl (.iload_n 3), 1), (137, .inl (.ireturn), 1)]]
-- MovingNames$Town.streetBearing(I)I
set_option maxRecDepth 100000 in
noncomputable def ab_c215 : List (List (Nat × ab_I × Nat)) := [[(0, .inl (.iconst 0), 1), (1, .inl (.istore_n 2), 1), (2, .inl (.iload_n 2), 1), (3, .inl (.aload_n 0), 1), (4, .inr (0, 2, 1), 3), (7, .inl (.if_icmp .ge 23), 3), (10, .inl (.aload_n 0), 1), (11, .inr (0, 2, 7), 3), (14, .inl (.iload_n 2), 1), (15, .inr (2, 9, 2), 3)],
  [(18, .inl (.iload_n 1), 1), (19, .inl (.if_icmp .ne 5), 3), (22, .inl (.iload_n 2), 1), (23, .inl (.ireturn), 1), (24, .inl (.iinc 2 1), 3), (27, .inl (.goto (-25)), 3), (30, .inl (.iconst 0), 1), (31, .inl (.ireturn), 1)]]
-- MovingNamesLaw.tray(LMovingNames;III)I
set_option maxRecDepth 100000 in
noncomputable def ab_c216 : List (List (Nat × ab_I × Nat)) := [[(0, .inl (.aload_n 0), 1), (1, .inl (.iload_n 1), 1), (2, .inl (.iload_n 2), 1), (3, .inl (.iload_n 3), 1), (4, .inr (2, 217, 4), 3), (7, .inl (.goto 11), 3), (10, .inl (.astore 4), 2), (12, .inl (.iconst 1), 1), (13, .inl (.ireturn), 1), (14, .inl (.astore 4), 2)],
  [(16, .inl (.iconst 2), 1), (17, .inl (.ireturn), 1), (18, .inl (.iconst 0), 1), (19, .inl (.ireturn), 1)]]
-- MovingNames.tray(III)V
set_option maxRecDepth 100000 in
noncomputable def ab_c217 : List (List (Nat × ab_I × Nat)) := [[(0, .inl (.iload_n 1), 1), (1, .inl (.ifCond .lt 12), 3), (4, .inl (.iload_n 1), 1), (5, .inl (.aload_n 0), 1), (6, .inr (0, 0, 5), 3), (9, .inl (.arraylength), 1), (10, .inl (.if_icmp .lt 14), 3), (13, .inr (10, 1, 0), 11)],
  [(24, .inl (.aload_n 0), 1), (25, .inl (.iload_n 2), 1), (26, .inl (.iconst 0), 1), (27, .inl (.iconst 3), 1), (28, .inr (2, 103, 4), 3), (31, .inl (.aload_n 0), 1)],
  [(32, .inl (.iload_n 3), 1), (33, .inl (.iconst 0), 1), (34, .inl (.bipush 30), 2), (36, .inr (2, 103, 4), 3), (39, .inl (.aload_n 0), 1), (40, .inr (0, 0, 5), 3), (43, .inl (.iload_n 1), 1), (44, .inl (.aaload), 1), (45, .inl (.astore 4), 2), (47, .inl (.aload 4), 2)],
  [(49, .inl (.ifnonnull 20), 3), (52, .inr (11, 8, 0), 7), (59, .inl (.astore 4), 2), (61, .inl (.aload_n 0), 1), (62, .inr (0, 0, 5), 3)],
  [(65, .inl (.iload_n 1), 1), (66, .inl (.aload 4), 2), (68, .inl (.aastore), 1), (69, .inl (.aload 4), 2), (71, .inl (.iload_n 2), 1), (72, .inl (.iload_n 3), 1), (73, .inr (2, 218, 3), 3), (76, .inl (.return_), 1)]]
-- MovingNames$Tray.empty(II)V
set_option maxRecDepth 100000 in
noncomputable def ab_c218 : List (List (Nat × ab_I × Nat)) := [[(0, .inl (.aload_n 0), 1), (1, .inl (.iload_n 1), 1), (2, .inr (1, 8, 1), 3), (5, .inl (.aload_n 0), 1), (6, .inl (.iload_n 2), 1), (7, .inl (.aload_n 0), 1), (8, .inr (0, 8, 0), 3), (11, .inl (.arraylength), 1), (12, .inr (2, 19, 2), 3), (15, .inr (1, 8, 2), 3)],
  [(18, .inl (.iconst 0), 1), (19, .inl (.istore_n 3), 1), (20, .inl (.iload_n 3), 1), (21, .inl (.aload_n 0), 1), (22, .inr (0, 8, 0), 3), (25, .inl (.arraylength), 1), (26, .inl (.if_icmp .ge 16), 3), (29, .inl (.aload_n 0), 1), (30, .inr (0, 8, 0), 3)],
  [(33, .inl (.iload_n 3), 1), (34, .inl (.lconst 0), 1), (35, .inl (.lastore), 1), (36, .inl (.iinc 3 1), 3), (39, .inl (.goto (-19)), 3), (42, .inl (.return_), 1)]]
-- MovingNamesLaw.write(LMovingNames;IIJ[J)I
set_option maxRecDepth 100000 in
noncomputable def ab_c219 : List (List (Nat × ab_I × Nat)) := [[(0, .inl (.aload 5), 2), (2, .inl (.iconst 0), 1), (3, .inl (.aload_n 0), 1), (4, .inl (.iload_n 1), 1), (5, .inl (.iload_n 2), 1), (6, .inl (.lload_n 3), 1), (7, .inr (2, 220, 4), 3), (10, .inl (.lastore), 1), (11, .inl (.goto 15), 3), (14, .inl (.astore 6), 2)],
  [(16, .inl (.iconst 1), 1), (17, .inl (.ireturn), 1), (18, .inl (.astore 6), 2), (20, .inl (.iconst 2), 1), (21, .inl (.ireturn), 1), (22, .inl (.astore 6), 2), (24, .inl (.iconst 3), 1), (25, .inl (.ireturn), 1), (26, .inl (.iconst 0), 1), (27, .inl (.ireturn), 1)]]
-- MovingNames.write(IIJ)J
set_option maxRecDepth 100000 in
noncomputable def ab_c220 : List (List (Nat × ab_I × Nat)) := [[(0, .inl (.aload_n 0), 1), (1, .inl (.iload_n 1), 1), (2, .inr (2, 150, 2), 3), (5, .inl (.astore 5), 2), (7, .inl (.iload_n 2), 1), (8, .inl (.ifCond .lt 12), 3), (11, .inl (.iload_n 2), 1), (12, .inl (.aload 5), 2), (14, .inr (0, 8, 2), 3)],
  [(17, .inl (.if_icmp .lt 14), 3), (20, .inr (10, 3, 0), 11), (31, .inl (.aload 5), 2)],
  [(33, .inl (.iload_n 2), 1), (34, .inl (.lload_n 3), 1), (35, .inr (2, 221, 3), 3), (38, .inl (.aload 5), 2), (40, .inl (.iload_n 2), 1), (41, .inr (2, 152, 2), 3), (44, .inl (.lreturn), 1)]]
-- MovingNames$Tray.set(IJ)V
set_option maxRecDepth 100000 in
noncomputable def ab_c221 : List (List (Nat × ab_I × Nat)) := [[(0, .inl (.iload_n 1), 1), (1, .inl (.ifCond .lt 31), 3), (4, .inl (.iload_n 1), 1), (5, .inl (.aload_n 0), 1), (6, .inr (0, 8, 2), 3), (9, .inl (.if_icmp .ge 23), 3), (12, .inl (.iload_n 1), 1), (13, .inl (.aload_n 0), 1), (14, .inr (0, 8, 0), 3)],
  [(17, .inl (.arraylength), 1), (18, .inl (.if_icmp .ge 14), 3), (21, .inl (.aload_n 0), 1), (22, .inr (0, 8, 0), 3), (25, .inl (.iload_n 1), 1), (26, .inl (.aload_n 0), 1), (27, .inl (.lload_n 2), 1), (28, .inr (2, 222, 2), 3), (31, .inl (.lastore), 1)],
  [(32, .inl (.return_), 1)]]
-- MovingNames$Tray.cut(J)J
set_option maxRecDepth 100000 in
noncomputable def ab_c222 : List (List (Nat × ab_I × Nat)) := [[(0, .inl (.aload_n 0), 1), (1, .inr (0, 8, 1), 3), (4, .inl (.tableswitch 42 0 2 #[28, 33, 38]), 28)],
  [],
  [(32, .inl (.lload_n 1), 1), (33, .inl (.l2i), 1), (34, .inl (.i2b), 1), (35, .inl (.i2l), 1), (36, .inl (.lreturn), 1), (37, .inl (.lload_n 1), 1), (38, .inl (.l2i), 1), (39, .inl (.i2s), 1), (40, .inl (.i2l), 1), (41, .inl (.lreturn), 1), (42, .inl (.lload_n 1), 1), (43, .inl (.l2i), 1), (44, .inl (.i2l), 1), (45, .inl (.lreturn), 1), (46, .inl (.lload_n 1), 1), (47, .inl (.lreturn), 1)]]
-- MovingNamesLaw.copy(LMovingNames;I[J)I
set_option maxRecDepth 100000 in
noncomputable def ab_c223 : List (List (Nat × ab_I × Nat)) := [[(0, .inl (.aload_n 2), 1), (1, .inl (.iconst 0), 1), (2, .inl (.aload_n 0), 1), (3, .inl (.iload_n 1), 1), (4, .inr (2, 224, 2), 3), (7, .inl (.i2l), 1), (8, .inl (.lastore), 1), (9, .inl (.goto 9), 3), (12, .inl (.astore_n 3), 1), (13, .inl (.iconst 1), 1), (14, .inl (.ireturn), 1), (15, .inl (.astore_n 3), 1)],
  [(16, .inl (.iconst 2), 1), (17, .inl (.ireturn), 1), (18, .inl (.iconst 0), 1), (19, .inl (.ireturn), 1)]]
-- MovingNames.copy(I)I
set_option maxRecDepth 100000 in
noncomputable def ab_c224 : List (List (Nat × ab_I × Nat)) := [[(0, .inl (.aload_n 0), 1), (1, .inl (.iload_n 1), 1), (2, .inr (2, 150, 2), 3), (5, .inl (.astore_n 2), 1), (6, .inl (.aload_n 2), 1), (7, .inr (0, 8, 2), 3), (10, .inl (.aload_n 0), 1), (11, .inr (0, 0, 1), 3), (14, .inr (0, 2, 1), 3)],
  [(17, .inr (2, 19, 2), 3), (20, .inl (.istore_n 3), 1), (21, .inl (.iconst 0), 1), (22, .inl (.istore 4), 2), (24, .inl (.iload 4), 2), (26, .inl (.iload_n 3), 1), (27, .inl (.if_icmp .ge 28), 3), (30, .inl (.aload_n 2), 1), (31, .inl (.iload 4), 2)],
  [(33, .inl (.aload_n 0), 1), (34, .inr (0, 0, 1), 3), (37, .inr (0, 2, 7), 3), (40, .inl (.iload 4), 2), (42, .inr (2, 9, 2), 3), (45, .inl (.i2l), 1), (46, .inr (2, 221, 3), 3)],
  [(49, .inl (.iinc 4 1), 3), (52, .inl (.goto (-28)), 3), (55, .inl (.iload_n 3), 1), (56, .inl (.ireturn), 1)]]
-- MovingNamesLaw.image(LMovingNames;I)I
set_option maxRecDepth 100000 in
noncomputable def ab_c225 : List (List (Nat × ab_I × Nat)) := [[(0, .inl (.aload_n 0), 1), (1, .inl (.iload_n 1), 1), (2, .inr (2, 226, 2), 3), (5, .inl (.goto 6), 3), (8, .inl (.astore_n 2), 1), (9, .inl (.iconst 1), 1), (10, .inl (.ireturn), 1), (11, .inl (.iconst 0), 1), (12, .inl (.ireturn), 1)]]
-- MovingNames.image(I)V
set_option maxRecDepth 100000 in
noncomputable def ab_c226 : List (List (Nat × ab_I × Nat)) := [[(0, .inl (.iload_n 1), 1), (1, .inl (.ifCond .lt 12), 3), (4, .inl (.iload_n 1), 1), (5, .inl (.aload_n 0), 1), (6, .inr (0, 0, 6), 3), (9, .inl (.arraylength), 1), (10, .inl (.if_icmp .lt 14), 3), (13, .inr (10, 1, 0), 11)],
  [(24, .inl (.aload_n 0), 1), (25, .inr (0, 0, 6), 3), (28, .inl (.iload_n 1), 1), (29, .inl (.aaload), 1), (30, .inl (.astore_n 2), 1), (31, .inl (.aload_n 2), 1)],
  [(32, .inl (.ifnonnull 18), 3), (35, .inr (11, 2, 0), 7), (42, .inl (.astore_n 2), 1), (43, .inl (.aload_n 0), 1), (44, .inr (0, 0, 6), 3), (47, .inl (.iload_n 1), 1)],
  [(48, .inl (.aload_n 2), 1), (49, .inl (.aastore), 1), (50, .inl (.aload_n 2), 1), (51, .inl (.aload_n 0), 1), (52, .inr (0, 0, 1), 3), (55, .inr (2, 80, 2), 3), (58, .inl (.return_), 1)]]
-- MovingNamesLaw.restore(LMovingNames;I)I
set_option maxRecDepth 100000 in
noncomputable def ab_c227 : List (List (Nat × ab_I × Nat)) := [[(0, .inl (.aload_n 0), 1), (1, .inl (.iload_n 1), 1), (2, .inr (2, 228, 2), 3), (5, .inl (.goto 9), 3), (8, .inl (.astore_n 2), 1), (9, .inl (.iconst 1), 1), (10, .inl (.ireturn), 1), (11, .inl (.astore_n 2), 1), (12, .inl (.iconst 2), 1), (13, .inl (.ireturn), 1), (14, .inl (.iconst 0), 1), (15, .inl (.ireturn), 1)]]
-- MovingNames.restore(I)V
set_option maxRecDepth 100000 in
noncomputable def ab_c228 : List (List (Nat × ab_I × Nat)) := [[(0, .inl (.iload_n 1), 1), (1, .inl (.ifCond .lt 12), 3), (4, .inl (.iload_n 1), 1), (5, .inl (.aload_n 0), 1), (6, .inr (0, 0, 6), 3), (9, .inl (.arraylength), 1), (10, .inl (.if_icmp .lt 14), 3), (13, .inr (10, 1, 0), 11)],
  [(24, .inl (.aload_n 0), 1), (25, .inr (0, 0, 6), 3), (28, .inl (.iload_n 1), 1), (29, .inl (.aaload), 1), (30, .inl (.astore_n 2), 1), (31, .inl (.aload_n 2), 1)],
  [(32, .inl (.ifnonnull 14), 3), (35, .inr (10, 2, 0), 11), (46, .inl (.aload_n 0), 1), (47, .inr (0, 0, 1), 3)],
  [(50, .inl (.aload_n 2), 1), (51, .inr (2, 80, 2), 3), (54, .inl (.return_), 1)]]
-- MovingNamesModel.thrown()I
set_option maxRecDepth 100000 in
noncomputable def ab_c229 : List (List (Nat × ab_I × Nat)) := [[(0, .inl (.aload_n 0), 1), (1, .inr (0, 9, 4), 3), (4, .inl (.ireturn), 1)]]
-- MovingNamesModel.feed(IIIII)I
set_option maxRecDepth 100000 in
noncomputable def ab_c230 : List (List (Nat × ab_I × Nat)) := [[(0, .inl (.aload_n 0), 1), (1, .inl (.iconst 0), 1), (2, .inr (1, 9, 4), 3), (5, .inl (.aload_n 0), 1), (6, .inr (0, 9, 6), 3), (9, .inl (.bipush 20), 2), (11, .inl (.iadd), 1), (12, .inl (.sipush 900), 3), (15, .inl (.if_icmp .le 5), 3)],
  [(18, .inl (.iconst (-1)), 1), (19, .inl (.ireturn), 1), (20, .inl (.iconst 0), 1), (21, .inl (.istore 6), 2), (23, .inl (.iload 6), 2), (25, .inl (.bipush 20), 2), (27, .inl (.if_icmp .ge 93), 3), (30, .inl (.iload 6), 2)],
  [(32, .inl (.iconst 4), 1), (33, .inl (.if_icmp .ge 7), 3), (36, .inl (.iload_n 1), 1), (37, .inl (.goto 39), 3), (40, .inl (.iload 6), 2), (42, .inl (.bipush 8), 2), (44, .inl (.if_icmp .ge 7), 3), (47, .inl (.iload_n 2), 1)],
  [(48, .inl (.goto 28), 3), (51, .inl (.iload 6), 2), (53, .inl (.bipush 12), 2), (55, .inl (.if_icmp .ge 7), 3), (58, .inl (.iload_n 3), 1), (59, .inl (.goto 17), 3), (62, .inl (.iload 6), 2)],
  [(64, .inl (.bipush 16), 2), (66, .inl (.if_icmp .ge 8), 3), (69, .inl (.iload 4), 2), (71, .inl (.goto 5), 3), (74, .inl (.iload 5), 2), (76, .inl (.istore 7), 2), (78, .inl (.aload_n 0), 1), (79, .inr (0, 9, 5), 3)],
  [(82, .inl (.aload_n 0), 1), (83, .inr (0, 9, 6), 3), (86, .inl (.iload 7), 2), (88, .inl (.bipush 24), 2), (90, .inl (.bipush 8), 2), (92, .inl (.iload 6), 2), (94, .inl (.iconst 3), 1), (95, .inl (.iand), 1)],
  [(96, .inl (.imul), 1), (97, .inl (.isub), 1), (98, .inl (.iushr), 1), (99, .inl (.sipush 255), 3), (102, .inl (.iand), 1), (103, .inl (.iastore), 1), (104, .inl (.aload_n 0), 1), (105, .inl (.dup), 1), (106, .inr (0, 9, 6), 3), (109, .inl (.iconst 1), 1), (110, .inl (.iadd), 1), (111, .inr (1, 9, 6), 3)],
  [(114, .inl (.iinc 6 1), 3), (117, .inl (.goto (-94)), 3), (120, .inl (.aload_n 0), 1), (121, .inr (0, 9, 6), 3), (124, .inl (.ireturn), 1)]]
-- MovingNamesModel.town(I)I
set_option maxRecDepth 100000 in
noncomputable def ab_c231 : List (List (Nat × ab_I × Nat)) := [[(0, .inl (.aload_n 0), 1), (1, .inl (.iconst 0), 1), (2, .inr (1, 9, 4), 3), (5, .inl (.iload_n 1), 1), (6, .inl (.i2l), 1), (7, .inl (.lconst 0), 1), (8, .inl (.aload_n 0), 1), (9, .inr (0, 9, 6), 3), (12, .inl (.i2l), 1), (13, .inr (2, 232, 3), 3)],
  [(16, .inl (.ifCond .ne 9), 3), (19, .inl (.aload_n 0), 1), (20, .inl (.iconst 1), 1), (21, .inr (2, 233, 2), 3), (24, .inl (.ireturn), 1), (25, .inl (.aload_n 0), 1), (26, .inl (.iload_n 1), 1), (27, .inr (1, 9, 7), 3), (30, .inl (.aload_n 0), 1), (31, .inl (.iconst 0), 1)],
  [(32, .inr (1, 9, 6), 3), (35, .inl (.aload_n 0), 1), (36, .inl (.iconst 0), 1), (37, .inr (1, 9, 8), 3), (40, .inl (.aload_n 0), 1), (41, .inl (.iconst 0), 1), (42, .inr (1, 9, 12), 3), (45, .inl (.aload_n 0), 1), (46, .inl (.iconst 0), 1), (47, .inr (1, 9, 16), 3)],
  [(50, .inl (.iconst 0), 1), (51, .inl (.istore_n 2), 1), (52, .inl (.iload_n 2), 1), (53, .inl (.sipush 2300), 3), (56, .inl (.if_icmp .ge 16), 3), (59, .inl (.aload_n 0), 1), (60, .inr (0, 9, 1), 3), (63, .inl (.iload_n 2), 1)],
  [(64, .inl (.iconst 0), 1), (65, .inl (.iastore), 1), (66, .inl (.iinc 2 1), 3), (69, .inl (.goto (-17)), 3), (72, .inl (.aload_n 0), 1), (73, .inr (0, 9, 1), 3), (76, .inl (.iconst 4), 1), (77, .inl (.bipush 9), 2), (79, .inl (.iastore), 1)],
  [(80, .inl (.aload_n 0), 1), (81, .inr (2, 234, 1), 3), (84, .inl (.aload_n 0), 1), (85, .inr (7, 1, 0), 2), (87, .inr (2, 239, 2), 3), (90, .inl (.aload_n 0), 1), (91, .inr (0, 9, 1), 3), (94, .inl (.iconst 1), 1), (95, .inl (.aload_n 0), 1)],
  [(96, .inl (.iconst 1), 1), (97, .inl (.bipush 20), 2), (99, .inr (2, 243, 3), 3), (102, .inl (.iastore), 1), (103, .inl (.iconst 0), 1), (104, .inl (.istore_n 2), 1), (105, .inl (.iload_n 2), 1), (106, .inl (.bipush 20), 2), (108, .inl (.if_icmp .ge 19), 3), (111, .inl (.aload_n 0), 1)],
  [(112, .inr (0, 9, 1), 3), (115, .inl (.bipush 11), 2), (117, .inl (.iload_n 2), 1), (118, .inl (.iadd), 1), (119, .inl (.iload_n 2), 1), (120, .inl (.iastore), 1), (121, .inl (.iinc 2 1), 3), (124, .inl (.goto (-19)), 3), (127, .inl (.aload_n 0), 1)],
  [(128, .inr (2, 244, 1), 3), (131, .inl (.aload_n 0), 1), (132, .inr (0, 9, 12), 3), (135, .inl (.ifCond .ne 17), 3), (138, .inl (.aload_n 0), 1), (139, .inr (0, 9, 10), 3), (142, .inl (.ifCond .eq 10), 3)],
  [(145, .inl (.aload_n 0), 1), (146, .inr (2, 246, 1), 3), (149, .inl (.goto (-18)), 3), (152, .inl (.aload_n 0), 1), (153, .inl (.aload_n 0), 1), (154, .inr (0, 9, 12), 3), (157, .inr (1, 9, 14), 3)],
  [(160, .inl (.aload_n 0), 1), (161, .inl (.aload_n 0), 1), (162, .inr (0, 9, 12), 3), (165, .inl (.ifCond .ne 7), 3), (168, .inl (.iconst (-1)), 1), (169, .inl (.goto 7), 3), (172, .inl (.aload_n 0), 1), (173, .inr (0, 9, 13), 3)],
  [(176, .inr (1, 9, 15), 3), (179, .inl (.aload_n 0), 1), (180, .inr (0, 9, 12), 3), (183, .inl (.ifCond .eq 11), 3), (186, .inl (.bipush (-10)), 2), (188, .inl (.aload_n 0), 1), (189, .inr (0, 9, 12), 3)],
  [(192, .inl (.isub), 1), (193, .inl (.ireturn), 1), (194, .inl (.iconst 0), 1), (195, .inl (.istore_n 2), 1), (196, .inl (.iload_n 2), 1), (197, .inl (.sipush 2300), 3), (200, .inl (.if_icmp .ge 21), 3), (203, .inl (.aload_n 0), 1), (204, .inr (0, 9, 0), 3), (207, .inl (.iload_n 2), 1)],
  [(208, .inl (.aload_n 0), 1), (209, .inr (0, 9, 1), 3), (212, .inl (.iload_n 2), 1), (213, .inl (.iaload), 1), (214, .inl (.iastore), 1), (215, .inl (.iinc 2 1), 3), (218, .inl (.goto (-22)), 3), (221, .inl (.aload_n 0), 1), (222, .inr (0, 9, 0), 3)],
  [(225, .inl (.iconst 0), 1), (226, .inl (.iaload), 1), (227, .inl (.ireturn), 1)]]
-- MovingNamesModel.within(JJJ)Z
set_option maxRecDepth 100000 in
noncomputable def ab_c232 : List (List (Nat × ab_I × Nat)) := [[(0, .inl (.lload_n 0), 1), (1, .inl (.lload_n 2), 1), (2, .inl (.lcmp), 1), (3, .inl (.ifCond .lt 14), 3), (6, .inl (.lload_n 0), 1), (7, .inl (.lload 4), 2), (9, .inl (.lcmp), 1), (10, .inl (.ifCond .gt 7), 3), (13, .inl (.iconst 1), 1), (14, .inl (.goto 4), 3)],
  [(17, .inl (.iconst 0), 1), (18, .inl (.ireturn), 1)]]
-- MovingNamesModel.fails(I)I
set_option maxRecDepth 100000 in
noncomputable def ab_c233 : List (List (Nat × ab_I × Nat)) := [[(0, .inl (.aload_n 0), 1), (1, .inl (.iload_n 1), 1), (2, .inr (1, 9, 4), 3), (5, .inl (.iconst 0), 1), (6, .inl (.ireturn), 1)]]
-- MovingNamesModel.readsOn()V
set_option maxRecDepth 100000 in
noncomputable def ab_c234 : List (List (Nat × ab_I × Nat)) := [[(0, .inl (.aload_n 0), 1), (1, .inr (0, 9, 8), 3), (4, .inl (.aload_n 0), 1), (5, .inr (0, 9, 7), 3), (8, .inl (.if_icmp .ge 44), 3), (11, .inl (.aload_n 0), 1), (12, .inr (0, 9, 5), 3), (15, .inl (.aload_n 0), 1)],
  [(16, .inr (0, 9, 8), 3), (19, .inl (.iaload), 1), (20, .inl (.bipush 32), 2), (22, .inl (.if_icmp .eq 17), 3), (25, .inl (.aload_n 0), 1), (26, .inr (0, 9, 5), 3), (29, .inl (.aload_n 0), 1), (30, .inr (0, 9, 8), 3)],
  [(33, .inl (.iaload), 1), (34, .inl (.bipush 10), 2), (36, .inl (.if_icmp .ne 16), 3), (39, .inl (.aload_n 0), 1), (40, .inl (.dup), 1), (41, .inr (0, 9, 8), 3), (44, .inl (.iconst 1), 1), (45, .inl (.iadd), 1), (46, .inr (1, 9, 8), 3)],
  [(49, .inl (.goto (-49)), 3), (52, .inl (.aload_n 0), 1), (53, .inl (.aload_n 0), 1), (54, .inr (0, 9, 8), 3), (57, .inr (1, 9, 9), 3), (60, .inl (.aload_n 0), 1), (61, .inr (0, 9, 8), 3)],
  [(64, .inl (.aload_n 0), 1), (65, .inr (0, 9, 7), 3), (68, .inl (.if_icmp .lt 9), 3), (71, .inl (.aload_n 0), 1), (72, .inl (.iconst 0), 1), (73, .inr (1, 9, 10), 3), (76, .inl (.return_), 1), (77, .inl (.aload_n 0), 1), (78, .inr (0, 9, 5), 3)],
  [(81, .inl (.aload_n 0), 1), (82, .inr (0, 9, 8), 3), (85, .inl (.iaload), 1), (86, .inl (.istore_n 1), 1), (87, .inl (.iload_n 1), 1), (88, .inr (2, 235, 1), 3), (91, .inl (.ifCond .eq 38), 3), (94, .inl (.aload_n 0), 1), (95, .inl (.aload_n 0), 1)],
  [(96, .inr (0, 9, 8), 3), (99, .inr (2, 236, 2), 3), (102, .inr (2, 235, 1), 3), (105, .inl (.ifCond .eq 16), 3), (108, .inl (.aload_n 0), 1), (109, .inl (.dup), 1), (110, .inr (0, 9, 8), 3)],
  [(113, .inl (.iconst 1), 1), (114, .inl (.iadd), 1), (115, .inr (1, 9, 8), 3), (118, .inl (.goto (-24)), 3), (121, .inl (.aload_n 0), 1), (122, .inl (.iconst 1), 1), (123, .inr (1, 9, 10), 3), (126, .inl (.goto 137), 3)],
  [(129, .inl (.iload_n 1), 1), (130, .inr (2, 237, 1), 3), (133, .inl (.ifCond .eq 104), 3), (136, .inl (.aload_n 0), 1), (137, .inl (.iconst 0), 1), (138, .inr (1, 9, 11), 3), (141, .inl (.aload_n 0), 1), (142, .inl (.aload_n 0), 1), (143, .inr (0, 9, 8), 3)],
  [(146, .inr (2, 236, 2), 3), (149, .inr (2, 237, 1), 3), (152, .inl (.ifCond .eq 60), 3), (155, .inl (.aload_n 0), 1), (156, .inl (.aload_n 0), 1), (157, .inr (0, 9, 8), 3)],
  [(160, .inl (.aload_n 0), 1), (161, .inr (0, 9, 9), 3), (164, .inl (.isub), 1), (165, .inl (.iconst 3), 1), (166, .inl (.if_icmp .ge 26), 3), (169, .inl (.bipush 10), 2), (171, .inl (.aload_n 0), 1), (172, .inr (0, 9, 11), 3), (175, .inl (.imul), 1)],
  [(176, .inl (.aload_n 0), 1), (177, .inr (0, 9, 5), 3), (180, .inl (.aload_n 0), 1), (181, .inr (0, 9, 8), 3), (184, .inl (.iaload), 1), (185, .inl (.iadd), 1), (186, .inl (.bipush 48), 2), (188, .inl (.isub), 1), (189, .inl (.goto 7), 3)],
  [(192, .inl (.aload_n 0), 1), (193, .inr (0, 9, 11), 3), (196, .inr (1, 9, 11), 3), (199, .inl (.aload_n 0), 1), (200, .inl (.dup), 1), (201, .inr (0, 9, 8), 3), (204, .inl (.iconst 1), 1), (205, .inl (.iadd), 1), (206, .inr (1, 9, 8), 3)],
  [(209, .inl (.goto (-68)), 3), (212, .inl (.aload_n 0), 1), (213, .inl (.aload_n 0), 1), (214, .inr (0, 9, 8), 3), (217, .inl (.aload_n 0), 1), (218, .inr (0, 9, 9), 3), (221, .inl (.isub), 1), (222, .inl (.iconst 3), 1), (223, .inl (.if_icmp .le 7), 3)],
  [(226, .inl (.iconst 3), 1), (227, .inl (.goto 4), 3), (230, .inl (.iconst 2), 1), (231, .inr (1, 9, 10), 3), (234, .inl (.goto 29), 3), (237, .inl (.aload_n 0), 1), (238, .inl (.iload_n 1), 1), (239, .inr (2, 238, 1), 3)],
  [(242, .inl (.ifCond .eq 7), 3), (245, .inl (.iload_n 1), 1), (246, .inl (.goto 4), 3), (249, .inl (.iconst 3), 1), (250, .inr (1, 9, 10), 3), (253, .inl (.aload_n 0), 1), (254, .inl (.dup), 1), (255, .inr (0, 9, 8), 3)],
  [(258, .inl (.iconst 1), 1), (259, .inl (.iadd), 1), (260, .inr (1, 9, 8), 3), (263, .inl (.return_), 1)]]
-- MovingNamesModel.isLetter(I)Z
set_option maxRecDepth 100000 in
noncomputable def ab_c235 : List (List (Nat × ab_I × Nat)) := [[(0, .inl (.iload_n 0), 1), (1, .inl (.bipush 97), 2), (3, .inl (.if_icmp .lt 13), 3), (6, .inl (.iload_n 0), 1), (7, .inl (.bipush 122), 2), (9, .inl (.if_icmp .gt 7), 3), (12, .inl (.iconst 1), 1), (13, .inl (.goto 4), 3)],
  [(16, .inl (.iconst 0), 1), (17, .inl (.ireturn), 1)]]
-- MovingNamesModel.see(I)I
set_option maxRecDepth 100000 in
noncomputable def ab_c236 : List (List (Nat × ab_I × Nat)) := [[(0, .inl (.iload_n 1), 1), (1, .inl (.aload_n 0), 1), (2, .inr (0, 9, 7), 3), (5, .inl (.if_icmp .ge 12), 3), (8, .inl (.aload_n 0), 1), (9, .inr (0, 9, 5), 3), (12, .inl (.iload_n 1), 1), (13, .inl (.iaload), 1), (14, .inl (.goto 4), 3)],
  [(17, .inl (.iconst 0), 1), (18, .inl (.ireturn), 1)]]
-- MovingNamesModel.isDigit(I)Z
set_option maxRecDepth 100000 in
noncomputable def ab_c237 : List (List (Nat × ab_I × Nat)) := [[(0, .inl (.iload_n 0), 1), (1, .inl (.bipush 48), 2), (3, .inl (.if_icmp .lt 13), 3), (6, .inl (.iload_n 0), 1), (7, .inl (.bipush 57), 2), (9, .inl (.if_icmp .gt 7), 3), (12, .inl (.iconst 1), 1), (13, .inl (.goto 4), 3)],
  [(16, .inl (.iconst 0), 1), (17, .inl (.ireturn), 1)]]
-- MovingNamesModel.isSignByte(I)Z
set_option maxRecDepth 100000 in
noncomputable def ab_c238 : List (List (Nat × ab_I × Nat)) := [[(0, .inl (.iload_n 0), 1), (1, .inl (.bipush 91), 2), (3, .inl (.if_icmp .eq 27), 3), (6, .inl (.iload_n 0), 1), (7, .inl (.bipush 93), 2), (9, .inl (.if_icmp .eq 21), 3), (12, .inl (.iload_n 0), 1), (13, .inl (.bipush 61), 2), (15, .inl (.if_icmp .eq 15), 3)],
  [(18, .inl (.iload_n 0), 1), (19, .inl (.bipush 60), 2), (21, .inl (.if_icmp .eq 9), 3), (24, .inl (.iload_n 0), 1), (25, .inl (.bipush 62), 2), (27, .inl (.if_icmp .ne 7), 3), (30, .inl (.iconst 1), 1), (31, .inl (.goto 4), 3)],
  [(34, .inl (.iconst 0), 1), (35, .inl (.istore_n 1), 1), (36, .inl (.iload_n 1), 1), (37, .inl (.ifCond .ne 45), 3), (40, .inl (.iload_n 0), 1), (41, .inl (.bipush 59), 2), (43, .inl (.if_icmp .eq 39), 3), (46, .inl (.iload_n 0), 1), (47, .inl (.bipush 58), 2)],
  [(49, .inl (.if_icmp .eq 33), 3), (52, .inl (.iload_n 0), 1), (53, .inl (.bipush 43), 2), (55, .inl (.if_icmp .eq 27), 3), (58, .inl (.iload_n 0), 1), (59, .inl (.bipush 45), 2), (61, .inl (.if_icmp .eq 21), 3)],
  [(64, .inl (.iload_n 0), 1), (65, .inl (.bipush 42), 2), (67, .inl (.if_icmp .eq 15), 3), (70, .inl (.iload_n 0), 1), (71, .inl (.bipush 40), 2), (73, .inl (.if_icmp .eq 9), 3), (76, .inl (.iload_n 0), 1), (77, .inl (.bipush 41), 2), (79, .inl (.if_icmp .ne 7), 3)],
  [(82, .inl (.iconst 1), 1), (83, .inl (.goto 4), 3), (86, .inl (.iconst 0), 1), (87, .inl (.ireturn), 1)]]
-- MovingNamesModel.mustWord(Ljava/lang/String;)V
set_option maxRecDepth 100000 in
noncomputable def ab_c239 : List (List (Nat × ab_I × Nat)) := [[(0, .inl (.aload_n 0), 1), (1, .inl (.aload_n 1), 1), (2, .inr (2, 240, 2), 3), (5, .inl (.ifCond .ne 8), 3), (8, .inl (.aload_n 0), 1), (9, .inl (.iconst 2), 1), (10, .inr (2, 242, 2), 3), (13, .inl (.return_), 1)]]
-- MovingNamesModel.took(Ljava/lang/String;)Z
set_option maxRecDepth 100000 in
noncomputable def ab_c240 : List (List (Nat × ab_I × Nat)) := [[(0, .inl (.aload_n 0), 1), (1, .inl (.aload_n 1), 1), (2, .inr (2, 241, 2), 3), (5, .inl (.istore_n 2), 1), (6, .inl (.iload_n 2), 1), (7, .inl (.ifCond .eq 7), 3), (10, .inl (.aload_n 0), 1), (11, .inr (2, 234, 1), 3), (14, .inl (.iload_n 2), 1), (15, .inl (.ireturn), 1)]]
-- MovingNamesModel.isWord(Ljava/lang/String;)Z
set_option maxRecDepth 100000 in
noncomputable def ab_c241 : List (List (Nat × ab_I × Nat)) := [[(0, .inl (.aload_n 0), 1), (1, .inr (0, 9, 12), 3), (4, .inl (.ifCond .ne 31), 3), (7, .inl (.aload_n 0), 1), (8, .inr (0, 9, 10), 3), (11, .inl (.iconst 1), 1), (12, .inl (.if_icmp .ne 23), 3), (15, .inl (.aload_n 0), 1)],
  [(16, .inr (0, 9, 8), 3), (19, .inl (.aload_n 0), 1), (20, .inr (0, 9, 9), 3), (23, .inl (.isub), 1), (24, .inl (.aload_n 1), 1), (25, .inr (2, 46, 1), 3), (28, .inl (.if_icmp .ne 7), 3), (31, .inl (.iconst 1), 1)],
  [(32, .inl (.goto 4), 3), (35, .inl (.iconst 0), 1), (36, .inl (.istore_n 2), 1), (37, .inl (.iconst 0), 1), (38, .inl (.istore_n 3), 1), (39, .inl (.iload_n 2), 1), (40, .inl (.ifCond .eq 42), 3), (43, .inl (.iload_n 3), 1), (44, .inl (.aload_n 1), 1), (45, .inr (2, 46, 1), 3)],
  [(48, .inl (.if_icmp .ge 34), 3), (51, .inl (.aload_n 0), 1), (52, .inr (0, 9, 5), 3), (55, .inl (.aload_n 0), 1), (56, .inr (0, 9, 9), 3), (59, .inl (.iload_n 3), 1), (60, .inl (.iadd), 1), (61, .inl (.iaload), 1), (62, .inl (.aload_n 1), 1), (63, .inl (.iload_n 3), 1)],
  [(64, .inr (2, 48, 2), 3), (67, .inl (.if_icmp .ne 7), 3), (70, .inl (.iconst 1), 1), (71, .inl (.goto 4), 3), (74, .inl (.iconst 0), 1), (75, .inl (.istore_n 2), 1), (76, .inl (.iinc 3 1), 3), (79, .inl (.goto (-40)), 3)],
  [(82, .inl (.iload_n 2), 1), (83, .inl (.ireturn), 1)]]
-- MovingNamesModel.blames(I)V
set_option maxRecDepth 100000 in
noncomputable def ab_c242 : List (List (Nat × ab_I × Nat)) := [[(0, .inl (.aload_n 0), 1), (1, .inr (0, 9, 12), 3), (4, .inl (.ifCond .eq 4), 3), (7, .inl (.return_), 1), (8, .inl (.aload_n 0), 1), (9, .inl (.aload_n 0), 1), (10, .inr (0, 9, 10), 3), (13, .inl (.iconst 3), 1), (14, .inl (.if_icmp .ne 7), 3)],
  [(17, .inl (.iconst 1), 1), (18, .inl (.goto 4), 3), (21, .inl (.iload_n 1), 1), (22, .inr (1, 9, 12), 3), (25, .inl (.aload_n 0), 1), (26, .inl (.aload_n 0), 1), (27, .inr (0, 9, 9), 3), (30, .inr (1, 9, 13), 3)],
  [(33, .inl (.return_), 1)]]
-- MovingNamesModel.number(II)I
set_option maxRecDepth 100000 in
noncomputable def ab_c243 : List (List (Nat × ab_I × Nat)) := [[(0, .inl (.aload_n 0), 1), (1, .inr (0, 9, 10), 3), (4, .inl (.iconst 2), 1), (5, .inl (.if_icmp .eq 11), 3), (8, .inl (.aload_n 0), 1), (9, .inl (.iconst 2), 1), (10, .inr (2, 242, 2), 3), (13, .inl (.goto 23), 3)],
  [(16, .inl (.aload_n 0), 1), (17, .inr (0, 9, 11), 3), (20, .inl (.i2l), 1), (21, .inl (.iload_n 1), 1), (22, .inl (.i2l), 1), (23, .inl (.iload_n 2), 1), (24, .inl (.i2l), 1), (25, .inr (2, 232, 3), 3), (28, .inl (.ifCond .ne 8), 3), (31, .inl (.aload_n 0), 1)],
  [(32, .inl (.iconst 3), 1), (33, .inr (2, 242, 2), 3), (36, .inl (.aload_n 0), 1), (37, .inr (0, 9, 11), 3), (40, .inl (.istore_n 3), 1), (41, .inl (.aload_n 0), 1), (42, .inr (0, 9, 12), 3), (45, .inl (.ifCond .ne 7), 3)],
  [(48, .inl (.aload_n 0), 1), (49, .inr (2, 234, 1), 3), (52, .inl (.aload_n 0), 1), (53, .inr (0, 9, 12), 3), (56, .inl (.ifCond .ne 7), 3), (59, .inl (.iload_n 3), 1), (60, .inl (.goto 4), 3), (63, .inl (.iload_n 1), 1)],
  [(64, .inl (.ireturn), 1)]]
-- MovingNamesModel.readStop()V
set_option maxRecDepth 100000 in
noncomputable def ab_c244 : List (List (Nat × ab_I × Nat)) := [[(0, .inl (.aload_n 0), 1), (1, .inl (.bipush 59), 2), (3, .inr (2, 245, 2), 3), (6, .inl (.aload_n 0), 1), (7, .inr (0, 9, 12), 3), (10, .inl (.ifCond .ne 13), 3), (13, .inl (.aload_n 0), 1), (14, .inr (0, 9, 1), 3)],
  [(17, .inl (.iconst 0), 1), (18, .inl (.dup2), 1), (19, .inl (.iaload), 1), (20, .inl (.iconst 1), 1), (21, .inl (.iadd), 1), (22, .inl (.iastore), 1), (23, .inl (.return_), 1)]]
-- MovingNamesModel.mustSign(I)V
set_option maxRecDepth 100000 in
noncomputable def ab_c245 : List (List (Nat × ab_I × Nat)) := [[(0, .inl (.aload_n 0), 1), (1, .inr (0, 9, 10), 3), (4, .inl (.iload_n 1), 1), (5, .inl (.if_icmp .eq 8), 3), (8, .inl (.aload_n 0), 1), (9, .inl (.iconst 2), 1), (10, .inr (2, 242, 2), 3), (13, .inl (.aload_n 0), 1), (14, .inr (0, 9, 12), 3)],
  [(17, .inl (.ifCond .ne 7), 3), (20, .inl (.aload_n 0), 1), (21, .inr (2, 234, 1), 3), (24, .inl (.return_), 1)]]
-- MovingNamesModel.readLine()V
set_option maxRecDepth 100000 in
noncomputable def ab_c246 : List (List (Nat × ab_I × Nat)) := [[(0, .inl (.aload_n 0), 1), (1, .inr (7, 2, 0), 2), (3, .inr (2, 241, 2), 3), (6, .inl (.ifCond .eq 10), 3), (9, .inl (.aload_n 0), 1), (10, .inr (2, 247, 1), 3), (13, .inl (.goto 107), 3)],
  [(16, .inl (.aload_n 0), 1), (17, .inr (7, 5, 0), 2), (19, .inr (2, 240, 2), 3), (22, .inl (.ifCond .eq 22), 3), (25, .inl (.aload_n 0), 1), (26, .inr (0, 9, 1), 3), (29, .inl (.bipush 31), 2), (31, .inl (.dup2), 1)],
  [(32, .inl (.iaload), 1), (33, .inl (.iconst 1), 1), (34, .inl (.aload_n 0), 1), (35, .inr (2, 250, 1), 3), (38, .inl (.ishl), 1), (39, .inl (.ior), 1), (40, .inl (.iastore), 1), (41, .inl (.goto 79), 3), (44, .inl (.aload_n 0), 1), (45, .inr (7, 6, 0), 2), (47, .inr (2, 241, 2), 3)],
  [(50, .inl (.ifCond .eq 10), 3), (53, .inl (.aload_n 0), 1), (54, .inr (2, 251, 1), 3), (57, .inl (.goto 63), 3), (60, .inl (.aload_n 0), 1), (61, .inr (7, 7, 0), 2), (63, .inr (2, 240, 2), 3)],
  [(66, .inl (.ifCond .eq 10), 3), (69, .inl (.aload_n 0), 1), (70, .inr (2, 252, 1), 3), (73, .inl (.goto 47), 3), (76, .inl (.aload_n 0), 1), (77, .inr (7, 8, 0), 2), (79, .inr (2, 241, 2), 3)],
  [(82, .inl (.ifCond .eq 10), 3), (85, .inl (.aload_n 0), 1), (86, .inr (2, 253, 1), 3), (89, .inl (.goto 31), 3), (92, .inl (.aload_n 0), 1), (93, .inr (7, 9, 0), 2), (95, .inr (2, 240, 2), 3)],
  [(98, .inl (.ifCond .eq 17), 3), (101, .inl (.aload_n 0), 1), (102, .inr (0, 9, 1), 3), (105, .inl (.iconst 5), 1), (106, .inl (.iconst 0), 1), (107, .inl (.iastore), 1), (108, .inl (.aload_n 0), 1), (109, .inr (2, 254, 1), 3)],
  [(112, .inl (.goto 8), 3), (115, .inl (.aload_n 0), 1), (116, .inl (.iconst 2), 1), (117, .inr (2, 242, 2), 3), (120, .inl (.aload_n 0), 1), (121, .inr (2, 244, 1), 3), (124, .inl (.return_), 1)]]
-- MovingNamesModel.readRound()V
set_option maxRecDepth 100000 in
noncomputable def ab_c247 : List (List (Nat × ab_I × Nat)) := [[(0, .inl (.aload_n 0), 1), (1, .inl (.iconst 2), 1), (2, .inl (.iconst 4), 1), (3, .inr (2, 248, 3), 3), (6, .inl (.ifCond .ne 4), 3), (9, .inl (.return_), 1), (10, .inl (.aload_n 0), 1), (11, .inr (0, 9, 1), 3), (14, .inl (.iconst 2), 1), (15, .inl (.iaload), 1)],
  [(16, .inl (.istore_n 1), 1), (17, .inl (.aload_n 0), 1), (18, .inr (7, 3, 0), 2), (20, .inr (2, 240, 2), 3), (23, .inl (.istore_n 2), 1), (24, .inl (.aload_n 0), 1), (25, .inr (7, 4, 0), 2), (27, .inr (2, 240, 2), 3), (30, .inl (.ifCond .eq 13), 3)],
  [(33, .inl (.aload_n 0), 1), (34, .inl (.iconst 1), 1), (35, .inl (.bipush 9), 2), (37, .inr (2, 243, 3), 3), (40, .inl (.goto 4), 3), (43, .inl (.iconst 1), 1), (44, .inl (.istore_n 3), 1), (45, .inl (.aload_n 0), 1), (46, .inl (.bipush 58), 2)],
  [(48, .inr (2, 245, 2), 3), (51, .inl (.aload_n 0), 1), (52, .inr (0, 9, 12), 3), (55, .inl (.ifCond .ne 32), 3), (58, .inl (.aload_n 0), 1), (59, .inr (0, 9, 10), 3), (62, .inl (.iconst 2), 1), (63, .inl (.if_icmp .ne 24), 3)],
  [(66, .inl (.aload_n 0), 1), (67, .inr (0, 9, 1), 3), (70, .inl (.iload_n 1), 1), (71, .inl (.aload_n 0), 1), (72, .inr (0, 9, 11), 3), (75, .inr (2, 249, 3), 3), (78, .inl (.iconst (-1)), 1), (79, .inl (.if_icmp .eq 8), 3)],
  [(82, .inl (.aload_n 0), 1), (83, .inl (.iconst 3), 1), (84, .inr (2, 242, 2), 3), (87, .inl (.aload_n 0), 1), (88, .inr (2, 250, 1), 3), (91, .inl (.istore 4), 2), (93, .inl (.aload_n 0), 1), (94, .inr (0, 9, 12), 3)],
  [(97, .inl (.ifCond .eq 4), 3), (100, .inl (.return_), 1), (101, .inl (.aload_n 0), 1), (102, .inr (0, 9, 1), 3), (105, .inl (.bipush 36), 2), (107, .inl (.bipush 20), 2), (109, .inl (.iload_n 1), 1), (110, .inl (.imul), 1), (111, .inl (.iadd), 1)],
  [(112, .inl (.aload_n 0), 1), (113, .inr (0, 9, 1), 3), (116, .inl (.bipush 32), 2), (118, .inl (.iload_n 1), 1), (119, .inl (.iadd), 1), (120, .inl (.iaload), 1), (121, .inl (.iadd), 1), (122, .inl (.iload 4), 2), (124, .inl (.iastore), 1), (125, .inl (.aload_n 0), 1), (126, .inr (0, 9, 1), 3)],
  [(129, .inl (.bipush 32), 2), (131, .inl (.iload_n 1), 1), (132, .inl (.iadd), 1), (133, .inl (.dup2), 1), (134, .inl (.iaload), 1), (135, .inl (.iconst 1), 1), (136, .inl (.iadd), 1), (137, .inl (.iastore), 1), (138, .inl (.aload_n 0), 1), (139, .inr (0, 9, 10), 3), (142, .inl (.iconst 2), 1), (143, .inl (.if_icmp .eq (-92)), 3)],
  [(146, .inl (.aload_n 0), 1), (147, .inr (0, 9, 1), 3), (150, .inl (.bipush 7), 2), (152, .inl (.iload_n 1), 1), (153, .inl (.iadd), 1), (154, .inl (.iload_n 2), 1), (155, .inl (.ifCond .eq 8), 3), (158, .inl (.iload_n 3), 1), (159, .inl (.ineg), 1)],
  [(160, .inl (.goto 4), 3), (163, .inl (.iload_n 3), 1), (164, .inl (.iastore), 1), (165, .inl (.aload_n 0), 1), (166, .inr (0, 9, 1), 3), (169, .inl (.iconst 2), 1), (170, .inl (.dup2), 1), (171, .inl (.iaload), 1), (172, .inl (.iconst 1), 1), (173, .inl (.iadd), 1), (174, .inl (.iastore), 1), (175, .inl (.return_), 1)]]
-- MovingNamesModel.begins(II)Z
set_option maxRecDepth 100000 in
noncomputable def ab_c248 : List (List (Nat × ab_I × Nat)) := [[(0, .inl (.aload_n 0), 1), (1, .inr (0, 9, 1), 3), (4, .inl (.iload_n 1), 1), (5, .inl (.iaload), 1), (6, .inl (.iload_n 2), 1), (7, .inl (.if_icmp .ne 8), 3), (10, .inl (.aload_n 0), 1), (11, .inl (.iconst 4), 1), (12, .inr (2, 242, 2), 3), (15, .inl (.aload_n 0), 1)],
  [(16, .inr (0, 9, 12), 3), (19, .inl (.ifCond .ne 7), 3), (22, .inl (.aload_n 0), 1), (23, .inr (2, 234, 1), 3), (26, .inl (.aload_n 0), 1), (27, .inr (0, 9, 12), 3), (30, .inl (.ifCond .ne 7), 3)],
  [(33, .inl (.iconst 1), 1), (34, .inl (.goto 4), 3), (37, .inl (.iconst 0), 1), (38, .inl (.ireturn), 1)]]
-- MovingNamesModel.placeIn([III)I
set_option maxRecDepth 100000 in
noncomputable def ab_c249 : List (List (Nat × ab_I × Nat)) := [[(0, .inl (.iconst 0), 1), (1, .inl (.istore_n 3), 1), (2, .inl (.iload_n 3), 1), (3, .inl (.aload_n 0), 1), (4, .inl (.bipush 32), 2), (6, .inl (.iload_n 1), 1), (7, .inl (.iadd), 1), (8, .inl (.iaload), 1), (9, .inl (.if_icmp .ge 26), 3), (12, .inl (.aload_n 0), 1), (13, .inl (.bipush 36), 2), (15, .inl (.bipush 20), 2)],
  [(17, .inl (.iload_n 1), 1), (18, .inl (.imul), 1), (19, .inl (.iadd), 1), (20, .inl (.iload_n 3), 1), (21, .inl (.iadd), 1), (22, .inl (.iaload), 1), (23, .inl (.iload_n 2), 1), (24, .inl (.if_icmp .ne 5), 3), (27, .inl (.iload_n 3), 1), (28, .inl (.ireturn), 1), (29, .inl (.iinc 3 1), 3)],
  [(32, .inl (.goto (-30)), 3), (35, .inl (.iconst (-1)), 1), (36, .inl (.ireturn), 1)]]
-- MovingNamesModel.streetTold()I
set_option maxRecDepth 100000 in
noncomputable def ab_c250 : List (List (Nat × ab_I × Nat)) := [[(0, .inl (.aload_n 0), 1), (1, .inl (.iconst 0), 1), (2, .inl (.aload_n 0), 1), (3, .inr (0, 9, 1), 3), (6, .inl (.iconst 1), 1), (7, .inl (.iaload), 1), (8, .inl (.iconst 1), 1), (9, .inl (.isub), 1), (10, .inr (2, 243, 3), 3), (13, .inl (.ireturn), 1)]]
-- MovingNamesModel.readPerson()V
set_option maxRecDepth 100000 in
noncomputable def ab_c251 : List (List (Nat × ab_I × Nat)) := [[(0, .inl (.aload_n 0), 1), (1, .inl (.iconst 3), 1), (2, .inl (.bipush 8), 2), (4, .inr (2, 248, 3), 3), (7, .inl (.ifCond .ne 4), 3), (10, .inl (.return_), 1), (11, .inl (.aload_n 0), 1), (12, .inr (2, 250, 1), 3), (15, .inl (.istore_n 1), 1)],
  [(16, .inl (.aload_n 0), 1), (17, .inl (.iconst 1), 1), (18, .inl (.aload_n 0), 1), (19, .inr (0, 9, 1), 3), (22, .inl (.iconst 4), 1), (23, .inl (.iaload), 1), (24, .inr (2, 243, 3), 3), (27, .inl (.istore_n 2), 1), (28, .inl (.aload_n 0), 1), (29, .inr (0, 9, 12), 3)],
  [(32, .inl (.ifCond .eq 4), 3), (35, .inl (.return_), 1), (36, .inl (.aload_n 0), 1), (37, .inr (0, 9, 1), 3), (40, .inl (.bipush 116), 2), (42, .inl (.aload_n 0), 1), (43, .inr (0, 9, 1), 3), (46, .inl (.iconst 3), 1), (47, .inl (.iaload), 1)],
  [(48, .inl (.iadd), 1), (49, .inl (.iload_n 1), 1), (50, .inl (.iastore), 1), (51, .inl (.aload_n 0), 1), (52, .inr (0, 9, 1), 3), (55, .inl (.bipush 124), 2), (57, .inl (.aload_n 0), 1), (58, .inr (0, 9, 1), 3), (61, .inl (.iconst 3), 1), (62, .inl (.iaload), 1), (63, .inl (.iadd), 1)],
  [(64, .inl (.iload_n 2), 1), (65, .inl (.iastore), 1), (66, .inl (.aload_n 0), 1), (67, .inr (0, 9, 1), 3), (70, .inl (.iconst 3), 1), (71, .inl (.dup2), 1), (72, .inl (.iaload), 1), (73, .inl (.iconst 1), 1), (74, .inl (.iadd), 1), (75, .inl (.iastore), 1), (76, .inl (.return_), 1)]]
-- MovingNamesModel.readSign()V
set_option maxRecDepth 100000 in
noncomputable def ab_c252 : List (List (Nat × ab_I × Nat)) := [[(0, .inl (.aload_n 0), 1), (1, .inr (2, 250, 1), 3), (4, .inl (.istore_n 1), 1), (5, .inl (.aload_n 0), 1), (6, .inr (2, 250, 1), 3), (9, .inl (.istore_n 2), 1), (10, .inl (.aload_n 0), 1), (11, .inr (0, 9, 12), 3), (14, .inl (.ifCond .ne 13), 3)],
  [(17, .inl (.aload_n 0), 1), (18, .inr (0, 9, 1), 3), (21, .inl (.bipush 11), 2), (23, .inl (.iload_n 1), 1), (24, .inl (.iadd), 1), (25, .inl (.iload_n 2), 1), (26, .inl (.iastore), 1), (27, .inl (.return_), 1)]]
-- MovingNamesModel.readHouses()V
set_option maxRecDepth 100000 in
noncomputable def ab_c253 : List (List (Nat × ab_I × Nat)) := [[(0, .inl (.aload_n 0), 1), (1, .inr (0, 9, 1), 3), (4, .inl (.iconst 3), 1), (5, .inl (.iaload), 1), (6, .inl (.ifCond .le 8), 3), (9, .inl (.aload_n 0), 1), (10, .inl (.iconst 2), 1), (11, .inr (2, 242, 2), 3), (14, .inl (.aload_n 0), 1), (15, .inr (0, 9, 12), 3)],
  [(18, .inl (.ifCond .eq 4), 3), (21, .inl (.return_), 1), (22, .inl (.aload_n 0), 1), (23, .inr (2, 234, 1), 3), (26, .inl (.aload_n 0), 1), (27, .inr (0, 9, 1), 3), (30, .inl (.iconst 4), 1), (31, .inl (.aload_n 0), 1)],
  [(32, .inl (.iconst 1), 1), (33, .inl (.bipush 99), 2), (35, .inr (2, 243, 3), 3), (38, .inl (.iastore), 1), (39, .inl (.return_), 1)]]
-- MovingNamesModel.readTruth()V
set_option maxRecDepth 100000 in
noncomputable def ab_c254 : List (List (Nat × ab_I × Nat)) := [[(0, .inl (.aload_n 0), 1), (1, .inr (2, 255, 1), 3), (4, .inl (.aload_n 0), 1), (5, .inr (7, 16, 0), 2), (7, .inr (2, 240, 2), 3), (10, .inl (.ifCond .eq 16), 3), (13, .inl (.aload_n 0), 1), (14, .inr (2, 255, 1), 3)],
  [(17, .inl (.aload_n 0), 1), (18, .inl (.bipush 17), 2), (20, .inr (2, 258, 2), 3), (23, .inl (.goto (-19)), 3), (26, .inl (.return_), 1)]]
-- MovingNamesModel.readBoth()V
set_option maxRecDepth 100000 in
noncomputable def ab_c255 : List (List (Nat × ab_I × Nat)) := [[(0, .inl (.aload_n 0), 1), (1, .inr (2, 256, 1), 3), (4, .inl (.aload_n 0), 1), (5, .inr (7, 17, 0), 2), (7, .inr (2, 240, 2), 3), (10, .inl (.ifCond .eq 16), 3), (13, .inl (.aload_n 0), 1), (14, .inr (2, 256, 1), 3)],
  [(17, .inl (.aload_n 0), 1), (18, .inl (.bipush 16), 2), (20, .inr (2, 258, 2), 3), (23, .inl (.goto (-19)), 3), (26, .inl (.return_), 1)]]
-- MovingNamesModel.readUnit()V
set_option maxRecDepth 100000 in
noncomputable def ab_c256 : List (List (Nat × ab_I × Nat)) := [[(0, .inl (.aload_n 0), 1), (1, .inr (0, 9, 12), 3), (4, .inl (.ifCond .eq 4), 3), (7, .inl (.return_), 1), (8, .inl (.aload_n 0), 1), (9, .inr (7, 18, 0), 2), (11, .inr (2, 241, 2), 3), (14, .inl (.ifCond .eq 30), 3)],
  [(17, .inl (.aload_n 0), 1), (18, .inr (2, 257, 1), 3), (21, .inl (.aload_n 0), 1), (22, .inr (2, 256, 1), 3), (25, .inl (.aload_n 0), 1), (26, .inl (.bipush 18), 2), (28, .inr (2, 258, 2), 3), (31, .inl (.aload_n 0), 1)],
  [(32, .inl (.dup), 1), (33, .inr (0, 9, 16), 3), (36, .inl (.iconst 1), 1), (37, .inl (.isub), 1), (38, .inr (1, 9, 16), 3), (41, .inl (.goto 114), 3), (44, .inl (.aload_n 0), 1), (45, .inl (.bipush 91), 2), (47, .inr (2, 259, 2), 3)],
  [(50, .inl (.ifCond .eq 30), 3), (53, .inl (.aload_n 0), 1), (54, .inr (2, 257, 1), 3), (57, .inl (.aload_n 0), 1), (58, .inr (2, 254, 1), 3), (61, .inl (.aload_n 0), 1), (62, .inl (.bipush 93), 2)],
  [(64, .inr (2, 245, 2), 3), (67, .inl (.aload_n 0), 1), (68, .inl (.dup), 1), (69, .inr (0, 9, 16), 3), (72, .inl (.iconst 1), 1), (73, .inl (.isub), 1), (74, .inr (1, 9, 16), 3), (77, .inl (.goto 78), 3)],
  [(80, .inl (.aload_n 0), 1), (81, .inr (2, 260, 1), 3), (84, .inl (.aload_n 0), 1), (85, .inr (0, 9, 10), 3), (88, .inl (.istore_n 1), 1), (89, .inl (.iload_n 1), 1), (90, .inl (.bipush 61), 2), (92, .inl (.if_icmp .eq 20), 3), (95, .inl (.iload_n 1), 1)],
  [(96, .inl (.bipush 60), 2), (98, .inl (.if_icmp .eq 14), 3), (101, .inl (.iload_n 1), 1), (102, .inl (.bipush 62), 2), (104, .inl (.if_icmp .eq 8), 3), (107, .inl (.aload_n 0), 1), (108, .inl (.iconst 2), 1), (109, .inr (2, 242, 2), 3)],
  [(112, .inl (.aload_n 0), 1), (113, .inr (0, 9, 12), 3), (116, .inl (.ifCond .ne 7), 3), (119, .inl (.aload_n 0), 1), (120, .inr (2, 234, 1), 3), (123, .inl (.aload_n 0), 1), (124, .inr (2, 260, 1), 3), (127, .inl (.aload_n 0), 1)],
  [(128, .inl (.iload_n 1), 1), (129, .inl (.bipush 61), 2), (131, .inl (.if_icmp .ne 8), 3), (134, .inl (.bipush 13), 2), (136, .inl (.goto 16), 3), (139, .inl (.iload_n 1), 1), (140, .inl (.bipush 60), 2), (142, .inl (.if_icmp .ne 8), 3)],
  [(145, .inl (.bipush 14), 2), (147, .inl (.goto 5), 3), (150, .inl (.bipush 15), 2), (152, .inr (2, 258, 2), 3), (155, .inl (.return_), 1)]]
-- MovingNamesModel.goesIn()V
set_option maxRecDepth 100000 in
noncomputable def ab_c257 : List (List (Nat × ab_I × Nat)) := [[(0, .inl (.aload_n 0), 1), (1, .inr (0, 9, 16), 3), (4, .inl (.bipush 6), 2), (6, .inl (.if_icmp .ne 8), 3), (9, .inl (.aload_n 0), 1), (10, .inl (.iconst 4), 1), (11, .inr (2, 242, 2), 3), (14, .inl (.aload_n 0), 1), (15, .inl (.dup), 1)],
  [(16, .inr (0, 9, 16), 3), (19, .inl (.iconst 1), 1), (20, .inl (.iadd), 1), (21, .inr (1, 9, 16), 3), (24, .inl (.aload_n 0), 1), (25, .inr (0, 9, 12), 3), (28, .inl (.ifCond .ne 7), 3), (31, .inl (.aload_n 0), 1)],
  [(32, .inr (2, 234, 1), 3), (35, .inl (.return_), 1)]]
-- MovingNamesModel.laysStep(I)V
set_option maxRecDepth 100000 in
noncomputable def ab_c258 : List (List (Nat × ab_I × Nat)) := [[(0, .inl (.aload_n 0), 1), (1, .inr (0, 9, 12), 3), (4, .inl (.ifCond .eq 4), 3), (7, .inl (.return_), 1), (8, .inl (.aload_n 0), 1), (9, .inr (0, 9, 1), 3), (12, .inl (.sipush 1364), 3), (15, .inl (.aload_n 0), 1)],
  [(16, .inr (0, 9, 1), 3), (19, .inl (.iconst 5), 1), (20, .inl (.iaload), 1), (21, .inl (.iadd), 1), (22, .inl (.iload_n 1), 1), (23, .inl (.iastore), 1), (24, .inl (.aload_n 0), 1), (25, .inr (0, 9, 1), 3), (28, .inl (.iconst 5), 1), (29, .inl (.dup2), 1), (30, .inl (.iaload), 1), (31, .inl (.iconst 1), 1)],
  [(32, .inl (.iadd), 1), (33, .inl (.iastore), 1), (34, .inl (.return_), 1)]]
-- MovingNamesModel.isSign(I)Z
set_option maxRecDepth 100000 in
noncomputable def ab_c259 : List (List (Nat × ab_I × Nat)) := [[(0, .inl (.aload_n 0), 1), (1, .inr (0, 9, 12), 3), (4, .inl (.ifCond .ne 15), 3), (7, .inl (.aload_n 0), 1), (8, .inr (0, 9, 10), 3), (11, .inl (.iload_n 1), 1), (12, .inl (.if_icmp .ne 7), 3), (15, .inl (.iconst 1), 1)],
  [(16, .inl (.goto 4), 3), (19, .inl (.iconst 0), 1), (20, .inl (.ireturn), 1)]]
-- MovingNamesModel.readSum()V
set_option maxRecDepth 100000 in
noncomputable def ab_c260 : List (List (Nat × ab_I × Nat)) := [[(0, .inl (.aload_n 0), 1), (1, .inr (2, 261, 1), 3), (4, .inl (.aload_n 0), 1), (5, .inl (.bipush 43), 2), (7, .inr (2, 259, 2), 3), (10, .inl (.ifCond .ne 12), 3), (13, .inl (.aload_n 0), 1), (14, .inl (.bipush 45), 2)],
  [(16, .inr (2, 259, 2), 3), (19, .inl (.ifCond .eq 36), 3), (22, .inl (.aload_n 0), 1), (23, .inr (0, 9, 10), 3), (26, .inl (.istore_n 1), 1), (27, .inl (.aload_n 0), 1), (28, .inr (2, 234, 1), 3), (31, .inl (.aload_n 0), 1)],
  [(32, .inr (2, 261, 1), 3), (35, .inl (.aload_n 0), 1), (36, .inl (.iload_n 1), 1), (37, .inl (.bipush 43), 2), (39, .inl (.if_icmp .ne 8), 3), (42, .inl (.bipush 10), 2), (44, .inl (.goto 5), 3), (47, .inl (.bipush 11), 2)],
  [(49, .inr (2, 258, 2), 3), (52, .inl (.goto (-48)), 3), (55, .inl (.return_), 1)]]
-- MovingNamesModel.readTerm()V
set_option maxRecDepth 100000 in
noncomputable def ab_c261 : List (List (Nat × ab_I × Nat)) := [[(0, .inl (.aload_n 0), 1), (1, .inr (2, 262, 1), 3), (4, .inl (.aload_n 0), 1), (5, .inl (.bipush 42), 2), (7, .inr (2, 259, 2), 3), (10, .inl (.ifCond .eq 20), 3), (13, .inl (.aload_n 0), 1), (14, .inr (2, 234, 1), 3)],
  [(17, .inl (.aload_n 0), 1), (18, .inr (2, 262, 1), 3), (21, .inl (.aload_n 0), 1), (22, .inl (.bipush 12), 2), (24, .inr (2, 258, 2), 3), (27, .inl (.goto (-23)), 3), (30, .inl (.return_), 1)]]
-- MovingNamesModel.readAtom()V
set_option maxRecDepth 100000 in
noncomputable def ab_c262 : List (List (Nat × ab_I × Nat)) := [[(0, .inl (.aload_n 0), 1), (1, .inr (0, 9, 12), 3), (4, .inl (.ifCond .eq 4), 3), (7, .inl (.return_), 1), (8, .inl (.aload_n 0), 1), (9, .inr (2, 263, 1), 3), (12, .inl (.istore_n 1), 1), (13, .inl (.iload_n 1), 1), (14, .inl (.iconst (-1)), 1), (15, .inl (.if_icmp .eq 14), 3)],
  [(18, .inl (.aload_n 0), 1), (19, .inl (.bipush 100), 2), (21, .inl (.iload_n 1), 1), (22, .inl (.iadd), 1), (23, .inr (2, 258, 2), 3), (26, .inl (.goto 57), 3), (29, .inl (.aload_n 0), 1), (30, .inl (.bipush 40), 2)],
  [(32, .inr (2, 259, 2), 3), (35, .inl (.ifCond .eq 30), 3), (38, .inl (.aload_n 0), 1), (39, .inr (2, 257, 1), 3), (42, .inl (.aload_n 0), 1), (43, .inr (2, 260, 1), 3), (46, .inl (.aload_n 0), 1), (47, .inl (.bipush 41), 2)],
  [(49, .inr (2, 245, 2), 3), (52, .inl (.aload_n 0), 1), (53, .inl (.dup), 1), (54, .inr (0, 9, 16), 3), (57, .inl (.iconst 1), 1), (58, .inl (.isub), 1), (59, .inr (1, 9, 16), 3), (62, .inl (.goto 21), 3)],
  [(65, .inl (.aload_n 0), 1), (66, .inl (.iconst 0), 1), (67, .inl (.sipush 999), 3), (70, .inr (2, 243, 3), 3), (73, .inl (.istore_n 2), 1), (74, .inl (.aload_n 0), 1), (75, .inl (.sipush 1000), 3), (78, .inl (.iload_n 2), 1), (79, .inl (.iadd), 1)],
  [(80, .inr (2, 258, 2), 3), (83, .inl (.return_), 1)]]
-- MovingNamesModel.lawWord()I
set_option maxRecDepth 100000 in
noncomputable def ab_c263 : List (List (Nat × ab_I × Nat)) := [[(0, .inl (.aload_n 0), 1), (1, .inr (7, 25, 0), 2), (3, .inr (2, 240, 2), 3), (6, .inl (.ifCond .eq 5), 3), (9, .inl (.iconst 0), 1), (10, .inl (.ireturn), 1), (11, .inl (.aload_n 0), 1), (12, .inr (7, 26, 0), 2), (14, .inr (2, 240, 2), 3)],
  [(17, .inl (.ifCond .eq 5), 3), (20, .inl (.iconst 1), 1), (21, .inl (.ireturn), 1), (22, .inl (.aload_n 0), 1), (23, .inr (7, 27, 0), 2), (25, .inr (2, 240, 2), 3), (28, .inl (.ifCond .eq 5), 3), (31, .inl (.iconst 2), 1)],
  [(32, .inl (.ireturn), 1), (33, .inl (.aload_n 0), 1), (34, .inr (7, 28, 0), 2), (36, .inr (2, 240, 2), 3), (39, .inl (.ifCond .eq 5), 3), (42, .inl (.iconst 3), 1), (43, .inl (.ireturn), 1), (44, .inl (.aload_n 0), 1), (45, .inr (7, 29, 0), 2), (47, .inr (2, 240, 2), 3)],
  [(50, .inl (.ifCond .eq 7), 3), (53, .inl (.iconst 4), 1), (54, .inl (.goto 4), 3), (57, .inl (.iconst (-1)), 1), (58, .inl (.ireturn), 1)]]
-- MovingNamesModel.fault(I)I
set_option maxRecDepth 100000 in
noncomputable def ab_c264 : List (List (Nat × ab_I × Nat)) := [[(0, .inl (.aload_n 0), 1), (1, .inl (.iconst 0), 1), (2, .inr (1, 9, 4), 3), (5, .inl (.iload_n 1), 1), (6, .inl (.ifCond .ne 10), 3), (9, .inl (.aload_n 0), 1), (10, .inr (0, 9, 14), 3), (13, .inl (.goto 16), 3)],
  [(16, .inl (.iload_n 1), 1), (17, .inl (.iconst 1), 1), (18, .inl (.if_icmp .ne 10), 3), (21, .inl (.aload_n 0), 1), (22, .inr (0, 9, 15), 3), (25, .inl (.goto 4), 3), (28, .inl (.iconst (-1)), 1), (29, .inl (.ireturn), 1)]]
-- MovingNamesModel.street(II)I
set_option maxRecDepth 100000 in
noncomputable def ab_c265 : List (List (Nat × ab_I × Nat)) := [[(0, .inl (.aload_n 0), 1), (1, .inl (.aload_n 0), 1), (2, .inl (.iload_n 1), 1), (3, .inl (.i2l), 1), (4, .inr (2, 266, 2), 3), (7, .inl (.ifCond .ne 7), 3), (10, .inl (.iconst 1), 1), (11, .inl (.goto 20), 3), (14, .inl (.iload_n 2), 1), (15, .inl (.i2l), 1)],
  [(16, .inl (.lconst 0), 1), (17, .inr (9, 0, 4), 3), (20, .inr (2, 232, 3), 3), (23, .inl (.ifCond .eq 7), 3), (26, .inl (.iconst 0), 1), (27, .inl (.goto 4), 3), (30, .inl (.iconst 2), 1), (31, .inr (1, 9, 4), 3)],
  [(34, .inl (.aload_n 0), 1), (35, .inr (0, 9, 4), 3), (38, .inl (.ifCond .le 5), 3), (41, .inl (.iconst 0), 1), (42, .inl (.ireturn), 1), (43, .inl (.aload_n 0), 1), (44, .inr (2, 268, 1), 3), (47, .inl (.iconst 0), 1)],
  [(48, .inl (.istore_n 3), 1), (49, .inl (.iconst 0), 1), (50, .inl (.istore 4), 2), (52, .inl (.iload 4), 2), (54, .inl (.aload_n 0), 1), (55, .inr (0, 9, 0), 3), (58, .inl (.iconst 2), 1), (59, .inl (.iaload), 1), (60, .inl (.if_icmp .ge 34), 3), (63, .inl (.iload_n 3), 1)],
  [(64, .inl (.aload_n 0), 1), (65, .inr (0, 9, 0), 3), (68, .inl (.iload 4), 2), (70, .inl (.iload_n 1), 1), (71, .inr (2, 249, 3), 3), (74, .inl (.iconst (-1)), 1), (75, .inl (.if_icmp .ne 7), 3), (78, .inl (.iconst 0), 1), (79, .inl (.goto 7), 3)],
  [(82, .inl (.iconst 1), 1), (83, .inl (.iload 4), 2), (85, .inl (.ishl), 1), (86, .inl (.ior), 1), (87, .inl (.istore_n 3), 1), (88, .inl (.iinc 4 1), 3), (91, .inl (.goto (-39)), 3), (94, .inl (.iload_n 2), 1), (95, .inl (.tableswitch 67 0 3 #[29, 39, 59, 61]), 29)],
  [],
  [(124, .inl (.aload_n 0), 1), (125, .inr (0, 9, 0), 3)],
  [(128, .inl (.bipush 11), 2), (130, .inl (.iload_n 1), 1), (131, .inl (.iadd), 1), (132, .inl (.iaload), 1), (133, .inl (.ireturn), 1), (134, .inl (.aload_n 0), 1), (135, .inr (0, 9, 0), 3), (138, .inl (.bipush 31), 2), (140, .inl (.iaload), 1), (141, .inl (.iload_n 1), 1), (142, .inr (2, 270, 2), 3)],
  [(145, .inl (.ifCond .eq 7), 3), (148, .inl (.iconst 1), 1), (149, .inl (.goto 4), 3), (152, .inl (.iconst 0), 1), (153, .inl (.ireturn), 1), (154, .inl (.iload_n 3), 1), (155, .inl (.ireturn), 1), (156, .inl (.aload_n 0), 1), (157, .inl (.iload_n 1), 1), (158, .inr (2, 271, 2), 3)],
  [(161, .inl (.ireturn), 1), (162, .inl (.aload_n 0), 1), (163, .inl (.iload_n 1), 1), (164, .inl (.iconst (-1)), 1), (165, .inr (2, 272, 3), 3), (168, .inl (.ireturn), 1)]]
-- MovingNamesModel.isStreet(J)Z
set_option maxRecDepth 100000 in
noncomputable def ab_c266 : List (List (Nat × ab_I × Nat)) := [[(0, .inl (.lload_n 1), 1), (1, .inl (.lconst 0), 1), (2, .inl (.aload_n 0), 1), (3, .inr (2, 267, 1), 3), (6, .inl (.iconst 1), 1), (7, .inl (.isub), 1), (8, .inl (.i2l), 1), (9, .inr (2, 232, 3), 3), (12, .inl (.ireturn), 1)]]
-- MovingNamesModel.streets()I
set_option maxRecDepth 100000 in
noncomputable def ab_c267 : List (List (Nat × ab_I × Nat)) := [[(0, .inl (.aload_n 0), 1), (1, .inr (0, 9, 0), 3), (4, .inl (.iconst 1), 1), (5, .inl (.iaload), 1), (6, .inl (.ireturn), 1)]]
-- MovingNamesModel.laysNext()V
set_option maxRecDepth 100000 in
noncomputable def ab_c268 : List (List (Nat × ab_I × Nat)) := [[(0, .inl (.iconst 0), 1), (1, .inl (.istore_n 1), 1), (2, .inl (.iload_n 1), 1), (3, .inl (.aload_n 0), 1), (4, .inr (2, 267, 1), 3), (7, .inl (.if_icmp .ge 16), 3), (10, .inl (.aload_n 0), 1), (11, .inr (0, 9, 17), 3), (14, .inl (.iload_n 1), 1), (15, .inl (.iload_n 1), 1)],
  [(16, .inl (.iastore), 1), (17, .inl (.iinc 1 1), 3), (20, .inl (.goto (-18)), 3), (23, .inl (.iconst 0), 1), (24, .inl (.istore_n 1), 1), (25, .inl (.iload_n 1), 1), (26, .inl (.aload_n 0), 1), (27, .inr (0, 9, 0), 3), (30, .inl (.iconst 2), 1), (31, .inl (.iaload), 1)],
  [(32, .inl (.if_icmp .ge 14), 3), (35, .inl (.aload_n 0), 1), (36, .inl (.iload_n 1), 1), (37, .inr (2, 269, 2), 3), (40, .inl (.iinc 1 1), 3), (43, .inl (.goto (-18)), 3), (46, .inl (.return_), 1)]]
-- MovingNamesModel.goesRound(I)V
set_option maxRecDepth 100000 in
noncomputable def ab_c269 : List (List (Nat × ab_I × Nat)) := [[(0, .inl (.iconst 0), 1), (1, .inl (.istore_n 2), 1), (2, .inl (.iconst 0), 1), (3, .inl (.istore_n 3), 1), (4, .inl (.iload_n 3), 1), (5, .inl (.aload_n 0), 1), (6, .inr (0, 9, 0), 3), (9, .inl (.bipush 32), 2), (11, .inl (.iload_n 1), 1), (12, .inl (.iadd), 1), (13, .inl (.iaload), 1), (14, .inl (.if_icmp .ge 54), 3)],
  [(17, .inl (.aload_n 0), 1), (18, .inr (0, 9, 0), 3), (21, .inl (.bipush 36), 2), (23, .inl (.bipush 20), 2), (25, .inl (.iload_n 1), 1), (26, .inl (.imul), 1), (27, .inl (.iadd), 1), (28, .inl (.iload_n 3), 1), (29, .inl (.iadd), 1), (30, .inl (.iaload), 1), (31, .inl (.istore 4), 2)],
  [(33, .inl (.aload_n 0), 1), (34, .inr (0, 9, 0), 3), (37, .inl (.bipush 31), 2), (39, .inl (.iaload), 1), (40, .inl (.iload 4), 2), (42, .inr (2, 270, 2), 3), (45, .inl (.ifCond .eq 6), 3)],
  [(48, .inl (.goto 14), 3), (51, .inl (.aload_n 0), 1), (52, .inr (0, 9, 19), 3), (55, .inl (.iload_n 2), 1), (56, .inl (.iload 4), 2), (58, .inl (.iastore), 1), (59, .inl (.iinc 2 1), 3), (62, .inl (.iinc 3 1), 3)],
  [(65, .inl (.goto (-61)), 3), (68, .inl (.iload_n 2), 1), (69, .inl (.iconst 2), 1), (70, .inl (.if_icmp .ge 4), 3), (73, .inl (.return_), 1), (74, .inl (.iconst 0), 1), (75, .inl (.istore_n 3), 1), (76, .inl (.iload_n 3), 1), (77, .inl (.aload_n 0), 1), (78, .inr (2, 267, 1), 3)],
  [(81, .inl (.if_icmp .ge 16), 3), (84, .inl (.aload_n 0), 1), (85, .inr (0, 9, 20), 3), (88, .inl (.iload_n 3), 1), (89, .inl (.iload_n 3), 1), (90, .inl (.iastore), 1), (91, .inl (.iinc 3 1), 3), (94, .inl (.goto (-18)), 3)],
  [(97, .inl (.aload_n 0), 1), (98, .inr (0, 9, 0), 3), (101, .inl (.bipush 7), 2), (103, .inl (.iload_n 1), 1), (104, .inl (.iadd), 1), (105, .inl (.iaload), 1), (106, .inl (.iload_n 2), 1), (107, .inl (.irem), 1), (108, .inl (.iload_n 2), 1), (109, .inl (.iadd), 1), (110, .inl (.iload_n 2), 1), (111, .inl (.irem), 1)],
  [(112, .inl (.istore_n 3), 1), (113, .inl (.iconst 0), 1), (114, .inl (.istore 4), 2), (116, .inl (.iload 4), 2), (118, .inl (.iload_n 2), 1), (119, .inl (.if_icmp .ge 32), 3), (122, .inl (.aload_n 0), 1), (123, .inr (0, 9, 20), 3), (126, .inl (.aload_n 0), 1), (127, .inr (0, 9, 19), 3)],
  [(130, .inl (.iload 4), 2), (132, .inl (.iaload), 1), (133, .inl (.aload_n 0), 1), (134, .inr (0, 9, 19), 3), (137, .inl (.iload 4), 2), (139, .inl (.iload_n 3), 1), (140, .inl (.iadd), 1), (141, .inl (.iload_n 2), 1), (142, .inl (.irem), 1), (143, .inl (.iaload), 1)],
  [(144, .inl (.iastore), 1), (145, .inl (.iinc 4 1), 3), (148, .inl (.goto (-32)), 3), (151, .inl (.iconst 0), 1), (152, .inl (.istore 4), 2), (154, .inl (.iload 4), 2), (156, .inl (.aload_n 0), 1), (157, .inr (2, 267, 1), 3)],
  [(160, .inl (.if_icmp .ge 28), 3), (163, .inl (.aload_n 0), 1), (164, .inr (0, 9, 17), 3), (167, .inl (.iload 4), 2), (169, .inl (.aload_n 0), 1), (170, .inr (0, 9, 20), 3), (173, .inl (.aload_n 0), 1), (174, .inr (0, 9, 17), 3)],
  [(177, .inl (.iload 4), 2), (179, .inl (.iaload), 1), (180, .inl (.iaload), 1), (181, .inl (.iastore), 1), (182, .inl (.iinc 4 1), 3), (185, .inl (.goto (-31)), 3), (188, .inl (.return_), 1)]]
-- MovingNamesModel.has(II)Z
set_option maxRecDepth 100000 in
noncomputable def ab_c270 : List (List (Nat × ab_I × Nat)) := [[(0, .inl (.iload_n 0), 1), (1, .inl (.iload_n 1), 1), (2, .inl (.ishr), 1), (3, .inl (.iconst 1), 1), (4, .inl (.iand), 1), (5, .inl (.iconst 1), 1), (6, .inl (.if_icmp .ne 7), 3), (9, .inl (.iconst 1), 1), (10, .inl (.goto 4), 3), (13, .inl (.iconst 0), 1), (14, .inl (.ireturn), 1)]]
-- MovingNamesModel.cycleOf(I)I
set_option maxRecDepth 100000 in
noncomputable def ab_c271 : List (List (Nat × ab_I × Nat)) := [[(0, .inl (.iconst 1), 1), (1, .inl (.istore_n 2), 1), (2, .inl (.aload_n 0), 1), (3, .inr (0, 9, 17), 3), (6, .inl (.iload_n 1), 1), (7, .inl (.iaload), 1), (8, .inl (.istore_n 3), 1), (9, .inl (.iload_n 3), 1), (10, .inl (.iload_n 1), 1), (11, .inl (.if_icmp .eq 16), 3), (14, .inl (.iinc 2 1), 3)],
  [(17, .inl (.aload_n 0), 1), (18, .inr (0, 9, 17), 3), (21, .inl (.iload_n 3), 1), (22, .inl (.iaload), 1), (23, .inl (.istore_n 3), 1), (24, .inl (.goto (-15)), 3), (27, .inl (.iload_n 2), 1), (28, .inl (.ireturn), 1)]]
-- MovingNamesModel.peopleIn(II)I
set_option maxRecDepth 100000 in
noncomputable def ab_c272 : List (List (Nat × ab_I × Nat)) := [[(0, .inl (.iconst 0), 1), (1, .inl (.istore_n 3), 1), (2, .inl (.iconst 0), 1), (3, .inl (.istore 4), 2), (5, .inl (.iload 4), 2), (7, .inl (.aload_n 0), 1), (8, .inr (0, 9, 0), 3), (11, .inl (.iconst 3), 1), (12, .inl (.iaload), 1), (13, .inl (.if_icmp .ge 53), 3)],
  [(16, .inl (.iload_n 3), 1), (17, .inl (.aload_n 0), 1), (18, .inr (0, 9, 0), 3), (21, .inl (.bipush 116), 2), (23, .inl (.iload 4), 2), (25, .inl (.iadd), 1), (26, .inl (.iaload), 1), (27, .inl (.iload_n 1), 1), (28, .inl (.if_icmp .ne 29), 3), (31, .inl (.iload_n 2), 1)],
  [(32, .inl (.iconst (-1)), 1), (33, .inl (.if_icmp .eq 17), 3), (36, .inl (.aload_n 0), 1), (37, .inr (0, 9, 0), 3), (40, .inl (.bipush 124), 2), (42, .inl (.iload 4), 2), (44, .inl (.iadd), 1), (45, .inl (.iaload), 1), (46, .inl (.iload_n 2), 1), (47, .inl (.if_icmp .ne 10), 3)],
  [(50, .inl (.iconst 1), 1), (51, .inl (.iload 4), 2), (53, .inl (.ishl), 1), (54, .inl (.goto 4), 3), (57, .inl (.iconst 0), 1), (58, .inl (.ior), 1), (59, .inl (.istore_n 3), 1), (60, .inl (.iinc 4 1), 3), (63, .inl (.goto (-58)), 3)],
  [(66, .inl (.iload_n 3), 1), (67, .inl (.ireturn), 1)]]
-- MovingNamesModel.round(II)I
set_option maxRecDepth 100000 in
noncomputable def ab_c273 : List (List (Nat × ab_I × Nat)) := [[(0, .inl (.aload_n 0), 1), (1, .inl (.aload_n 0), 1), (2, .inl (.iload_n 1), 1), (3, .inr (2, 274, 2), 3), (6, .inl (.ifCond .ne 7), 3), (9, .inl (.iconst 1), 1), (10, .inl (.goto 34), 3), (13, .inl (.iload_n 2), 1), (14, .inl (.i2l), 1), (15, .inl (.lconst 0), 1)],
  [(16, .inr (9, 0, 2), 3), (19, .inr (2, 232, 3), 3), (22, .inl (.ifCond .ne 17), 3), (25, .inl (.iload_n 2), 1), (26, .inl (.i2l), 1), (27, .inr (9, 0, 10), 3), (30, .inr (9, 0, 29), 3)],
  [(33, .inr (2, 232, 3), 3), (36, .inl (.ifCond .eq 7), 3), (39, .inl (.iconst 0), 1), (40, .inl (.goto 4), 3), (43, .inl (.iconst 2), 1), (44, .inr (1, 9, 4), 3), (47, .inl (.aload_n 0), 1)],
  [(48, .inr (0, 9, 4), 3), (51, .inl (.ifCond .le 5), 3), (54, .inl (.iconst 0), 1), (55, .inl (.ireturn), 1), (56, .inl (.aload_n 0), 1), (57, .inr (0, 9, 0), 3), (60, .inl (.bipush 32), 2), (62, .inl (.iload_n 1), 1), (63, .inl (.iadd), 1)],
  [(64, .inl (.iaload), 1), (65, .inl (.istore_n 3), 1), (66, .inl (.iload_n 2), 1), (67, .inl (.bipush 10), 2), (69, .inl (.if_icmp .lt 33), 3), (72, .inl (.iload_n 2), 1), (73, .inl (.bipush 10), 2), (75, .inl (.isub), 1), (76, .inl (.iload_n 3), 1), (77, .inl (.if_icmp .ge 23), 3)],
  [(80, .inl (.aload_n 0), 1), (81, .inr (0, 9, 0), 3), (84, .inl (.bipush 36), 2), (86, .inl (.bipush 20), 2), (88, .inl (.iload_n 1), 1), (89, .inl (.imul), 1), (90, .inl (.iadd), 1), (91, .inl (.iload_n 2), 1), (92, .inl (.iadd), 1), (93, .inl (.bipush 10), 2), (95, .inl (.isub), 1)],
  [(96, .inl (.iaload), 1), (97, .inl (.goto 4), 3), (100, .inl (.iconst (-1)), 1), (101, .inl (.ireturn), 1), (102, .inl (.iload_n 2), 1), (103, .inl (.ifCond .ne 7), 3), (106, .inl (.iload_n 3), 1), (107, .inl (.goto 40), 3), (110, .inl (.iload_n 2), 1), (111, .inl (.iconst 1), 1)],
  [(112, .inl (.if_icmp .ne 18), 3), (115, .inl (.aload_n 0), 1), (116, .inr (0, 9, 0), 3), (119, .inl (.bipush 7), 2), (121, .inl (.iload_n 1), 1), (122, .inl (.iadd), 1), (123, .inl (.iaload), 1), (124, .inr (2, 92, 1), 3), (127, .inl (.goto 20), 3)],
  [(130, .inl (.aload_n 0), 1), (131, .inr (0, 9, 0), 3), (134, .inl (.bipush 7), 2), (136, .inl (.iload_n 1), 1), (137, .inl (.iadd), 1), (138, .inl (.iaload), 1), (139, .inl (.ifCond .ge 7), 3), (142, .inl (.iconst 1), 1), (143, .inl (.goto 4), 3)],
  [(146, .inl (.iconst 0), 1), (147, .inl (.ireturn), 1)]]
-- MovingNamesModel.isRound(I)Z
set_option maxRecDepth 100000 in
noncomputable def ab_c274 : List (List (Nat × ab_I × Nat)) := [[(0, .inl (.iload_n 1), 1), (1, .inl (.i2l), 1), (2, .inl (.lconst 0), 1), (3, .inl (.aload_n 0), 1), (4, .inr (0, 9, 0), 3), (7, .inl (.iconst 2), 1), (8, .inl (.iaload), 1), (9, .inl (.iconst 1), 1), (10, .inl (.isub), 1), (11, .inl (.i2l), 1), (12, .inr (2, 232, 3), 3), (15, .inl (.ireturn), 1)]]
-- MovingNamesModel.person(II)I
set_option maxRecDepth 100000 in
noncomputable def ab_c275 : List (List (Nat × ab_I × Nat)) := [[(0, .inl (.aload_n 0), 1), (1, .inl (.aload_n 0), 1), (2, .inl (.iload_n 1), 1), (3, .inr (2, 276, 2), 3), (6, .inl (.ifCond .ne 7), 3), (9, .inl (.iconst 1), 1), (10, .inl (.goto 20), 3), (13, .inl (.iload_n 2), 1), (14, .inl (.i2l), 1), (15, .inl (.lconst 0), 1)],
  [(16, .inr (9, 0, 2), 3), (19, .inr (2, 232, 3), 3), (22, .inl (.ifCond .eq 7), 3), (25, .inl (.iconst 0), 1), (26, .inl (.goto 4), 3), (29, .inl (.iconst 2), 1), (30, .inr (1, 9, 4), 3)],
  [(33, .inl (.aload_n 0), 1), (34, .inr (0, 9, 4), 3), (37, .inl (.ifCond .le 5), 3), (40, .inl (.iconst 0), 1), (41, .inl (.ireturn), 1), (42, .inl (.aload_n 0), 1), (43, .inr (0, 9, 0), 3), (46, .inl (.bipush 116), 2)],
  [(48, .inl (.iload_n 1), 1), (49, .inl (.iadd), 1), (50, .inl (.iaload), 1), (51, .inl (.istore_n 3), 1), (52, .inl (.iload_n 2), 1), (53, .inl (.ifCond .ne 7), 3), (56, .inl (.iload_n 3), 1), (57, .inl (.goto 29), 3), (60, .inl (.iload_n 2), 1), (61, .inl (.iconst 1), 1), (62, .inl (.if_icmp .ne 15), 3)],
  [(65, .inl (.aload_n 0), 1), (66, .inr (0, 9, 0), 3), (69, .inl (.bipush 124), 2), (71, .inl (.iload_n 1), 1), (72, .inl (.iadd), 1), (73, .inl (.iaload), 1), (74, .inl (.goto 12), 3), (77, .inl (.aload_n 0), 1), (78, .inr (0, 9, 0), 3)],
  [(81, .inl (.bipush 11), 2), (83, .inl (.iload_n 3), 1), (84, .inl (.iadd), 1), (85, .inl (.iaload), 1), (86, .inl (.ireturn), 1)]]
-- MovingNamesModel.isBody(I)Z
set_option maxRecDepth 100000 in
noncomputable def ab_c276 : List (List (Nat × ab_I × Nat)) := [[(0, .inl (.iload_n 1), 1), (1, .inl (.i2l), 1), (2, .inl (.lconst 0), 1), (3, .inl (.aload_n 0), 1), (4, .inr (0, 9, 0), 3), (7, .inl (.iconst 3), 1), (8, .inl (.iaload), 1), (9, .inl (.iconst 1), 1), (10, .inl (.isub), 1), (11, .inl (.i2l), 1), (12, .inr (2, 232, 3), 3), (15, .inl (.ireturn), 1)]]
-- MovingNamesModel.where(I)I
set_option maxRecDepth 100000 in
noncomputable def ab_c277 : List (List (Nat × ab_I × Nat)) := [[(0, .inl (.aload_n 0), 1), (1, .inl (.iconst 0), 1), (2, .inr (1, 9, 4), 3), (5, .inl (.aload_n 0), 1), (6, .inl (.iload_n 1), 1), (7, .inl (.i2l), 1), (8, .inr (2, 266, 2), 3), (11, .inl (.ifCond .eq 11), 3), (14, .inl (.aload_n 0), 1), (15, .inl (.iload_n 1), 1)],
  [(16, .inr (2, 278, 2), 3), (19, .inl (.goto 8), 3), (22, .inl (.aload_n 0), 1), (23, .inl (.iconst 1), 1), (24, .inr (2, 233, 2), 3), (27, .inl (.ireturn), 1)]]
-- MovingNamesModel.hangs(I)I
set_option maxRecDepth 100000 in
noncomputable def ab_c278 : List (List (Nat × ab_I × Nat)) := [[(0, .inl (.iconst 0), 1), (1, .inl (.istore_n 2), 1), (2, .inl (.iconst 0), 1), (3, .inl (.istore_n 3), 1), (4, .inl (.iload_n 3), 1), (5, .inl (.aload_n 0), 1), (6, .inr (2, 267, 1), 3), (9, .inl (.if_icmp .ge 32), 3), (12, .inl (.iload_n 2), 1), (13, .inl (.aload_n 0), 1), (14, .inr (0, 9, 0), 3)],
  [(17, .inl (.bipush 11), 2), (19, .inl (.iload_n 3), 1), (20, .inl (.iadd), 1), (21, .inl (.iaload), 1), (22, .inl (.iload_n 1), 1), (23, .inl (.if_icmp .ne 9), 3), (26, .inl (.iconst 1), 1), (27, .inl (.iload_n 3), 1), (28, .inl (.ishl), 1), (29, .inl (.goto 4), 3)],
  [(32, .inl (.iconst 0), 1), (33, .inl (.ior), 1), (34, .inl (.istore_n 2), 1), (35, .inl (.iinc 3 1), 3), (38, .inl (.goto (-34)), 3), (41, .inl (.iload_n 2), 1), (42, .inl (.ireturn), 1)]]
-- MovingNamesModel.finds(II)I
set_option maxRecDepth 100000 in
noncomputable def ab_c279 : List (List (Nat × ab_I × Nat)) := [[(0, .inl (.aload_n 0), 1), (1, .inl (.iload_n 1), 1), (2, .inl (.iload_n 2), 1), (3, .inl (.iconst 0), 1), (4, .inr (2, 280, 4), 3), (7, .inl (.ireturn), 1)]]
-- MovingNamesModel.findsIn(III)I
set_option maxRecDepth 100000 in
noncomputable def ab_c280 : List (List (Nat × ab_I × Nat)) := [[(0, .inl (.aload_n 0), 1), (1, .inl (.aload_n 0), 1), (2, .inl (.iload_n 1), 1), (3, .inl (.i2l), 1), (4, .inr (2, 266, 2), 3), (7, .inl (.ifCond .ne 7), 3), (10, .inl (.iconst 1), 1), (11, .inl (.goto 23), 3), (14, .inl (.aload_n 0), 1), (15, .inl (.iload_n 2), 1)],
  [(16, .inr (2, 281, 2), 3), (19, .inl (.ifCond .eq 14), 3), (22, .inl (.iload_n 3), 1), (23, .inr (2, 282, 1), 3), (26, .inl (.ifCond .eq 7), 3), (29, .inl (.iconst 0), 1), (30, .inl (.goto 4), 3)],
  [(33, .inl (.iconst 2), 1), (34, .inr (1, 9, 4), 3), (37, .inl (.aload_n 0), 1), (38, .inr (0, 9, 4), 3), (41, .inl (.ifCond .le 5), 3), (44, .inl (.iconst 0), 1), (45, .inl (.ireturn), 1), (46, .inl (.aload_n 0), 1), (47, .inr (2, 268, 1), 3)],
  [(50, .inl (.aload_n 0), 1), (51, .inl (.iload_n 1), 1), (52, .inl (.iload_n 2), 1), (53, .inl (.iload_n 3), 1), (54, .inr (2, 283, 4), 3), (57, .inl (.ireturn), 1)]]
-- MovingNamesModel.isHouse(I)Z
set_option maxRecDepth 100000 in
noncomputable def ab_c281 : List (List (Nat × ab_I × Nat)) := [[(0, .inl (.iload_n 1), 1), (1, .inl (.i2l), 1), (2, .inl (.lconst 1), 1), (3, .inl (.aload_n 0), 1), (4, .inr (0, 9, 0), 3), (7, .inl (.iconst 4), 1), (8, .inl (.iaload), 1), (9, .inl (.i2l), 1), (10, .inr (2, 232, 3), 3), (13, .inl (.ireturn), 1)]]
-- MovingNamesModel.isFar(I)Z
set_option maxRecDepth 100000 in
noncomputable def ab_c282 : List (List (Nat × ab_I × Nat)) := [[(0, .inl (.iload_n 0), 1), (1, .inl (.i2l), 1), (2, .inr (9, 0, (-9999)), 3), (5, .inr (9, 0, 9999), 3), (8, .inr (2, 232, 3), 3), (11, .inl (.ireturn), 1)]]
-- MovingNamesModel.foundBy(III)I
set_option maxRecDepth 100000 in
noncomputable def ab_c283 : List (List (Nat × ab_I × Nat)) := [[(0, .inl (.iconst 0), 1), (1, .inl (.istore 4), 2), (3, .inl (.iconst 0), 1), (4, .inl (.istore 5), 2), (6, .inl (.iload 5), 2), (8, .inl (.aload_n 0), 1), (9, .inr (2, 267, 1), 3), (12, .inl (.if_icmp .ge 36), 3), (15, .inl (.iload 4), 2)],
  [(17, .inl (.aload_n 0), 1), (18, .inl (.iload 5), 2), (20, .inl (.iload_n 3), 1), (21, .inr (2, 284, 3), 3), (24, .inl (.iload_n 1), 1), (25, .inl (.if_icmp .ne 13), 3), (28, .inl (.aload_n 0), 1), (29, .inl (.iload 5), 2), (31, .inl (.iload_n 2), 1)],
  [(32, .inr (2, 272, 3), 3), (35, .inl (.goto 4), 3), (38, .inl (.iconst 0), 1), (39, .inl (.ior), 1), (40, .inl (.istore 4), 2), (42, .inl (.iinc 5 1), 3), (45, .inl (.goto (-39)), 3)],
  [(48, .inl (.iload 4), 2), (50, .inl (.ireturn), 1)]]
-- MovingNamesModel.nameBy(II)I
set_option maxRecDepth 100000 in
noncomputable def ab_c284 : List (List (Nat × ab_I × Nat)) := [[(0, .inl (.aload_n 0), 1), (1, .inr (0, 9, 0), 3), (4, .inl (.bipush 11), 2), (6, .inl (.aload_n 0), 1), (7, .inl (.iload_n 1), 1), (8, .inl (.iload_n 2), 1), (9, .inl (.ineg), 1), (10, .inr (2, 285, 3), 3), (13, .inl (.iadd), 1), (14, .inl (.iaload), 1), (15, .inl (.ireturn), 1)]]
-- MovingNamesModel.comes(II)I
set_option maxRecDepth 100000 in
noncomputable def ab_c285 : List (List (Nat × ab_I × Nat)) := [[(0, .inl (.aload_n 0), 1), (1, .inl (.iload_n 1), 1), (2, .inr (2, 271, 2), 3), (5, .inl (.istore_n 3), 1), (6, .inl (.iload_n 1), 1), (7, .inl (.istore 4), 2), (9, .inl (.iload_n 2), 1), (10, .inl (.iload_n 3), 1), (11, .inl (.irem), 1), (12, .inl (.iload_n 3), 1), (13, .inl (.iadd), 1), (14, .inl (.iload_n 3), 1), (15, .inl (.irem), 1)],
  [(16, .inl (.istore 5), 2), (18, .inl (.iload 5), 2), (20, .inl (.ifCond .le 18), 3), (23, .inl (.aload_n 0), 1), (24, .inr (0, 9, 17), 3), (27, .inl (.iload 4), 2), (29, .inl (.iaload), 1), (30, .inl (.istore 4), 2)],
  [(32, .inl (.iinc 5 (-1)), 3), (35, .inl (.goto (-17)), 3), (38, .inl (.iload 4), 2), (40, .inl (.ireturn), 1)]]
-- MovingNamesModel.nameIn(II)I
set_option maxRecDepth 100000 in
noncomputable def ab_c286 : List (List (Nat × ab_I × Nat)) := [[(0, .inl (.aload_n 0), 1), (1, .inl (.aload_n 0), 1), (2, .inl (.iload_n 1), 1), (3, .inl (.i2l), 1), (4, .inr (2, 266, 2), 3), (7, .inl (.ifCond .ne 7), 3), (10, .inl (.iconst 1), 1), (11, .inl (.goto 15), 3), (14, .inl (.iload_n 2), 1), (15, .inr (2, 282, 1), 3)],
  [(18, .inl (.ifCond .eq 7), 3), (21, .inl (.iconst 0), 1), (22, .inl (.goto 4), 3), (25, .inl (.iconst 2), 1), (26, .inr (1, 9, 4), 3), (29, .inl (.aload_n 0), 1), (30, .inr (0, 9, 4), 3)],
  [(33, .inl (.ifCond .le 5), 3), (36, .inl (.iconst 0), 1), (37, .inl (.ireturn), 1), (38, .inl (.aload_n 0), 1), (39, .inr (2, 268, 1), 3), (42, .inl (.aload_n 0), 1), (43, .inl (.iload_n 1), 1), (44, .inl (.iload_n 2), 1), (45, .inr (2, 284, 3), 3)],
  [(48, .inl (.ireturn), 1)]]
-- MovingNamesModel.goesTo(II)I
set_option maxRecDepth 100000 in
noncomputable def ab_c287 : List (List (Nat × ab_I × Nat)) := [[(0, .inl (.aload_n 0), 1), (1, .inl (.aload_n 0), 1), (2, .inl (.iload_n 1), 1), (3, .inl (.i2l), 1), (4, .inr (2, 266, 2), 3), (7, .inl (.ifCond .ne 7), 3), (10, .inl (.iconst 1), 1), (11, .inl (.goto 15), 3), (14, .inl (.iload_n 2), 1), (15, .inr (2, 282, 1), 3)],
  [(18, .inl (.ifCond .eq 7), 3), (21, .inl (.iconst 0), 1), (22, .inl (.goto 4), 3), (25, .inl (.iconst 2), 1), (26, .inr (1, 9, 4), 3), (29, .inl (.aload_n 0), 1), (30, .inr (0, 9, 4), 3)],
  [(33, .inl (.ifCond .le 5), 3), (36, .inl (.iconst 0), 1), (37, .inl (.ireturn), 1), (38, .inl (.aload_n 0), 1), (39, .inr (2, 268, 1), 3), (42, .inl (.aload_n 0), 1), (43, .inl (.iload_n 1), 1), (44, .inl (.iload_n 2), 1), (45, .inr (2, 285, 3), 3)],
  [(48, .inl (.ireturn), 1)]]
-- MovingNamesModel.nights(I)I
set_option maxRecDepth 100000 in
noncomputable def ab_c288 : List (List (Nat × ab_I × Nat)) := [[(0, .inl (.aload_n 0), 1), (1, .inl (.iconst 0), 1), (2, .inr (1, 9, 4), 3), (5, .inl (.iload_n 1), 1), (6, .inl (.i2l), 1), (7, .inl (.lconst 1), 1), (8, .inr (9, 0, 99), 3), (11, .inr (2, 232, 3), 3), (14, .inl (.ifCond .ne 9), 3)],
  [(17, .inl (.aload_n 0), 1), (18, .inl (.iconst 1), 1), (19, .inr (2, 233, 2), 3), (22, .inl (.ireturn), 1), (23, .inl (.aload_n 0), 1), (24, .inr (2, 289, 1), 3), (27, .inl (.iconst 0), 1), (28, .inl (.istore_n 2), 1), (29, .inl (.iconst 0), 1), (30, .inl (.istore_n 3), 1), (31, .inl (.iload_n 3), 1)],
  [(32, .inl (.iload_n 1), 1), (33, .inl (.if_icmp .ge 16), 3), (36, .inl (.iload_n 2), 1), (37, .inl (.aload_n 0), 1), (38, .inr (2, 290, 1), 3), (41, .inl (.iadd), 1), (42, .inl (.istore_n 2), 1), (43, .inl (.iinc 3 1), 3), (46, .inl (.goto (-15)), 3)],
  [(49, .inl (.iload_n 2), 1), (50, .inl (.ireturn), 1)]]
-- MovingNamesModel.keeps()V
set_option maxRecDepth 100000 in
noncomputable def ab_c289 : List (List (Nat × ab_I × Nat)) := [[(0, .inl (.aload_n 0), 1), (1, .inr (0, 9, 0), 3), (4, .inl (.bipush 6), 2), (6, .inl (.iaload), 1), (7, .inl (.bipush 10), 2), (9, .inl (.if_icmp .ne 46), 3), (12, .inl (.sipush 134), 3), (15, .inl (.istore_n 1), 1)],
  [(16, .inl (.iload_n 1), 1), (17, .inl (.sipush 1241), 3), (20, .inl (.if_icmp .ge 24), 3), (23, .inl (.aload_n 0), 1), (24, .inr (0, 9, 0), 3), (27, .inl (.iload_n 1), 1), (28, .inl (.aload_n 0), 1), (29, .inr (0, 9, 0), 3)],
  [(32, .inl (.iload_n 1), 1), (33, .inl (.bipush 123), 2), (35, .inl (.iadd), 1), (36, .inl (.iaload), 1), (37, .inl (.iastore), 1), (38, .inl (.iinc 1 1), 3), (41, .inl (.goto (-25)), 3), (44, .inl (.aload_n 0), 1), (45, .inr (0, 9, 0), 3)],
  [(48, .inl (.bipush 6), 2), (50, .inl (.dup2), 1), (51, .inl (.iaload), 1), (52, .inl (.iconst 1), 1), (53, .inl (.isub), 1), (54, .inl (.iastore), 1), (55, .inl (.iconst 0), 1), (56, .inl (.istore_n 1), 1), (57, .inl (.iload_n 1), 1), (58, .inl (.bipush 123), 2), (60, .inl (.if_icmp .ge 39), 3), (63, .inl (.aload_n 0), 1)],
  [(64, .inr (0, 9, 0), 3), (67, .inl (.sipush 134), 3), (70, .inl (.bipush 123), 2), (72, .inl (.aload_n 0), 1), (73, .inr (0, 9, 0), 3), (76, .inl (.bipush 6), 2), (78, .inl (.iaload), 1), (79, .inl (.imul), 1)],
  [(80, .inl (.iadd), 1), (81, .inl (.iload_n 1), 1), (82, .inl (.iadd), 1), (83, .inl (.aload_n 0), 1), (84, .inr (0, 9, 0), 3), (87, .inl (.bipush 11), 2), (89, .inl (.iload_n 1), 1), (90, .inl (.iadd), 1), (91, .inl (.iaload), 1), (92, .inl (.iastore), 1), (93, .inl (.iinc 1 1), 3)],
  [(96, .inl (.goto (-39)), 3), (99, .inl (.aload_n 0), 1), (100, .inr (0, 9, 0), 3), (103, .inl (.bipush 6), 2), (105, .inl (.dup2), 1), (106, .inl (.iaload), 1), (107, .inl (.iconst 1), 1), (108, .inl (.iadd), 1), (109, .inl (.iastore), 1), (110, .inl (.return_), 1)]]
-- MovingNamesModel.night()I
set_option maxRecDepth 100000 in
noncomputable def ab_c290 : List (List (Nat × ab_I × Nat)) := [[(0, .inl (.aload_n 0), 1), (1, .inr (2, 291, 1), 3), (4, .inl (.istore_n 1), 1), (5, .inl (.iload_n 1), 1), (6, .inl (.ifCond .ne 86), 3), (9, .inl (.aload_n 0), 1), (10, .inr (2, 268, 1), 3), (13, .inl (.iconst 0), 1), (14, .inl (.istore_n 2), 1), (15, .inl (.iload_n 2), 1)],
  [(16, .inl (.aload_n 0), 1), (17, .inr (2, 267, 1), 3), (20, .inl (.if_icmp .ge 29), 3), (23, .inl (.aload_n 0), 1), (24, .inr (0, 9, 23), 3), (27, .inl (.aload_n 0), 1), (28, .inr (0, 9, 17), 3), (31, .inl (.iload_n 2), 1)],
  [(32, .inl (.iaload), 1), (33, .inl (.aload_n 0), 1), (34, .inr (0, 9, 0), 3), (37, .inl (.bipush 11), 2), (39, .inl (.iload_n 2), 1), (40, .inl (.iadd), 1), (41, .inl (.iaload), 1), (42, .inl (.iastore), 1), (43, .inl (.iinc 2 1), 3), (46, .inl (.goto (-31)), 3)],
  [(49, .inl (.iconst 0), 1), (50, .inl (.istore_n 2), 1), (51, .inl (.iload_n 2), 1), (52, .inl (.aload_n 0), 1), (53, .inr (2, 267, 1), 3), (56, .inl (.if_icmp .ge 24), 3), (59, .inl (.aload_n 0), 1), (60, .inr (0, 9, 0), 3), (63, .inl (.bipush 11), 2)],
  [(65, .inl (.iload_n 2), 1), (66, .inl (.iadd), 1), (67, .inl (.aload_n 0), 1), (68, .inr (0, 9, 23), 3), (71, .inl (.iload_n 2), 1), (72, .inl (.iaload), 1), (73, .inl (.iastore), 1), (74, .inl (.iinc 2 1), 3), (77, .inl (.goto (-26)), 3)],
  [(80, .inl (.aload_n 0), 1), (81, .inr (0, 9, 0), 3), (84, .inl (.sipush 133), 3), (87, .inl (.dup2), 1), (88, .inl (.iaload), 1), (89, .inl (.iconst 1), 1), (90, .inl (.iadd), 1), (91, .inl (.iastore), 1), (92, .inl (.aload_n 0), 1), (93, .inr (0, 9, 0), 3)],
  [(96, .inl (.sipush 132), 3), (99, .inl (.dup2), 1), (100, .inl (.iaload), 1), (101, .inl (.iconst 1), 1), (102, .inl (.iadd), 1), (103, .inl (.iastore), 1), (104, .inl (.iload_n 1), 1), (105, .inl (.ifCond .eq 7), 3), (108, .inl (.iconst 0), 1), (109, .inl (.goto 4), 3)],
  [(112, .inl (.iconst 1), 1), (113, .inl (.ireturn), 1)]]
-- MovingNamesModel.isRestNow()Z
set_option maxRecDepth 100000 in
noncomputable def ab_c291 : List (List (Nat × ab_I × Nat)) := [[(0, .inl (.aload_n 0), 1), (1, .inl (.aload_n 0), 1), (2, .inr (0, 9, 0), 3), (5, .inl (.sipush 132), 3), (8, .inl (.iaload), 1), (9, .inl (.aload_n 0), 1), (10, .inr (0, 9, 0), 3), (13, .inl (.sipush 133), 3)],
  [(16, .inl (.iaload), 1), (17, .inl (.aload_n 0), 1), (18, .inr (2, 292, 1), 3), (21, .inr (2, 294, 4), 3), (24, .inl (.ireturn), 1)]]
-- MovingNamesModel.wrong()I
set_option maxRecDepth 100000 in
noncomputable def ab_c292 : List (List (Nat × ab_I × Nat)) := [[(0, .inl (.iconst 0), 1), (1, .inl (.istore_n 1), 1), (2, .inl (.iconst 0), 1), (3, .inl (.istore_n 2), 1), (4, .inl (.iload_n 2), 1), (5, .inl (.aload_n 0), 1), (6, .inr (2, 267, 1), 3), (9, .inl (.if_icmp .ge 37), 3), (12, .inl (.iload_n 1), 1), (13, .inl (.aload_n 0), 1), (14, .inl (.aload_n 0), 1), (15, .inr (0, 9, 0), 3)],
  [(18, .inl (.bipush 11), 2), (20, .inl (.iload_n 2), 1), (21, .inl (.iadd), 1), (22, .inl (.iaload), 1), (23, .inr (2, 278, 2), 3), (26, .inr (2, 293, 1), 3), (29, .inl (.iconst 1), 1), (30, .inl (.if_icmp .le 7), 3)],
  [(33, .inl (.iconst 1), 1), (34, .inl (.goto 4), 3), (37, .inl (.iconst 0), 1), (38, .inl (.iadd), 1), (39, .inl (.istore_n 1), 1), (40, .inl (.iinc 2 1), 3), (43, .inl (.goto (-39)), 3), (46, .inl (.iload_n 1), 1), (47, .inl (.ireturn), 1)]]
-- MovingNamesModel.size(I)I
set_option maxRecDepth 100000 in
noncomputable def ab_c293 : List (List (Nat × ab_I × Nat)) := [[(0, .inl (.iconst 0), 1), (1, .inl (.istore_n 1), 1), (2, .inl (.iload_n 0), 1), (3, .inl (.istore_n 2), 1), (4, .inl (.iload_n 2), 1), (5, .inl (.ifCond .eq 15), 3), (8, .inl (.iinc 1 1), 3), (11, .inl (.iload_n 2), 1), (12, .inl (.iload_n 2), 1), (13, .inl (.iconst 1), 1), (14, .inl (.isub), 1), (15, .inl (.iand), 1)],
  [(16, .inl (.istore_n 2), 1), (17, .inl (.goto (-13)), 3), (20, .inl (.iload_n 1), 1), (21, .inl (.ireturn), 1)]]
-- MovingNamesModel.isRest(III)Z
set_option maxRecDepth 100000 in
noncomputable def ab_c294 : List (List (Nat × ab_I × Nat)) := [[(0, .inl (.iconst 0), 1), (1, .inl (.istore 4), 2), (3, .inl (.iconst 0), 1), (4, .inl (.istore 5), 2), (6, .inl (.iload 5), 2), (8, .inl (.aload_n 0), 1), (9, .inr (0, 9, 0), 3), (12, .inl (.iconst 5), 1), (13, .inl (.iaload), 1), (14, .inl (.if_icmp .ge 136), 3)],
  [(17, .inl (.aload_n 0), 1), (18, .inr (0, 9, 0), 3), (21, .inl (.sipush 1364), 3), (24, .inl (.iload 5), 2), (26, .inl (.iadd), 1), (27, .inl (.iaload), 1), (28, .inl (.istore 6), 2), (30, .inl (.iload 6), 2)],
  [(32, .inl (.bipush 100), 2), (34, .inl (.if_icmp .lt 45), 3), (37, .inl (.aload_n 0), 1), (38, .inr (0, 9, 21), 3), (41, .inl (.iload 4), 2), (43, .inl (.iload 6), 2), (45, .inl (.sipush 1000), 3)],
  [(48, .inl (.if_icmp .lt 12), 3), (51, .inl (.iload 6), 2), (53, .inl (.sipush 1000), 3), (56, .inl (.isub), 1), (57, .inl (.goto 15), 3), (60, .inl (.aload_n 0), 1), (61, .inl (.iload 6), 2), (63, .inl (.bipush 100), 2)],
  [(65, .inl (.isub), 1), (66, .inl (.iload_n 1), 1), (67, .inl (.iload_n 2), 1), (68, .inl (.iload_n 3), 1), (69, .inr (2, 295, 5), 3), (72, .inl (.iastore), 1), (73, .inl (.iinc 4 1), 3), (76, .inl (.goto 68), 3), (79, .inl (.iload 6), 2)],
  [(81, .inl (.bipush 18), 2), (83, .inl (.if_icmp .ne 26), 3), (86, .inl (.aload_n 0), 1), (87, .inr (0, 9, 21), 3), (90, .inl (.iload 4), 2), (92, .inl (.iconst 1), 1), (93, .inl (.isub), 1), (94, .inl (.iconst 1), 1), (95, .inl (.aload_n 0), 1)],
  [(96, .inr (0, 9, 21), 3), (99, .inl (.iload 4), 2), (101, .inl (.iconst 1), 1), (102, .inl (.isub), 1), (103, .inl (.iaload), 1), (104, .inl (.isub), 1), (105, .inl (.iastore), 1), (106, .inl (.goto 38), 3), (109, .inl (.iinc 4 (-1)), 3)],
  [(112, .inl (.aload_n 0), 1), (113, .inr (0, 9, 21), 3), (116, .inl (.iload 4), 2), (118, .inl (.iconst 1), 1), (119, .inl (.isub), 1), (120, .inl (.iload 6), 2), (122, .inl (.aload_n 0), 1), (123, .inr (0, 9, 21), 3), (126, .inl (.iload 4), 2)],
  [(128, .inl (.iconst 1), 1), (129, .inl (.isub), 1), (130, .inl (.iaload), 1), (131, .inl (.i2l), 1), (132, .inl (.aload_n 0), 1), (133, .inr (0, 9, 21), 3), (136, .inl (.iload 4), 2), (138, .inl (.iaload), 1), (139, .inl (.i2l), 1), (140, .inr (2, 296, 3), 3), (143, .inl (.iastore), 1)],
  [(144, .inl (.iinc 5 1), 3), (147, .inl (.goto (-141)), 3), (150, .inl (.iload 4), 2), (152, .inl (.ifCond .le 17), 3), (155, .inl (.aload_n 0), 1), (156, .inr (0, 9, 21), 3), (159, .inl (.iconst 0), 1)],
  [(160, .inl (.iaload), 1), (161, .inl (.iconst 1), 1), (162, .inl (.if_icmp .ne 7), 3), (165, .inl (.iconst 1), 1), (166, .inl (.goto 4), 3), (169, .inl (.iconst 0), 1), (170, .inl (.ireturn), 1)]]
-- MovingNamesModel.wordOf(IIII)I
set_option maxRecDepth 100000 in
noncomputable def ab_c295 : List (List (Nat × ab_I × Nat)) := [[(0, .inl (.iload_n 1), 1), (1, .inl (.ifCond .ne 7), 3), (4, .inl (.iload_n 2), 1), (5, .inl (.goto 44), 3), (8, .inl (.iload_n 1), 1), (9, .inl (.iconst 1), 1), (10, .inl (.if_icmp .ne 10), 3), (13, .inl (.iload_n 2), 1), (14, .inl (.bipush 7), 2)],
  [(16, .inl (.irem), 1), (17, .inl (.goto 32), 3), (20, .inl (.iload_n 1), 1), (21, .inl (.iconst 2), 1), (22, .inl (.if_icmp .ne 11), 3), (25, .inl (.iload_n 3), 1), (26, .inl (.sipush 1000), 3), (29, .inl (.irem), 1), (30, .inl (.goto 19), 3)],
  [(33, .inl (.iload_n 1), 1), (34, .inl (.iconst 3), 1), (35, .inl (.if_icmp .ne 12), 3), (38, .inl (.aload_n 0), 1), (39, .inr (0, 9, 0), 3), (42, .inl (.iconst 3), 1), (43, .inl (.iaload), 1), (44, .inl (.goto 5), 3), (47, .inl (.iload 4), 2)],
  [(49, .inl (.ireturn), 1)]]
-- MovingNamesModel.done(IJJ)I
set_option maxRecDepth 100000 in
noncomputable def ab_c296 : List (List (Nat × ab_I × Nat)) := [[(0, .inl (.iload_n 0), 1), (1, .inl (.tableswitch 114 10 16 #[43, 50, 57, 64, 76, 88, 100]), 43)],
  [],
  [(44, .inl (.lload_n 1), 1), (45, .inl (.lload_n 3), 1), (46, .inl (.ladd), 1), (47, .inr (2, 297, 1), 3)],
  [(50, .inl (.ireturn), 1), (51, .inl (.lload_n 1), 1), (52, .inl (.lload_n 3), 1), (53, .inl (.lsub), 1), (54, .inr (2, 297, 1), 3), (57, .inl (.ireturn), 1), (58, .inl (.lload_n 1), 1), (59, .inl (.lload_n 3), 1), (60, .inl (.lmul), 1), (61, .inr (2, 297, 1), 3)],
  [(64, .inl (.ireturn), 1), (65, .inl (.lload_n 1), 1), (66, .inl (.lload_n 3), 1), (67, .inl (.lcmp), 1), (68, .inl (.ifCond .ne 7), 3), (71, .inl (.iconst 1), 1), (72, .inl (.goto 4), 3), (75, .inl (.iconst 0), 1), (76, .inl (.ireturn), 1), (77, .inl (.lload_n 1), 1), (78, .inl (.lload_n 3), 1), (79, .inl (.lcmp), 1)],
  [(80, .inl (.ifCond .ge 7), 3), (83, .inl (.iconst 1), 1), (84, .inl (.goto 4), 3), (87, .inl (.iconst 0), 1), (88, .inl (.ireturn), 1), (89, .inl (.lload_n 1), 1), (90, .inl (.lload_n 3), 1), (91, .inl (.lcmp), 1), (92, .inl (.ifCond .le 7), 3), (95, .inl (.iconst 1), 1)],
  [(96, .inl (.goto 4), 3), (99, .inl (.iconst 0), 1), (100, .inl (.ireturn), 1), (101, .inl (.lload_n 1), 1), (102, .inl (.lload_n 3), 1), (103, .inl (.ladd), 1), (104, .inl (.lconst 1), 1), (105, .inl (.lcmp), 1), (106, .inl (.ifCond .le 7), 3), (109, .inl (.iconst 1), 1), (110, .inl (.goto 4), 3)],
  [(113, .inl (.iconst 0), 1), (114, .inl (.ireturn), 1), (115, .inl (.lload_n 1), 1), (116, .inl (.lload_n 3), 1), (117, .inl (.ladd), 1), (118, .inl (.lconst 0), 1), (119, .inl (.lcmp), 1), (120, .inl (.ifCond .le 7), 3), (123, .inl (.iconst 1), 1), (124, .inl (.goto 4), 3), (127, .inl (.iconst 0), 1)],
  [(128, .inl (.ireturn), 1)]]
-- MovingNamesModel.bound(J)I
set_option maxRecDepth 100000 in
noncomputable def ab_c297 : List (List (Nat × ab_I × Nat)) := [[(0, .inr (9, 0, (-1000000)), 3), (3, .inr (9, 0, 1000000), 3), (6, .inl (.lload_n 0), 1), (7, .inr (2, 14, 2), 3), (10, .inr (2, 15, 2), 3), (13, .inl (.l2i), 1), (14, .inl (.ireturn), 1)]]
-- MovingNamesModel.rests()Z
set_option maxRecDepth 100000 in
noncomputable def ab_c298 : List (List (Nat × ab_I × Nat)) := [[(0, .inl (.aload_n 0), 1), (1, .inl (.iconst 0), 1), (2, .inr (1, 9, 4), 3), (5, .inl (.aload_n 0), 1), (6, .inr (2, 291, 1), 3), (9, .inl (.ireturn), 1)]]
-- MovingNamesModel.movesIn(I)I
set_option maxRecDepth 100000 in
noncomputable def ab_c299 : List (List (Nat × ab_I × Nat)) := [[(0, .inl (.aload_n 0), 1), (1, .inl (.iconst 0), 1), (2, .inr (1, 9, 4), 3), (5, .inl (.iload_n 1), 1), (6, .inl (.i2l), 1), (7, .inl (.lconst 0), 1), (8, .inr (9, 0, 999), 3), (11, .inr (2, 232, 3), 3), (14, .inl (.ifCond .ne 9), 3)],
  [(17, .inl (.aload_n 0), 1), (18, .inl (.iconst 1), 1), (19, .inr (2, 233, 2), 3), (22, .inl (.ireturn), 1), (23, .inl (.aload_n 0), 1), (24, .inr (2, 292, 1), 3), (27, .inl (.istore_n 2), 1), (28, .inl (.iconst 0), 1), (29, .inl (.istore_n 3), 1), (30, .inl (.iconst 0), 1), (31, .inl (.istore 4), 2)],
  [(33, .inl (.iload 4), 2), (35, .inl (.iload_n 1), 1), (36, .inl (.if_icmp .ge 46), 3), (39, .inl (.iload_n 3), 1), (40, .inl (.aload_n 0), 1), (41, .inl (.aload_n 0), 1), (42, .inr (0, 9, 0), 3), (45, .inl (.sipush 132), 3)],
  [(48, .inl (.iaload), 1), (49, .inl (.iload 4), 2), (51, .inl (.iadd), 1), (52, .inl (.aload_n 0), 1), (53, .inr (0, 9, 0), 3), (56, .inl (.sipush 133), 3), (59, .inl (.iaload), 1), (60, .inl (.iload_n 3), 1), (61, .inl (.iadd), 1), (62, .inl (.iload_n 2), 1), (63, .inr (2, 294, 4), 3)],
  [(66, .inl (.ifCond .eq 7), 3), (69, .inl (.iconst 0), 1), (70, .inl (.goto 4), 3), (73, .inl (.iconst 1), 1), (74, .inl (.iadd), 1), (75, .inl (.istore_n 3), 1), (76, .inl (.iinc 4 1), 3), (79, .inl (.goto (-46)), 3)],
  [(82, .inl (.iload_n 3), 1), (83, .inl (.ireturn), 1)]]
-- MovingNamesModel.nightsFor(I)I
set_option maxRecDepth 100000 in
noncomputable def ab_c300 : List (List (Nat × ab_I × Nat)) := [[(0, .inl (.aload_n 0), 1), (1, .inl (.iconst 0), 1), (2, .inr (1, 9, 4), 3), (5, .inl (.iload_n 1), 1), (6, .inl (.i2l), 1), (7, .inl (.lconst 0), 1), (8, .inr (9, 0, 999), 3), (11, .inr (2, 232, 3), 3), (14, .inl (.ifCond .ne 9), 3)],
  [(17, .inl (.aload_n 0), 1), (18, .inl (.iconst 1), 1), (19, .inr (2, 233, 2), 3), (22, .inl (.ireturn), 1), (23, .inl (.aload_n 0), 1), (24, .inr (2, 292, 1), 3), (27, .inl (.istore_n 2), 1), (28, .inl (.iconst 0), 1), (29, .inl (.istore_n 3), 1), (30, .inl (.iconst 0), 1), (31, .inl (.istore 4), 2)],
  [(33, .inl (.iload 4), 2), (35, .inl (.sipush 999), 3), (38, .inl (.if_icmp .gt 54), 3), (41, .inl (.iload_n 3), 1), (42, .inl (.iload_n 1), 1), (43, .inl (.if_icmp .ne 6), 3), (46, .inl (.iload 4), 2)],
  [(48, .inl (.ireturn), 1), (49, .inl (.iload_n 3), 1), (50, .inl (.aload_n 0), 1), (51, .inl (.aload_n 0), 1), (52, .inr (0, 9, 0), 3), (55, .inl (.sipush 132), 3), (58, .inl (.iaload), 1), (59, .inl (.iload 4), 2), (61, .inl (.iadd), 1), (62, .inl (.aload_n 0), 1), (63, .inr (0, 9, 0), 3)],
  [(66, .inl (.sipush 133), 3), (69, .inl (.iaload), 1), (70, .inl (.iload_n 3), 1), (71, .inl (.iadd), 1), (72, .inl (.iload_n 2), 1), (73, .inr (2, 294, 4), 3), (76, .inl (.ifCond .eq 7), 3), (79, .inl (.iconst 0), 1)],
  [(80, .inl (.goto 4), 3), (83, .inl (.iconst 1), 1), (84, .inl (.iadd), 1), (85, .inl (.istore_n 3), 1), (86, .inl (.iinc 4 1), 3), (89, .inl (.goto (-56)), 3), (92, .inl (.iconst (-1)), 1), (93, .inl (.ireturn), 1)]]
-- MovingNamesModel.hang(II)I
set_option maxRecDepth 100000 in
noncomputable def ab_c301 : List (List (Nat × ab_I × Nat)) := [[(0, .inl (.aload_n 0), 1), (1, .inl (.iconst 0), 1), (2, .inr (1, 9, 4), 3), (5, .inl (.aload_n 0), 1), (6, .inl (.iload_n 1), 1), (7, .inl (.i2l), 1), (8, .inr (2, 266, 2), 3), (11, .inl (.ifCond .eq 12), 3), (14, .inl (.aload_n 0), 1), (15, .inl (.iload_n 2), 1)],
  [(16, .inl (.i2l), 1), (17, .inr (2, 266, 2), 3), (20, .inl (.ifCond .ne 9), 3), (23, .inl (.aload_n 0), 1), (24, .inl (.iconst 1), 1), (25, .inr (2, 233, 2), 3), (28, .inl (.ireturn), 1), (29, .inl (.aload_n 0), 1), (30, .inr (2, 289, 1), 3)],
  [(33, .inl (.aload_n 0), 1), (34, .inr (0, 9, 0), 3), (37, .inl (.bipush 11), 2), (39, .inl (.iload_n 1), 1), (40, .inl (.iadd), 1), (41, .inl (.iaload), 1), (42, .inl (.istore_n 3), 1), (43, .inl (.aload_n 0), 1), (44, .inr (0, 9, 0), 3), (47, .inl (.bipush 11), 2)],
  [(49, .inl (.iload_n 1), 1), (50, .inl (.iadd), 1), (51, .inl (.iload_n 2), 1), (52, .inl (.iastore), 1), (53, .inl (.iload_n 3), 1), (54, .inl (.ireturn), 1)]]
-- MovingNamesModel.change(II)I
set_option maxRecDepth 100000 in
noncomputable def ab_c302 : List (List (Nat × ab_I × Nat)) := [[(0, .inl (.aload_n 0), 1), (1, .inl (.aload_n 0), 1), (2, .inl (.iload_n 1), 1), (3, .inl (.i2l), 1), (4, .inr (2, 266, 2), 3), (7, .inl (.ifCond .eq 12), 3), (10, .inl (.aload_n 0), 1), (11, .inl (.iload_n 2), 1), (12, .inl (.i2l), 1), (13, .inr (2, 266, 2), 3)],
  [(16, .inl (.ifCond .ne 7), 3), (19, .inl (.iconst 1), 1), (20, .inl (.goto 13), 3), (23, .inl (.iload_n 1), 1), (24, .inl (.iload_n 2), 1), (25, .inl (.if_icmp .ne 7), 3), (28, .inl (.iconst 2), 1), (29, .inl (.goto 4), 3)],
  [(32, .inl (.iconst 0), 1), (33, .inr (1, 9, 4), 3), (36, .inl (.aload_n 0), 1), (37, .inr (0, 9, 4), 3), (40, .inl (.ifCond .le 5), 3), (43, .inl (.iconst 0), 1), (44, .inl (.ireturn), 1), (45, .inl (.aload_n 0), 1), (46, .inr (2, 289, 1), 3)],
  [(49, .inl (.aload_n 0), 1), (50, .inl (.iload_n 1), 1), (51, .inl (.iload_n 2), 1), (52, .inr (2, 303, 3), 3), (55, .inl (.aload_n 0), 1), (56, .inr (2, 292, 1), 3), (59, .inl (.ireturn), 1)]]
-- MovingNamesModel.swaps(II)V
set_option maxRecDepth 100000 in
noncomputable def ab_c303 : List (List (Nat × ab_I × Nat)) := [[(0, .inl (.aload_n 0), 1), (1, .inr (0, 9, 0), 3), (4, .inl (.bipush 11), 2), (6, .inl (.iload_n 1), 1), (7, .inl (.iadd), 1), (8, .inl (.iaload), 1), (9, .inl (.istore_n 3), 1), (10, .inl (.aload_n 0), 1), (11, .inr (0, 9, 0), 3), (14, .inl (.bipush 11), 2)],
  [(16, .inl (.iload_n 1), 1), (17, .inl (.iadd), 1), (18, .inl (.aload_n 0), 1), (19, .inr (0, 9, 0), 3), (22, .inl (.bipush 11), 2), (24, .inl (.iload_n 2), 1), (25, .inl (.iadd), 1), (26, .inl (.iaload), 1), (27, .inl (.iastore), 1), (28, .inl (.aload_n 0), 1), (29, .inr (0, 9, 0), 3)],
  [(32, .inl (.bipush 11), 2), (34, .inl (.iload_n 2), 1), (35, .inl (.iadd), 1), (36, .inl (.iload_n 3), 1), (37, .inl (.iastore), 1), (38, .inl (.return_), 1)]]
-- MovingNamesModel.letIn(III)I
set_option maxRecDepth 100000 in
noncomputable def ab_c304 : List (List (Nat × ab_I × Nat)) := [[(0, .inl (.aload_n 0), 1), (1, .inl (.aload_n 0), 1), (2, .inl (.iload_n 1), 1), (3, .inl (.i2l), 1), (4, .inr (2, 266, 2), 3), (7, .inl (.ifCond .eq 11), 3), (10, .inl (.aload_n 0), 1), (11, .inl (.iload_n 2), 1), (12, .inr (2, 274, 2), 3), (15, .inl (.ifCond .ne 7), 3)],
  [(18, .inl (.iconst 1), 1), (19, .inl (.goto 44), 3), (22, .inl (.aload_n 0), 1), (23, .inr (0, 9, 0), 3), (26, .inl (.iload_n 2), 1), (27, .inl (.iload_n 1), 1), (28, .inr (2, 249, 3), 3), (31, .inl (.iconst (-1)), 1)],
  [(32, .inl (.if_icmp .eq 7), 3), (35, .inl (.iconst 2), 1), (36, .inl (.goto 27), 3), (39, .inl (.iload_n 3), 1), (40, .inl (.i2l), 1), (41, .inl (.lconst 0), 1), (42, .inl (.aload_n 0), 1), (43, .inr (0, 9, 0), 3), (46, .inl (.bipush 32), 2)],
  [(48, .inl (.iload_n 2), 1), (49, .inl (.iadd), 1), (50, .inl (.iaload), 1), (51, .inl (.i2l), 1), (52, .inr (2, 232, 3), 3), (55, .inl (.ifCond .eq 7), 3), (58, .inl (.iconst 0), 1), (59, .inl (.goto 4), 3), (62, .inl (.iconst 3), 1), (63, .inr (1, 9, 4), 3)],
  [(66, .inl (.aload_n 0), 1), (67, .inr (0, 9, 4), 3), (70, .inl (.ifCond .le 5), 3), (73, .inl (.iconst 0), 1), (74, .inl (.ireturn), 1), (75, .inl (.aload_n 0), 1), (76, .inr (2, 289, 1), 3), (79, .inl (.bipush 36), 2)],
  [(81, .inl (.bipush 20), 2), (83, .inl (.iload_n 2), 1), (84, .inl (.imul), 1), (85, .inl (.iadd), 1), (86, .inl (.istore 4), 2), (88, .inl (.aload_n 0), 1), (89, .inr (0, 9, 0), 3), (92, .inl (.bipush 32), 2), (94, .inl (.iload_n 2), 1), (95, .inl (.iadd), 1)],
  [(96, .inl (.iaload), 1), (97, .inl (.istore 5), 2), (99, .inl (.iload 5), 2), (101, .inl (.iload_n 3), 1), (102, .inl (.if_icmp .le 31), 3), (105, .inl (.aload_n 0), 1), (106, .inr (0, 9, 0), 3), (109, .inl (.iload 4), 2), (111, .inl (.iload 5), 2)],
  [(113, .inl (.iadd), 1), (114, .inl (.aload_n 0), 1), (115, .inr (0, 9, 0), 3), (118, .inl (.iload 4), 2), (120, .inl (.iload 5), 2), (122, .inl (.iadd), 1), (123, .inl (.iconst 1), 1), (124, .inl (.isub), 1), (125, .inl (.iaload), 1), (126, .inl (.iastore), 1), (127, .inl (.iinc 5 (-1)), 3)],
  [(130, .inl (.goto (-31)), 3), (133, .inl (.aload_n 0), 1), (134, .inr (0, 9, 0), 3), (137, .inl (.iload 4), 2), (139, .inl (.iload_n 3), 1), (140, .inl (.iadd), 1), (141, .inl (.iload_n 1), 1), (142, .inl (.iastore), 1), (143, .inl (.aload_n 0), 1)],
  [(144, .inr (0, 9, 0), 3), (147, .inl (.bipush 32), 2), (149, .inl (.iload_n 2), 1), (150, .inl (.iadd), 1), (151, .inl (.dup2), 1), (152, .inl (.iaload), 1), (153, .inl (.iconst 1), 1), (154, .inl (.iadd), 1), (155, .inl (.iastore), 1), (156, .inl (.aload_n 0), 1), (157, .inr (0, 9, 0), 3)],
  [(160, .inl (.bipush 32), 2), (162, .inl (.iload_n 2), 1), (163, .inl (.iadd), 1), (164, .inl (.iaload), 1), (165, .inl (.ireturn), 1)]]
-- MovingNamesModel.takeOut(II)I
set_option maxRecDepth 100000 in
noncomputable def ab_c305 : List (List (Nat × ab_I × Nat)) := [[(0, .inl (.aload_n 0), 1), (1, .inl (.aload_n 0), 1), (2, .inl (.iload_n 1), 1), (3, .inl (.i2l), 1), (4, .inr (2, 266, 2), 3), (7, .inl (.ifCond .eq 11), 3), (10, .inl (.aload_n 0), 1), (11, .inl (.iload_n 2), 1), (12, .inr (2, 274, 2), 3), (15, .inl (.ifCond .ne 7), 3)],
  [(18, .inl (.iconst 1), 1), (19, .inl (.goto 21), 3), (22, .inl (.aload_n 0), 1), (23, .inr (0, 9, 0), 3), (26, .inl (.iload_n 2), 1), (27, .inl (.iload_n 1), 1), (28, .inr (2, 249, 3), 3), (31, .inl (.iconst (-1)), 1)],
  [(32, .inl (.if_icmp .ne 7), 3), (35, .inl (.iconst 2), 1), (36, .inl (.goto 4), 3), (39, .inl (.iconst 0), 1), (40, .inr (1, 9, 4), 3), (43, .inl (.aload_n 0), 1), (44, .inr (0, 9, 4), 3), (47, .inl (.ifCond .le 5), 3)],
  [(50, .inl (.iconst 0), 1), (51, .inl (.ireturn), 1), (52, .inl (.aload_n 0), 1), (53, .inr (2, 289, 1), 3), (56, .inl (.bipush 36), 2), (58, .inl (.bipush 20), 2), (60, .inl (.iload_n 2), 1), (61, .inl (.imul), 1), (62, .inl (.iadd), 1), (63, .inl (.istore_n 3), 1)],
  [(64, .inl (.aload_n 0), 1), (65, .inr (0, 9, 0), 3), (68, .inl (.iload_n 2), 1), (69, .inl (.iload_n 1), 1), (70, .inr (2, 249, 3), 3), (73, .inl (.istore 4), 2), (75, .inl (.aload_n 0), 1), (76, .inr (0, 9, 0), 3), (79, .inl (.bipush 32), 2)],
  [(81, .inl (.iload_n 2), 1), (82, .inl (.iadd), 1), (83, .inl (.dup2), 1), (84, .inl (.iaload), 1), (85, .inl (.iconst 1), 1), (86, .inl (.isub), 1), (87, .inl (.iastore), 1), (88, .inl (.iload 4), 2), (90, .inl (.istore 5), 2), (92, .inl (.iload 5), 2), (94, .inl (.aload_n 0), 1), (95, .inr (0, 9, 0), 3)],
  [(98, .inl (.bipush 32), 2), (100, .inl (.iload_n 2), 1), (101, .inl (.iadd), 1), (102, .inl (.iaload), 1), (103, .inl (.if_icmp .ge 29), 3), (106, .inl (.aload_n 0), 1), (107, .inr (0, 9, 0), 3), (110, .inl (.iload_n 3), 1), (111, .inl (.iload 5), 2)],
  [(113, .inl (.iadd), 1), (114, .inl (.aload_n 0), 1), (115, .inr (0, 9, 0), 3), (118, .inl (.iload_n 3), 1), (119, .inl (.iload 5), 2), (121, .inl (.iadd), 1), (122, .inl (.iconst 1), 1), (123, .inl (.iadd), 1), (124, .inl (.iaload), 1), (125, .inl (.iastore), 1), (126, .inl (.iinc 5 1), 3)],
  [(129, .inl (.goto (-37)), 3), (132, .inl (.aload_n 0), 1), (133, .inr (0, 9, 0), 3), (136, .inl (.bipush 32), 2), (138, .inl (.iload_n 2), 1), (139, .inl (.iadd), 1), (140, .inl (.iaload), 1), (141, .inl (.ireturn), 1)]]
-- MovingNamesModel.blind(I)I
set_option maxRecDepth 100000 in
noncomputable def ab_c306 : List (List (Nat × ab_I × Nat)) := [[(0, .inl (.aload_n 0), 1), (1, .inl (.iconst 0), 1), (2, .inr (1, 9, 4), 3), (5, .inl (.aload_n 0), 1), (6, .inl (.iload_n 1), 1), (7, .inl (.i2l), 1), (8, .inr (2, 266, 2), 3), (11, .inl (.ifCond .ne 9), 3), (14, .inl (.aload_n 0), 1), (15, .inl (.iconst 1), 1)],
  [(16, .inr (2, 233, 2), 3), (19, .inl (.ireturn), 1), (20, .inl (.aload_n 0), 1), (21, .inr (2, 289, 1), 3), (24, .inl (.aload_n 0), 1), (25, .inr (0, 9, 0), 3), (28, .inl (.bipush 31), 2), (30, .inl (.dup2), 1), (31, .inl (.iaload), 1)],
  [(32, .inl (.iconst 1), 1), (33, .inl (.iload_n 1), 1), (34, .inl (.ishl), 1), (35, .inl (.ixor), 1), (36, .inl (.iastore), 1), (37, .inl (.aload_n 0), 1), (38, .inr (0, 9, 0), 3), (41, .inl (.bipush 31), 2), (43, .inl (.iaload), 1), (44, .inl (.iload_n 1), 1), (45, .inl (.ishr), 1), (46, .inl (.iconst 1), 1), (47, .inl (.iand), 1)],
  [(48, .inl (.ireturn), 1)]]
-- MovingNamesModel.moves(III)I
set_option maxRecDepth 100000 in
noncomputable def ab_c307 : List (List (Nat × ab_I × Nat)) := [[(0, .inl (.aload_n 0), 1), (1, .inl (.aload_n 0), 1), (2, .inl (.iload_n 1), 1), (3, .inr (2, 276, 2), 3), (6, .inl (.ifCond .eq 12), 3), (9, .inl (.aload_n 0), 1), (10, .inl (.iload_n 2), 1), (11, .inl (.i2l), 1), (12, .inr (2, 266, 2), 3), (15, .inl (.ifCond .ne 7), 3)],
  [(18, .inl (.iconst 1), 1), (19, .inl (.goto 16), 3), (22, .inl (.aload_n 0), 1), (23, .inl (.iload_n 3), 1), (24, .inr (2, 281, 2), 3), (27, .inl (.ifCond .eq 7), 3), (30, .inl (.iconst 0), 1), (31, .inl (.goto 4), 3)],
  [(34, .inl (.iconst 2), 1), (35, .inr (1, 9, 4), 3), (38, .inl (.aload_n 0), 1), (39, .inr (0, 9, 4), 3), (42, .inl (.ifCond .le 5), 3), (45, .inl (.iconst 0), 1), (46, .inl (.ireturn), 1), (47, .inl (.aload_n 0), 1)],
  [(48, .inr (2, 289, 1), 3), (51, .inl (.aload_n 0), 1), (52, .inr (0, 9, 0), 3), (55, .inl (.bipush 116), 2), (57, .inl (.iload_n 1), 1), (58, .inl (.iadd), 1), (59, .inl (.iload_n 2), 1), (60, .inl (.iastore), 1), (61, .inl (.aload_n 0), 1), (62, .inr (0, 9, 0), 3)],
  [(65, .inl (.bipush 124), 2), (67, .inl (.iload_n 1), 1), (68, .inl (.iadd), 1), (69, .inl (.iload_n 3), 1), (70, .inl (.iastore), 1), (71, .inl (.aload_n 0), 1), (72, .inr (0, 9, 0), 3), (75, .inl (.bipush 11), 2), (77, .inl (.iload_n 2), 1), (78, .inl (.iadd), 1), (79, .inl (.iaload), 1)],
  [(80, .inl (.ireturn), 1)]]
-- MovingNamesModel.undo(I)I
set_option maxRecDepth 100000 in
noncomputable def ab_c308 : List (List (Nat × ab_I × Nat)) := [[(0, .inl (.aload_n 0), 1), (1, .inl (.iconst 0), 1), (2, .inr (1, 9, 4), 3), (5, .inl (.iload_n 1), 1), (6, .inl (.i2l), 1), (7, .inl (.lconst 1), 1), (8, .inr (9, 0, 10), 3), (11, .inr (2, 232, 3), 3), (14, .inl (.ifCond .eq 14), 3)],
  [(17, .inl (.iload_n 1), 1), (18, .inl (.aload_n 0), 1), (19, .inr (0, 9, 0), 3), (22, .inl (.bipush 6), 2), (24, .inl (.iaload), 1), (25, .inl (.if_icmp .le 9), 3), (28, .inl (.aload_n 0), 1), (29, .inl (.iconst 1), 1), (30, .inr (2, 233, 2), 3)],
  [(33, .inl (.ireturn), 1), (34, .inl (.aload_n 0), 1), (35, .inr (0, 9, 0), 3), (38, .inl (.bipush 6), 2), (40, .inl (.dup2), 1), (41, .inl (.iaload), 1), (42, .inl (.iload_n 1), 1), (43, .inl (.isub), 1), (44, .inl (.iastore), 1), (45, .inl (.iconst 0), 1), (46, .inl (.istore_n 2), 1), (47, .inl (.iload_n 2), 1)],
  [(48, .inl (.bipush 123), 2), (50, .inl (.if_icmp .ge 39), 3), (53, .inl (.aload_n 0), 1), (54, .inr (0, 9, 0), 3), (57, .inl (.bipush 11), 2), (59, .inl (.iload_n 2), 1), (60, .inl (.iadd), 1), (61, .inl (.aload_n 0), 1), (62, .inr (0, 9, 0), 3)],
  [(65, .inl (.sipush 134), 3), (68, .inl (.bipush 123), 2), (70, .inl (.aload_n 0), 1), (71, .inr (0, 9, 0), 3), (74, .inl (.bipush 6), 2), (76, .inl (.iaload), 1), (77, .inl (.imul), 1), (78, .inl (.iadd), 1), (79, .inl (.iload_n 2), 1)],
  [(80, .inl (.iadd), 1), (81, .inl (.iaload), 1), (82, .inl (.iastore), 1), (83, .inl (.iinc 2 1), 3), (86, .inl (.goto (-39)), 3), (89, .inl (.aload_n 0), 1), (90, .inr (0, 9, 0), 3), (93, .inl (.bipush 6), 2), (95, .inl (.iaload), 1)],
  [(96, .inl (.ireturn), 1)]]
-- MovingNamesModel.judge(II)I
set_option maxRecDepth 100000 in
noncomputable def ab_c309 : List (List (Nat × ab_I × Nat)) := [[(0, .inl (.aload_n 0), 1), (1, .inl (.aload_n 0), 1), (2, .inl (.iload_n 1), 1), (3, .inr (2, 310, 2), 3), (6, .inr (1, 9, 4), 3), (9, .inl (.aload_n 0), 1), (10, .inr (0, 9, 4), 3), (13, .inl (.ifCond .ne 20), 3)],
  [(16, .inl (.iload_n 2), 1), (17, .inl (.i2l), 1), (18, .inl (.lconst 0), 1), (19, .inr (9, 0, 3), 3), (22, .inr (2, 232, 3), 3), (25, .inl (.ifCond .ne 8), 3), (28, .inl (.aload_n 0), 1), (29, .inl (.iconst 3), 1), (30, .inr (1, 9, 4), 3)],
  [(33, .inl (.aload_n 0), 1), (34, .inr (0, 9, 4), 3), (37, .inl (.ifCond .le 5), 3), (40, .inl (.iconst 0), 1), (41, .inl (.ireturn), 1), (42, .inl (.aload_n 0), 1), (43, .inr (2, 312, 1), 3), (46, .inl (.iconst (-1)), 1), (47, .inl (.istore_n 3), 1)],
  [(48, .inl (.iconst 0), 1), (49, .inl (.istore 4), 2), (51, .inl (.iconst 0), 1), (52, .inl (.istore 5), 2), (54, .inl (.iconst 0), 1), (55, .inl (.istore 6), 2), (57, .inl (.iload 6), 2), (59, .inl (.aload_n 0), 1), (60, .inr (0, 9, 30), 3), (63, .inl (.iload_n 1), 1)],
  [(64, .inl (.iaload), 1), (65, .inl (.if_icmp .ge 65), 3), (68, .inl (.iload_n 3), 1), (69, .inl (.iconst (-1)), 1), (70, .inl (.if_icmp .ne 60), 3), (73, .inl (.aload_n 0), 1), (74, .inl (.aload_n 0), 1), (75, .inr (0, 9, 31), 3), (78, .inl (.bipush 30), 2)],
  [(80, .inl (.iload_n 1), 1), (81, .inl (.imul), 1), (82, .inl (.iload 6), 2), (84, .inl (.iadd), 1), (85, .inl (.laload), 1), (86, .inr (2, 313, 2), 3), (89, .inl (.istore 4), 2), (91, .inl (.iload 4), 2), (93, .inl (.ifCond .ne 28), 3)],
  [(96, .inl (.iload 5), 2), (98, .inl (.aload_n 0), 1), (99, .inl (.aload_n 0), 1), (100, .inr (0, 9, 31), 3), (103, .inl (.bipush 30), 2), (105, .inl (.iload_n 1), 1), (106, .inl (.imul), 1), (107, .inl (.iload 6), 2), (109, .inl (.iadd), 1), (110, .inl (.laload), 1), (111, .inl (.l2i), 1)],
  [(112, .inr (2, 314, 2), 3), (115, .inl (.iadd), 1), (116, .inl (.istore 5), 2), (118, .inl (.goto 6), 3), (121, .inl (.iload 6), 2), (123, .inl (.istore_n 3), 1), (124, .inl (.iinc 6 1), 3), (127, .inl (.goto (-70)), 3)],
  [(130, .inl (.aload_n 0), 1), (131, .inr (2, 292, 1), 3), (134, .inl (.istore 6), 2), (136, .inl (.aload_n 0), 1), (137, .inr (2, 315, 1), 3), (140, .inl (.iload_n 2), 1), (141, .inl (.ifCond .ne 7), 3)],
  [(144, .inl (.iload_n 3), 1), (145, .inl (.goto 25), 3), (148, .inl (.iload_n 2), 1), (149, .inl (.iconst 1), 1), (150, .inl (.if_icmp .ne 8), 3), (153, .inl (.iload 4), 2), (155, .inl (.goto 15), 3), (158, .inl (.iload_n 2), 1), (159, .inl (.iconst 2), 1)],
  [(160, .inl (.if_icmp .ne 8), 3), (163, .inl (.iload 5), 2), (165, .inl (.goto 5), 3), (168, .inl (.iload 6), 2), (170, .inl (.ireturn), 1)]]
-- MovingNamesModel.trayFault(I)I
set_option maxRecDepth 100000 in
noncomputable def ab_c310 : List (List (Nat × ab_I × Nat)) := [[(0, .inl (.iload_n 1), 1), (1, .inr (2, 311, 1), 3), (4, .inl (.ifCond .ne 7), 3), (7, .inl (.iconst 1), 1), (8, .inl (.goto 18), 3), (11, .inl (.aload_n 0), 1), (12, .inr (0, 9, 29), 3), (15, .inl (.iload_n 1), 1)],
  [(16, .inl (.iaload), 1), (17, .inl (.iconst (-1)), 1), (18, .inl (.if_icmp .ne 7), 3), (21, .inl (.iconst 2), 1), (22, .inl (.goto 4), 3), (25, .inl (.iconst 0), 1), (26, .inl (.ireturn), 1)]]
-- MovingNamesModel.isTray(I)Z
set_option maxRecDepth 100000 in
noncomputable def ab_c311 : List (List (Nat × ab_I × Nat)) := [[(0, .inl (.iload_n 0), 1), (1, .inl (.i2l), 1), (2, .inl (.lconst 0), 1), (3, .inr (9, 0, 3), 3), (6, .inr (2, 232, 3), 3), (9, .inl (.ireturn), 1)]]
-- MovingNamesModel.putsAside()V
set_option maxRecDepth 100000 in
noncomputable def ab_c312 : List (List (Nat × ab_I × Nat)) := [[(0, .inl (.iconst 0), 1), (1, .inl (.istore_n 1), 1), (2, .inl (.iload_n 1), 1), (3, .inl (.bipush 123), 2), (5, .inl (.if_icmp .ge 24), 3), (8, .inl (.aload_n 0), 1), (9, .inr (0, 9, 22), 3), (12, .inl (.iload_n 1), 1), (13, .inl (.aload_n 0), 1), (14, .inr (0, 9, 0), 3)],
  [(17, .inl (.bipush 11), 2), (19, .inl (.iload_n 1), 1), (20, .inl (.iadd), 1), (21, .inl (.iaload), 1), (22, .inl (.iastore), 1), (23, .inl (.iinc 1 1), 3), (26, .inl (.goto (-24)), 3), (29, .inl (.return_), 1)]]
-- MovingNamesModel.whyTold(J)I
set_option maxRecDepth 100000 in
noncomputable def ab_c313 : List (List (Nat × ab_I × Nat)) := [[(0, .inl (.lload_n 1), 1), (1, .inr (9, 0, (-1)), 3), (4, .inl (.lcmp), 1), (5, .inl (.ifCond .ne 5), 3), (8, .inl (.iconst 0), 1), (9, .inl (.ireturn), 1), (10, .inl (.lload_n 1), 1), (11, .inl (.lconst 0), 1), (12, .inr (9, 0, 799), 3), (15, .inr (2, 232, 3), 3)],
  [(18, .inl (.ifCond .eq 31), 3), (21, .inl (.aload_n 0), 1), (22, .inl (.lload_n 1), 1), (23, .inr (9, 0, 20), 3), (26, .inl (.lrem), 1), (27, .inr (2, 266, 2), 3), (30, .inl (.ifCond .eq 19), 3)],
  [(33, .inl (.aload_n 0), 1), (34, .inl (.lload_n 1), 1), (35, .inr (9, 0, 400), 3), (38, .inl (.lrem), 1), (39, .inr (9, 0, 20), 3), (42, .inl (.ldiv), 1), (43, .inr (2, 266, 2), 3), (46, .inl (.ifCond .ne 5), 3)],
  [(49, .inl (.iconst 1), 1), (50, .inl (.ireturn), 1), (51, .inl (.lload_n 1), 1), (52, .inr (9, 0, 400), 3), (55, .inl (.lcmp), 1), (56, .inl (.ifCond .lt 25), 3), (59, .inl (.lload_n 1), 1), (60, .inr (9, 0, 20), 3), (63, .inl (.lrem), 1)],
  [(64, .inl (.lload_n 1), 1), (65, .inr (9, 0, 400), 3), (68, .inl (.lrem), 1), (69, .inr (9, 0, 20), 3), (72, .inl (.ldiv), 1), (73, .inl (.lcmp), 1), (74, .inl (.ifCond .ne 7), 3), (77, .inl (.iconst 2), 1), (78, .inl (.goto 4), 3)],
  [(81, .inl (.iconst 0), 1), (82, .inl (.ireturn), 1)]]
-- MovingNamesModel.does(I)I
set_option maxRecDepth 100000 in
noncomputable def ab_c314 : List (List (Nat × ab_I × Nat)) := [[(0, .inl (.iload_n 1), 1), (1, .inl (.iconst (-1)), 1), (2, .inl (.if_icmp .ne 8), 3), (5, .inl (.aload_n 0), 1), (6, .inr (2, 290, 1), 3), (9, .inl (.ireturn), 1), (10, .inl (.iload_n 1), 1), (11, .inl (.sipush 400), 3), (14, .inl (.if_icmp .ge 22), 3)],
  [(17, .inl (.aload_n 0), 1), (18, .inr (0, 9, 0), 3), (21, .inl (.bipush 11), 2), (23, .inl (.iload_n 1), 1), (24, .inl (.bipush 20), 2), (26, .inl (.irem), 1), (27, .inl (.iadd), 1), (28, .inl (.iload_n 1), 1), (29, .inl (.bipush 20), 2), (31, .inl (.idiv), 1)],
  [(32, .inl (.iastore), 1), (33, .inl (.goto 19), 3), (36, .inl (.aload_n 0), 1), (37, .inl (.iload_n 1), 1), (38, .inl (.bipush 20), 2), (40, .inl (.irem), 1), (41, .inl (.iload_n 1), 1), (42, .inl (.sipush 400), 3), (45, .inl (.irem), 1), (46, .inl (.bipush 20), 2)],
  [(48, .inl (.idiv), 1), (49, .inr (2, 303, 3), 3), (52, .inl (.iconst 0), 1), (53, .inl (.ireturn), 1)]]
-- MovingNamesModel.putsBack()V
set_option maxRecDepth 100000 in
noncomputable def ab_c315 : List (List (Nat × ab_I × Nat)) := [[(0, .inl (.iconst 0), 1), (1, .inl (.istore_n 1), 1), (2, .inl (.iload_n 1), 1), (3, .inl (.bipush 123), 2), (5, .inl (.if_icmp .ge 24), 3), (8, .inl (.aload_n 0), 1), (9, .inr (0, 9, 0), 3), (12, .inl (.bipush 11), 2), (14, .inl (.iload_n 1), 1), (15, .inl (.iadd), 1)],
  [(16, .inl (.aload_n 0), 1), (17, .inr (0, 9, 22), 3), (20, .inl (.iload_n 1), 1), (21, .inl (.iaload), 1), (22, .inl (.iastore), 1), (23, .inl (.iinc 1 1), 3), (26, .inl (.goto (-24)), 3), (29, .inl (.return_), 1)]]
-- MovingNamesModel.perform(I)I
set_option maxRecDepth 100000 in
noncomputable def ab_c316 : List (List (Nat × ab_I × Nat)) := [[(0, .inl (.aload_n 0), 1), (1, .inl (.aload_n 0), 1), (2, .inl (.iload_n 1), 1), (3, .inr (2, 310, 2), 3), (6, .inr (1, 9, 4), 3), (9, .inl (.aload_n 0), 1), (10, .inr (0, 9, 4), 3), (13, .inl (.ifCond .le 5), 3)],
  [(16, .inl (.iconst 0), 1), (17, .inl (.ireturn), 1), (18, .inl (.iconst 0), 1), (19, .inl (.istore_n 2), 1), (20, .inl (.iload_n 2), 1), (21, .inl (.aload_n 0), 1), (22, .inr (0, 9, 30), 3), (25, .inl (.iload_n 1), 1), (26, .inl (.iaload), 1), (27, .inl (.if_icmp .ge 48), 3), (30, .inl (.aload_n 0), 1), (31, .inl (.aload_n 0), 1)],
  [(32, .inr (0, 9, 31), 3), (35, .inl (.bipush 30), 2), (37, .inl (.iload_n 1), 1), (38, .inl (.imul), 1), (39, .inl (.iload_n 2), 1), (40, .inl (.iadd), 1), (41, .inl (.laload), 1), (42, .inr (2, 313, 2), 3), (45, .inl (.ifCond .ne 30), 3)],
  [(48, .inl (.aload_n 0), 1), (49, .inr (2, 289, 1), 3), (52, .inl (.aload_n 0), 1), (53, .inl (.aload_n 0), 1), (54, .inr (0, 9, 31), 3), (57, .inl (.bipush 30), 2), (59, .inl (.iload_n 1), 1), (60, .inl (.imul), 1), (61, .inl (.iload_n 2), 1), (62, .inl (.iadd), 1), (63, .inl (.laload), 1)],
  [(64, .inl (.l2i), 1), (65, .inr (2, 314, 2), 3), (68, .inl (.pop), 1), (69, .inl (.iinc 2 1), 3), (72, .inl (.goto (-52)), 3), (75, .inl (.iload_n 2), 1), (76, .inl (.ireturn), 1)]]
-- MovingNamesModel.month(II)I
set_option maxRecDepth 100000 in
noncomputable def ab_c317 : List (List (Nat × ab_I × Nat)) := [[(0, .inl (.aload_n 0), 1), (1, .inl (.iload_n 2), 1), (2, .inl (.i2l), 1), (3, .inl (.lconst 1), 1), (4, .inr (9, 0, 30), 3), (7, .inr (2, 232, 3), 3), (10, .inl (.ifCond .ne 7), 3), (13, .inl (.iconst 1), 1), (14, .inl (.goto 15), 3)],
  [(17, .inl (.aload_n 0), 1), (18, .inr (2, 267, 1), 3), (21, .inl (.ifCond .ne 7), 3), (24, .inl (.iconst 2), 1), (25, .inl (.goto 4), 3), (28, .inl (.iconst 0), 1), (29, .inr (1, 9, 4), 3)],
  [(32, .inl (.aload_n 0), 1), (33, .inr (0, 9, 4), 3), (36, .inl (.ifCond .le 5), 3), (39, .inl (.iconst 0), 1), (40, .inl (.ireturn), 1), (41, .inl (.aload_n 0), 1), (42, .inl (.iload_n 1), 1), (43, .inr (1, 9, 24), 3), (46, .inl (.iconst 0), 1), (47, .inl (.istore_n 3), 1)],
  [(48, .inl (.iconst 0), 1), (49, .inl (.istore 4), 2), (51, .inl (.iload 4), 2), (53, .inl (.iload_n 2), 1), (54, .inl (.if_icmp .ge 92), 3), (57, .inl (.aload_n 0), 1), (58, .inl (.iconst 4), 1), (59, .inr (2, 318, 2), 3), (62, .inl (.istore 5), 2)],
  [(64, .inl (.iconst (-1)), 1), (65, .inl (.istore 6), 2), (67, .inl (.iload 5), 2), (69, .inl (.iconst 1), 1), (70, .inl (.if_icmp .le 43), 3), (73, .inl (.aload_n 0), 1), (74, .inl (.aload_n 0), 1), (75, .inr (2, 267, 1), 3), (78, .inr (2, 318, 2), 3)],
  [(81, .inl (.istore 7), 2), (83, .inl (.iload 7), 2), (85, .inl (.bipush 20), 2), (87, .inl (.aload_n 0), 1), (88, .inl (.aload_n 0), 1), (89, .inr (2, 267, 1), 3), (92, .inr (2, 318, 2), 3), (95, .inl (.imul), 1)],
  [(96, .inl (.iadd), 1), (97, .inl (.iload 5), 2), (99, .inl (.iconst 3), 1), (100, .inl (.if_icmp .ne 9), 3), (103, .inl (.sipush 400), 3), (106, .inl (.goto 4), 3), (109, .inl (.iconst 0), 1), (110, .inl (.iadd), 1), (111, .inl (.istore 6), 2)],
  [(113, .inl (.aload_n 0), 1), (114, .inl (.iload 6), 2), (116, .inl (.i2l), 1), (117, .inr (2, 313, 2), 3), (120, .inl (.ifCond .eq 6), 3), (123, .inl (.goto 17), 3), (126, .inl (.aload_n 0), 1), (127, .inr (2, 289, 1), 3)],
  [(130, .inl (.aload_n 0), 1), (131, .inl (.iload 6), 2), (133, .inr (2, 314, 2), 3), (136, .inl (.pop), 1), (137, .inl (.iinc 3 1), 3), (140, .inl (.iinc 4 1), 3), (143, .inl (.goto (-92)), 3)],
  [(146, .inl (.iload_n 3), 1), (147, .inl (.ireturn), 1)]]
-- MovingNamesModel.draw(I)I
set_option maxRecDepth 100000 in
noncomputable def ab_c318 : List (List (Nat × ab_I × Nat)) := [[(0, .inl (.aload_n 0), 1), (1, .inr (8, 0, 1103515245), 3), (4, .inl (.aload_n 0), 1), (5, .inr (0, 9, 24), 3), (8, .inl (.imul), 1), (9, .inl (.sipush 12345), 3), (12, .inl (.iadd), 1), (13, .inr (1, 9, 24), 3)],
  [(16, .inl (.aload_n 0), 1), (17, .inr (0, 9, 24), 3), (20, .inl (.bipush 16), 2), (22, .inl (.iushr), 1), (23, .inl (.iload_n 1), 1), (24, .inl (.irem), 1), (25, .inl (.ireturn), 1)]]
-- MovingNamesModel.period()J
set_option maxRecDepth 100000 in
noncomputable def ab_c319 : List (List (Nat × ab_I × Nat)) := [[(0, .inl (.aload_n 0), 1), (1, .inl (.iconst 0), 1), (2, .inr (1, 9, 4), 3), (5, .inl (.aload_n 0), 1), (6, .inr (2, 320, 1), 3), (9, .inl (.i2l), 1), (10, .inl (.lreturn), 1)]]
-- MovingNamesModel.periodOf()I
set_option maxRecDepth 100000 in
noncomputable def ab_c320 : List (List (Nat × ab_I × Nat)) := [[(0, .inl (.aload_n 0), 1), (1, .inr (2, 268, 1), 3), (4, .inl (.iconst 1), 1), (5, .inl (.istore_n 1), 1), (6, .inl (.iconst 0), 1), (7, .inl (.istore_n 2), 1), (8, .inl (.iload_n 2), 1), (9, .inl (.aload_n 0), 1), (10, .inr (2, 267, 1), 3), (13, .inl (.if_icmp .ge 27), 3)],
  [(16, .inl (.iload_n 1), 1), (17, .inl (.iload_n 1), 1), (18, .inl (.aload_n 0), 1), (19, .inl (.iload_n 2), 1), (20, .inr (2, 271, 2), 3), (23, .inr (2, 321, 2), 3), (26, .inl (.idiv), 1), (27, .inl (.aload_n 0), 1), (28, .inl (.iload_n 2), 1), (29, .inr (2, 271, 2), 3)],
  [(32, .inl (.imul), 1), (33, .inl (.istore_n 1), 1), (34, .inl (.iinc 2 1), 3), (37, .inl (.goto (-29)), 3), (40, .inl (.iload_n 1), 1), (41, .inl (.ireturn), 1)]]
-- MovingNamesModel.common(II)I
set_option maxRecDepth 100000 in
noncomputable def ab_c321 : List (List (Nat × ab_I × Nat)) := [[(0, .inl (.iload_n 1), 1), (1, .inl (.ifCond .ne 7), 3), (4, .inl (.iload_n 0), 1), (5, .inl (.goto 10), 3), (8, .inl (.iload_n 1), 1), (9, .inl (.iload_n 0), 1), (10, .inl (.iload_n 1), 1), (11, .inl (.irem), 1), (12, .inr (2, 321, 2), 3), (15, .inl (.ireturn), 1)]]
-- MovingNamesModel.asNow()J
set_option maxRecDepth 100000 in
noncomputable def ab_c322 : List (List (Nat × ab_I × Nat)) := [[(0, .inl (.aload_n 0), 1), (1, .inl (.iconst 0), 1), (2, .inr (1, 9, 4), 3), (5, .inl (.aload_n 0), 1), (6, .inr (2, 320, 1), 3), (9, .inl (.istore_n 1), 1), (10, .inl (.iconst 1), 1), (11, .inl (.istore_n 2), 1), (12, .inl (.iload_n 2), 1), (13, .inl (.iload_n 1), 1), (14, .inl (.if_icmp .ge 21), 3)],
  [(17, .inl (.aload_n 0), 1), (18, .inl (.iload_n 2), 1), (19, .inr (2, 323, 2), 3), (22, .inl (.aload_n 0), 1), (23, .inr (2, 267, 1), 3), (26, .inl (.if_icmp .ge 9), 3), (29, .inl (.iinc 2 1), 3)],
  [(32, .inl (.goto (-20)), 3), (35, .inl (.iload_n 2), 1), (36, .inl (.i2l), 1), (37, .inl (.lreturn), 1)]]
-- MovingNamesModel.rightBy(I)I
set_option maxRecDepth 100000 in
noncomputable def ab_c323 : List (List (Nat × ab_I × Nat)) := [[(0, .inl (.iconst 0), 1), (1, .inl (.istore_n 2), 1), (2, .inl (.iconst 0), 1), (3, .inl (.istore_n 3), 1), (4, .inl (.iload_n 3), 1), (5, .inl (.aload_n 0), 1), (6, .inr (2, 267, 1), 3), (9, .inl (.if_icmp .ge 35), 3), (12, .inl (.iload_n 2), 1), (13, .inl (.aload_n 0), 1), (14, .inl (.iload_n 3), 1), (15, .inl (.iload_n 1), 1)],
  [(16, .inr (2, 284, 3), 3), (19, .inl (.aload_n 0), 1), (20, .inr (0, 9, 0), 3), (23, .inl (.bipush 11), 2), (25, .inl (.iload_n 3), 1), (26, .inl (.iadd), 1), (27, .inl (.iaload), 1), (28, .inl (.if_icmp .ne 7), 3), (31, .inl (.iconst 1), 1)],
  [(32, .inl (.goto 4), 3), (35, .inl (.iconst 0), 1), (36, .inl (.iadd), 1), (37, .inl (.istore_n 2), 1), (38, .inl (.iinc 3 1), 3), (41, .inl (.goto (-37)), 3), (44, .inl (.iload_n 2), 1), (45, .inl (.ireturn), 1)]]
-- MovingNamesModel.when(I)J
set_option maxRecDepth 100000 in
noncomputable def ab_c324 : List (List (Nat × ab_I × Nat)) := [[(0, .inl (.aload_n 0), 1), (1, .inl (.aload_n 0), 1), (2, .inl (.iload_n 1), 1), (3, .inl (.bipush 10), 2), (5, .inr (2, 325, 3), 3), (8, .inr (1, 9, 4), 3), (11, .inl (.aload_n 0), 1), (12, .inr (0, 9, 4), 3), (15, .inl (.ifCond .le 5), 3)],
  [(18, .inl (.lconst 0), 1), (19, .inl (.lreturn), 1), (20, .inl (.aload_n 0), 1), (21, .inr (2, 320, 1), 3), (24, .inl (.istore_n 2), 1), (25, .inl (.iconst 0), 1), (26, .inl (.istore_n 3), 1), (27, .inl (.iload_n 3), 1), (28, .inl (.iload_n 2), 1), (29, .inl (.if_icmp .ge 55), 3)],
  [(32, .inl (.iconst 1), 1), (33, .inl (.istore 4), 2), (35, .inl (.iconst 0), 1), (36, .inl (.istore 5), 2), (38, .inl (.iload 5), 2), (40, .inl (.aload_n 0), 1), (41, .inr (0, 9, 30), 3), (44, .inl (.iload_n 1), 1), (45, .inl (.iaload), 1), (46, .inl (.if_icmp .ge 24), 3)],
  [(49, .inl (.iload 4), 2), (51, .inl (.ifCond .eq 19), 3), (54, .inl (.aload_n 0), 1), (55, .inl (.iload_n 1), 1), (56, .inl (.iload 5), 2), (58, .inl (.iload_n 3), 1), (59, .inr (2, 326, 4), 3), (62, .inl (.istore 4), 2)],
  [(64, .inl (.iinc 5 1), 3), (67, .inl (.goto (-29)), 3), (70, .inl (.iload 4), 2), (72, .inl (.ifCond .eq 6), 3), (75, .inl (.iload_n 3), 1), (76, .inl (.i2l), 1), (77, .inl (.lreturn), 1), (78, .inl (.iinc 3 1), 3)],
  [(81, .inl (.goto (-54)), 3), (84, .inr (9, 0, (-1)), 3), (87, .inl (.lreturn), 1)]]
-- MovingNamesModel.lettersFault(II)I
set_option maxRecDepth 100000 in
noncomputable def ab_c325 : List (List (Nat × ab_I × Nat)) := [[(0, .inl (.aload_n 0), 1), (1, .inl (.iload_n 1), 1), (2, .inr (2, 310, 2), 3), (5, .inl (.istore_n 3), 1), (6, .inl (.iload_n 3), 1), (7, .inl (.ifCond .eq 5), 3), (10, .inl (.iload_n 3), 1), (11, .inl (.ireturn), 1), (12, .inl (.aload_n 0), 1), (13, .inr (0, 9, 30), 3)],
  [(16, .inl (.iload_n 1), 1), (17, .inl (.iaload), 1), (18, .inl (.i2l), 1), (19, .inl (.lconst 1), 1), (20, .inl (.iload_n 2), 1), (21, .inl (.i2l), 1), (22, .inr (2, 232, 3), 3), (25, .inl (.ifCond .ne 5), 3), (28, .inl (.iconst 3), 1), (29, .inl (.ireturn), 1), (30, .inl (.iconst 0), 1), (31, .inl (.istore 4), 2)],
  [(33, .inl (.iload 4), 2), (35, .inl (.aload_n 0), 1), (36, .inr (0, 9, 30), 3), (39, .inl (.iload_n 1), 1), (40, .inl (.iaload), 1), (41, .inl (.if_icmp .ge 58), 3), (44, .inl (.aload_n 0), 1), (45, .inr (0, 9, 31), 3)],
  [(48, .inl (.bipush 30), 2), (50, .inl (.iload_n 1), 1), (51, .inl (.imul), 1), (52, .inl (.iload 4), 2), (54, .inl (.iadd), 1), (55, .inl (.laload), 1), (56, .inl (.lstore 5), 2), (58, .inl (.lload 5), 2), (60, .inl (.lconst 0), 1), (61, .inl (.lcmp), 1), (62, .inl (.ifCond .lt 29), 3)],
  [(65, .inl (.aload_n 0), 1), (66, .inl (.lload 5), 2), (68, .inr (9, 0, 20), 3), (71, .inl (.lrem), 1), (72, .inr (2, 266, 2), 3), (75, .inl (.ifCond .eq 16), 3), (78, .inl (.aload_n 0), 1), (79, .inl (.lload 5), 2)],
  [(81, .inr (9, 0, 20), 3), (84, .inl (.ldiv), 1), (85, .inr (2, 266, 2), 3), (88, .inl (.ifCond .ne 5), 3), (91, .inl (.iconst 3), 1), (92, .inl (.ireturn), 1), (93, .inl (.iinc 4 1), 3)],
  [(96, .inl (.goto (-63)), 3), (99, .inl (.iconst 0), 1), (100, .inl (.ireturn), 1)]]
-- MovingNamesModel.isHome(III)Z
set_option maxRecDepth 100000 in
noncomputable def ab_c326 : List (List (Nat × ab_I × Nat)) := [[(0, .inl (.aload_n 0), 1), (1, .inr (0, 9, 31), 3), (4, .inl (.bipush 30), 2), (6, .inl (.iload_n 1), 1), (7, .inl (.imul), 1), (8, .inl (.iload_n 2), 1), (9, .inl (.iadd), 1), (10, .inl (.laload), 1), (11, .inl (.l2i), 1), (12, .inl (.istore 4), 2), (14, .inl (.aload_n 0), 1), (15, .inl (.iload 4), 2)],
  [(17, .inl (.bipush 20), 2), (19, .inl (.irem), 1), (20, .inl (.iload_n 3), 1), (21, .inr (2, 284, 3), 3), (24, .inl (.iload 4), 2), (26, .inl (.bipush 20), 2), (28, .inl (.idiv), 1), (29, .inl (.if_icmp .ne 7), 3)],
  [(32, .inl (.iconst 1), 1), (33, .inl (.goto 4), 3), (36, .inl (.iconst 0), 1), (37, .inl (.ireturn), 1)]]
-- MovingNamesModel.follows(II)J
set_option maxRecDepth 100000 in
noncomputable def ab_c327 : List (List (Nat × ab_I × Nat)) := [[(0, .inl (.aload_n 0), 1), (1, .inl (.aload_n 0), 1), (2, .inl (.iload_n 1), 1), (3, .inl (.i2l), 1), (4, .inr (2, 266, 2), 3), (7, .inl (.ifCond .eq 12), 3), (10, .inl (.aload_n 0), 1), (11, .inl (.iload_n 2), 1), (12, .inl (.i2l), 1), (13, .inr (2, 266, 2), 3)],
  [(16, .inl (.ifCond .ne 7), 3), (19, .inl (.iconst 1), 1), (20, .inl (.goto 13), 3), (23, .inl (.iload_n 1), 1), (24, .inl (.iload_n 2), 1), (25, .inl (.if_icmp .ne 7), 3), (28, .inl (.iconst 2), 1), (29, .inl (.goto 4), 3)],
  [(32, .inl (.iconst 0), 1), (33, .inr (1, 9, 4), 3), (36, .inl (.aload_n 0), 1), (37, .inr (0, 9, 4), 3), (40, .inl (.ifCond .le 5), 3), (43, .inl (.lconst 0), 1), (44, .inl (.lreturn), 1), (45, .inl (.aload_n 0), 1), (46, .inr (2, 320, 1), 3)],
  [(49, .inl (.istore_n 3), 1), (50, .inl (.iconst 0), 1), (51, .inl (.istore 4), 2), (53, .inl (.iload 4), 2), (55, .inl (.iload_n 3), 1), (56, .inl (.if_icmp .ge 32), 3), (59, .inl (.aload_n 0), 1), (60, .inl (.iload_n 1), 1), (61, .inl (.iload 4), 2), (63, .inr (2, 285, 3), 3)],
  [(66, .inl (.aload_n 0), 1), (67, .inl (.iload_n 2), 1), (68, .inl (.iload 4), 2), (70, .inl (.iconst 1), 1), (71, .inl (.iadd), 1), (72, .inr (2, 285, 3), 3), (75, .inl (.if_icmp .ne 7), 3), (78, .inl (.iload 4), 2)],
  [(80, .inl (.i2l), 1), (81, .inl (.lreturn), 1), (82, .inl (.iinc 4 1), 3), (85, .inl (.goto (-32)), 3), (88, .inr (9, 0, (-1)), 3), (91, .inl (.lreturn), 1)]]
-- MovingNamesModel.again(I)I
set_option maxRecDepth 100000 in
noncomputable def ab_c328 : List (List (Nat × ab_I × Nat)) := [[(0, .inl (.aload_n 0), 1), (1, .inl (.iconst 0), 1), (2, .inr (1, 9, 4), 3), (5, .inl (.aload_n 0), 1), (6, .inl (.iload_n 1), 1), (7, .inl (.i2l), 1), (8, .inr (2, 266, 2), 3), (11, .inl (.ifCond .ne 9), 3), (14, .inl (.aload_n 0), 1), (15, .inl (.iconst 1), 1)],
  [(16, .inr (2, 233, 2), 3), (19, .inl (.ireturn), 1), (20, .inl (.aload_n 0), 1), (21, .inr (2, 268, 1), 3), (24, .inl (.iconst 1), 1), (25, .inl (.istore_n 2), 1), (26, .inl (.aload_n 0), 1), (27, .inl (.iload_n 1), 1), (28, .inl (.iload_n 2), 1), (29, .inr (2, 284, 3), 3)],
  [(32, .inl (.aload_n 0), 1), (33, .inr (0, 9, 0), 3), (36, .inl (.bipush 11), 2), (38, .inl (.iload_n 1), 1), (39, .inl (.iadd), 1), (40, .inl (.iaload), 1), (41, .inl (.if_icmp .eq 9), 3), (44, .inl (.iinc 2 1), 3), (47, .inl (.goto (-21)), 3)],
  [(50, .inl (.iload_n 2), 1), (51, .inl (.ireturn), 1)]]
-- MovingNamesModel.beside(II)I
set_option maxRecDepth 100000 in
noncomputable def ab_c329 : List (List (Nat × ab_I × Nat)) := [[(0, .inl (.aload_n 0), 1), (1, .inl (.aload_n 0), 1), (2, .inl (.iload_n 1), 1), (3, .inl (.i2l), 1), (4, .inr (2, 266, 2), 3), (7, .inl (.ifCond .eq 12), 3), (10, .inl (.aload_n 0), 1), (11, .inl (.iload_n 2), 1), (12, .inl (.i2l), 1), (13, .inr (2, 266, 2), 3)],
  [(16, .inl (.ifCond .ne 7), 3), (19, .inl (.iconst 1), 1), (20, .inl (.goto 13), 3), (23, .inl (.iload_n 1), 1), (24, .inl (.iload_n 2), 1), (25, .inl (.if_icmp .ne 7), 3), (28, .inl (.iconst 2), 1), (29, .inl (.goto 4), 3)],
  [(32, .inl (.iconst 0), 1), (33, .inr (1, 9, 4), 3), (36, .inl (.aload_n 0), 1), (37, .inr (0, 9, 4), 3), (40, .inl (.ifCond .le 5), 3), (43, .inl (.iconst 0), 1), (44, .inl (.ireturn), 1), (45, .inl (.aload_n 0), 1), (46, .inr (2, 320, 1), 3)],
  [(49, .inl (.istore_n 3), 1), (50, .inl (.iconst 0), 1), (51, .inl (.istore 4), 2), (53, .inl (.iconst 0), 1), (54, .inl (.istore 5), 2), (56, .inl (.iload 5), 2), (58, .inl (.iload_n 3), 1), (59, .inl (.if_icmp .ge 41), 3), (62, .inl (.iload 4), 2)],
  [(64, .inl (.aload_n 0), 1), (65, .inl (.iload_n 1), 1), (66, .inl (.iload 5), 2), (68, .inr (2, 285, 3), 3), (71, .inl (.aload_n 0), 1), (72, .inl (.iload_n 2), 1), (73, .inl (.iload 5), 2), (75, .inr (2, 285, 3), 3), (78, .inl (.isub), 1), (79, .inr (2, 92, 1), 3)],
  [(82, .inl (.iconst 1), 1), (83, .inl (.if_icmp .ne 7), 3), (86, .inl (.iconst 1), 1), (87, .inl (.goto 4), 3), (90, .inl (.iconst 0), 1), (91, .inl (.iadd), 1), (92, .inl (.istore 4), 2), (94, .inl (.iinc 5 1), 3)],
  [(97, .inl (.goto (-41)), 3), (100, .inl (.iload 4), 2), (102, .inl (.ireturn), 1)]]
-- MovingNamesModel.visits(II)I
set_option maxRecDepth 100000 in
noncomputable def ab_c330 : List (List (Nat × ab_I × Nat)) := [[(0, .inl (.aload_n 0), 1), (1, .inl (.aload_n 0), 1), (2, .inl (.iload_n 1), 1), (3, .inl (.i2l), 1), (4, .inr (2, 266, 2), 3), (7, .inl (.ifCond .ne 7), 3), (10, .inl (.iconst 1), 1), (11, .inl (.goto 20), 3), (14, .inl (.iload_n 2), 1), (15, .inl (.i2l), 1)],
  [(16, .inl (.lconst 0), 1), (17, .inr (9, 0, 999), 3), (20, .inr (2, 232, 3), 3), (23, .inl (.ifCond .eq 7), 3), (26, .inl (.iconst 0), 1), (27, .inl (.goto 4), 3), (30, .inl (.iconst 2), 1), (31, .inr (1, 9, 4), 3)],
  [(34, .inl (.aload_n 0), 1), (35, .inr (0, 9, 4), 3), (38, .inl (.ifCond .le 5), 3), (41, .inl (.iconst 0), 1), (42, .inl (.ireturn), 1), (43, .inl (.aload_n 0), 1), (44, .inr (2, 268, 1), 3), (47, .inl (.iconst 0), 1)],
  [(48, .inl (.istore_n 3), 1), (49, .inl (.iconst 0), 1), (50, .inl (.istore 4), 2), (52, .inl (.iload 4), 2), (54, .inl (.aload_n 0), 1), (55, .inr (2, 267, 1), 3), (58, .inl (.if_icmp .ge 43), 3), (61, .inl (.iconst 0), 1), (62, .inl (.istore 5), 2)],
  [(64, .inl (.iload 5), 2), (66, .inl (.iload_n 2), 1), (67, .inl (.if_icmp .gt 28), 3), (70, .inl (.aload_n 0), 1), (71, .inl (.iload 4), 2), (73, .inl (.iload 5), 2), (75, .inr (2, 284, 3), 3), (78, .inl (.iload_n 1), 1), (79, .inl (.if_icmp .ne 10), 3)],
  [(82, .inl (.iload_n 3), 1), (83, .inl (.iconst 1), 1), (84, .inl (.iload 4), 2), (86, .inl (.ishl), 1), (87, .inl (.ior), 1), (88, .inl (.istore_n 3), 1), (89, .inl (.iinc 5 1), 3), (92, .inl (.goto (-28)), 3), (95, .inl (.iinc 4 1), 3)],
  [(98, .inl (.goto (-46)), 3), (101, .inl (.iload_n 3), 1), (102, .inl (.ireturn), 1)]]
-- MovingNamesModel.under(II)I
set_option maxRecDepth 100000 in
noncomputable def ab_c331 : List (List (Nat × ab_I × Nat)) := [[(0, .inl (.aload_n 0), 1), (1, .inl (.aload_n 0), 1), (2, .inl (.iload_n 1), 1), (3, .inr (2, 276, 2), 3), (6, .inl (.ifCond .ne 7), 3), (9, .inl (.iconst 1), 1), (10, .inl (.goto 20), 3), (13, .inl (.iload_n 2), 1), (14, .inl (.i2l), 1), (15, .inl (.lconst 0), 1)],
  [(16, .inr (9, 0, 999), 3), (19, .inr (2, 232, 3), 3), (22, .inl (.ifCond .eq 7), 3), (25, .inl (.iconst 0), 1), (26, .inl (.goto 4), 3), (29, .inl (.iconst 2), 1), (30, .inr (1, 9, 4), 3)],
  [(33, .inl (.aload_n 0), 1), (34, .inr (0, 9, 4), 3), (37, .inl (.ifCond .le 5), 3), (40, .inl (.iconst 0), 1), (41, .inl (.ireturn), 1), (42, .inl (.aload_n 0), 1), (43, .inr (2, 268, 1), 3), (46, .inl (.iconst 0), 1), (47, .inl (.istore_n 3), 1)],
  [(48, .inl (.iconst 0), 1), (49, .inl (.istore 4), 2), (51, .inl (.iload 4), 2), (53, .inl (.iload_n 2), 1), (54, .inl (.if_icmp .gt 29), 3), (57, .inl (.iload_n 3), 1), (58, .inl (.iconst 1), 1), (59, .inl (.aload_n 0), 1), (60, .inl (.aload_n 0), 1), (61, .inr (0, 9, 0), 3)],
  [(64, .inl (.bipush 116), 2), (66, .inl (.iload_n 1), 1), (67, .inl (.iadd), 1), (68, .inl (.iaload), 1), (69, .inl (.iload 4), 2), (71, .inr (2, 284, 3), 3), (74, .inl (.ishl), 1), (75, .inl (.ior), 1), (76, .inl (.istore_n 3), 1), (77, .inl (.iinc 4 1), 3)],
  [(80, .inl (.goto (-29)), 3), (83, .inl (.iload_n 3), 1), (84, .inl (.ireturn), 1)]]
-- MovingNamesModel.home(II)I
set_option maxRecDepth 100000 in
noncomputable def ab_c332 : List (List (Nat × ab_I × Nat)) := [[(0, .inl (.aload_n 0), 1), (1, .inl (.aload_n 0), 1), (2, .inl (.iload_n 1), 1), (3, .inl (.bipush 8), 2), (5, .inr (2, 325, 3), 3), (8, .inr (1, 9, 4), 3), (11, .inl (.aload_n 0), 1), (12, .inr (0, 9, 4), 3), (15, .inl (.ifCond .ne 33), 3)],
  [(18, .inl (.iload_n 2), 1), (19, .inl (.ifCond .eq 29), 3), (22, .inl (.iload_n 2), 1), (23, .inl (.i2l), 1), (24, .inr (9, 0, 10), 3), (27, .inl (.bipush 9), 2), (29, .inl (.aload_n 0), 1), (30, .inr (0, 9, 30), 3)],
  [(33, .inl (.iload_n 1), 1), (34, .inl (.iaload), 1), (35, .inl (.iadd), 1), (36, .inl (.i2l), 1), (37, .inr (2, 232, 3), 3), (40, .inl (.ifCond .ne 8), 3), (43, .inl (.aload_n 0), 1), (44, .inl (.iconst 3), 1), (45, .inr (1, 9, 4), 3)],
  [(48, .inl (.aload_n 0), 1), (49, .inr (0, 9, 4), 3), (52, .inl (.ifCond .le 5), 3), (55, .inl (.iconst 0), 1), (56, .inl (.ireturn), 1), (57, .inl (.aload_n 0), 1), (58, .inl (.iload_n 1), 1), (59, .inr (2, 333, 2), 3), (62, .inl (.istore_n 3), 1), (63, .inl (.iload_n 3), 1)],
  [(64, .inl (.iconst (-1)), 1), (65, .inl (.if_icmp .eq 7), 3), (68, .inl (.iload_n 2), 1), (69, .inl (.ifCond .ne 7), 3), (72, .inl (.iload_n 3), 1), (73, .inl (.goto 12), 3), (76, .inl (.aload_n 0), 1), (77, .inr (0, 9, 27), 3)],
  [(80, .inl (.iload_n 2), 1), (81, .inl (.bipush 10), 2), (83, .inl (.isub), 1), (84, .inl (.iaload), 1), (85, .inl (.ireturn), 1)]]
-- MovingNamesModel.laysHome(I)I
set_option maxRecDepth 100000 in
noncomputable def ab_c333 : List (List (Nat × ab_I × Nat)) := [[(0, .inl (.aload_n 0), 1), (1, .inr (2, 268, 1), 3), (4, .inl (.aload_n 0), 1), (5, .inr (0, 9, 30), 3), (8, .inl (.iload_n 1), 1), (9, .inl (.iaload), 1), (10, .inl (.istore_n 2), 1), (11, .inl (.iconst 0), 1), (12, .inl (.istore_n 3), 1), (13, .inl (.iload_n 3), 1), (14, .inl (.iload_n 2), 1), (15, .inl (.if_icmp .ge 67), 3)],
  [(18, .inl (.aload_n 0), 1), (19, .inr (0, 9, 25), 3), (22, .inl (.iload_n 3), 1), (23, .inl (.lconst 0), 1), (24, .inl (.lastore), 1), (25, .inl (.aload_n 0), 1), (26, .inr (0, 9, 27), 3), (29, .inl (.iload_n 3), 1), (30, .inl (.iconst (-1)), 1), (31, .inl (.iastore), 1)],
  [(32, .inl (.iconst 0), 1), (33, .inl (.istore 4), 2), (35, .inl (.iload 4), 2), (37, .inl (.bipush 60), 2), (39, .inl (.if_icmp .ge 37), 3), (42, .inl (.aload_n 0), 1), (43, .inr (0, 9, 25), 3), (46, .inl (.iload_n 3), 1), (47, .inl (.dup2), 1)],
  [(48, .inl (.laload), 1), (49, .inl (.aload_n 0), 1), (50, .inl (.iload_n 1), 1), (51, .inl (.iload_n 3), 1), (52, .inl (.iload 4), 2), (54, .inr (2, 326, 4), 3), (57, .inl (.ifCond .eq 10), 3), (60, .inl (.lconst 1), 1), (61, .inl (.iload 4), 2), (63, .inl (.lshl), 1)],
  [(64, .inl (.goto 4), 3), (67, .inl (.lconst 0), 1), (68, .inl (.lor), 1), (69, .inl (.lastore), 1), (70, .inl (.iinc 4 1), 3), (73, .inl (.goto (-38)), 3), (76, .inl (.iinc 3 1), 3), (79, .inl (.goto (-66)), 3)],
  [(82, .inl (.iconst 0), 1), (83, .inl (.istore_n 3), 1), (84, .inl (.iload_n 3), 1), (85, .inl (.bipush 60), 2), (87, .inl (.if_icmp .ge 18), 3), (90, .inl (.aload_n 0), 1), (91, .inl (.iload_n 3), 1), (92, .inl (.iload_n 2), 1), (93, .inr (2, 334, 3), 3)],
  [(96, .inl (.ifCond .ne 9), 3), (99, .inl (.iinc 3 1), 3), (102, .inl (.goto (-18)), 3), (105, .inl (.iload_n 3), 1), (106, .inl (.bipush 60), 2), (108, .inl (.if_icmp .ne 5), 3), (111, .inl (.iconst (-1)), 1)],
  [(112, .inl (.ireturn), 1), (113, .inl (.iconst 0), 1), (114, .inl (.istore 4), 2), (116, .inl (.iload 4), 2), (118, .inl (.iload_n 2), 1), (119, .inl (.if_icmp .ge 62), 3), (122, .inl (.iconst 0), 1), (123, .inl (.istore 5), 2), (125, .inl (.aload_n 0), 1), (126, .inr (0, 9, 27), 3)],
  [(129, .inl (.iload 4), 2), (131, .inl (.iload 5), 2), (133, .inl (.iastore), 1), (134, .inl (.aload_n 0), 1), (135, .inr (0, 9, 25), 3), (138, .inl (.iload 4), 2), (140, .inl (.laload), 1), (141, .inl (.iload 5), 2), (143, .inl (.lshr), 1)],
  [(144, .inl (.lconst 1), 1), (145, .inl (.land), 1), (146, .inl (.lconst 0), 1), (147, .inl (.lcmp), 1), (148, .inl (.ifCond .eq 12), 3), (151, .inl (.aload_n 0), 1), (152, .inl (.iload_n 3), 1), (153, .inl (.iload_n 2), 1), (154, .inr (2, 334, 3), 3), (157, .inl (.ifCond .ne 18), 3)],
  [(160, .inl (.iinc 5 1), 3), (163, .inl (.aload_n 0), 1), (164, .inr (0, 9, 27), 3), (167, .inl (.iload 4), 2), (169, .inl (.iload 5), 2), (171, .inl (.iastore), 1), (172, .inl (.goto (-38)), 3), (175, .inl (.iinc 4 1), 3)],
  [(178, .inl (.goto (-62)), 3), (181, .inl (.iload_n 3), 1), (182, .inl (.ireturn), 1)]]
-- MovingNamesModel.areAllHome(II)Z
set_option maxRecDepth 100000 in
noncomputable def ab_c334 : List (List (Nat × ab_I × Nat)) := [[(0, .inl (.iconst 0), 1), (1, .inl (.istore_n 3), 1), (2, .inl (.iload_n 3), 1), (3, .inl (.bipush 60), 2), (5, .inl (.if_icmp .ge 16), 3), (8, .inl (.aload_n 0), 1), (9, .inr (0, 9, 26), 3), (12, .inl (.iload_n 3), 1), (13, .inl (.iconst (-1)), 1), (14, .inl (.iastore), 1), (15, .inl (.iinc 3 1), 3)],
  [(18, .inl (.goto (-16)), 3), (21, .inl (.iconst 0), 1), (22, .inl (.istore_n 3), 1), (23, .inl (.iload_n 3), 1), (24, .inl (.iload_n 2), 1), (25, .inl (.if_icmp .ge 25), 3), (28, .inl (.aload_n 0), 1), (29, .inl (.lconst 0), 1), (30, .inr (1, 9, 28), 3)],
  [(33, .inl (.aload_n 0), 1), (34, .inl (.iload_n 3), 1), (35, .inl (.iload_n 1), 1), (36, .inr (2, 335, 3), 3), (39, .inl (.ifCond .ne 5), 3), (42, .inl (.iconst 0), 1), (43, .inl (.ireturn), 1), (44, .inl (.iinc 3 1), 3), (47, .inl (.goto (-24)), 3)],
  [(50, .inl (.iconst 1), 1), (51, .inl (.ireturn), 1)]]
-- MovingNamesModel.isFree(II)Z
set_option maxRecDepth 100000 in
noncomputable def ab_c335 : List (List (Nat × ab_I × Nat)) := [[(0, .inl (.iconst 0), 1), (1, .inl (.istore_n 3), 1), (2, .inl (.iload_n 3), 1), (3, .inl (.iload_n 2), 1), (4, .inl (.if_icmp .gt 128), 3), (7, .inl (.aload_n 0), 1), (8, .inr (0, 9, 27), 3), (11, .inl (.iload_n 1), 1), (12, .inl (.iaload), 1), (13, .inl (.iconst (-1)), 1), (14, .inl (.if_icmp .ne 26), 3)],
  [(17, .inl (.aload_n 0), 1), (18, .inr (0, 9, 25), 3), (21, .inl (.iload_n 1), 1), (22, .inl (.laload), 1), (23, .inl (.iload_n 3), 1), (24, .inl (.lshr), 1), (25, .inl (.lconst 1), 1), (26, .inl (.land), 1), (27, .inl (.lconst 1), 1), (28, .inl (.lcmp), 1), (29, .inl (.ifCond .ne 7), 3)],
  [(32, .inl (.iconst 1), 1), (33, .inl (.goto 22), 3), (36, .inl (.iconst 0), 1), (37, .inl (.goto 18), 3), (40, .inl (.aload_n 0), 1), (41, .inr (0, 9, 27), 3), (44, .inl (.iload_n 1), 1), (45, .inl (.iaload), 1), (46, .inl (.iload_n 3), 1), (47, .inl (.if_icmp .ne 7), 3)],
  [(50, .inl (.iconst 1), 1), (51, .inl (.goto 4), 3), (54, .inl (.iconst 0), 1), (55, .inl (.istore 4), 2), (57, .inl (.iload 4), 2), (59, .inl (.ifCond .eq 67), 3), (62, .inl (.aload_n 0), 1), (63, .inr (0, 9, 28), 3)],
  [(66, .inl (.iload_n 3), 1), (67, .inl (.lshr), 1), (68, .inl (.lconst 1), 1), (69, .inl (.land), 1), (70, .inl (.lconst 1), 1), (71, .inl (.lcmp), 1), (72, .inl (.ifCond .ne 6), 3), (75, .inl (.goto 51), 3), (78, .inl (.aload_n 0), 1), (79, .inl (.dup), 1)],
  [(80, .inr (0, 9, 28), 3), (83, .inl (.lconst 1), 1), (84, .inl (.iload_n 3), 1), (85, .inl (.lshl), 1), (86, .inl (.lor), 1), (87, .inr (1, 9, 28), 3), (90, .inl (.aload_n 0), 1), (91, .inr (0, 9, 26), 3), (94, .inl (.iload_n 3), 1), (95, .inl (.iaload), 1)],
  [(96, .inl (.iconst (-1)), 1), (97, .inl (.if_icmp .eq 20), 3), (100, .inl (.aload_n 0), 1), (101, .inl (.aload_n 0), 1), (102, .inr (0, 9, 26), 3), (105, .inl (.iload_n 3), 1), (106, .inl (.iaload), 1), (107, .inl (.iload_n 2), 1), (108, .inr (2, 335, 3), 3), (111, .inl (.ifCond .ne 6), 3)],
  [(114, .inl (.goto 12), 3), (117, .inl (.aload_n 0), 1), (118, .inr (0, 9, 26), 3), (121, .inl (.iload_n 3), 1), (122, .inl (.iload_n 1), 1), (123, .inl (.iastore), 1), (124, .inl (.iconst 1), 1), (125, .inl (.ireturn), 1), (126, .inl (.iinc 3 1), 3)],
  [(129, .inl (.goto (-127)), 3), (132, .inl (.iconst 0), 1), (133, .inl (.ireturn), 1)]]
-- MovingNamesModel.written(III)I
set_option maxRecDepth 100000 in
noncomputable def ab_c336 : List (List (Nat × ab_I × Nat)) := [[(0, .inl (.aload_n 0), 1), (1, .inl (.aload_n 0), 1), (2, .inl (.iload_n 1), 1), (3, .inl (.i2l), 1), (4, .inr (2, 266, 2), 3), (7, .inl (.ifCond .eq 12), 3), (10, .inl (.aload_n 0), 1), (11, .inl (.iload_n 2), 1), (12, .inl (.i2l), 1), (13, .inr (2, 266, 2), 3)],
  [(16, .inl (.ifCond .ne 7), 3), (19, .inl (.iconst 1), 1), (20, .inl (.goto 20), 3), (23, .inl (.iload_n 3), 1), (24, .inl (.i2l), 1), (25, .inl (.lconst 0), 1), (26, .inr (9, 0, 99), 3), (29, .inr (2, 232, 3), 3)],
  [(32, .inl (.ifCond .eq 7), 3), (35, .inl (.iconst 0), 1), (36, .inl (.goto 4), 3), (39, .inl (.iconst 2), 1), (40, .inr (1, 9, 4), 3), (43, .inl (.aload_n 0), 1), (44, .inr (0, 9, 4), 3), (47, .inl (.ifCond .le 5), 3)],
  [(50, .inl (.iconst 0), 1), (51, .inl (.ireturn), 1), (52, .inl (.aload_n 0), 1), (53, .inr (2, 268, 1), 3), (56, .inl (.iconst 0), 1), (57, .inl (.istore 4), 2), (59, .inl (.iload_n 3), 1), (60, .inl (.istore 5), 2), (62, .inl (.iload 5), 2)],
  [(64, .inl (.bipush 99), 2), (66, .inl (.if_icmp .gt 31), 3), (69, .inl (.iload 4), 2), (71, .inl (.aload_n 0), 1), (72, .inl (.iload_n 2), 1), (73, .inl (.iload 5), 2), (75, .inl (.ineg), 1), (76, .inr (2, 284, 3), 3), (79, .inl (.iload_n 1), 1)],
  [(80, .inl (.if_icmp .ne 7), 3), (83, .inl (.iconst 1), 1), (84, .inl (.goto 4), 3), (87, .inl (.iconst 0), 1), (88, .inl (.iadd), 1), (89, .inl (.istore 4), 2), (91, .inl (.iinc 5 1), 3), (94, .inl (.goto (-32)), 3)],
  [(97, .inl (.iload 4), 2), (99, .inl (.ireturn), 1)]]
-- MovingNamesModel.served(III)I
set_option maxRecDepth 100000 in
noncomputable def ab_c337 : List (List (Nat × ab_I × Nat)) := [[(0, .inl (.aload_n 0), 1), (1, .inl (.aload_n 0), 1), (2, .inl (.iload_n 1), 1), (3, .inr (2, 276, 2), 3), (6, .inl (.ifCond .eq 12), 3), (9, .inl (.aload_n 0), 1), (10, .inl (.iload_n 2), 1), (11, .inl (.i2l), 1), (12, .inr (2, 266, 2), 3), (15, .inl (.ifCond .ne 7), 3)],
  [(18, .inl (.iconst 1), 1), (19, .inl (.goto 18), 3), (22, .inl (.iload_n 3), 1), (23, .inl (.i2l), 1), (24, .inl (.lconst 0), 1), (25, .inl (.lconst 1), 1), (26, .inr (2, 232, 3), 3), (29, .inl (.ifCond .eq 7), 3)],
  [(32, .inl (.iconst 0), 1), (33, .inl (.goto 4), 3), (36, .inl (.iconst 2), 1), (37, .inr (1, 9, 4), 3), (40, .inl (.aload_n 0), 1), (41, .inr (0, 9, 4), 3), (44, .inl (.ifCond .le 5), 3), (47, .inl (.iconst 0), 1)],
  [(48, .inl (.ireturn), 1), (49, .inl (.aload_n 0), 1), (50, .inr (2, 268, 1), 3), (53, .inl (.iconst 0), 1), (54, .inl (.istore 4), 2), (56, .inl (.iconst (-1)), 1), (57, .inl (.istore 5), 2), (59, .inl (.iconst 0), 1), (60, .inl (.istore 6), 2), (62, .inl (.iload 6), 2)],
  [(64, .inl (.bipush 99), 2), (66, .inl (.if_icmp .gt 44), 3), (69, .inl (.aload_n 0), 1), (70, .inl (.aload_n 0), 1), (71, .inr (0, 9, 0), 3), (74, .inl (.bipush 116), 2), (76, .inl (.iload_n 1), 1), (77, .inl (.iadd), 1), (78, .inl (.iaload), 1), (79, .inl (.iload 6), 2)],
  [(81, .inr (2, 284, 3), 3), (84, .inl (.iload_n 2), 1), (85, .inl (.if_icmp .eq 6), 3), (88, .inl (.goto 16), 3), (91, .inl (.iinc 4 1), 3), (94, .inl (.iload 5), 2)],
  [(96, .inl (.iconst (-1)), 1), (97, .inl (.if_icmp .ne 7), 3), (100, .inl (.iload 6), 2), (102, .inl (.istore 5), 2), (104, .inl (.iinc 6 1), 3), (107, .inl (.goto (-45)), 3), (110, .inl (.iload_n 3), 1), (111, .inl (.ifCond .ne 8), 3)],
  [(114, .inl (.iload 4), 2), (116, .inl (.goto 5), 3), (119, .inl (.iload 5), 2), (121, .inl (.ireturn), 1)]]
-- MovingNamesModel.right(I)I
set_option maxRecDepth 100000 in
noncomputable def ab_c338 : List (List (Nat × ab_I × Nat)) := [[(0, .inl (.aload_n 0), 1), (1, .inl (.iconst 0), 1), (2, .inr (1, 9, 4), 3), (5, .inl (.iload_n 1), 1), (6, .inr (2, 282, 1), 3), (9, .inl (.ifCond .ne 9), 3), (12, .inl (.aload_n 0), 1), (13, .inl (.iconst 1), 1), (14, .inr (2, 233, 2), 3)],
  [(17, .inl (.ireturn), 1), (18, .inl (.aload_n 0), 1), (19, .inr (2, 268, 1), 3), (22, .inl (.aload_n 0), 1), (23, .inl (.iload_n 1), 1), (24, .inr (2, 323, 2), 3), (27, .inl (.ireturn), 1)]]
-- MovingNamesModel.rightDays(II)I
set_option maxRecDepth 100000 in
noncomputable def ab_c339 : List (List (Nat × ab_I × Nat)) := [[(0, .inl (.aload_n 0), 1), (1, .inl (.iconst 0), 1), (2, .inr (1, 9, 4), 3), (5, .inl (.iload_n 2), 1), (6, .inl (.i2l), 1), (7, .inl (.lconst 0), 1), (8, .inr (9, 0, 999), 3), (11, .inr (2, 232, 3), 3), (14, .inl (.ifCond .eq 7), 3)],
  [(17, .inl (.iload_n 1), 1), (18, .inl (.ifCond .ge 9), 3), (21, .inl (.aload_n 0), 1), (22, .inl (.iconst 1), 1), (23, .inr (2, 233, 2), 3), (26, .inl (.ireturn), 1), (27, .inl (.aload_n 0), 1), (28, .inr (2, 268, 1), 3), (31, .inl (.iconst 0), 1)],
  [(32, .inl (.istore_n 3), 1), (33, .inl (.iconst 1), 1), (34, .inl (.istore 4), 2), (36, .inl (.iload 4), 2), (38, .inl (.iload_n 2), 1), (39, .inl (.if_icmp .gt 27), 3), (42, .inl (.iload_n 3), 1), (43, .inl (.aload_n 0), 1), (44, .inl (.iload 4), 2), (46, .inr (2, 323, 2), 3)],
  [(49, .inl (.iload_n 1), 1), (50, .inl (.if_icmp .lt 7), 3), (53, .inl (.iconst 1), 1), (54, .inl (.goto 4), 3), (57, .inl (.iconst 0), 1), (58, .inl (.iadd), 1), (59, .inl (.istore_n 3), 1), (60, .inl (.iinc 4 1), 3), (63, .inl (.goto (-27)), 3)],
  [(66, .inl (.iload_n 3), 1), (67, .inl (.ireturn), 1)]]
-- MovingNamesModel.harm(I)I
set_option maxRecDepth 100000 in
noncomputable def ab_c340 : List (List (Nat × ab_I × Nat)) := [[(0, .inl (.aload_n 0), 1), (1, .inl (.iconst 0), 1), (2, .inr (1, 9, 4), 3), (5, .inl (.iload_n 1), 1), (6, .inr (2, 282, 1), 3), (9, .inl (.ifCond .ne 9), 3), (12, .inl (.aload_n 0), 1), (13, .inl (.iconst 1), 1), (14, .inr (2, 233, 2), 3)],
  [(17, .inl (.ireturn), 1), (18, .inl (.aload_n 0), 1), (19, .inr (2, 268, 1), 3), (22, .inl (.aload_n 0), 1), (23, .inl (.iload_n 1), 1), (24, .inr (2, 341, 2), 3), (27, .inl (.ireturn), 1)]]
-- MovingNamesModel.harmBy(I)I
set_option maxRecDepth 100000 in
noncomputable def ab_c341 : List (List (Nat × ab_I × Nat)) := [[(0, .inl (.aload_n 0), 1), (1, .inl (.iload_n 1), 1), (2, .inr (2, 342, 2), 3), (5, .inl (.iconst 0), 1), (6, .inl (.istore_n 2), 1), (7, .inl (.iconst 0), 1), (8, .inl (.istore_n 3), 1), (9, .inl (.iload_n 3), 1), (10, .inl (.aload_n 0), 1), (11, .inr (2, 267, 1), 3), (14, .inl (.if_icmp .ge 43), 3)],
  [(17, .inl (.aload_n 0), 1), (18, .inl (.aload_n 0), 1), (19, .inr (0, 9, 0), 3), (22, .inl (.bipush 11), 2), (24, .inl (.iload_n 3), 1), (25, .inl (.iadd), 1), (26, .inl (.iaload), 1), (27, .inr (2, 278, 2), 3), (30, .inr (2, 293, 1), 3)],
  [(33, .inl (.iconst 1), 1), (34, .inl (.if_icmp .ne 17), 3), (37, .inl (.iload_n 2), 1), (38, .inl (.aload_n 0), 1), (39, .inr (0, 9, 18), 3), (42, .inl (.iload_n 3), 1), (43, .inl (.iaload), 1), (44, .inl (.iload_n 3), 1), (45, .inl (.isub), 1), (46, .inr (2, 92, 1), 3)],
  [(49, .inl (.iadd), 1), (50, .inl (.istore_n 2), 1), (51, .inl (.iinc 3 1), 3), (54, .inl (.goto (-45)), 3), (57, .inl (.iload_n 2), 1), (58, .inl (.ireturn), 1)]]
-- MovingNamesModel.laysAhead(I)V
set_option maxRecDepth 100000 in
noncomputable def ab_c342 : List (List (Nat × ab_I × Nat)) := [[(0, .inl (.iconst 0), 1), (1, .inl (.istore_n 2), 1), (2, .inl (.iload_n 2), 1), (3, .inl (.aload_n 0), 1), (4, .inr (2, 267, 1), 3), (7, .inl (.if_icmp .ge 21), 3), (10, .inl (.aload_n 0), 1), (11, .inr (0, 9, 18), 3), (14, .inl (.iload_n 2), 1), (15, .inl (.aload_n 0), 1)],
  [(16, .inl (.iload_n 2), 1), (17, .inl (.iload_n 1), 1), (18, .inr (2, 285, 3), 3), (21, .inl (.iastore), 1), (22, .inl (.iinc 2 1), 3), (25, .inl (.goto (-23)), 3), (28, .inl (.return_), 1)]]
-- MovingNamesModel.leastHarm(I)I
set_option maxRecDepth 100000 in
noncomputable def ab_c343 : List (List (Nat × ab_I × Nat)) := [[(0, .inl (.aload_n 0), 1), (1, .inl (.iconst 0), 1), (2, .inr (1, 9, 4), 3), (5, .inl (.iload_n 1), 1), (6, .inl (.i2l), 1), (7, .inl (.lconst 1), 1), (8, .inr (9, 0, 999), 3), (11, .inr (2, 232, 3), 3), (14, .inl (.ifCond .ne 9), 3)],
  [(17, .inl (.aload_n 0), 1), (18, .inl (.iconst 1), 1), (19, .inr (2, 233, 2), 3), (22, .inl (.ireturn), 1), (23, .inl (.aload_n 0), 1), (24, .inr (2, 320, 1), 3), (27, .inl (.istore_n 2), 1), (28, .inl (.iconst 1), 1), (29, .inl (.istore_n 3), 1), (30, .inl (.aload_n 0), 1), (31, .inl (.iconst 1), 1)],
  [(32, .inr (2, 341, 2), 3), (35, .inl (.istore 4), 2), (37, .inl (.iconst 2), 1), (38, .inl (.istore 5), 2), (40, .inl (.iload 5), 2), (42, .inl (.iload_n 1), 1), (43, .inl (.if_icmp .gt 40), 3), (46, .inl (.iload 5), 2)],
  [(48, .inl (.iload_n 2), 1), (49, .inl (.if_icmp .gt 34), 3), (52, .inl (.aload_n 0), 1), (53, .inl (.iload 5), 2), (55, .inr (2, 341, 2), 3), (58, .inl (.istore 6), 2), (60, .inl (.iload 6), 2), (62, .inl (.iload 4), 2)],
  [(64, .inl (.if_icmp .lt 6), 3), (67, .inl (.goto 10), 3), (70, .inl (.iload 6), 2), (72, .inl (.istore 4), 2), (74, .inl (.iload 5), 2), (76, .inl (.istore_n 3), 1), (77, .inl (.iinc 5 1), 3)],
  [(80, .inl (.goto (-40)), 3), (83, .inl (.iload_n 3), 1), (84, .inl (.ireturn), 1)]]
-- MovingNamesModel.errors(II)I
set_option maxRecDepth 100000 in
noncomputable def ab_c344 : List (List (Nat × ab_I × Nat)) := [[(0, .inl (.aload_n 0), 1), (1, .inl (.aload_n 0), 1), (2, .inl (.iload_n 1), 1), (3, .inl (.iconst (-1)), 1), (4, .inr (2, 345, 3), 3), (7, .inr (1, 9, 4), 3), (10, .inl (.aload_n 0), 1), (11, .inr (0, 9, 4), 3), (14, .inl (.ifCond .ne 20), 3)],
  [(17, .inl (.iload_n 2), 1), (18, .inl (.i2l), 1), (19, .inl (.lconst 0), 1), (20, .inr (9, 0, 2), 3), (23, .inr (2, 232, 3), 3), (26, .inl (.ifCond .ne 8), 3), (29, .inl (.aload_n 0), 1), (30, .inl (.iconst 3), 1), (31, .inr (1, 9, 4), 3)],
  [(34, .inl (.aload_n 0), 1), (35, .inr (0, 9, 4), 3), (38, .inl (.ifCond .le 5), 3), (41, .inl (.iconst 0), 1), (42, .inl (.ireturn), 1), (43, .inl (.aload_n 0), 1), (44, .inr (2, 320, 1), 3), (47, .inl (.istore_n 3), 1)],
  [(48, .inl (.iconst 0), 1), (49, .inl (.istore 4), 2), (51, .inl (.aload_n 0), 1), (52, .inl (.iload_n 1), 1), (53, .inl (.iconst 0), 1), (54, .inr (2, 346, 3), 3), (57, .inl (.istore 5), 2), (59, .inl (.iconst 1), 1), (60, .inl (.istore 6), 2), (62, .inl (.iload 6), 2)],
  [(64, .inl (.iload_n 3), 1), (65, .inl (.if_icmp .ge 42), 3), (68, .inl (.aload_n 0), 1), (69, .inl (.iload_n 1), 1), (70, .inl (.iload 6), 2), (72, .inr (2, 346, 3), 3), (75, .inl (.istore 7), 2), (77, .inl (.iload 7), 2), (79, .inr (2, 293, 1), 3)],
  [(82, .inl (.iload 5), 2), (84, .inr (2, 293, 1), 3), (87, .inl (.if_icmp .lt 6), 3), (90, .inl (.goto 11), 3), (93, .inl (.iload 7), 2), (95, .inl (.istore 5), 2)],
  [(97, .inl (.iload 6), 2), (99, .inl (.istore 4), 2), (101, .inl (.iinc 6 1), 3), (104, .inl (.goto (-42)), 3), (107, .inl (.iload_n 2), 1), (108, .inl (.ifCond .ne 11), 3), (111, .inl (.iload 5), 2)],
  [(113, .inr (2, 293, 1), 3), (116, .inl (.goto 15), 3), (119, .inl (.iload_n 2), 1), (120, .inl (.iconst 1), 1), (121, .inl (.if_icmp .ne 8), 3), (124, .inl (.iload 4), 2), (126, .inl (.goto 5), 3)],
  [(129, .inl (.iload 5), 2), (131, .inl (.ireturn), 1)]]
-- MovingNamesModel.namesFault(II)I
set_option maxRecDepth 100000 in
noncomputable def ab_c345 : List (List (Nat × ab_I × Nat)) := [[(0, .inl (.aload_n 0), 1), (1, .inl (.iload_n 1), 1), (2, .inr (2, 310, 2), 3), (5, .inl (.istore_n 3), 1), (6, .inl (.iload_n 3), 1), (7, .inl (.ifCond .eq 5), 3), (10, .inl (.iload_n 3), 1), (11, .inl (.ireturn), 1), (12, .inl (.aload_n 0), 1), (13, .inr (0, 9, 30), 3)],
  [(16, .inl (.iload_n 1), 1), (17, .inl (.iaload), 1), (18, .inl (.aload_n 0), 1), (19, .inr (2, 267, 1), 3), (22, .inl (.if_icmp .eq 5), 3), (25, .inl (.iconst 3), 1), (26, .inl (.ireturn), 1), (27, .inl (.iconst 0), 1), (28, .inl (.istore 4), 2), (30, .inl (.iload 4), 2)],
  [(32, .inl (.aload_n 0), 1), (33, .inr (2, 267, 1), 3), (36, .inl (.if_icmp .ge 38), 3), (39, .inl (.aload_n 0), 1), (40, .inr (0, 9, 31), 3), (43, .inl (.bipush 30), 2), (45, .inl (.iload_n 1), 1), (46, .inl (.imul), 1), (47, .inl (.iload 4), 2)],
  [(49, .inl (.iadd), 1), (50, .inl (.laload), 1), (51, .inl (.iload_n 2), 1), (52, .inl (.i2l), 1), (53, .inl (.aload_n 0), 1), (54, .inr (2, 267, 1), 3), (57, .inl (.iconst 1), 1), (58, .inl (.isub), 1), (59, .inl (.i2l), 1), (60, .inr (2, 232, 3), 3), (63, .inl (.ifCond .ne 5), 3)],
  [(66, .inl (.iconst 3), 1), (67, .inl (.ireturn), 1), (68, .inl (.iinc 4 1), 3), (71, .inl (.goto (-41)), 3), (74, .inl (.iconst 0), 1), (75, .inl (.ireturn), 1)]]
-- MovingNamesModel.otherwise(II)I
set_option maxRecDepth 100000 in
noncomputable def ab_c346 : List (List (Nat × ab_I × Nat)) := [[(0, .inl (.iconst 0), 1), (1, .inl (.istore_n 3), 1), (2, .inl (.iconst 0), 1), (3, .inl (.istore 4), 2), (5, .inl (.iload 4), 2), (7, .inl (.aload_n 0), 1), (8, .inr (2, 267, 1), 3), (11, .inl (.if_icmp .ge 57), 3), (14, .inl (.aload_n 0), 1), (15, .inr (0, 9, 31), 3)],
  [(18, .inl (.bipush 30), 2), (20, .inl (.iload_n 1), 1), (21, .inl (.imul), 1), (22, .inl (.iload 4), 2), (24, .inl (.iadd), 1), (25, .inl (.laload), 1), (26, .inl (.lstore 5), 2), (28, .inl (.iload_n 3), 1), (29, .inl (.lload 5), 2), (31, .inr (9, 0, (-1)), 3)],
  [(34, .inl (.lcmp), 1), (35, .inl (.ifCond .eq 24), 3), (38, .inl (.lload 5), 2), (40, .inl (.aload_n 0), 1), (41, .inl (.iload 4), 2), (43, .inl (.iload_n 2), 1), (44, .inr (2, 284, 3), 3), (47, .inl (.i2l), 1)],
  [(48, .inl (.lcmp), 1), (49, .inl (.ifCond .eq 10), 3), (52, .inl (.iconst 1), 1), (53, .inl (.iload 4), 2), (55, .inl (.ishl), 1), (56, .inl (.goto 4), 3), (59, .inl (.iconst 0), 1), (60, .inl (.ior), 1), (61, .inl (.istore_n 3), 1), (62, .inl (.iinc 4 1), 3)],
  [(65, .inl (.goto (-60)), 3), (68, .inl (.iload_n 3), 1), (69, .inl (.ireturn), 1)]]
-- MovingNamesModel.ink(I)I
set_option maxRecDepth 100000 in
noncomputable def ab_c347 : List (List (Nat × ab_I × Nat)) := [[(0, .inl (.aload_n 0), 1), (1, .inl (.aload_n 0), 1), (2, .inl (.iload_n 1), 1), (3, .inl (.iconst 0), 1), (4, .inr (2, 345, 3), 3), (7, .inr (1, 9, 4), 3), (10, .inl (.aload_n 0), 1), (11, .inr (0, 9, 4), 3), (14, .inl (.ifCond .le 5), 3)],
  [(17, .inl (.iconst 0), 1), (18, .inl (.ireturn), 1), (19, .inl (.iconst 0), 1), (20, .inl (.istore_n 2), 1), (21, .inl (.iconst 0), 1), (22, .inl (.istore_n 3), 1), (23, .inl (.iload_n 3), 1), (24, .inl (.aload_n 0), 1), (25, .inr (2, 267, 1), 3), (28, .inl (.if_icmp .ge 42), 3), (31, .inl (.iload_n 2), 1)],
  [(32, .inl (.aload_n 0), 1), (33, .inr (0, 9, 31), 3), (36, .inl (.bipush 30), 2), (38, .inl (.iload_n 1), 1), (39, .inl (.imul), 1), (40, .inl (.iload_n 3), 1), (41, .inl (.iadd), 1), (42, .inl (.laload), 1), (43, .inl (.aload_n 0), 1), (44, .inr (0, 9, 0), 3), (47, .inl (.bipush 11), 2)],
  [(49, .inl (.iload_n 3), 1), (50, .inl (.iadd), 1), (51, .inl (.iaload), 1), (52, .inl (.i2l), 1), (53, .inl (.lcmp), 1), (54, .inl (.ifCond .ne 7), 3), (57, .inl (.iconst 0), 1), (58, .inl (.goto 4), 3), (61, .inl (.iconst 1), 1), (62, .inl (.iadd), 1), (63, .inl (.istore_n 2), 1)],
  [(64, .inl (.iinc 3 1), 3), (67, .inl (.goto (-44)), 3), (70, .inl (.iload_n 2), 1), (71, .inl (.ireturn), 1)]]
-- MovingNamesModel.changes(I)I
set_option maxRecDepth 100000 in
noncomputable def ab_c348 : List (List (Nat × ab_I × Nat)) := [[(0, .inl (.aload_n 0), 1), (1, .inl (.aload_n 0), 1), (2, .inl (.iload_n 1), 1), (3, .inl (.iconst 0), 1), (4, .inr (2, 345, 3), 3), (7, .inr (1, 9, 4), 3), (10, .inl (.aload_n 0), 1), (11, .inr (0, 9, 4), 3), (14, .inl (.ifCond .le 5), 3)],
  [(17, .inl (.iconst 0), 1), (18, .inl (.ireturn), 1), (19, .inl (.aload_n 0), 1), (20, .inr (2, 292, 1), 3), (23, .inl (.ifCond .le 6), 3), (26, .inl (.bipush (-2)), 2), (28, .inl (.ireturn), 1), (29, .inl (.iconst 0), 1), (30, .inl (.istore_n 2), 1), (31, .inl (.iload_n 2), 1)],
  [(32, .inl (.aload_n 0), 1), (33, .inr (2, 267, 1), 3), (36, .inl (.if_icmp .ge 21), 3), (39, .inl (.aload_n 0), 1), (40, .inl (.iload_n 1), 1), (41, .inl (.iload_n 2), 1), (42, .inr (2, 349, 3), 3), (45, .inl (.iconst (-1)), 1), (46, .inl (.if_icmp .ne 5), 3)],
  [(49, .inl (.iconst (-1)), 1), (50, .inl (.ireturn), 1), (51, .inl (.iinc 2 1), 3), (54, .inl (.goto (-23)), 3), (57, .inl (.iconst 0), 1), (58, .inl (.istore_n 2), 1), (59, .inl (.iconst 0), 1), (60, .inl (.istore_n 3), 1), (61, .inl (.iconst 0), 1), (62, .inl (.istore 4), 2)],
  [(64, .inl (.iload 4), 2), (66, .inl (.aload_n 0), 1), (67, .inr (2, 267, 1), 3), (70, .inl (.if_icmp .ge 66), 3), (73, .inl (.iload_n 3), 1), (74, .inl (.iload_n 2), 1), (75, .inl (.iload 4), 2), (77, .inr (2, 270, 2), 3)],
  [(80, .inl (.ifCond .eq 7), 3), (83, .inl (.iconst 0), 1), (84, .inl (.goto 4), 3), (87, .inl (.iconst 1), 1), (88, .inl (.iadd), 1), (89, .inl (.istore_n 3), 1), (90, .inl (.iload 4), 2), (92, .inl (.istore 5), 2), (94, .inl (.iload_n 2), 1), (95, .inl (.iload 5), 2)],
  [(97, .inr (2, 270, 2), 3), (100, .inl (.ifCond .ne 30), 3), (103, .inl (.iload_n 2), 1), (104, .inl (.iconst 1), 1), (105, .inl (.iload 5), 2), (107, .inl (.ishl), 1), (108, .inl (.ior), 1), (109, .inl (.istore_n 2), 1), (110, .inl (.aload_n 0), 1), (111, .inl (.iload_n 1), 1)],
  [(112, .inl (.aload_n 0), 1), (113, .inr (0, 9, 0), 3), (116, .inl (.bipush 11), 2), (118, .inl (.iload 5), 2), (120, .inl (.iadd), 1), (121, .inl (.iaload), 1), (122, .inr (2, 349, 3), 3), (125, .inl (.istore 5), 2), (127, .inl (.goto (-33)), 3)],
  [(130, .inl (.iinc 4 1), 3), (133, .inl (.goto (-69)), 3), (136, .inl (.aload_n 0), 1), (137, .inr (2, 267, 1), 3), (140, .inl (.iload_n 3), 1), (141, .inl (.isub), 1), (142, .inl (.ireturn), 1)]]
-- MovingNamesModel.toldStreet(II)I
set_option maxRecDepth 100000 in
noncomputable def ab_c349 : List (List (Nat × ab_I × Nat)) := [[(0, .inl (.iconst 0), 1), (1, .inl (.istore_n 3), 1), (2, .inl (.iload_n 3), 1), (3, .inl (.aload_n 0), 1), (4, .inr (2, 267, 1), 3), (7, .inl (.if_icmp .ge 28), 3), (10, .inl (.aload_n 0), 1), (11, .inr (0, 9, 31), 3), (14, .inl (.bipush 30), 2)],
  [(16, .inl (.iload_n 1), 1), (17, .inl (.imul), 1), (18, .inl (.iload_n 3), 1), (19, .inl (.iadd), 1), (20, .inl (.laload), 1), (21, .inl (.iload_n 2), 1), (22, .inl (.i2l), 1), (23, .inl (.lcmp), 1), (24, .inl (.ifCond .ne 5), 3), (27, .inl (.iload_n 3), 1), (28, .inl (.ireturn), 1), (29, .inl (.iinc 3 1), 3)],
  [(32, .inl (.goto (-30)), 3), (35, .inl (.iconst (-1)), 1), (36, .inl (.ireturn), 1)]]
-- MovingNamesModel.twice()I
set_option maxRecDepth 100000 in
noncomputable def ab_c350 : List (List (Nat × ab_I × Nat)) := [[(0, .inl (.aload_n 0), 1), (1, .inl (.iconst 0), 1), (2, .inr (1, 9, 4), 3), (5, .inl (.aload_n 0), 1), (6, .inl (.iconst 0), 1), (7, .inr (2, 351, 2), 3), (10, .inl (.ireturn), 1)]]
-- MovingNamesModel.namesOn(Z)I
set_option maxRecDepth 100000 in
noncomputable def ab_c351 : List (List (Nat × ab_I × Nat)) := [[(0, .inl (.iconst 0), 1), (1, .inl (.istore_n 2), 1), (2, .inl (.iconst 0), 1), (3, .inl (.istore_n 3), 1), (4, .inl (.iload_n 3), 1), (5, .inl (.aload_n 0), 1), (6, .inr (2, 267, 1), 3), (9, .inl (.if_icmp .ge 49), 3), (12, .inl (.iload_n 2), 1), (13, .inl (.iload_n 1), 1), (14, .inl (.ifCond .eq 17), 3)],
  [(17, .inl (.aload_n 0), 1), (18, .inl (.iload_n 3), 1), (19, .inr (2, 278, 2), 3), (22, .inr (2, 293, 1), 3), (25, .inl (.ifCond .ne 24), 3), (28, .inl (.goto 15), 3), (31, .inl (.aload_n 0), 1)],
  [(32, .inl (.iload_n 3), 1), (33, .inr (2, 278, 2), 3), (36, .inr (2, 293, 1), 3), (39, .inl (.iconst 1), 1), (40, .inl (.if_icmp .le 9), 3), (43, .inl (.iconst 1), 1), (44, .inl (.iload_n 3), 1), (45, .inl (.ishl), 1), (46, .inl (.goto 4), 3)],
  [(49, .inl (.iconst 0), 1), (50, .inl (.ior), 1), (51, .inl (.istore_n 2), 1), (52, .inl (.iinc 3 1), 3), (55, .inl (.goto (-51)), 3), (58, .inl (.iload_n 2), 1), (59, .inl (.ireturn), 1)]]
-- MovingNamesModel.lost()I
set_option maxRecDepth 100000 in
noncomputable def ab_c352 : List (List (Nat × ab_I × Nat)) := [[(0, .inl (.aload_n 0), 1), (1, .inl (.iconst 0), 1), (2, .inr (1, 9, 4), 3), (5, .inl (.aload_n 0), 1), (6, .inl (.iconst 1), 1), (7, .inr (2, 351, 2), 3), (10, .inl (.ireturn), 1)]]
-- MovingNamesModel.tray(III)V
set_option maxRecDepth 100000 in
noncomputable def ab_c353 : List (List (Nat × ab_I × Nat)) := [[(0, .inl (.aload_n 0), 1), (1, .inl (.iload_n 1), 1), (2, .inr (2, 311, 1), 3), (5, .inl (.ifCond .ne 7), 3), (8, .inl (.iconst 1), 1), (9, .inl (.goto 32), 3), (12, .inl (.iload_n 2), 1), (13, .inl (.i2l), 1), (14, .inl (.lconst 0), 1), (15, .inr (9, 0, 3), 3)],
  [(18, .inr (2, 232, 3), 3), (21, .inl (.ifCond .eq 15), 3), (24, .inl (.iload_n 3), 1), (25, .inl (.i2l), 1), (26, .inl (.lconst 0), 1), (27, .inr (9, 0, 30), 3), (30, .inr (2, 232, 3), 3)],
  [(33, .inl (.ifCond .ne 7), 3), (36, .inl (.iconst 2), 1), (37, .inl (.goto 4), 3), (40, .inl (.iconst 0), 1), (41, .inr (1, 9, 4), 3), (44, .inl (.aload_n 0), 1), (45, .inr (0, 9, 4), 3)],
  [(48, .inl (.ifCond .le 4), 3), (51, .inl (.return_), 1), (52, .inl (.aload_n 0), 1), (53, .inr (0, 9, 29), 3), (56, .inl (.iload_n 1), 1), (57, .inl (.iload_n 2), 1), (58, .inl (.iastore), 1), (59, .inl (.aload_n 0), 1), (60, .inr (0, 9, 30), 3), (63, .inl (.iload_n 1), 1)],
  [(64, .inl (.iload_n 3), 1), (65, .inl (.iastore), 1), (66, .inl (.iconst 0), 1), (67, .inl (.istore 4), 2), (69, .inl (.iload 4), 2), (71, .inl (.bipush 30), 2), (73, .inl (.if_icmp .ge 22), 3), (76, .inl (.aload_n 0), 1), (77, .inr (0, 9, 31), 3)],
  [(80, .inl (.bipush 30), 2), (82, .inl (.iload_n 1), 1), (83, .inl (.imul), 1), (84, .inl (.iload 4), 2), (86, .inl (.iadd), 1), (87, .inl (.lconst 0), 1), (88, .inl (.lastore), 1), (89, .inl (.iinc 4 1), 3), (92, .inl (.goto (-23)), 3), (95, .inl (.return_), 1)]]
-- MovingNamesModel.write(IIJ)J
set_option maxRecDepth 100000 in
noncomputable def ab_c354 : List (List (Nat × ab_I × Nat)) := [[(0, .inl (.aload_n 0), 1), (1, .inl (.aload_n 0), 1), (2, .inl (.iload_n 1), 1), (3, .inr (2, 310, 2), 3), (6, .inr (1, 9, 4), 3), (9, .inl (.aload_n 0), 1), (10, .inr (0, 9, 4), 3), (13, .inl (.ifCond .le 5), 3)],
  [(16, .inl (.lconst 0), 1), (17, .inl (.lreturn), 1), (18, .inl (.iload_n 2), 1), (19, .inl (.i2l), 1), (20, .inl (.lconst 0), 1), (21, .inl (.aload_n 0), 1), (22, .inr (0, 9, 30), 3), (25, .inl (.iload_n 1), 1), (26, .inl (.iaload), 1), (27, .inl (.iconst 1), 1), (28, .inl (.isub), 1), (29, .inl (.i2l), 1), (30, .inr (2, 232, 3), 3)],
  [(33, .inl (.ifCond .eq 13), 3), (36, .inl (.aload_n 0), 1), (37, .inl (.iload_n 1), 1), (38, .inl (.iload_n 2), 1), (39, .inl (.lload_n 3), 1), (40, .inr (2, 355, 4), 3), (43, .inl (.goto 9), 3), (46, .inl (.aload_n 0), 1), (47, .inl (.iconst 3), 1)],
  [(48, .inr (2, 233, 2), 3), (51, .inl (.i2l), 1), (52, .inl (.lreturn), 1)]]
-- MovingNamesModel.cut(IIJ)J
set_option maxRecDepth 100000 in
noncomputable def ab_c355 : List (List (Nat × ab_I × Nat)) := [[(0, .inl (.bipush 64), 2), (2, .inl (.bipush 8), 2), (4, .inl (.aload_n 0), 1), (5, .inr (0, 9, 29), 3), (8, .inl (.iload_n 1), 1), (9, .inl (.iaload), 1), (10, .inl (.ishl), 1), (11, .inl (.isub), 1), (12, .inl (.istore 5), 2), (14, .inl (.aload_n 0), 1), (15, .inr (0, 9, 31), 3)],
  [(18, .inl (.bipush 30), 2), (20, .inl (.iload_n 1), 1), (21, .inl (.imul), 1), (22, .inl (.iload_n 2), 1), (23, .inl (.iadd), 1), (24, .inl (.lload_n 3), 1), (25, .inl (.iload 5), 2), (27, .inl (.lshl), 1), (28, .inl (.iload 5), 2), (30, .inl (.lshr), 1), (31, .inl (.lastore), 1)],
  [(32, .inl (.aload_n 0), 1), (33, .inr (0, 9, 31), 3), (36, .inl (.bipush 30), 2), (38, .inl (.iload_n 1), 1), (39, .inl (.imul), 1), (40, .inl (.iload_n 2), 1), (41, .inl (.iadd), 1), (42, .inl (.laload), 1), (43, .inl (.lreturn), 1)]]
-- MovingNamesModel.copy(I)I
set_option maxRecDepth 100000 in
noncomputable def ab_c356 : List (List (Nat × ab_I × Nat)) := [[(0, .inl (.aload_n 0), 1), (1, .inl (.aload_n 0), 1), (2, .inl (.iload_n 1), 1), (3, .inr (2, 310, 2), 3), (6, .inr (1, 9, 4), 3), (9, .inl (.aload_n 0), 1), (10, .inr (0, 9, 4), 3), (13, .inl (.ifCond .le 5), 3)],
  [(16, .inl (.iconst 0), 1), (17, .inl (.ireturn), 1), (18, .inl (.aload_n 0), 1), (19, .inr (0, 9, 30), 3), (22, .inl (.iload_n 1), 1), (23, .inl (.iaload), 1), (24, .inl (.aload_n 0), 1), (25, .inr (2, 267, 1), 3), (28, .inr (2, 19, 2), 3), (31, .inl (.istore_n 2), 1)],
  [(32, .inl (.iconst 0), 1), (33, .inl (.istore_n 3), 1), (34, .inl (.iload_n 3), 1), (35, .inl (.iload_n 2), 1), (36, .inl (.if_icmp .ge 26), 3), (39, .inl (.aload_n 0), 1), (40, .inl (.iload_n 1), 1), (41, .inl (.iload_n 3), 1), (42, .inl (.aload_n 0), 1), (43, .inr (0, 9, 0), 3), (46, .inl (.bipush 11), 2)],
  [(48, .inl (.iload_n 3), 1), (49, .inl (.iadd), 1), (50, .inl (.iaload), 1), (51, .inl (.i2l), 1), (52, .inr (2, 355, 4), 3), (55, .inl (.pop2), 1), (56, .inl (.iinc 3 1), 3), (59, .inl (.goto (-25)), 3), (62, .inl (.iload_n 2), 1), (63, .inl (.ireturn), 1)]]
-- MovingNamesModel.image(I)V
set_option maxRecDepth 100000 in
noncomputable def ab_c357 : List (List (Nat × ab_I × Nat)) := [[(0, .inl (.aload_n 0), 1), (1, .inl (.iload_n 1), 1), (2, .inl (.i2l), 1), (3, .inl (.lconst 0), 1), (4, .inr (9, 0, 2), 3), (7, .inr (2, 232, 3), 3), (10, .inl (.ifCond .eq 7), 3), (13, .inl (.iconst 0), 1), (14, .inl (.goto 4), 3)],
  [(17, .inl (.iconst 1), 1), (18, .inr (1, 9, 4), 3), (21, .inl (.aload_n 0), 1), (22, .inr (0, 9, 4), 3), (25, .inl (.ifCond .le 4), 3), (28, .inl (.return_), 1), (29, .inl (.aload_n 0), 1), (30, .inr (0, 9, 3), 3)],
  [(33, .inl (.iload_n 1), 1), (34, .inl (.iconst 1), 1), (35, .inl (.bastore), 1), (36, .inl (.iconst 0), 1), (37, .inl (.istore_n 2), 1), (38, .inl (.iload_n 2), 1), (39, .inl (.sipush 2300), 3), (42, .inl (.if_icmp .ge 27), 3), (45, .inl (.aload_n 0), 1), (46, .inr (0, 9, 2), 3)],
  [(49, .inl (.sipush 2300), 3), (52, .inl (.iload_n 1), 1), (53, .inl (.imul), 1), (54, .inl (.iload_n 2), 1), (55, .inl (.iadd), 1), (56, .inl (.aload_n 0), 1), (57, .inr (0, 9, 0), 3), (60, .inl (.iload_n 2), 1), (61, .inl (.iaload), 1), (62, .inl (.iastore), 1), (63, .inl (.iinc 2 1), 3)],
  [(66, .inl (.goto (-28)), 3), (69, .inl (.return_), 1)]]
-- MovingNamesModel.restore(I)V
set_option maxRecDepth 100000 in
noncomputable def ab_c358 : List (List (Nat × ab_I × Nat)) := [[(0, .inl (.aload_n 0), 1), (1, .inl (.iload_n 1), 1), (2, .inl (.i2l), 1), (3, .inl (.lconst 0), 1), (4, .inr (9, 0, 2), 3), (7, .inr (2, 232, 3), 3), (10, .inl (.ifCond .ne 7), 3), (13, .inl (.iconst 1), 1), (14, .inl (.goto 17), 3)],
  [(17, .inl (.aload_n 0), 1), (18, .inr (0, 9, 3), 3), (21, .inl (.iload_n 1), 1), (22, .inl (.baload), 1), (23, .inl (.ifCond .ne 7), 3), (26, .inl (.iconst 2), 1), (27, .inl (.goto 4), 3), (30, .inl (.iconst 0), 1), (31, .inr (1, 9, 4), 3)],
  [(34, .inl (.aload_n 0), 1), (35, .inr (0, 9, 4), 3), (38, .inl (.ifCond .le 4), 3), (41, .inl (.return_), 1), (42, .inl (.iconst 0), 1), (43, .inl (.istore_n 2), 1), (44, .inl (.iload_n 2), 1), (45, .inl (.sipush 2300), 3)],
  [(48, .inl (.if_icmp .ge 27), 3), (51, .inl (.aload_n 0), 1), (52, .inr (0, 9, 0), 3), (55, .inl (.iload_n 2), 1), (56, .inl (.aload_n 0), 1), (57, .inr (0, 9, 2), 3), (60, .inl (.sipush 2300), 3), (63, .inl (.iload_n 1), 1)],
  [(64, .inl (.imul), 1), (65, .inl (.iload_n 2), 1), (66, .inl (.iadd), 1), (67, .inl (.iaload), 1), (68, .inl (.iastore), 1), (69, .inl (.iinc 2 1), 3), (72, .inl (.goto (-28)), 3), (75, .inl (.return_), 1)]]
-- MovingNamesModel.count(I)I
set_option maxRecDepth 100000 in
noncomputable def ab_c359 : List (List (Nat × ab_I × Nat)) := [[(0, .inl (.aload_n 0), 1), (1, .inl (.iconst 0), 1), (2, .inr (1, 9, 4), 3), (5, .inl (.iload_n 1), 1), (6, .inl (.tableswitch 138 0 10 #[58, 65, 70, 77, 84, 91, 100, 109, 120, 125, 133]), 58)],
  [],
  [],
  [],
  [(64, .inl (.aload_n 0), 1), (65, .inr (0, 9, 0), 3), (68, .inl (.iconst 0), 1), (69, .inl (.iaload), 1), (70, .inl (.ireturn), 1), (71, .inl (.aload_n 0), 1), (72, .inr (2, 267, 1), 3), (75, .inl (.ireturn), 1), (76, .inl (.aload_n 0), 1), (77, .inr (0, 9, 0), 3)],
  [(80, .inl (.iconst 2), 1), (81, .inl (.iaload), 1), (82, .inl (.ireturn), 1), (83, .inl (.aload_n 0), 1), (84, .inr (0, 9, 0), 3), (87, .inl (.iconst 3), 1), (88, .inl (.iaload), 1), (89, .inl (.ireturn), 1), (90, .inl (.aload_n 0), 1), (91, .inr (0, 9, 0), 3), (94, .inl (.iconst 4), 1), (95, .inl (.iaload), 1)],
  [(96, .inl (.ireturn), 1), (97, .inl (.aload_n 0), 1), (98, .inr (0, 9, 0), 3), (101, .inl (.sipush 132), 3), (104, .inl (.iaload), 1), (105, .inl (.ireturn), 1), (106, .inl (.aload_n 0), 1), (107, .inr (0, 9, 0), 3), (110, .inl (.sipush 133), 3)],
  [(113, .inl (.iaload), 1), (114, .inl (.ireturn), 1), (115, .inl (.aload_n 0), 1), (116, .inr (0, 9, 0), 3), (119, .inl (.bipush 31), 2), (121, .inl (.iaload), 1), (122, .inr (2, 293, 1), 3), (125, .inl (.ireturn), 1), (126, .inl (.aload_n 0), 1), (127, .inr (2, 292, 1), 3)],
  [(130, .inl (.ireturn), 1), (131, .inl (.aload_n 0), 1), (132, .inr (0, 9, 0), 3), (135, .inl (.bipush 6), 2), (137, .inl (.iaload), 1), (138, .inl (.ireturn), 1), (139, .inl (.aload_n 0), 1), (140, .inr (0, 9, 6), 3), (143, .inl (.ireturn), 1)],
  [(144, .inl (.iconst (-1)), 1), (145, .inl (.ireturn), 1)]]
-- MovingNamesLaw.law([I)Z
set_option maxRecDepth 100000 in
noncomputable def ab_c360 : List (List (Nat × ab_I × Nat)) := [[(3, .inl (.dup), 1), (7, .inl (.astore_n 1), 1), (11, .inl (.dup), 1), (15, .inl (.astore_n 2), 1)],
  [(16, .inl (.iconst 1), 1), (19, .inl (.astore_n 3), 1), (20, .inl (.iconst 0), 1), (21, .inl (.istore 4), 2), (23, .inl (.iload 4), 2), (25, .inl (.aload_n 0), 1), (26, .inl (.arraylength), 1), (27, .inl (.bipush 6), 2), (29, .inl (.isub), 1), (30, .inl (.if_icmp .gt 3187), 3)],
  [(33, .inl (.aload_n 0), 1), (34, .inl (.iload 4), 2), (36, .inl (.iaload), 1), (37, .inl (.bipush 63), 2), (39, .inl (.iand), 1), (40, .inl (.tableswitch 3171 0 50 #[220, 293, 349, 374, 442, 510, 578, 634, 702, 770, 838, 894, 907, 963, 1019, 1087, 1155, 1235, 1303, 1359, 1439, 1495, 1563, 1619, 1687, 1701, 1715, 1770, 1837, 1893, 1961, 2029, 2097, 2165, 2245, 2325, 2405, 2461, 2529, 2585, 2641, 2709, 2765, 2821, 2834, 2847, 2907, 3018, 3074, 3110, 3146]), 220)],
  [],
  [],
  [],
  [],
  [],
  [],
  [],
  [],
  [],
  [],
  [],
  [],
  [],
  [(260, .inl (.aload_n 1), 1), (261, .inl (.aload_n 0), 1), (262, .inl (.iload 4), 2), (264, .inl (.iconst 1), 1), (265, .inl (.iadd), 1), (266, .inl (.iaload), 1), (267, .inl (.aload_n 0), 1), (268, .inl (.iload 4), 2), (270, .inl (.iconst 2), 1), (271, .inl (.iadd), 1)],
  [(272, .inl (.iaload), 1), (273, .inl (.aload_n 0), 1), (274, .inl (.iload 4), 2), (276, .inl (.iconst 3), 1), (277, .inl (.iadd), 1), (278, .inl (.iaload), 1), (279, .inl (.aload_n 0), 1), (280, .inl (.iload 4), 2), (282, .inl (.iconst 4), 1), (283, .inl (.iadd), 1), (284, .inl (.iaload), 1), (285, .inl (.aload_n 0), 1), (286, .inl (.iload 4), 2)],
  [(288, .inl (.iconst 5), 1), (289, .inl (.iadd), 1), (290, .inl (.iaload), 1), (291, .inr (2, 0, 6), 3), (294, .inl (.aload_n 2), 1), (295, .inl (.aload_n 0), 1), (296, .inl (.iload 4), 2), (298, .inl (.iconst 1), 1), (299, .inl (.iadd), 1), (300, .inl (.iaload), 1), (301, .inl (.aload_n 0), 1), (302, .inl (.iload 4), 2)],
  [(304, .inl (.iconst 2), 1), (305, .inl (.iadd), 1), (306, .inl (.iaload), 1), (307, .inl (.aload_n 0), 1), (308, .inl (.iload 4), 2), (310, .inl (.iconst 3), 1), (311, .inl (.iadd), 1), (312, .inl (.iaload), 1), (313, .inl (.aload_n 0), 1), (314, .inl (.iload 4), 2), (316, .inl (.iconst 4), 1), (317, .inl (.iadd), 1), (318, .inl (.iaload), 1), (319, .inl (.aload_n 0), 1)],
  [(320, .inl (.iload 4), 2), (322, .inl (.iconst 5), 1), (323, .inl (.iadd), 1), (324, .inl (.iaload), 1), (325, .inr (2, 230, 6), 3), (328, .inl (.if_icmp .eq 2883), 3), (331, .inl (.iconst 0), 1), (332, .inl (.ireturn), 1), (333, .inl (.aload_n 1), 1), (334, .inl (.aload_n 0), 1), (335, .inl (.iload 4), 2)],
  [(337, .inl (.iconst 1), 1), (338, .inl (.iadd), 1), (339, .inl (.iaload), 1), (340, .inl (.aload_n 3), 1), (341, .inr (2, 38, 3), 3), (344, .inl (.istore 5), 2), (346, .inl (.aload_n 2), 1), (347, .inl (.aload_n 0), 1), (348, .inl (.iload 4), 2), (350, .inl (.iconst 1), 1), (351, .inl (.iadd), 1)],
  [(352, .inl (.iaload), 1), (353, .inr (2, 231, 2), 3), (356, .inl (.istore 6), 2), (358, .inl (.aload_n 2), 1), (359, .inr (2, 229, 1), 3), (362, .inl (.iload 5), 2), (364, .inl (.if_icmp .eq 5), 3), (367, .inl (.iconst 0), 1)],
  [(368, .inl (.ireturn), 1), (369, .inl (.iload 5), 2), (371, .inl (.ifCond .ne 15), 3), (374, .inl (.aload_n 3), 1), (375, .inl (.iconst 0), 1), (376, .inl (.laload), 1), (377, .inl (.iload 6), 2), (379, .inl (.i2l), 1), (380, .inl (.lcmp), 1), (381, .inl (.ifCond .eq 5), 3)],
  [(384, .inl (.iconst 0), 1), (385, .inl (.ireturn), 1), (386, .inl (.goto 2825), 3), (389, .inl (.aload_n 1), 1), (390, .inl (.aload_n 0), 1), (391, .inl (.iload 4), 2), (393, .inl (.iconst 1), 1), (394, .inl (.iadd), 1), (395, .inl (.iaload), 1), (396, .inr (2, 4, 2), 3), (399, .inl (.aload_n 2), 1)],
  [(400, .inl (.aload_n 0), 1), (401, .inl (.iload 4), 2), (403, .inl (.iconst 1), 1), (404, .inl (.iadd), 1), (405, .inl (.iaload), 1), (406, .inr (2, 264, 2), 3), (409, .inl (.if_icmp .eq 2802), 3), (412, .inl (.iconst 0), 1), (413, .inl (.ireturn), 1), (414, .inl (.aload_n 1), 1), (415, .inl (.aload_n 0), 1)],
  [(416, .inl (.iload 4), 2), (418, .inl (.iconst 1), 1), (419, .inl (.iadd), 1), (420, .inl (.iaload), 1), (421, .inl (.aload_n 0), 1), (422, .inl (.iload 4), 2), (424, .inl (.iconst 2), 1), (425, .inl (.iadd), 1), (426, .inl (.iaload), 1), (427, .inl (.aload_n 3), 1), (428, .inr (2, 84, 4), 3), (431, .inl (.istore 5), 2)],
  [(433, .inl (.aload_n 2), 1), (434, .inl (.aload_n 0), 1), (435, .inl (.iload 4), 2), (437, .inl (.iconst 1), 1), (438, .inl (.iadd), 1), (439, .inl (.iaload), 1), (440, .inl (.aload_n 0), 1), (441, .inl (.iload 4), 2), (443, .inl (.iconst 2), 1), (444, .inl (.iadd), 1), (445, .inl (.iaload), 1), (446, .inr (2, 265, 3), 3)],
  [(449, .inl (.istore 6), 2), (451, .inl (.aload_n 2), 1), (452, .inr (2, 229, 1), 3), (455, .inl (.iload 5), 2), (457, .inl (.if_icmp .eq 5), 3), (460, .inl (.iconst 0), 1), (461, .inl (.ireturn), 1), (462, .inl (.iload 5), 2)],
  [(464, .inl (.ifCond .ne 15), 3), (467, .inl (.aload_n 3), 1), (468, .inl (.iconst 0), 1), (469, .inl (.laload), 1), (470, .inl (.iload 6), 2), (472, .inl (.i2l), 1), (473, .inl (.lcmp), 1), (474, .inl (.ifCond .eq 5), 3), (477, .inl (.iconst 0), 1), (478, .inl (.ireturn), 1), (479, .inl (.goto 2732), 3)],
  [(482, .inl (.aload_n 1), 1), (483, .inl (.aload_n 0), 1), (484, .inl (.iload 4), 2), (486, .inl (.iconst 1), 1), (487, .inl (.iadd), 1), (488, .inl (.iaload), 1), (489, .inl (.aload_n 0), 1), (490, .inl (.iload 4), 2), (492, .inl (.iconst 2), 1), (493, .inl (.iadd), 1), (494, .inl (.iaload), 1), (495, .inl (.aload_n 3), 1)],
  [(496, .inr (2, 89, 4), 3), (499, .inl (.istore 5), 2), (501, .inl (.aload_n 2), 1), (502, .inl (.aload_n 0), 1), (503, .inl (.iload 4), 2), (505, .inl (.iconst 1), 1), (506, .inl (.iadd), 1), (507, .inl (.iaload), 1), (508, .inl (.aload_n 0), 1), (509, .inl (.iload 4), 2), (511, .inl (.iconst 2), 1)],
  [(512, .inl (.iadd), 1), (513, .inl (.iaload), 1), (514, .inr (2, 273, 3), 3), (517, .inl (.istore 6), 2), (519, .inl (.aload_n 2), 1), (520, .inr (2, 229, 1), 3), (523, .inl (.iload 5), 2), (525, .inl (.if_icmp .eq 5), 3)],
  [(528, .inl (.iconst 0), 1), (529, .inl (.ireturn), 1), (530, .inl (.iload 5), 2), (532, .inl (.ifCond .ne 15), 3), (535, .inl (.aload_n 3), 1), (536, .inl (.iconst 0), 1), (537, .inl (.laload), 1), (538, .inl (.iload 6), 2), (540, .inl (.i2l), 1), (541, .inl (.lcmp), 1), (542, .inl (.ifCond .eq 5), 3)],
  [(545, .inl (.iconst 0), 1), (546, .inl (.ireturn), 1), (547, .inl (.goto 2664), 3), (550, .inl (.aload_n 1), 1), (551, .inl (.aload_n 0), 1), (552, .inl (.iload 4), 2), (554, .inl (.iconst 1), 1), (555, .inl (.iadd), 1), (556, .inl (.iaload), 1), (557, .inl (.aload_n 0), 1), (558, .inl (.iload 4), 2)],
  [(560, .inl (.iconst 2), 1), (561, .inl (.iadd), 1), (562, .inl (.iaload), 1), (563, .inl (.aload_n 3), 1), (564, .inr (2, 93, 4), 3), (567, .inl (.istore 5), 2), (569, .inl (.aload_n 2), 1), (570, .inl (.aload_n 0), 1), (571, .inl (.iload 4), 2), (573, .inl (.iconst 1), 1), (574, .inl (.iadd), 1), (575, .inl (.iaload), 1)],
  [(576, .inl (.aload_n 0), 1), (577, .inl (.iload 4), 2), (579, .inl (.iconst 2), 1), (580, .inl (.iadd), 1), (581, .inl (.iaload), 1), (582, .inr (2, 275, 3), 3), (585, .inl (.istore 6), 2), (587, .inl (.aload_n 2), 1), (588, .inr (2, 229, 1), 3), (591, .inl (.iload 5), 2)],
  [(593, .inl (.if_icmp .eq 5), 3), (596, .inl (.iconst 0), 1), (597, .inl (.ireturn), 1), (598, .inl (.iload 5), 2), (600, .inl (.ifCond .ne 15), 3), (603, .inl (.aload_n 3), 1), (604, .inl (.iconst 0), 1), (605, .inl (.laload), 1), (606, .inl (.iload 6), 2)],
  [(608, .inl (.i2l), 1), (609, .inl (.lcmp), 1), (610, .inl (.ifCond .eq 5), 3), (613, .inl (.iconst 0), 1), (614, .inl (.ireturn), 1), (615, .inl (.goto 2596), 3), (618, .inl (.aload_n 1), 1), (619, .inl (.aload_n 0), 1), (620, .inl (.iload 4), 2), (622, .inl (.iconst 1), 1), (623, .inl (.iadd), 1)],
  [(624, .inl (.iaload), 1), (625, .inl (.aload_n 3), 1), (626, .inr (2, 96, 3), 3), (629, .inl (.istore 5), 2), (631, .inl (.aload_n 2), 1), (632, .inl (.aload_n 0), 1), (633, .inl (.iload 4), 2), (635, .inl (.iconst 1), 1), (636, .inl (.iadd), 1), (637, .inl (.iaload), 1), (638, .inr (2, 277, 2), 3)],
  [(641, .inl (.istore 6), 2), (643, .inl (.aload_n 2), 1), (644, .inr (2, 229, 1), 3), (647, .inl (.iload 5), 2), (649, .inl (.if_icmp .eq 5), 3), (652, .inl (.iconst 0), 1), (653, .inl (.ireturn), 1), (654, .inl (.iload 5), 2)],
  [(656, .inl (.ifCond .ne 15), 3), (659, .inl (.aload_n 3), 1), (660, .inl (.iconst 0), 1), (661, .inl (.laload), 1), (662, .inl (.iload 6), 2), (664, .inl (.i2l), 1), (665, .inl (.lcmp), 1), (666, .inl (.ifCond .eq 5), 3), (669, .inl (.iconst 0), 1), (670, .inl (.ireturn), 1), (671, .inl (.goto 2540), 3)],
  [(674, .inl (.aload_n 1), 1), (675, .inl (.aload_n 0), 1), (676, .inl (.iload 4), 2), (678, .inl (.iconst 1), 1), (679, .inl (.iadd), 1), (680, .inl (.iaload), 1), (681, .inl (.aload_n 0), 1), (682, .inl (.iload 4), 2), (684, .inl (.iconst 2), 1), (685, .inl (.iadd), 1), (686, .inl (.iaload), 1), (687, .inl (.aload_n 3), 1)],
  [(688, .inr (2, 100, 4), 3), (691, .inl (.istore 5), 2), (693, .inl (.aload_n 2), 1), (694, .inl (.aload_n 0), 1), (695, .inl (.iload 4), 2), (697, .inl (.iconst 1), 1), (698, .inl (.iadd), 1), (699, .inl (.iaload), 1), (700, .inl (.aload_n 0), 1), (701, .inl (.iload 4), 2), (703, .inl (.iconst 2), 1)],
  [(704, .inl (.iadd), 1), (705, .inl (.iaload), 1), (706, .inr (2, 279, 3), 3), (709, .inl (.istore 6), 2), (711, .inl (.aload_n 2), 1), (712, .inr (2, 229, 1), 3), (715, .inl (.iload 5), 2), (717, .inl (.if_icmp .eq 5), 3)],
  [(720, .inl (.iconst 0), 1), (721, .inl (.ireturn), 1), (722, .inl (.iload 5), 2), (724, .inl (.ifCond .ne 15), 3), (727, .inl (.aload_n 3), 1), (728, .inl (.iconst 0), 1), (729, .inl (.laload), 1), (730, .inl (.iload 6), 2), (732, .inl (.i2l), 1), (733, .inl (.lcmp), 1), (734, .inl (.ifCond .eq 5), 3)],
  [(737, .inl (.iconst 0), 1), (738, .inl (.ireturn), 1), (739, .inl (.goto 2472), 3), (742, .inl (.aload_n 1), 1), (743, .inl (.aload_n 0), 1), (744, .inl (.iload 4), 2), (746, .inl (.iconst 1), 1), (747, .inl (.iadd), 1), (748, .inl (.iaload), 1), (749, .inl (.aload_n 0), 1), (750, .inl (.iload 4), 2)],
  [(752, .inl (.iconst 2), 1), (753, .inl (.iadd), 1), (754, .inl (.iaload), 1), (755, .inl (.aload_n 3), 1), (756, .inr (2, 105, 4), 3), (759, .inl (.istore 5), 2), (761, .inl (.aload_n 2), 1), (762, .inl (.aload_n 0), 1), (763, .inl (.iload 4), 2), (765, .inl (.iconst 1), 1), (766, .inl (.iadd), 1), (767, .inl (.iaload), 1)],
  [(768, .inl (.aload_n 0), 1), (769, .inl (.iload 4), 2), (771, .inl (.iconst 2), 1), (772, .inl (.iadd), 1), (773, .inl (.iaload), 1), (774, .inr (2, 286, 3), 3), (777, .inl (.istore 6), 2), (779, .inl (.aload_n 2), 1), (780, .inr (2, 229, 1), 3), (783, .inl (.iload 5), 2)],
  [(785, .inl (.if_icmp .eq 5), 3), (788, .inl (.iconst 0), 1), (789, .inl (.ireturn), 1), (790, .inl (.iload 5), 2), (792, .inl (.ifCond .ne 15), 3), (795, .inl (.aload_n 3), 1), (796, .inl (.iconst 0), 1), (797, .inl (.laload), 1), (798, .inl (.iload 6), 2)],
  [(800, .inl (.i2l), 1), (801, .inl (.lcmp), 1), (802, .inl (.ifCond .eq 5), 3), (805, .inl (.iconst 0), 1), (806, .inl (.ireturn), 1), (807, .inl (.goto 2404), 3), (810, .inl (.aload_n 1), 1), (811, .inl (.aload_n 0), 1), (812, .inl (.iload 4), 2), (814, .inl (.iconst 1), 1), (815, .inl (.iadd), 1)],
  [(816, .inl (.iaload), 1), (817, .inl (.aload_n 0), 1), (818, .inl (.iload 4), 2), (820, .inl (.iconst 2), 1), (821, .inl (.iadd), 1), (822, .inl (.iaload), 1), (823, .inl (.aload_n 3), 1), (824, .inr (2, 109, 4), 3), (827, .inl (.istore 5), 2), (829, .inl (.aload_n 2), 1), (830, .inl (.aload_n 0), 1), (831, .inl (.iload 4), 2)],
  [(833, .inl (.iconst 1), 1), (834, .inl (.iadd), 1), (835, .inl (.iaload), 1), (836, .inl (.aload_n 0), 1), (837, .inl (.iload 4), 2), (839, .inl (.iconst 2), 1), (840, .inl (.iadd), 1), (841, .inl (.iaload), 1), (842, .inr (2, 287, 3), 3), (845, .inl (.istore 6), 2), (847, .inl (.aload_n 2), 1)],
  [(848, .inr (2, 229, 1), 3), (851, .inl (.iload 5), 2), (853, .inl (.if_icmp .eq 5), 3), (856, .inl (.iconst 0), 1), (857, .inl (.ireturn), 1), (858, .inl (.iload 5), 2), (860, .inl (.ifCond .ne 15), 3), (863, .inl (.aload_n 3), 1)],
  [(864, .inl (.iconst 0), 1), (865, .inl (.laload), 1), (866, .inl (.iload 6), 2), (868, .inl (.i2l), 1), (869, .inl (.lcmp), 1), (870, .inl (.ifCond .eq 5), 3), (873, .inl (.iconst 0), 1), (874, .inl (.ireturn), 1), (875, .inl (.goto 2336), 3), (878, .inl (.aload_n 1), 1), (879, .inl (.aload_n 0), 1)],
  [(880, .inl (.iload 4), 2), (882, .inl (.iconst 1), 1), (883, .inl (.iadd), 1), (884, .inl (.iaload), 1), (885, .inl (.aload_n 3), 1), (886, .inr (2, 111, 3), 3), (889, .inl (.istore 5), 2), (891, .inl (.aload_n 2), 1), (892, .inl (.aload_n 0), 1), (893, .inl (.iload 4), 2), (895, .inl (.iconst 1), 1)],
  [(896, .inl (.iadd), 1), (897, .inl (.iaload), 1), (898, .inr (2, 288, 2), 3), (901, .inl (.istore 6), 2), (903, .inl (.aload_n 2), 1), (904, .inr (2, 229, 1), 3), (907, .inl (.iload 5), 2), (909, .inl (.if_icmp .eq 5), 3)],
  [(912, .inl (.iconst 0), 1), (913, .inl (.ireturn), 1), (914, .inl (.iload 5), 2), (916, .inl (.ifCond .ne 15), 3), (919, .inl (.aload_n 3), 1), (920, .inl (.iconst 0), 1), (921, .inl (.laload), 1), (922, .inl (.iload 6), 2), (924, .inl (.i2l), 1), (925, .inl (.lcmp), 1), (926, .inl (.ifCond .eq 5), 3)],
  [(929, .inl (.iconst 0), 1), (930, .inl (.ireturn), 1), (931, .inl (.goto 2280), 3), (934, .inl (.aload_n 1), 1), (935, .inr (2, 5, 1), 3), (938, .inl (.aload_n 2), 1), (939, .inr (2, 298, 1), 3), (942, .inl (.if_icmp .eq 2269), 3)],
  [(945, .inl (.iconst 0), 1), (946, .inl (.ireturn), 1), (947, .inl (.aload_n 1), 1), (948, .inl (.aload_n 0), 1), (949, .inl (.iload 4), 2), (951, .inl (.iconst 1), 1), (952, .inl (.iadd), 1), (953, .inl (.iaload), 1), (954, .inl (.aload_n 3), 1), (955, .inr (2, 117, 3), 3), (958, .inl (.istore 5), 2)],
  [(960, .inl (.aload_n 2), 1), (961, .inl (.aload_n 0), 1), (962, .inl (.iload 4), 2), (964, .inl (.iconst 1), 1), (965, .inl (.iadd), 1), (966, .inl (.iaload), 1), (967, .inr (2, 299, 2), 3), (970, .inl (.istore 6), 2), (972, .inl (.aload_n 2), 1), (973, .inr (2, 229, 1), 3)],
  [(976, .inl (.iload 5), 2), (978, .inl (.if_icmp .eq 5), 3), (981, .inl (.iconst 0), 1), (982, .inl (.ireturn), 1), (983, .inl (.iload 5), 2), (985, .inl (.ifCond .ne 15), 3), (988, .inl (.aload_n 3), 1), (989, .inl (.iconst 0), 1), (990, .inl (.laload), 1), (991, .inl (.iload 6), 2)],
  [(993, .inl (.i2l), 1), (994, .inl (.lcmp), 1), (995, .inl (.ifCond .eq 5), 3), (998, .inl (.iconst 0), 1), (999, .inl (.ireturn), 1), (1000, .inl (.goto 2211), 3), (1003, .inl (.aload_n 1), 1), (1004, .inl (.aload_n 0), 1), (1005, .inl (.iload 4), 2), (1007, .inl (.iconst 1), 1)],
  [(1008, .inl (.iadd), 1), (1009, .inl (.iaload), 1), (1010, .inl (.aload_n 3), 1), (1011, .inr (2, 119, 3), 3), (1014, .inl (.istore 5), 2), (1016, .inl (.aload_n 2), 1), (1017, .inl (.aload_n 0), 1), (1018, .inl (.iload 4), 2), (1020, .inl (.iconst 1), 1), (1021, .inl (.iadd), 1), (1022, .inl (.iaload), 1), (1023, .inr (2, 300, 2), 3)],
  [(1026, .inl (.istore 6), 2), (1028, .inl (.aload_n 2), 1), (1029, .inr (2, 229, 1), 3), (1032, .inl (.iload 5), 2), (1034, .inl (.if_icmp .eq 5), 3), (1037, .inl (.iconst 0), 1), (1038, .inl (.ireturn), 1), (1039, .inl (.iload 5), 2)],
  [(1041, .inl (.ifCond .ne 15), 3), (1044, .inl (.aload_n 3), 1), (1045, .inl (.iconst 0), 1), (1046, .inl (.laload), 1), (1047, .inl (.iload 6), 2), (1049, .inl (.i2l), 1), (1050, .inl (.lcmp), 1), (1051, .inl (.ifCond .eq 5), 3), (1054, .inl (.iconst 0), 1), (1055, .inl (.ireturn), 1)],
  [(1056, .inl (.goto 2155), 3), (1059, .inl (.aload_n 1), 1), (1060, .inl (.aload_n 0), 1), (1061, .inl (.iload 4), 2), (1063, .inl (.iconst 1), 1), (1064, .inl (.iadd), 1), (1065, .inl (.iaload), 1), (1066, .inl (.aload_n 0), 1), (1067, .inl (.iload 4), 2), (1069, .inl (.iconst 2), 1), (1070, .inl (.iadd), 1), (1071, .inl (.iaload), 1)],
  [(1072, .inl (.aload_n 3), 1), (1073, .inr (2, 122, 4), 3), (1076, .inl (.istore 5), 2), (1078, .inl (.aload_n 2), 1), (1079, .inl (.aload_n 0), 1), (1080, .inl (.iload 4), 2), (1082, .inl (.iconst 1), 1), (1083, .inl (.iadd), 1), (1084, .inl (.iaload), 1), (1085, .inl (.aload_n 0), 1), (1086, .inl (.iload 4), 2)],
  [(1088, .inl (.iconst 2), 1), (1089, .inl (.iadd), 1), (1090, .inl (.iaload), 1), (1091, .inr (2, 301, 3), 3), (1094, .inl (.istore 6), 2), (1096, .inl (.aload_n 2), 1), (1097, .inr (2, 229, 1), 3), (1100, .inl (.iload 5), 2), (1102, .inl (.if_icmp .eq 5), 3)],
  [(1105, .inl (.iconst 0), 1), (1106, .inl (.ireturn), 1), (1107, .inl (.iload 5), 2), (1109, .inl (.ifCond .ne 15), 3), (1112, .inl (.aload_n 3), 1), (1113, .inl (.iconst 0), 1), (1114, .inl (.laload), 1), (1115, .inl (.iload 6), 2), (1117, .inl (.i2l), 1), (1118, .inl (.lcmp), 1), (1119, .inl (.ifCond .eq 5), 3)],
  [(1122, .inl (.iconst 0), 1), (1123, .inl (.ireturn), 1), (1124, .inl (.goto 2087), 3), (1127, .inl (.aload_n 1), 1), (1128, .inl (.aload_n 0), 1), (1129, .inl (.iload 4), 2), (1131, .inl (.iconst 1), 1), (1132, .inl (.iadd), 1), (1133, .inl (.iaload), 1), (1134, .inl (.aload_n 0), 1), (1135, .inl (.iload 4), 2)],
  [(1137, .inl (.iconst 2), 1), (1138, .inl (.iadd), 1), (1139, .inl (.iaload), 1), (1140, .inl (.aload_n 3), 1), (1141, .inr (2, 125, 4), 3), (1144, .inl (.istore 5), 2), (1146, .inl (.aload_n 2), 1), (1147, .inl (.aload_n 0), 1), (1148, .inl (.iload 4), 2), (1150, .inl (.iconst 1), 1), (1151, .inl (.iadd), 1)],
  [(1152, .inl (.iaload), 1), (1153, .inl (.aload_n 0), 1), (1154, .inl (.iload 4), 2), (1156, .inl (.iconst 2), 1), (1157, .inl (.iadd), 1), (1158, .inl (.iaload), 1), (1159, .inr (2, 302, 3), 3), (1162, .inl (.istore 6), 2), (1164, .inl (.aload_n 2), 1), (1165, .inr (2, 229, 1), 3)],
  [(1168, .inl (.iload 5), 2), (1170, .inl (.if_icmp .eq 5), 3), (1173, .inl (.iconst 0), 1), (1174, .inl (.ireturn), 1), (1175, .inl (.iload 5), 2), (1177, .inl (.ifCond .ne 15), 3), (1180, .inl (.aload_n 3), 1), (1181, .inl (.iconst 0), 1), (1182, .inl (.laload), 1), (1183, .inl (.iload 6), 2)],
  [(1185, .inl (.i2l), 1), (1186, .inl (.lcmp), 1), (1187, .inl (.ifCond .eq 5), 3), (1190, .inl (.iconst 0), 1), (1191, .inl (.ireturn), 1), (1192, .inl (.goto 2019), 3), (1195, .inl (.aload_n 1), 1), (1196, .inl (.aload_n 0), 1), (1197, .inl (.iload 4), 2), (1199, .inl (.iconst 1), 1)],
  [(1200, .inl (.iadd), 1), (1201, .inl (.iaload), 1), (1202, .inl (.aload_n 0), 1), (1203, .inl (.iload 4), 2), (1205, .inl (.iconst 2), 1), (1206, .inl (.iadd), 1), (1207, .inl (.iaload), 1), (1208, .inl (.aload_n 0), 1), (1209, .inl (.iload 4), 2), (1211, .inl (.iconst 3), 1), (1212, .inl (.iadd), 1), (1213, .inl (.iaload), 1), (1214, .inl (.aload_n 3), 1), (1215, .inr (2, 130, 5), 3)],
  [(1218, .inl (.istore 5), 2), (1220, .inl (.aload_n 2), 1), (1221, .inl (.aload_n 0), 1), (1222, .inl (.iload 4), 2), (1224, .inl (.iconst 1), 1), (1225, .inl (.iadd), 1), (1226, .inl (.iaload), 1), (1227, .inl (.aload_n 0), 1), (1228, .inl (.iload 4), 2), (1230, .inl (.iconst 2), 1), (1231, .inl (.iadd), 1)],
  [(1232, .inl (.iaload), 1), (1233, .inl (.aload_n 0), 1), (1234, .inl (.iload 4), 2), (1236, .inl (.iconst 3), 1), (1237, .inl (.iadd), 1), (1238, .inl (.iaload), 1), (1239, .inr (2, 304, 4), 3), (1242, .inl (.istore 6), 2), (1244, .inl (.aload_n 2), 1), (1245, .inr (2, 229, 1), 3)],
  [(1248, .inl (.iload 5), 2), (1250, .inl (.if_icmp .eq 5), 3), (1253, .inl (.iconst 0), 1), (1254, .inl (.ireturn), 1), (1255, .inl (.iload 5), 2), (1257, .inl (.ifCond .ne 15), 3), (1260, .inl (.aload_n 3), 1), (1261, .inl (.iconst 0), 1), (1262, .inl (.laload), 1), (1263, .inl (.iload 6), 2)],
  [(1265, .inl (.i2l), 1), (1266, .inl (.lcmp), 1), (1267, .inl (.ifCond .eq 5), 3), (1270, .inl (.iconst 0), 1), (1271, .inl (.ireturn), 1), (1272, .inl (.goto 1939), 3), (1275, .inl (.aload_n 1), 1), (1276, .inl (.aload_n 0), 1), (1277, .inl (.iload 4), 2), (1279, .inl (.iconst 1), 1)],
  [(1280, .inl (.iadd), 1), (1281, .inl (.iaload), 1), (1282, .inl (.aload_n 0), 1), (1283, .inl (.iload 4), 2), (1285, .inl (.iconst 2), 1), (1286, .inl (.iadd), 1), (1287, .inl (.iaload), 1), (1288, .inl (.aload_n 3), 1), (1289, .inr (2, 133, 4), 3), (1292, .inl (.istore 5), 2), (1294, .inl (.aload_n 2), 1), (1295, .inl (.aload_n 0), 1)],
  [(1296, .inl (.iload 4), 2), (1298, .inl (.iconst 1), 1), (1299, .inl (.iadd), 1), (1300, .inl (.iaload), 1), (1301, .inl (.aload_n 0), 1), (1302, .inl (.iload 4), 2), (1304, .inl (.iconst 2), 1), (1305, .inl (.iadd), 1), (1306, .inl (.iaload), 1), (1307, .inr (2, 305, 3), 3), (1310, .inl (.istore 6), 2)],
  [(1312, .inl (.aload_n 2), 1), (1313, .inr (2, 229, 1), 3), (1316, .inl (.iload 5), 2), (1318, .inl (.if_icmp .eq 5), 3), (1321, .inl (.iconst 0), 1), (1322, .inl (.ireturn), 1), (1323, .inl (.iload 5), 2), (1325, .inl (.ifCond .ne 15), 3)],
  [(1328, .inl (.aload_n 3), 1), (1329, .inl (.iconst 0), 1), (1330, .inl (.laload), 1), (1331, .inl (.iload 6), 2), (1333, .inl (.i2l), 1), (1334, .inl (.lcmp), 1), (1335, .inl (.ifCond .eq 5), 3), (1338, .inl (.iconst 0), 1), (1339, .inl (.ireturn), 1), (1340, .inl (.goto 1871), 3), (1343, .inl (.aload_n 1), 1)],
  [(1344, .inl (.aload_n 0), 1), (1345, .inl (.iload 4), 2), (1347, .inl (.iconst 1), 1), (1348, .inl (.iadd), 1), (1349, .inl (.iaload), 1), (1350, .inl (.aload_n 3), 1), (1351, .inr (2, 137, 3), 3), (1354, .inl (.istore 5), 2), (1356, .inl (.aload_n 2), 1), (1357, .inl (.aload_n 0), 1), (1358, .inl (.iload 4), 2)],
  [(1360, .inl (.iconst 1), 1), (1361, .inl (.iadd), 1), (1362, .inl (.iaload), 1), (1363, .inr (2, 306, 2), 3), (1366, .inl (.istore 6), 2), (1368, .inl (.aload_n 2), 1), (1369, .inr (2, 229, 1), 3), (1372, .inl (.iload 5), 2), (1374, .inl (.if_icmp .eq 5), 3)],
  [(1377, .inl (.iconst 0), 1), (1378, .inl (.ireturn), 1), (1379, .inl (.iload 5), 2), (1381, .inl (.ifCond .ne 15), 3), (1384, .inl (.aload_n 3), 1), (1385, .inl (.iconst 0), 1), (1386, .inl (.laload), 1), (1387, .inl (.iload 6), 2), (1389, .inl (.i2l), 1), (1390, .inl (.lcmp), 1), (1391, .inl (.ifCond .eq 5), 3)],
  [(1394, .inl (.iconst 0), 1), (1395, .inl (.ireturn), 1), (1396, .inl (.goto 1815), 3), (1399, .inl (.aload_n 1), 1), (1400, .inl (.aload_n 0), 1), (1401, .inl (.iload 4), 2), (1403, .inl (.iconst 1), 1), (1404, .inl (.iadd), 1), (1405, .inl (.iaload), 1), (1406, .inl (.aload_n 0), 1), (1407, .inl (.iload 4), 2)],
  [(1409, .inl (.iconst 2), 1), (1410, .inl (.iadd), 1), (1411, .inl (.iaload), 1), (1412, .inl (.aload_n 0), 1), (1413, .inl (.iload 4), 2), (1415, .inl (.iconst 3), 1), (1416, .inl (.iadd), 1), (1417, .inl (.iaload), 1), (1418, .inl (.aload_n 3), 1), (1419, .inr (2, 140, 5), 3), (1422, .inl (.istore 5), 2)],
  [(1424, .inl (.aload_n 2), 1), (1425, .inl (.aload_n 0), 1), (1426, .inl (.iload 4), 2), (1428, .inl (.iconst 1), 1), (1429, .inl (.iadd), 1), (1430, .inl (.iaload), 1), (1431, .inl (.aload_n 0), 1), (1432, .inl (.iload 4), 2), (1434, .inl (.iconst 2), 1), (1435, .inl (.iadd), 1), (1436, .inl (.iaload), 1), (1437, .inl (.aload_n 0), 1), (1438, .inl (.iload 4), 2)],
  [(1440, .inl (.iconst 3), 1), (1441, .inl (.iadd), 1), (1442, .inl (.iaload), 1), (1443, .inr (2, 307, 4), 3), (1446, .inl (.istore 6), 2), (1448, .inl (.aload_n 2), 1), (1449, .inr (2, 229, 1), 3), (1452, .inl (.iload 5), 2), (1454, .inl (.if_icmp .eq 5), 3)],
  [(1457, .inl (.iconst 0), 1), (1458, .inl (.ireturn), 1), (1459, .inl (.iload 5), 2), (1461, .inl (.ifCond .ne 15), 3), (1464, .inl (.aload_n 3), 1), (1465, .inl (.iconst 0), 1), (1466, .inl (.laload), 1), (1467, .inl (.iload 6), 2), (1469, .inl (.i2l), 1), (1470, .inl (.lcmp), 1), (1471, .inl (.ifCond .eq 5), 3)],
  [(1474, .inl (.iconst 0), 1), (1475, .inl (.ireturn), 1), (1476, .inl (.goto 1735), 3), (1479, .inl (.aload_n 1), 1), (1480, .inl (.aload_n 0), 1), (1481, .inl (.iload 4), 2), (1483, .inl (.iconst 1), 1), (1484, .inl (.iadd), 1), (1485, .inl (.iaload), 1), (1486, .inl (.aload_n 3), 1), (1487, .inr (2, 143, 3), 3)],
  [(1490, .inl (.istore 5), 2), (1492, .inl (.aload_n 2), 1), (1493, .inl (.aload_n 0), 1), (1494, .inl (.iload 4), 2), (1496, .inl (.iconst 1), 1), (1497, .inl (.iadd), 1), (1498, .inl (.iaload), 1), (1499, .inr (2, 308, 2), 3), (1502, .inl (.istore 6), 2)],
  [(1504, .inl (.aload_n 2), 1), (1505, .inr (2, 229, 1), 3), (1508, .inl (.iload 5), 2), (1510, .inl (.if_icmp .eq 5), 3), (1513, .inl (.iconst 0), 1), (1514, .inl (.ireturn), 1), (1515, .inl (.iload 5), 2), (1517, .inl (.ifCond .ne 15), 3)],
  [(1520, .inl (.aload_n 3), 1), (1521, .inl (.iconst 0), 1), (1522, .inl (.laload), 1), (1523, .inl (.iload 6), 2), (1525, .inl (.i2l), 1), (1526, .inl (.lcmp), 1), (1527, .inl (.ifCond .eq 5), 3), (1530, .inl (.iconst 0), 1), (1531, .inl (.ireturn), 1), (1532, .inl (.goto 1679), 3), (1535, .inl (.aload_n 1), 1)],
  [(1536, .inl (.aload_n 0), 1), (1537, .inl (.iload 4), 2), (1539, .inl (.iconst 1), 1), (1540, .inl (.iadd), 1), (1541, .inl (.iaload), 1), (1542, .inl (.aload_n 0), 1), (1543, .inl (.iload 4), 2), (1545, .inl (.iconst 2), 1), (1546, .inl (.iadd), 1), (1547, .inl (.iaload), 1), (1548, .inl (.aload_n 3), 1), (1549, .inr (2, 148, 4), 3)],
  [(1552, .inl (.istore 5), 2), (1554, .inl (.aload_n 2), 1), (1555, .inl (.aload_n 0), 1), (1556, .inl (.iload 4), 2), (1558, .inl (.iconst 1), 1), (1559, .inl (.iadd), 1), (1560, .inl (.iaload), 1), (1561, .inl (.aload_n 0), 1), (1562, .inl (.iload 4), 2), (1564, .inl (.iconst 2), 1), (1565, .inl (.iadd), 1), (1566, .inl (.iaload), 1), (1567, .inr (2, 309, 3), 3)],
  [(1570, .inl (.istore 6), 2), (1572, .inl (.aload_n 2), 1), (1573, .inr (2, 229, 1), 3), (1576, .inl (.iload 5), 2), (1578, .inl (.if_icmp .eq 5), 3), (1581, .inl (.iconst 0), 1), (1582, .inl (.ireturn), 1), (1583, .inl (.iload 5), 2)],
  [(1585, .inl (.ifCond .ne 15), 3), (1588, .inl (.aload_n 3), 1), (1589, .inl (.iconst 0), 1), (1590, .inl (.laload), 1), (1591, .inl (.iload 6), 2), (1593, .inl (.i2l), 1), (1594, .inl (.lcmp), 1), (1595, .inl (.ifCond .eq 5), 3), (1598, .inl (.iconst 0), 1), (1599, .inl (.ireturn), 1)],
  [(1600, .inl (.goto 1611), 3), (1603, .inl (.aload_n 1), 1), (1604, .inl (.aload_n 0), 1), (1605, .inl (.iload 4), 2), (1607, .inl (.iconst 1), 1), (1608, .inl (.iadd), 1), (1609, .inl (.iaload), 1), (1610, .inl (.aload_n 3), 1), (1611, .inr (2, 155, 3), 3), (1614, .inl (.istore 5), 2)],
  [(1616, .inl (.aload_n 2), 1), (1617, .inl (.aload_n 0), 1), (1618, .inl (.iload 4), 2), (1620, .inl (.iconst 1), 1), (1621, .inl (.iadd), 1), (1622, .inl (.iaload), 1), (1623, .inr (2, 316, 2), 3), (1626, .inl (.istore 6), 2), (1628, .inl (.aload_n 2), 1), (1629, .inr (2, 229, 1), 3)],
  [(1632, .inl (.iload 5), 2), (1634, .inl (.if_icmp .eq 5), 3), (1637, .inl (.iconst 0), 1), (1638, .inl (.ireturn), 1), (1639, .inl (.iload 5), 2), (1641, .inl (.ifCond .ne 15), 3), (1644, .inl (.aload_n 3), 1), (1645, .inl (.iconst 0), 1), (1646, .inl (.laload), 1), (1647, .inl (.iload 6), 2)],
  [(1649, .inl (.i2l), 1), (1650, .inl (.lcmp), 1), (1651, .inl (.ifCond .eq 5), 3), (1654, .inl (.iconst 0), 1), (1655, .inl (.ireturn), 1), (1656, .inl (.goto 1555), 3), (1659, .inl (.aload_n 1), 1), (1660, .inl (.aload_n 0), 1), (1661, .inl (.iload 4), 2), (1663, .inl (.iconst 1), 1)],
  [(1664, .inl (.iadd), 1), (1665, .inl (.iaload), 1), (1666, .inl (.aload_n 0), 1), (1667, .inl (.iload 4), 2), (1669, .inl (.iconst 2), 1), (1670, .inl (.iadd), 1), (1671, .inl (.iaload), 1), (1672, .inl (.aload_n 3), 1), (1673, .inr (2, 157, 4), 3), (1676, .inl (.istore 5), 2), (1678, .inl (.aload_n 2), 1), (1679, .inl (.aload_n 0), 1)],
  [(1680, .inl (.iload 4), 2), (1682, .inl (.iconst 1), 1), (1683, .inl (.iadd), 1), (1684, .inl (.iaload), 1), (1685, .inl (.aload_n 0), 1), (1686, .inl (.iload 4), 2), (1688, .inl (.iconst 2), 1), (1689, .inl (.iadd), 1), (1690, .inl (.iaload), 1), (1691, .inr (2, 317, 3), 3), (1694, .inl (.istore 6), 2)],
  [(1696, .inl (.aload_n 2), 1), (1697, .inr (2, 229, 1), 3), (1700, .inl (.iload 5), 2), (1702, .inl (.if_icmp .eq 5), 3), (1705, .inl (.iconst 0), 1), (1706, .inl (.ireturn), 1), (1707, .inl (.iload 5), 2), (1709, .inl (.ifCond .ne 15), 3)],
  [(1712, .inl (.aload_n 3), 1), (1713, .inl (.iconst 0), 1), (1714, .inl (.laload), 1), (1715, .inl (.iload 6), 2), (1717, .inl (.i2l), 1), (1718, .inl (.lcmp), 1), (1719, .inl (.ifCond .eq 5), 3), (1722, .inl (.iconst 0), 1), (1723, .inl (.ireturn), 1), (1724, .inl (.goto 1487), 3), (1727, .inl (.aload_n 1), 1)],
  [(1728, .inr (2, 16, 1), 3), (1731, .inl (.aload_n 2), 1), (1732, .inr (2, 319, 1), 3), (1735, .inl (.lcmp), 1), (1736, .inl (.ifCond .eq 1475), 3), (1739, .inl (.iconst 0), 1), (1740, .inl (.ireturn), 1), (1741, .inl (.aload_n 1), 1), (1742, .inr (2, 29, 1), 3)],
  [(1745, .inl (.aload_n 2), 1), (1746, .inr (2, 322, 1), 3), (1749, .inl (.lcmp), 1), (1750, .inl (.ifCond .eq 1461), 3), (1753, .inl (.iconst 0), 1), (1754, .inl (.ireturn), 1), (1755, .inl (.aload_n 1), 1), (1756, .inl (.aload_n 0), 1), (1757, .inl (.iload 4), 2), (1759, .inl (.iconst 1), 1)],
  [(1760, .inl (.iadd), 1), (1761, .inl (.iaload), 1), (1762, .inl (.aload_n 3), 1), (1763, .inr (2, 161, 3), 3), (1766, .inl (.istore 5), 2), (1768, .inl (.aload_n 2), 1), (1769, .inl (.aload_n 0), 1), (1770, .inl (.iload 4), 2), (1772, .inl (.iconst 1), 1), (1773, .inl (.iadd), 1), (1774, .inl (.iaload), 1), (1775, .inr (2, 324, 2), 3)],
  [(1778, .inl (.lstore 6), 2), (1780, .inl (.aload_n 2), 1), (1781, .inr (2, 229, 1), 3), (1784, .inl (.iload 5), 2), (1786, .inl (.if_icmp .eq 5), 3), (1789, .inl (.iconst 0), 1), (1790, .inl (.ireturn), 1), (1791, .inl (.iload 5), 2)],
  [(1793, .inl (.ifCond .ne 14), 3), (1796, .inl (.aload_n 3), 1), (1797, .inl (.iconst 0), 1), (1798, .inl (.laload), 1), (1799, .inl (.lload 6), 2), (1801, .inl (.lcmp), 1), (1802, .inl (.ifCond .eq 5), 3), (1805, .inl (.iconst 0), 1), (1806, .inl (.ireturn), 1), (1807, .inl (.goto 1404), 3)],
  [(1810, .inl (.aload_n 1), 1), (1811, .inl (.aload_n 0), 1), (1812, .inl (.iload 4), 2), (1814, .inl (.iconst 1), 1), (1815, .inl (.iadd), 1), (1816, .inl (.iaload), 1), (1817, .inl (.aload_n 0), 1), (1818, .inl (.iload 4), 2), (1820, .inl (.iconst 2), 1), (1821, .inl (.iadd), 1), (1822, .inl (.iaload), 1), (1823, .inl (.aload_n 3), 1)],
  [(1824, .inr (2, 165, 4), 3), (1827, .inl (.istore 5), 2), (1829, .inl (.aload_n 2), 1), (1830, .inl (.aload_n 0), 1), (1831, .inl (.iload 4), 2), (1833, .inl (.iconst 1), 1), (1834, .inl (.iadd), 1), (1835, .inl (.iaload), 1), (1836, .inl (.aload_n 0), 1), (1837, .inl (.iload 4), 2), (1839, .inl (.iconst 2), 1)],
  [(1840, .inl (.iadd), 1), (1841, .inl (.iaload), 1), (1842, .inr (2, 327, 3), 3), (1845, .inl (.lstore 6), 2), (1847, .inl (.aload_n 2), 1), (1848, .inr (2, 229, 1), 3), (1851, .inl (.iload 5), 2), (1853, .inl (.if_icmp .eq 5), 3)],
  [(1856, .inl (.iconst 0), 1), (1857, .inl (.ireturn), 1), (1858, .inl (.iload 5), 2), (1860, .inl (.ifCond .ne 14), 3), (1863, .inl (.aload_n 3), 1), (1864, .inl (.iconst 0), 1), (1865, .inl (.laload), 1), (1866, .inl (.lload 6), 2), (1868, .inl (.lcmp), 1), (1869, .inl (.ifCond .eq 5), 3)],
  [(1872, .inl (.iconst 0), 1), (1873, .inl (.ireturn), 1), (1874, .inl (.goto 1337), 3), (1877, .inl (.aload_n 1), 1), (1878, .inl (.aload_n 0), 1), (1879, .inl (.iload 4), 2), (1881, .inl (.iconst 1), 1), (1882, .inl (.iadd), 1), (1883, .inl (.iaload), 1), (1884, .inl (.aload_n 3), 1), (1885, .inr (2, 167, 3), 3)],
  [(1888, .inl (.istore 5), 2), (1890, .inl (.aload_n 2), 1), (1891, .inl (.aload_n 0), 1), (1892, .inl (.iload 4), 2), (1894, .inl (.iconst 1), 1), (1895, .inl (.iadd), 1), (1896, .inl (.iaload), 1), (1897, .inr (2, 328, 2), 3), (1900, .inl (.istore 6), 2), (1902, .inl (.aload_n 2), 1), (1903, .inr (2, 229, 1), 3)],
  [(1906, .inl (.iload 5), 2), (1908, .inl (.if_icmp .eq 5), 3), (1911, .inl (.iconst 0), 1), (1912, .inl (.ireturn), 1), (1913, .inl (.iload 5), 2), (1915, .inl (.ifCond .ne 15), 3), (1918, .inl (.aload_n 3), 1), (1919, .inl (.iconst 0), 1)],
  [(1920, .inl (.laload), 1), (1921, .inl (.iload 6), 2), (1923, .inl (.i2l), 1), (1924, .inl (.lcmp), 1), (1925, .inl (.ifCond .eq 5), 3), (1928, .inl (.iconst 0), 1), (1929, .inl (.ireturn), 1), (1930, .inl (.goto 1281), 3), (1933, .inl (.aload_n 1), 1), (1934, .inl (.aload_n 0), 1), (1935, .inl (.iload 4), 2)],
  [(1937, .inl (.iconst 1), 1), (1938, .inl (.iadd), 1), (1939, .inl (.iaload), 1), (1940, .inl (.aload_n 0), 1), (1941, .inl (.iload 4), 2), (1943, .inl (.iconst 2), 1), (1944, .inl (.iadd), 1), (1945, .inl (.iaload), 1), (1946, .inl (.aload_n 3), 1), (1947, .inr (2, 169, 4), 3), (1950, .inl (.istore 5), 2)],
  [(1952, .inl (.aload_n 2), 1), (1953, .inl (.aload_n 0), 1), (1954, .inl (.iload 4), 2), (1956, .inl (.iconst 1), 1), (1957, .inl (.iadd), 1), (1958, .inl (.iaload), 1), (1959, .inl (.aload_n 0), 1), (1960, .inl (.iload 4), 2), (1962, .inl (.iconst 2), 1), (1963, .inl (.iadd), 1), (1964, .inl (.iaload), 1), (1965, .inr (2, 329, 3), 3)],
  [(1968, .inl (.istore 6), 2), (1970, .inl (.aload_n 2), 1), (1971, .inr (2, 229, 1), 3), (1974, .inl (.iload 5), 2), (1976, .inl (.if_icmp .eq 5), 3), (1979, .inl (.iconst 0), 1), (1980, .inl (.ireturn), 1), (1981, .inl (.iload 5), 2), (1983, .inl (.ifCond .ne 15), 3)],
  [(1986, .inl (.aload_n 3), 1), (1987, .inl (.iconst 0), 1), (1988, .inl (.laload), 1), (1989, .inl (.iload 6), 2), (1991, .inl (.i2l), 1), (1992, .inl (.lcmp), 1), (1993, .inl (.ifCond .eq 5), 3), (1996, .inl (.iconst 0), 1), (1997, .inl (.ireturn), 1), (1998, .inl (.goto 1213), 3)],
  [(2001, .inl (.aload_n 1), 1), (2002, .inl (.aload_n 0), 1), (2003, .inl (.iload 4), 2), (2005, .inl (.iconst 1), 1), (2006, .inl (.iadd), 1), (2007, .inl (.iaload), 1), (2008, .inl (.aload_n 0), 1), (2009, .inl (.iload 4), 2), (2011, .inl (.iconst 2), 1), (2012, .inl (.iadd), 1), (2013, .inl (.iaload), 1), (2014, .inl (.aload_n 3), 1), (2015, .inr (2, 171, 4), 3)],
  [(2018, .inl (.istore 5), 2), (2020, .inl (.aload_n 2), 1), (2021, .inl (.aload_n 0), 1), (2022, .inl (.iload 4), 2), (2024, .inl (.iconst 1), 1), (2025, .inl (.iadd), 1), (2026, .inl (.iaload), 1), (2027, .inl (.aload_n 0), 1), (2028, .inl (.iload 4), 2), (2030, .inl (.iconst 2), 1), (2031, .inl (.iadd), 1)],
  [(2032, .inl (.iaload), 1), (2033, .inr (2, 330, 3), 3), (2036, .inl (.istore 6), 2), (2038, .inl (.aload_n 2), 1), (2039, .inr (2, 229, 1), 3), (2042, .inl (.iload 5), 2), (2044, .inl (.if_icmp .eq 5), 3), (2047, .inl (.iconst 0), 1)],
  [(2048, .inl (.ireturn), 1), (2049, .inl (.iload 5), 2), (2051, .inl (.ifCond .ne 15), 3), (2054, .inl (.aload_n 3), 1), (2055, .inl (.iconst 0), 1), (2056, .inl (.laload), 1), (2057, .inl (.iload 6), 2), (2059, .inl (.i2l), 1), (2060, .inl (.lcmp), 1), (2061, .inl (.ifCond .eq 5), 3)],
  [(2064, .inl (.iconst 0), 1), (2065, .inl (.ireturn), 1), (2066, .inl (.goto 1145), 3), (2069, .inl (.aload_n 1), 1), (2070, .inl (.aload_n 0), 1), (2071, .inl (.iload 4), 2), (2073, .inl (.iconst 1), 1), (2074, .inl (.iadd), 1), (2075, .inl (.iaload), 1), (2076, .inl (.aload_n 0), 1), (2077, .inl (.iload 4), 2), (2079, .inl (.iconst 2), 1)],
  [(2080, .inl (.iadd), 1), (2081, .inl (.iaload), 1), (2082, .inl (.aload_n 3), 1), (2083, .inr (2, 174, 4), 3), (2086, .inl (.istore 5), 2), (2088, .inl (.aload_n 2), 1), (2089, .inl (.aload_n 0), 1), (2090, .inl (.iload 4), 2), (2092, .inl (.iconst 1), 1), (2093, .inl (.iadd), 1), (2094, .inl (.iaload), 1), (2095, .inl (.aload_n 0), 1)],
  [(2096, .inl (.iload 4), 2), (2098, .inl (.iconst 2), 1), (2099, .inl (.iadd), 1), (2100, .inl (.iaload), 1), (2101, .inr (2, 331, 3), 3), (2104, .inl (.istore 6), 2), (2106, .inl (.aload_n 2), 1), (2107, .inr (2, 229, 1), 3), (2110, .inl (.iload 5), 2)],
  [(2112, .inl (.if_icmp .eq 5), 3), (2115, .inl (.iconst 0), 1), (2116, .inl (.ireturn), 1), (2117, .inl (.iload 5), 2), (2119, .inl (.ifCond .ne 15), 3), (2122, .inl (.aload_n 3), 1), (2123, .inl (.iconst 0), 1), (2124, .inl (.laload), 1), (2125, .inl (.iload 6), 2), (2127, .inl (.i2l), 1)],
  [(2128, .inl (.lcmp), 1), (2129, .inl (.ifCond .eq 5), 3), (2132, .inl (.iconst 0), 1), (2133, .inl (.ireturn), 1), (2134, .inl (.goto 1077), 3), (2137, .inl (.aload_n 1), 1), (2138, .inl (.aload_n 0), 1), (2139, .inl (.iload 4), 2), (2141, .inl (.iconst 1), 1), (2142, .inl (.iadd), 1), (2143, .inl (.iaload), 1)],
  [(2144, .inl (.aload_n 0), 1), (2145, .inl (.iload 4), 2), (2147, .inl (.iconst 2), 1), (2148, .inl (.iadd), 1), (2149, .inl (.iaload), 1), (2150, .inl (.aload_n 3), 1), (2151, .inr (2, 177, 4), 3), (2154, .inl (.istore 5), 2), (2156, .inl (.aload_n 2), 1), (2157, .inl (.aload_n 0), 1), (2158, .inl (.iload 4), 2)],
  [(2160, .inl (.iconst 1), 1), (2161, .inl (.iadd), 1), (2162, .inl (.iaload), 1), (2163, .inl (.aload_n 0), 1), (2164, .inl (.iload 4), 2), (2166, .inl (.iconst 2), 1), (2167, .inl (.iadd), 1), (2168, .inl (.iaload), 1), (2169, .inr (2, 332, 3), 3), (2172, .inl (.istore 6), 2), (2174, .inl (.aload_n 2), 1), (2175, .inr (2, 229, 1), 3)],
  [(2178, .inl (.iload 5), 2), (2180, .inl (.if_icmp .eq 5), 3), (2183, .inl (.iconst 0), 1), (2184, .inl (.ireturn), 1), (2185, .inl (.iload 5), 2), (2187, .inl (.ifCond .ne 15), 3), (2190, .inl (.aload_n 3), 1), (2191, .inl (.iconst 0), 1)],
  [(2192, .inl (.laload), 1), (2193, .inl (.iload 6), 2), (2195, .inl (.i2l), 1), (2196, .inl (.lcmp), 1), (2197, .inl (.ifCond .eq 5), 3), (2200, .inl (.iconst 0), 1), (2201, .inl (.ireturn), 1), (2202, .inl (.goto 1009), 3), (2205, .inl (.aload_n 1), 1), (2206, .inl (.aload_n 0), 1), (2207, .inl (.iload 4), 2)],
  [(2209, .inl (.iconst 1), 1), (2210, .inl (.iadd), 1), (2211, .inl (.iaload), 1), (2212, .inl (.aload_n 0), 1), (2213, .inl (.iload 4), 2), (2215, .inl (.iconst 2), 1), (2216, .inl (.iadd), 1), (2217, .inl (.iaload), 1), (2218, .inl (.aload_n 0), 1), (2219, .inl (.iload 4), 2), (2221, .inl (.iconst 3), 1), (2222, .inl (.iadd), 1), (2223, .inl (.iaload), 1)],
  [(2224, .inl (.aload_n 3), 1), (2225, .inr (2, 190, 5), 3), (2228, .inl (.istore 5), 2), (2230, .inl (.aload_n 2), 1), (2231, .inl (.aload_n 0), 1), (2232, .inl (.iload 4), 2), (2234, .inl (.iconst 1), 1), (2235, .inl (.iadd), 1), (2236, .inl (.iaload), 1), (2237, .inl (.aload_n 0), 1), (2238, .inl (.iload 4), 2)],
  [(2240, .inl (.iconst 2), 1), (2241, .inl (.iadd), 1), (2242, .inl (.iaload), 1), (2243, .inl (.aload_n 0), 1), (2244, .inl (.iload 4), 2), (2246, .inl (.iconst 3), 1), (2247, .inl (.iadd), 1), (2248, .inl (.iaload), 1), (2249, .inr (2, 336, 4), 3), (2252, .inl (.istore 6), 2), (2254, .inl (.aload_n 2), 1), (2255, .inr (2, 229, 1), 3)],
  [(2258, .inl (.iload 5), 2), (2260, .inl (.if_icmp .eq 5), 3), (2263, .inl (.iconst 0), 1), (2264, .inl (.ireturn), 1), (2265, .inl (.iload 5), 2), (2267, .inl (.ifCond .ne 15), 3), (2270, .inl (.aload_n 3), 1), (2271, .inl (.iconst 0), 1)],
  [(2272, .inl (.laload), 1), (2273, .inl (.iload 6), 2), (2275, .inl (.i2l), 1), (2276, .inl (.lcmp), 1), (2277, .inl (.ifCond .eq 5), 3), (2280, .inl (.iconst 0), 1), (2281, .inl (.ireturn), 1), (2282, .inl (.goto 929), 3), (2285, .inl (.aload_n 1), 1), (2286, .inl (.aload_n 0), 1), (2287, .inl (.iload 4), 2)],
  [(2289, .inl (.iconst 1), 1), (2290, .inl (.iadd), 1), (2291, .inl (.iaload), 1), (2292, .inl (.aload_n 0), 1), (2293, .inl (.iload 4), 2), (2295, .inl (.iconst 2), 1), (2296, .inl (.iadd), 1), (2297, .inl (.iaload), 1), (2298, .inl (.aload_n 0), 1), (2299, .inl (.iload 4), 2), (2301, .inl (.iconst 3), 1), (2302, .inl (.iadd), 1), (2303, .inl (.iaload), 1)],
  [(2304, .inl (.aload_n 3), 1), (2305, .inr (2, 192, 5), 3), (2308, .inl (.istore 5), 2), (2310, .inl (.aload_n 2), 1), (2311, .inl (.aload_n 0), 1), (2312, .inl (.iload 4), 2), (2314, .inl (.iconst 1), 1), (2315, .inl (.iadd), 1), (2316, .inl (.iaload), 1), (2317, .inl (.aload_n 0), 1), (2318, .inl (.iload 4), 2)],
  [(2320, .inl (.iconst 2), 1), (2321, .inl (.iadd), 1), (2322, .inl (.iaload), 1), (2323, .inl (.aload_n 0), 1), (2324, .inl (.iload 4), 2), (2326, .inl (.iconst 3), 1), (2327, .inl (.iadd), 1), (2328, .inl (.iaload), 1), (2329, .inr (2, 337, 4), 3), (2332, .inl (.istore 6), 2), (2334, .inl (.aload_n 2), 1), (2335, .inr (2, 229, 1), 3)],
  [(2338, .inl (.iload 5), 2), (2340, .inl (.if_icmp .eq 5), 3), (2343, .inl (.iconst 0), 1), (2344, .inl (.ireturn), 1), (2345, .inl (.iload 5), 2), (2347, .inl (.ifCond .ne 15), 3), (2350, .inl (.aload_n 3), 1), (2351, .inl (.iconst 0), 1)],
  [(2352, .inl (.laload), 1), (2353, .inl (.iload 6), 2), (2355, .inl (.i2l), 1), (2356, .inl (.lcmp), 1), (2357, .inl (.ifCond .eq 5), 3), (2360, .inl (.iconst 0), 1), (2361, .inl (.ireturn), 1), (2362, .inl (.goto 849), 3), (2365, .inl (.aload_n 1), 1), (2366, .inl (.aload_n 0), 1), (2367, .inl (.iload 4), 2)],
  [(2369, .inl (.iconst 1), 1), (2370, .inl (.iadd), 1), (2371, .inl (.iaload), 1), (2372, .inl (.aload_n 0), 1), (2373, .inl (.iload 4), 2), (2375, .inl (.iconst 2), 1), (2376, .inl (.iadd), 1), (2377, .inl (.iaload), 1), (2378, .inl (.aload_n 0), 1), (2379, .inl (.iload 4), 2), (2381, .inl (.iconst 3), 1), (2382, .inl (.iadd), 1), (2383, .inl (.iaload), 1)],
  [(2384, .inl (.aload_n 3), 1), (2385, .inr (2, 194, 5), 3), (2388, .inl (.istore 5), 2), (2390, .inl (.aload_n 2), 1), (2391, .inl (.aload_n 0), 1), (2392, .inl (.iload 4), 2), (2394, .inl (.iconst 1), 1), (2395, .inl (.iadd), 1), (2396, .inl (.iaload), 1), (2397, .inl (.aload_n 0), 1), (2398, .inl (.iload 4), 2)],
  [(2400, .inl (.iconst 2), 1), (2401, .inl (.iadd), 1), (2402, .inl (.iaload), 1), (2403, .inl (.aload_n 0), 1), (2404, .inl (.iload 4), 2), (2406, .inl (.iconst 3), 1), (2407, .inl (.iadd), 1), (2408, .inl (.iaload), 1), (2409, .inr (2, 280, 4), 3), (2412, .inl (.istore 6), 2), (2414, .inl (.aload_n 2), 1), (2415, .inr (2, 229, 1), 3)],
  [(2418, .inl (.iload 5), 2), (2420, .inl (.if_icmp .eq 5), 3), (2423, .inl (.iconst 0), 1), (2424, .inl (.ireturn), 1), (2425, .inl (.iload 5), 2), (2427, .inl (.ifCond .ne 15), 3), (2430, .inl (.aload_n 3), 1), (2431, .inl (.iconst 0), 1)],
  [(2432, .inl (.laload), 1), (2433, .inl (.iload 6), 2), (2435, .inl (.i2l), 1), (2436, .inl (.lcmp), 1), (2437, .inl (.ifCond .eq 5), 3), (2440, .inl (.iconst 0), 1), (2441, .inl (.ireturn), 1), (2442, .inl (.goto 769), 3), (2445, .inl (.aload_n 1), 1), (2446, .inl (.aload_n 0), 1), (2447, .inl (.iload 4), 2)],
  [(2449, .inl (.iconst 1), 1), (2450, .inl (.iadd), 1), (2451, .inl (.iaload), 1), (2452, .inl (.aload_n 3), 1), (2453, .inr (2, 197, 3), 3), (2456, .inl (.istore 5), 2), (2458, .inl (.aload_n 2), 1), (2459, .inl (.aload_n 0), 1), (2460, .inl (.iload 4), 2), (2462, .inl (.iconst 1), 1), (2463, .inl (.iadd), 1)],
  [(2464, .inl (.iaload), 1), (2465, .inr (2, 338, 2), 3), (2468, .inl (.istore 6), 2), (2470, .inl (.aload_n 2), 1), (2471, .inr (2, 229, 1), 3), (2474, .inl (.iload 5), 2), (2476, .inl (.if_icmp .eq 5), 3), (2479, .inl (.iconst 0), 1)],
  [(2480, .inl (.ireturn), 1), (2481, .inl (.iload 5), 2), (2483, .inl (.ifCond .ne 15), 3), (2486, .inl (.aload_n 3), 1), (2487, .inl (.iconst 0), 1), (2488, .inl (.laload), 1), (2489, .inl (.iload 6), 2), (2491, .inl (.i2l), 1), (2492, .inl (.lcmp), 1), (2493, .inl (.ifCond .eq 5), 3)],
  [(2496, .inl (.iconst 0), 1), (2497, .inl (.ireturn), 1), (2498, .inl (.goto 713), 3), (2501, .inl (.aload_n 1), 1), (2502, .inl (.aload_n 0), 1), (2503, .inl (.iload 4), 2), (2505, .inl (.iconst 1), 1), (2506, .inl (.iadd), 1), (2507, .inl (.iaload), 1), (2508, .inl (.aload_n 0), 1), (2509, .inl (.iload 4), 2), (2511, .inl (.iconst 2), 1)],
  [(2512, .inl (.iadd), 1), (2513, .inl (.iaload), 1), (2514, .inl (.aload_n 3), 1), (2515, .inr (2, 199, 4), 3), (2518, .inl (.istore 5), 2), (2520, .inl (.aload_n 2), 1), (2521, .inl (.aload_n 0), 1), (2522, .inl (.iload 4), 2), (2524, .inl (.iconst 1), 1), (2525, .inl (.iadd), 1), (2526, .inl (.iaload), 1), (2527, .inl (.aload_n 0), 1)],
  [(2528, .inl (.iload 4), 2), (2530, .inl (.iconst 2), 1), (2531, .inl (.iadd), 1), (2532, .inl (.iaload), 1), (2533, .inr (2, 339, 3), 3), (2536, .inl (.istore 6), 2), (2538, .inl (.aload_n 2), 1), (2539, .inr (2, 229, 1), 3), (2542, .inl (.iload 5), 2)],
  [(2544, .inl (.if_icmp .eq 5), 3), (2547, .inl (.iconst 0), 1), (2548, .inl (.ireturn), 1), (2549, .inl (.iload 5), 2), (2551, .inl (.ifCond .ne 15), 3), (2554, .inl (.aload_n 3), 1), (2555, .inl (.iconst 0), 1), (2556, .inl (.laload), 1), (2557, .inl (.iload 6), 2), (2559, .inl (.i2l), 1)],
  [(2560, .inl (.lcmp), 1), (2561, .inl (.ifCond .eq 5), 3), (2564, .inl (.iconst 0), 1), (2565, .inl (.ireturn), 1), (2566, .inl (.goto 645), 3), (2569, .inl (.aload_n 1), 1), (2570, .inl (.aload_n 0), 1), (2571, .inl (.iload 4), 2), (2573, .inl (.iconst 1), 1), (2574, .inl (.iadd), 1), (2575, .inl (.iaload), 1)],
  [(2576, .inl (.aload_n 3), 1), (2577, .inr (2, 201, 3), 3), (2580, .inl (.istore 5), 2), (2582, .inl (.aload_n 2), 1), (2583, .inl (.aload_n 0), 1), (2584, .inl (.iload 4), 2), (2586, .inl (.iconst 1), 1), (2587, .inl (.iadd), 1), (2588, .inl (.iaload), 1), (2589, .inr (2, 340, 2), 3)],
  [(2592, .inl (.istore 6), 2), (2594, .inl (.aload_n 2), 1), (2595, .inr (2, 229, 1), 3), (2598, .inl (.iload 5), 2), (2600, .inl (.if_icmp .eq 5), 3), (2603, .inl (.iconst 0), 1), (2604, .inl (.ireturn), 1), (2605, .inl (.iload 5), 2), (2607, .inl (.ifCond .ne 15), 3)],
  [(2610, .inl (.aload_n 3), 1), (2611, .inl (.iconst 0), 1), (2612, .inl (.laload), 1), (2613, .inl (.iload 6), 2), (2615, .inl (.i2l), 1), (2616, .inl (.lcmp), 1), (2617, .inl (.ifCond .eq 5), 3), (2620, .inl (.iconst 0), 1), (2621, .inl (.ireturn), 1), (2622, .inl (.goto 589), 3)],
  [(2625, .inl (.aload_n 1), 1), (2626, .inl (.aload_n 0), 1), (2627, .inl (.iload 4), 2), (2629, .inl (.iconst 1), 1), (2630, .inl (.iadd), 1), (2631, .inl (.iaload), 1), (2632, .inl (.aload_n 3), 1), (2633, .inr (2, 204, 3), 3), (2636, .inl (.istore 5), 2), (2638, .inl (.aload_n 2), 1), (2639, .inl (.aload_n 0), 1)],
  [(2640, .inl (.iload 4), 2), (2642, .inl (.iconst 1), 1), (2643, .inl (.iadd), 1), (2644, .inl (.iaload), 1), (2645, .inr (2, 343, 2), 3), (2648, .inl (.istore 6), 2), (2650, .inl (.aload_n 2), 1), (2651, .inr (2, 229, 1), 3), (2654, .inl (.iload 5), 2)],
  [(2656, .inl (.if_icmp .eq 5), 3), (2659, .inl (.iconst 0), 1), (2660, .inl (.ireturn), 1), (2661, .inl (.iload 5), 2), (2663, .inl (.ifCond .ne 15), 3), (2666, .inl (.aload_n 3), 1), (2667, .inl (.iconst 0), 1), (2668, .inl (.laload), 1), (2669, .inl (.iload 6), 2), (2671, .inl (.i2l), 1)],
  [(2672, .inl (.lcmp), 1), (2673, .inl (.ifCond .eq 5), 3), (2676, .inl (.iconst 0), 1), (2677, .inl (.ireturn), 1), (2678, .inl (.goto 533), 3), (2681, .inl (.aload_n 1), 1), (2682, .inl (.aload_n 0), 1), (2683, .inl (.iload 4), 2), (2685, .inl (.iconst 1), 1), (2686, .inl (.iadd), 1), (2687, .inl (.iaload), 1)],
  [(2688, .inl (.aload_n 0), 1), (2689, .inl (.iload 4), 2), (2691, .inl (.iconst 2), 1), (2692, .inl (.iadd), 1), (2693, .inl (.iaload), 1), (2694, .inl (.aload_n 3), 1), (2695, .inr (2, 206, 4), 3), (2698, .inl (.istore 5), 2), (2700, .inl (.aload_n 2), 1), (2701, .inl (.aload_n 0), 1), (2702, .inl (.iload 4), 2)],
  [(2704, .inl (.iconst 1), 1), (2705, .inl (.iadd), 1), (2706, .inl (.iaload), 1), (2707, .inl (.aload_n 0), 1), (2708, .inl (.iload 4), 2), (2710, .inl (.iconst 2), 1), (2711, .inl (.iadd), 1), (2712, .inl (.iaload), 1), (2713, .inr (2, 344, 3), 3), (2716, .inl (.istore 6), 2), (2718, .inl (.aload_n 2), 1), (2719, .inr (2, 229, 1), 3)],
  [(2722, .inl (.iload 5), 2), (2724, .inl (.if_icmp .eq 5), 3), (2727, .inl (.iconst 0), 1), (2728, .inl (.ireturn), 1), (2729, .inl (.iload 5), 2), (2731, .inl (.ifCond .ne 15), 3), (2734, .inl (.aload_n 3), 1), (2735, .inl (.iconst 0), 1)],
  [(2736, .inl (.laload), 1), (2737, .inl (.iload 6), 2), (2739, .inl (.i2l), 1), (2740, .inl (.lcmp), 1), (2741, .inl (.ifCond .eq 5), 3), (2744, .inl (.iconst 0), 1), (2745, .inl (.ireturn), 1), (2746, .inl (.goto 465), 3), (2749, .inl (.aload_n 1), 1), (2750, .inl (.aload_n 0), 1), (2751, .inl (.iload 4), 2)],
  [(2753, .inl (.iconst 1), 1), (2754, .inl (.iadd), 1), (2755, .inl (.iaload), 1), (2756, .inl (.aload_n 3), 1), (2757, .inr (2, 210, 3), 3), (2760, .inl (.istore 5), 2), (2762, .inl (.aload_n 2), 1), (2763, .inl (.aload_n 0), 1), (2764, .inl (.iload 4), 2), (2766, .inl (.iconst 1), 1), (2767, .inl (.iadd), 1)],
  [(2768, .inl (.iaload), 1), (2769, .inr (2, 347, 2), 3), (2772, .inl (.istore 6), 2), (2774, .inl (.aload_n 2), 1), (2775, .inr (2, 229, 1), 3), (2778, .inl (.iload 5), 2), (2780, .inl (.if_icmp .eq 5), 3), (2783, .inl (.iconst 0), 1)],
  [(2784, .inl (.ireturn), 1), (2785, .inl (.iload 5), 2), (2787, .inl (.ifCond .ne 15), 3), (2790, .inl (.aload_n 3), 1), (2791, .inl (.iconst 0), 1), (2792, .inl (.laload), 1), (2793, .inl (.iload 6), 2), (2795, .inl (.i2l), 1), (2796, .inl (.lcmp), 1), (2797, .inl (.ifCond .eq 5), 3)],
  [(2800, .inl (.iconst 0), 1), (2801, .inl (.ireturn), 1), (2802, .inl (.goto 409), 3), (2805, .inl (.aload_n 1), 1), (2806, .inl (.aload_n 0), 1), (2807, .inl (.iload 4), 2), (2809, .inl (.iconst 1), 1), (2810, .inl (.iadd), 1), (2811, .inl (.iaload), 1), (2812, .inl (.aload_n 3), 1), (2813, .inr (2, 212, 3), 3)],
  [(2816, .inl (.istore 5), 2), (2818, .inl (.aload_n 2), 1), (2819, .inl (.aload_n 0), 1), (2820, .inl (.iload 4), 2), (2822, .inl (.iconst 1), 1), (2823, .inl (.iadd), 1), (2824, .inl (.iaload), 1), (2825, .inr (2, 348, 2), 3), (2828, .inl (.istore 6), 2), (2830, .inl (.aload_n 2), 1), (2831, .inr (2, 229, 1), 3)],
  [(2834, .inl (.iload 5), 2), (2836, .inl (.if_icmp .eq 5), 3), (2839, .inl (.iconst 0), 1), (2840, .inl (.ireturn), 1), (2841, .inl (.iload 5), 2), (2843, .inl (.ifCond .ne 15), 3), (2846, .inl (.aload_n 3), 1), (2847, .inl (.iconst 0), 1)],
  [(2848, .inl (.laload), 1), (2849, .inl (.iload 6), 2), (2851, .inl (.i2l), 1), (2852, .inl (.lcmp), 1), (2853, .inl (.ifCond .eq 5), 3), (2856, .inl (.iconst 0), 1), (2857, .inl (.ireturn), 1), (2858, .inl (.goto 353), 3), (2861, .inl (.aload_n 1), 1), (2862, .inr (2, 33, 1), 3)],
  [(2865, .inl (.aload_n 2), 1), (2866, .inr (2, 350, 1), 3), (2869, .inl (.if_icmp .eq 342), 3), (2872, .inl (.iconst 0), 1), (2873, .inl (.ireturn), 1), (2874, .inl (.aload_n 1), 1), (2875, .inr (2, 34, 1), 3), (2878, .inl (.aload_n 2), 1), (2879, .inr (2, 352, 1), 3)],
  [(2882, .inl (.if_icmp .eq 329), 3), (2885, .inl (.iconst 0), 1), (2886, .inl (.ireturn), 1), (2887, .inl (.aload_n 1), 1), (2888, .inl (.aload_n 0), 1), (2889, .inl (.iload 4), 2), (2891, .inl (.iconst 1), 1), (2892, .inl (.iadd), 1), (2893, .inl (.iaload), 1), (2894, .inl (.aload_n 0), 1), (2895, .inl (.iload 4), 2)],
  [(2897, .inl (.iconst 2), 1), (2898, .inl (.iadd), 1), (2899, .inl (.iaload), 1), (2900, .inl (.aload_n 0), 1), (2901, .inl (.iload 4), 2), (2903, .inl (.iconst 3), 1), (2904, .inl (.iadd), 1), (2905, .inl (.iaload), 1), (2906, .inr (2, 216, 4), 3), (2909, .inl (.istore 5), 2), (2911, .inl (.aload_n 2), 1)],
  [(2912, .inl (.aload_n 0), 1), (2913, .inl (.iload 4), 2), (2915, .inl (.iconst 1), 1), (2916, .inl (.iadd), 1), (2917, .inl (.iaload), 1), (2918, .inl (.aload_n 0), 1), (2919, .inl (.iload 4), 2), (2921, .inl (.iconst 2), 1), (2922, .inl (.iadd), 1), (2923, .inl (.iaload), 1), (2924, .inl (.aload_n 0), 1), (2925, .inl (.iload 4), 2), (2927, .inl (.iconst 3), 1)],
  [(2928, .inl (.iadd), 1), (2929, .inl (.iaload), 1), (2930, .inr (2, 353, 4), 3), (2933, .inl (.aload_n 2), 1), (2934, .inr (2, 229, 1), 3), (2937, .inl (.iload 5), 2), (2939, .inl (.if_icmp .eq 5), 3), (2942, .inl (.iconst 0), 1), (2943, .inl (.ireturn), 1)],
  [(2944, .inl (.goto 267), 3), (2947, .inl (.aload_n 1), 1), (2948, .inl (.aload_n 0), 1), (2949, .inl (.iload 4), 2), (2951, .inl (.iconst 1), 1), (2952, .inl (.iadd), 1), (2953, .inl (.iaload), 1), (2954, .inl (.aload_n 0), 1), (2955, .inl (.iload 4), 2), (2957, .inl (.iconst 2), 1), (2958, .inl (.iadd), 1), (2959, .inl (.iaload), 1)],
  [(2960, .inl (.aload_n 0), 1), (2961, .inl (.iload 4), 2), (2963, .inl (.iconst 3), 1), (2964, .inl (.iadd), 1), (2965, .inl (.iaload), 1), (2966, .inl (.i2l), 1), (2967, .inl (.bipush 32), 2), (2969, .inl (.lshl), 1), (2970, .inl (.aload_n 0), 1), (2971, .inl (.iload 4), 2), (2973, .inl (.iconst 4), 1), (2974, .inl (.iadd), 1), (2975, .inl (.iaload), 1)],
  [(2976, .inl (.i2l), 1), (2977, .inr (9, 0, 4294967295), 3), (2980, .inl (.land), 1), (2981, .inl (.lor), 1), (2982, .inl (.aload_n 3), 1), (2983, .inr (2, 219, 5), 3), (2986, .inl (.istore 5), 2), (2988, .inl (.aload_n 2), 1), (2989, .inl (.aload_n 0), 1), (2990, .inl (.iload 4), 2)],
  [(2992, .inl (.iconst 1), 1), (2993, .inl (.iadd), 1), (2994, .inl (.iaload), 1), (2995, .inl (.aload_n 0), 1), (2996, .inl (.iload 4), 2), (2998, .inl (.iconst 2), 1), (2999, .inl (.iadd), 1), (3000, .inl (.iaload), 1), (3001, .inl (.aload_n 0), 1), (3002, .inl (.iload 4), 2), (3004, .inl (.iconst 3), 1), (3005, .inl (.iadd), 1), (3006, .inl (.iaload), 1), (3007, .inl (.i2l), 1)],
  [(3008, .inl (.bipush 32), 2), (3010, .inl (.lshl), 1), (3011, .inl (.aload_n 0), 1), (3012, .inl (.iload 4), 2), (3014, .inl (.iconst 4), 1), (3015, .inl (.iadd), 1), (3016, .inl (.iaload), 1), (3017, .inl (.i2l), 1), (3018, .inr (9, 0, 4294967295), 3), (3021, .inl (.land), 1), (3022, .inl (.lor), 1), (3023, .inr (2, 354, 4), 3)],
  [(3026, .inl (.lstore 6), 2), (3028, .inl (.aload_n 2), 1), (3029, .inr (2, 229, 1), 3), (3032, .inl (.iload 5), 2), (3034, .inl (.if_icmp .eq 5), 3), (3037, .inl (.iconst 0), 1), (3038, .inl (.ireturn), 1), (3039, .inl (.iload 5), 2)],
  [(3041, .inl (.ifCond .ne 14), 3), (3044, .inl (.aload_n 3), 1), (3045, .inl (.iconst 0), 1), (3046, .inl (.laload), 1), (3047, .inl (.lload 6), 2), (3049, .inl (.lcmp), 1), (3050, .inl (.ifCond .eq 5), 3), (3053, .inl (.iconst 0), 1), (3054, .inl (.ireturn), 1), (3055, .inl (.goto 156), 3)],
  [(3058, .inl (.aload_n 1), 1), (3059, .inl (.aload_n 0), 1), (3060, .inl (.iload 4), 2), (3062, .inl (.iconst 1), 1), (3063, .inl (.iadd), 1), (3064, .inl (.iaload), 1), (3065, .inl (.aload_n 3), 1), (3066, .inr (2, 223, 3), 3), (3069, .inl (.istore 5), 2), (3071, .inl (.aload_n 2), 1)],
  [(3072, .inl (.aload_n 0), 1), (3073, .inl (.iload 4), 2), (3075, .inl (.iconst 1), 1), (3076, .inl (.iadd), 1), (3077, .inl (.iaload), 1), (3078, .inr (2, 356, 2), 3), (3081, .inl (.istore 6), 2), (3083, .inl (.aload_n 2), 1), (3084, .inr (2, 229, 1), 3), (3087, .inl (.iload 5), 2)],
  [(3089, .inl (.if_icmp .eq 5), 3), (3092, .inl (.iconst 0), 1), (3093, .inl (.ireturn), 1), (3094, .inl (.iload 5), 2), (3096, .inl (.ifCond .ne 15), 3), (3099, .inl (.aload_n 3), 1), (3100, .inl (.iconst 0), 1), (3101, .inl (.laload), 1), (3102, .inl (.iload 6), 2)],
  [(3104, .inl (.i2l), 1), (3105, .inl (.lcmp), 1), (3106, .inl (.ifCond .eq 5), 3), (3109, .inl (.iconst 0), 1), (3110, .inl (.ireturn), 1), (3111, .inl (.goto 100), 3), (3114, .inl (.aload_n 1), 1), (3115, .inl (.aload_n 0), 1), (3116, .inl (.iload 4), 2), (3118, .inl (.iconst 1), 1), (3119, .inl (.iadd), 1)],
  [(3120, .inl (.iaload), 1), (3121, .inr (2, 225, 2), 3), (3124, .inl (.istore 5), 2), (3126, .inl (.aload_n 2), 1), (3127, .inl (.aload_n 0), 1), (3128, .inl (.iload 4), 2), (3130, .inl (.iconst 1), 1), (3131, .inl (.iadd), 1), (3132, .inl (.iaload), 1), (3133, .inr (2, 357, 2), 3)],
  [(3136, .inl (.aload_n 2), 1), (3137, .inr (2, 229, 1), 3), (3140, .inl (.iload 5), 2), (3142, .inl (.if_icmp .eq 5), 3), (3145, .inl (.iconst 0), 1), (3146, .inl (.ireturn), 1), (3147, .inl (.goto 64), 3), (3150, .inl (.aload_n 1), 1), (3151, .inl (.aload_n 0), 1)],
  [(3152, .inl (.iload 4), 2), (3154, .inl (.iconst 1), 1), (3155, .inl (.iadd), 1), (3156, .inl (.iaload), 1), (3157, .inr (2, 227, 2), 3), (3160, .inl (.istore 5), 2), (3162, .inl (.aload_n 2), 1), (3163, .inl (.aload_n 0), 1), (3164, .inl (.iload 4), 2), (3166, .inl (.iconst 1), 1), (3167, .inl (.iadd), 1)],
  [(3168, .inl (.iaload), 1), (3169, .inr (2, 358, 2), 3), (3172, .inl (.aload_n 2), 1), (3173, .inr (2, 229, 1), 3), (3176, .inl (.iload 5), 2), (3178, .inl (.if_icmp .eq 5), 3), (3181, .inl (.iconst 0), 1), (3182, .inl (.ireturn), 1), (3183, .inl (.goto 28), 3)],
  [(3186, .inl (.aload_n 1), 1), (3187, .inl (.aload_n 0), 1), (3188, .inl (.iload 4), 2), (3190, .inl (.iconst 1), 1), (3191, .inl (.iadd), 1), (3192, .inl (.iaload), 1), (3193, .inr (2, 36, 2), 3), (3196, .inl (.aload_n 2), 1), (3197, .inl (.aload_n 0), 1), (3198, .inl (.iload 4), 2)],
  [(3200, .inl (.iconst 1), 1), (3201, .inl (.iadd), 1), (3202, .inl (.iaload), 1), (3203, .inr (2, 359, 2), 3), (3206, .inl (.if_icmp .eq 5), 3), (3209, .inl (.iconst 0), 1), (3210, .inl (.ireturn), 1), (3211, .inl (.iinc 4 6), 3), (3214, .inl (.goto (-3191)), 3)],
  [(3217, .inl (.iconst 1), 1), (3218, .inl (.ireturn), 1)]]
/-- the methods: their code; what they answer; how many variables; their tables -/
noncomputable def ab_cT : List (List (List (List (Nat × ab_I × Nat)))) := [
  [ab_c0, ab_c1, ab_c2, ab_c3, ab_c4, ab_c5, ab_c6, ab_c7, ab_c8, ab_c9, ab_c10, ab_c11, ab_c12, ab_c13, ab_c14, ab_c15, ab_c16, ab_c17, ab_c18, ab_c19],
  [ab_c20, ab_c21, ab_c22, ab_c23, ab_c24, ab_c25, ab_c26, ab_c27, ab_c28, ab_c29, ab_c30, ab_c31, ab_c32, ab_c33, ab_c34, ab_c35, ab_c36, ab_c37, ab_c38, ab_c39],
  [ab_c40, ab_c41, ab_c42, ab_c43, ab_c44, ab_c45, ab_c46, ab_c47, ab_c48, ab_c49, ab_c50, ab_c51, ab_c52, ab_c53, ab_c54, ab_c55, ab_c56, ab_c57, ab_c58, ab_c59],
  [ab_c60, ab_c61, ab_c62, ab_c63, ab_c64, ab_c65, ab_c66, ab_c67, ab_c68, ab_c69, ab_c70, ab_c71, ab_c72, ab_c73, ab_c74, ab_c75, ab_c76, ab_c77, ab_c78, ab_c79],
  [ab_c80, ab_c81, ab_c82, ab_c83, ab_c84, ab_c85, ab_c86, ab_c87, ab_c88, ab_c89, ab_c90, ab_c91, ab_c92, ab_c93, ab_c94, ab_c95, ab_c96, ab_c97, ab_c98, ab_c99],
  [ab_c100, ab_c101, ab_c102, ab_c103, ab_c104, ab_c105, ab_c106, ab_c107, ab_c108, ab_c109, ab_c110, ab_c111, ab_c112, ab_c113, ab_c114, ab_c115, ab_c116, ab_c117, ab_c118, ab_c119],
  [ab_c120, ab_c121, ab_c122, ab_c123, ab_c124, ab_c125, ab_c126, ab_c127, ab_c128, ab_c129, ab_c130, ab_c131, ab_c132, ab_c133, ab_c134, ab_c135, ab_c136, ab_c137, ab_c138, ab_c139],
  [ab_c140, ab_c141, ab_c142, ab_c143, ab_c144, ab_c145, ab_c146, ab_c147, ab_c148, ab_c149, ab_c150, ab_c151, ab_c152, ab_c153, ab_c154, ab_c155, ab_c156, ab_c157, ab_c158, ab_c159],
  [ab_c160, ab_c161, ab_c162, ab_c163, ab_c164, ab_c165, ab_c166, ab_c167, ab_c168, ab_c169, ab_c170, ab_c171, ab_c172, ab_c173, ab_c174, ab_c175, ab_c176, ab_c177, ab_c178, ab_c179],
  [ab_c180, ab_c181, ab_c182, ab_c183, ab_c184, ab_c185, ab_c186, ab_c187, ab_c188, ab_c189, ab_c190, ab_c191, ab_c192, ab_c193, ab_c194, ab_c195, ab_c196, ab_c197, ab_c198, ab_c199],
  [ab_c200, ab_c201, ab_c202, ab_c203, ab_c204, ab_c205, ab_c206, ab_c207, ab_c208, ab_c209, ab_c210, ab_c211, ab_c212, ab_c213, ab_c214, ab_c215, ab_c216, ab_c217, ab_c218, ab_c219],
  [ab_c220, ab_c221, ab_c222, ab_c223, ab_c224, ab_c225, ab_c226, ab_c227, ab_c228, ab_c229, ab_c230, ab_c231, ab_c232, ab_c233, ab_c234, ab_c235, ab_c236, ab_c237, ab_c238, ab_c239],
  [ab_c240, ab_c241, ab_c242, ab_c243, ab_c244, ab_c245, ab_c246, ab_c247, ab_c248, ab_c249, ab_c250, ab_c251, ab_c252, ab_c253, ab_c254, ab_c255, ab_c256, ab_c257, ab_c258, ab_c259],
  [ab_c260, ab_c261, ab_c262, ab_c263, ab_c264, ab_c265, ab_c266, ab_c267, ab_c268, ab_c269, ab_c270, ab_c271, ab_c272, ab_c273, ab_c274, ab_c275, ab_c276, ab_c277, ab_c278, ab_c279],
  [ab_c280, ab_c281, ab_c282, ab_c283, ab_c284, ab_c285, ab_c286, ab_c287, ab_c288, ab_c289, ab_c290, ab_c291, ab_c292, ab_c293, ab_c294, ab_c295, ab_c296, ab_c297, ab_c298, ab_c299],
  [ab_c300, ab_c301, ab_c302, ab_c303, ab_c304, ab_c305, ab_c306, ab_c307, ab_c308, ab_c309, ab_c310, ab_c311, ab_c312, ab_c313, ab_c314, ab_c315, ab_c316, ab_c317, ab_c318, ab_c319],
  [ab_c320, ab_c321, ab_c322, ab_c323, ab_c324, ab_c325, ab_c326, ab_c327, ab_c328, ab_c329, ab_c330, ab_c331, ab_c332, ab_c333, ab_c334, ab_c335, ab_c336, ab_c337, ab_c338, ab_c339],
  [ab_c340, ab_c341, ab_c342, ab_c343, ab_c344, ab_c345, ab_c346, ab_c347, ab_c348, ab_c349, ab_c350, ab_c351, ab_c352, ab_c353, ab_c354, ab_c355, ab_c356, ab_c357, ab_c358, ab_c359],
  [ab_c360]]
noncomputable def ab_rT : List (List (Nat)) := [
  [1, 1, 0, 0, 1, 4, 1, 1, 1, 1, 4, 1, 1, 1, 2, 2, 2, 0, 0, 1],
  [0, 1, 1, 4, 1, 1, 1, 1, 1, 2, 0, 1, 1, 1, 1, 1, 1, 1, 1, 1],
  [0, 0, 0, 0, 1, 3, 1, 5, 6, 4, 6, 0, 1, 1, 0, 0, 1, 0, 1, 0],
  [0, 0, 1, 0, 1, 0, 0, 0, 0, 0, 0, 0, 4, 0, 0, 0, 0, 0, 4, 4],
  [0, 0, 0, 0, 1, 1, 0, 1, 1, 1, 1, 0, 1, 1, 1, 0, 1, 1, 0, 1],
  [1, 1, 0, 0, 1, 1, 1, 0, 1, 1, 1, 1, 1, 1, 0, 0, 0, 1, 1, 1],
  [1, 1, 1, 1, 1, 1, 1, 0, 0, 0, 1, 1, 1, 1, 1, 1, 0, 1, 1, 1],
  [1, 1, 1, 1, 1, 0, 1, 0, 1, 1, 3, 1, 2, 1, 1, 1, 1, 1, 1, 4],
  [1, 1, 2, 0, 4, 1, 2, 1, 1, 1, 1, 1, 1, 1, 1, 1, 1, 1, 1, 0],
  [2, 0, 1, 1, 2, 1, 1, 0, 0, 1, 1, 1, 1, 1, 1, 1, 1, 1, 1, 1],
  [1, 1, 1, 1, 1, 1, 1, 1, 0, 1, 1, 1, 1, 1, 1, 1, 1, 0, 0, 1],
  [2, 0, 2, 1, 1, 1, 0, 1, 0, 1, 1, 1, 4, 1, 0, 4, 1, 4, 4, 0],
  [4, 4, 0, 1, 0, 0, 0, 0, 4, 1, 1, 0, 0, 0, 0, 0, 0, 0, 0, 4],
  [0, 0, 0, 1, 1, 1, 4, 1, 0, 0, 4, 1, 1, 1, 4, 1, 4, 1, 1, 1],
  [1, 4, 4, 1, 1, 1, 1, 1, 1, 0, 1, 4, 1, 1, 4, 1, 1, 1, 4, 1],
  [1, 1, 1, 0, 1, 1, 1, 1, 1, 1, 1, 4, 0, 1, 1, 0, 1, 1, 1, 2],
  [1, 1, 2, 1, 2, 1, 4, 2, 1, 1, 1, 1, 1, 1, 4, 4, 1, 1, 1, 1],
  [1, 1, 0, 1, 1, 1, 1, 1, 1, 1, 1, 1, 1, 0, 2, 2, 1, 0, 0, 1],
  [4]]
noncomputable def ab_mT : List (List (Nat)) := [
  [6, 6, 3, 3, 2, 1, 5, 4, 5, 2, 8, 5, 3, 2, 4, 4, 1, 3, 2, 2],
  [7, 2, 5, 2, 2, 3, 3, 4, 3, 3, 2, 3, 2, 1, 1, 3, 2, 1, 4, 2],
  [4, 1, 1, 3, 4, 5, 1, 1, 2, 1, 2, 2, 3, 3, 2, 2, 4, 3, 2, 2],
  [3, 6, 3, 6, 5, 6, 2, 3, 3, 4, 4, 3, 2, 2, 4, 5, 4, 3, 1, 1],
  [2, 2, 2, 2, 5, 3, 2, 4, 4, 5, 3, 2, 1, 5, 3, 2, 4, 2, 2, 4],
  [5, 3, 2, 4, 5, 5, 3, 2, 7, 5, 3, 4, 2, 4, 4, 3, 5, 4, 2, 4],
  [2, 5, 5, 3, 4, 5, 3, 3, 3, 4, 6, 4, 4, 5, 3, 4, 5, 4, 2, 2],
  [6, 4, 4, 4, 3, 5, 2, 1, 5, 7, 3, 3, 2, 7, 9, 4, 4, 5, 5, 4],
  [2, 4, 5, 6, 4, 5, 3, 4, 5, 5, 8, 5, 5, 6, 5, 3, 6, 5, 6, 1],
  [8, 3, 3, 4, 5, 6, 2, 4, 7, 2, 6, 7, 6, 8, 6, 4, 4, 4, 2, 5],
  [5, 4, 2, 3, 4, 6, 5, 9, 6, 6, 4, 5, 4, 3, 8, 3, 5, 5, 4, 7],
  [6, 4, 3, 4, 5, 3, 3, 3, 3, 1, 8, 3, 6, 2, 2, 1, 2, 1, 2, 2],
  [3, 4, 2, 4, 1, 2, 1, 5, 3, 4, 1, 3, 3, 1, 1, 1, 2, 1, 2, 2],
  [2, 1, 3, 1, 2, 5, 3, 1, 2, 5, 2, 4, 5, 4, 2, 4, 2, 2, 4, 3],
  [4, 2, 1, 6, 3, 6, 3, 3, 4, 2, 3, 1, 3, 3, 7, 5, 5, 2, 1, 5],
  [5, 4, 3, 4, 6, 6, 2, 4, 3, 7, 2, 1, 2, 3, 2, 2, 3, 8, 2, 1],
  [3, 2, 3, 4, 6, 7, 5, 5, 3, 6, 6, 5, 4, 6, 4, 5, 6, 7, 2, 5],
  [2, 4, 3, 7, 8, 5, 7, 4, 6, 4, 1, 4, 1, 5, 5, 6, 4, 3, 3, 2],
  [8]]
noncomputable def ab_hT : List (List (List (Nat × Nat × Nat × Nat))) := [
  [[], [], [], [], [], [], [], [], [], [], [], [], [], [], [], [], [], [], [], []],
  [[], [], [], [], [], [], [], [], [], [], [], [], [], [], [], [], [], [], [(0, 9, 12, 0)], []],
  [[], [], [], [], [], [], [], [], [], [], [], [], [], [], [], [], [], [], [], []],
  [[], [], [], [], [], [], [], [], [], [], [], [], [], [], [], [], [], [], [], []],
  [[], [], [], [], [(0, 10, 13, 1), (0, 10, 17, 0)], [], [], [], [], [(0, 10, 13, 1), (0, 10, 17, 0)], [], [], [], [(0, 10, 13, 1), (0, 10, 17, 0)], [], [], [(0, 9, 12, 1)], [], [], []],
  [[(0, 10, 13, 1), (0, 10, 17, 0)], [], [], [], [], [(0, 10, 13, 1), (0, 10, 17, 0)], [], [], [], [(0, 10, 13, 1), (0, 10, 17, 0)], [], [(0, 9, 12, 0)], [], [], [], [], [], [(0, 9, 12, 0)], [], [(0, 9, 12, 0)]],
  [[], [], [(0, 10, 13, 1)], [], [], [(0, 10, 13, 1), (0, 10, 17, 0)], [], [], [], [], [(0, 12, 15, 1), (0, 12, 19, 2), (0, 12, 23, 0)], [], [], [(0, 10, 13, 1), (0, 10, 17, 2)], [], [], [], [(0, 9, 12, 1)], [], []],
  [[(0, 12, 15, 1), (0, 12, 19, 0)], [], [], [(0, 9, 12, 0)], [], [], [], [], [(0, 10, 13, 1), (0, 10, 17, 2), (0, 10, 21, 0)], [], [], [], [], [], [], [(0, 9, 12, 1), (0, 9, 15, 2)], [], [(0, 10, 13, 0), (0, 10, 17, 2)], [], []],
  [[], [(0, 8, 11, 1), (0, 8, 14, 2), (0, 8, 17, 0)], [], [], [], [(0, 9, 12, 1), (0, 9, 16, 0)], [], [(0, 9, 12, 1)], [], [(0, 10, 13, 1), (0, 10, 17, 0)], [], [(0, 10, 13, 1), (0, 10, 17, 0)], [], [], [(0, 10, 13, 1), (0, 10, 17, 0)], [], [], [(0, 10, 13, 1), (0, 10, 17, 2), (0, 10, 21, 0)], [], []],
  [[], [], [], [], [], [], [], [], [], [], [(0, 12, 15, 1), (0, 12, 19, 0)], [], [(0, 12, 15, 1), (0, 12, 19, 0)], [], [(0, 12, 15, 1), (0, 12, 19, 0)], [], [], [(0, 9, 12, 0)], [], [(0, 10, 13, 0)]],
  [[], [(0, 9, 12, 0)], [], [], [(0, 9, 12, 0)], [], [(0, 10, 13, 1), (0, 10, 17, 2), (0, 10, 21, 0)], [], [], [], [(0, 9, 12, 1), (0, 9, 15, 2), (0, 9, 18, 0)], [], [(0, 9, 12, 1), (0, 9, 15, 2), (0, 9, 18, 0)], [], [], [], [(0, 7, 10, 1), (0, 7, 14, 0)], [], [], [(0, 11, 14, 1), (0, 11, 18, 2), (0, 11, 22, 3)]],
  [[], [], [], [(0, 9, 12, 1), (0, 9, 15, 2)], [], [(0, 5, 8, 1)], [], [(0, 5, 8, 1), (0, 5, 11, 2)], [], [], [], [], [], [], [], [], [], [], [], []],
  [[], [], [], [], [], [], [], [], [], [], [], [], [], [], [], [], [], [], [], []],
  [[], [], [], [], [], [], [], [], [], [], [], [], [], [], [], [], [], [], [], []],
  [[], [], [], [], [], [], [], [], [], [], [], [], [], [], [], [], [], [], [], []],
  [[], [], [], [], [], [], [], [], [], [], [], [], [], [], [], [], [], [], [], []],
  [[], [], [], [], [], [], [], [], [], [], [], [], [], [], [], [], [], [], [], []],
  [[], [], [], [], [], [], [], [], [], [], [], [], [], [], [], [], [], [], [], []],
  [[]]]
/-- the kind of the receiver that a method asks for; 99: none -/
noncomputable def ab_rkT : List (List (Nat)) := [
  [0, 1, 1, 99, 0, 0, 2, 2, 2, 99, 4, 99, 99, 99, 99, 99, 0, 6, 99, 99],
  [6, 3, 3, 2, 3, 99, 6, 6, 99, 0, 6, 6, 6, 0, 0, 2, 0, 99, 99, 0],
  [1, 2, 4, 1, 1, 1, 11, 11, 11, 11, 99, 99, 99, 1, 1, 1, 1, 2, 99, 1],
  [1, 1, 3, 1, 3, 3, 2, 1, 2, 1, 1, 1, 1, 4, 1, 1, 1, 1, 10, 10],
  [2, 3, 4, 5, 99, 0, 0, 3, 2, 99, 0, 0, 99, 99, 0, 0, 99, 0, 0, 2],
  [99, 0, 0, 0, 2, 99, 0, 0, 6, 99, 0, 99, 0, 2, 2, 6, 5, 99, 0, 99],
  [0, 2, 99, 0, 2, 99, 0, 0, 2, 2, 99, 0, 2, 99, 0, 2, 3, 99, 0, 2],
  [99, 0, 2, 99, 0, 2, 5, 5, 99, 0, 0, 0, 8, 2, 0, 99, 0, 99, 0, 0],
  [0, 99, 0, 0, 6, 99, 0, 99, 0, 99, 0, 99, 0, 6, 99, 0, 6, 99, 0, 7],
  [6, 7, 7, 7, 7, 99, 99, 7, 7, 7, 99, 0, 99, 0, 99, 0, 6, 99, 0, 99],
  [0, 99, 0, 6, 99, 0, 99, 0, 0, 6, 99, 0, 99, 0, 2, 2, 99, 0, 8, 99],
  [0, 8, 8, 99, 0, 99, 0, 99, 0, 9, 9, 9, 99, 9, 9, 99, 9, 99, 99, 9],
  [9, 9, 9, 9, 9, 9, 9, 9, 9, 99, 9, 9, 9, 9, 9, 9, 9, 9, 9, 9],
  [9, 9, 9, 9, 9, 9, 9, 9, 9, 9, 99, 9, 9, 9, 9, 9, 9, 9, 9, 9],
  [9, 9, 99, 9, 9, 9, 9, 9, 9, 9, 9, 9, 9, 99, 9, 9, 99, 99, 9, 9],
  [9, 9, 9, 9, 9, 9, 9, 9, 9, 9, 9, 99, 9, 9, 9, 9, 9, 9, 9, 9],
  [9, 99, 9, 9, 9, 9, 9, 9, 9, 9, 9, 9, 9, 9, 9, 9, 9, 9, 9, 9],
  [9, 9, 9, 9, 9, 9, 9, 9, 9, 9, 9, 9, 9, 9, 9, 9, 9, 9, 9, 9],
  [98]]
def ab_2 {α : Type} (T : List (List α)) (i : Nat) (d : α) : α := (T.getD (i / 20) []).getD (i % 20) d
noncomputable def ab_rt (m : Nat) : Nat := ab_2 ab_rT m 0
noncomputable def ab_ml (m : Nat) : Nat := ab_2 ab_mT m 0
noncomputable def ab_hs (m : Nat) : List (Nat × Nat × Nat × Nat) := ab_2 ab_hT m []
def ab_lk (l : List (Nat × ab_I × Nat)) (pc : Nat) : Option (ab_I × Nat) := match l with
  | [] => none
  | (p, r) :: l' => bif Nat.beq p pc then some r else ab_lk l' pc
noncomputable def ab_code (m pc : Nat) : Option (ab_I × Nat) := ab_lk ((ab_2 ab_cT m []).getD (pc / 16) []) pc
/-- a field's value: (0 z) (1 y) (2 token) (3 i) (4 a reference of the same number) (5 a reference of a given one) (6 the token's law) (7 the token's text) (8 int 0) -/
def ab_fv (s : ab_S) (i : Nat) (f : Nat × Nat × Nat) : ab_V :=
  match f.1 with
  | 0 => .inl (.int (sz s f.2.1))
  | 1 => .inl (.long (sy s f.2.1))
  | 2 => .inr (10, st s f.2.1)
  | 3 => .inl (.int (si s f.2.1 i))
  | 4 => .inr (f.2.1, i)
  | 5 => .inr (f.2.1, f.2.2)
  | 6 => .inl (.int (ab_tl i))
  | 7 => .inr (11, ab_tx i)
  | _ => .inl (.int 0)
def ab_gf (k i pos : Nat) (s : ab_S) : Option ab_V :=
  match ab_kds[k]? with
  | some (.inl (_, fs)) => match fs[pos]? with
    | some f => some (ab_fv s i f)
    | none => none
  | _ => none
def ab_pf (k i pos : Nat) (v : ab_V) (s : ab_S) : Option ab_S :=
  match ab_kds[k]? with
  | some (.inl (_, fs)) => match fs[pos]? with
    | some (0, f, _) => match v with
      | .inl (.int x) => some (pz s f x)
      | _ => none
    | some (1, f, _) => match v with
      | .inl (.long x) => some (py s f x)
      | _ => none
    | some (2, f, _) => match v with
      | .inr (k', t) => bif Nat.beq k' 10 then some (pt s f t) else none
      | _ => none
    | some (3, f, _) => match v with
      | .inl (.int x) => some (pi s f (va_up (si s f) i x))
      | _ => none
    | _ => none
  | _ => none
/-- the array at (k, i): its length -/
def ab_len (X : (Nat → Int32) × Nat) (k i : Nat) : Option Nat :=
  match ab_kds[k]? with
  | some (.inr (_, n, so, _)) => match so with
    | 6 => some X.2
    | 7 => some (ab_sl i)
    | _ => some n
  | _ => none
/-- an int of an array -/
def ab_ai (X : (Nat → Int32) × Nat) (k i : Nat) (s : ab_S) : Option (Nat → Int32) :=
  match ab_kds[k]? with
  | some (.inr (_, _, so, id)) => match so with
    | 0 => some (sa s id)
    | 1 => some (sA s id i)
    | 6 => some X.1
    | 7 => some (ab_sb i)
    | _ => none
  | _ => none
def ab_al (k i : Nat) (s : ab_S) : Option (Nat → Int64) :=
  match ab_kds[k]? with
  | some (.inr (_, _, so, id)) => match so with
    | 2 => some (sb s id)
    | 3 => some (sB s id i)
    | _ => none
  | _ => none
def ab_wi (k i : Nat) (f : Nat → Int32) (s : ab_S) : Option ab_S :=
  match ab_kds[k]? with
  | some (.inr (_, _, so, id)) => match so with
    | 0 => some (pa s id f)
    | 1 => some (pA s id (va_up (sA s id) i f))
    | _ => none
  | _ => none
def ab_wl (k i : Nat) (f : Nat → Int64) (s : ab_S) : Option ab_S :=
  match ab_kds[k]? with
  | some (.inr (_, _, so, id)) => match so with
    | 2 => some (pb s id f)
    | 3 => some (pB s id (va_up (sB s id) i f))
    | _ => none
  | _ => none
def ab_wr (k j : Nat) (v : ab_V) (s : ab_S) : Option ab_S :=
  match ab_kds[k]? with
  | some (.inr (ek, _, so, id)) => match so with
    | 4 => match v with
      | .inr (k', t) => bif Nat.beq k' ek then some (pq s id (va_up (sq s id) j (some t))) else none
      | _ => none
    | _ => none
  | _ => none
def ab_in (i : Int32) (n : Nat) : Prop := ¬ (i < 0 ∨ n ≤ i.toNatClampNeg)
def ab_ent (n : Nat) (as : List ab_V) : ab_L :=
  match as with
  | [] => List.replicate n none
  | .inl (.long x) :: as' => some (.inl (.long x)) :: none :: ab_ent (n - 2) as'
  | v :: as' => some v :: ab_ent (n - 1) as'
def ab_pop : Nat → List ab_V → List ab_V → Option (List ab_V × List ab_V)
  | 0, K, acc => some (acc, K)
  | n + 1, v :: K, acc => ab_pop n K (v :: acc)
  | _ + 1, [], _ => none
def ab_cat (v : ab_V) : Nat := match v with
  | .inl (.long _) => 2
  | .inl (.double _) => 2
  | _ => 1
def ab_sum (K : List ab_V) : Nat := match K with
  | [] => 0
  | v :: K' => ab_cat v + ab_sum K'
section ABX
variable {α : Type}
def ab_pI (K : List ab_V) (f : Int32 → List ab_V → Option α) : Option α := match K with
  | .inl (.int x) :: K' => f x K'
  | _ => none
def ab_pJ (K : List ab_V) (f : Int64 → List ab_V → Option α) : Option α := match K with
  | .inl (.long x) :: K' => f x K'
  | _ => none
def ab_pR (K : List ab_V) (f : Nat → Nat → List ab_V → Option α) : Option α := match K with
  | .inr (k, i) :: K' => f k i K'
  | _ => none
def ab_pA (K : List ab_V) (f : ab_V → List ab_V → Option α) : Option α := match K with
  | .inr r :: K' => f (.inr r) K'
  | .inl .null :: K' => f (.inl .null) K'
  | _ => none
def ab_p (K : List ab_V) (f : ab_V → List ab_V → Option α) : Option α := match K with
  | v :: K' => f v K'
  | _ => none
def ab_lI (L : ab_L) (i : Nat) (f : Int32 → Option α) : Option α := match L[i]? with
  | some (some (.inl (.int x))) => f x
  | _ => none
def ab_lJ (L : ab_L) (i : Nat) (f : Int64 → Option α) : Option α := match L[i]? with
  | some (some (.inl (.long x))) => f x
  | _ => none
def ab_lA (L : ab_L) (i : Nat) (f : ab_V → Option α) : Option α := match L[i]? with
  | some (some (.inr r)) => f (.inr r)
  | some (some (.inl .null)) => f (.inl .null)
  | _ => none
/-- what stands in a variable when the one behind it is written -/
def ab_clr (L : ab_L) (i : Nat) : ab_L := match i with
  | 0 => L
  | j + 1 => match L[j]? with
    | some (some (.inl (.long _))) => L.set j none
    | _ => L
def ab_s1 (L : ab_L) (i : Nat) (v : Option ab_V) (f : ab_L → Option α) : Option α := bif Nat.blt i L.length then f ((ab_clr L i).set i v) else none
def ab_s2 (L : ab_L) (i : Nat) (v : ab_V) (f : ab_L → Option α) : Option α := bif Nat.blt (i + 1) L.length then f (((ab_clr L i).set i (some v)).set (i + 1) none) else none
def ab_br (c : Jvm.ClassFile.Cond) (x y : Int32) (a b : Option α) : Option α := match c with
  | .eq => if x = y then a else b
  | .ne => if x = y then b else a
  | .lt => if x < y then a else b
  | .ge => if y ≤ x then a else b
  | .gt => if y < x then a else b
  | .le => if x ≤ y then a else b
def ab_tg (pc : Nat) (off : Int) : Nat := ((pc : Int) + off).toNat
def ab_rI (X : (Nat → Int32) × Nat) (k i : Nat) (j : Int32) (s : ab_S) (f : Int32 → Option α) : Option α :=
  match ab_len X k i, ab_ai X k i s with
  | some n, some g => if j < 0 ∨ n ≤ j.toNatClampNeg then none else f (g j.toNatClampNeg)
  | _, _ => none
def ab_rL (X : (Nat → Int32) × Nat) (k i : Nat) (j : Int32) (s : ab_S) (f : Int64 → Option α) : Option α :=
  match ab_len X k i, ab_al k i s with
  | some n, some g => if j < 0 ∨ n ≤ j.toNatClampNeg then none else f (g j.toNatClampNeg)
  | _, _ => none
def ab_rA (X : (Nat → Int32) × Nat) (k i : Nat) (j : Int32) (s : ab_S) (f : ab_V → Option α) : Option α :=
  match ab_len X k i, ab_kds[k]? with
  | some n, some (.inr (ek, _, so, id)) => if j < 0 ∨ n ≤ j.toNatClampNeg then none else match so with
    | 4 => match sq s id j.toNatClampNeg with
      | none => f (.inl .null)
      | some t => f (.inr (ek, t))
    | 8 => f (.inr (10, j.toNatClampNeg))
    | _ => none
  | _, _ => none
def ab_uI (X : (Nat → Int32) × Nat) (k i : Nat) (j x : Int32) (s : ab_S) (f : ab_S → Option α) : Option α :=
  match ab_len X k i, ab_ai X k i s with
  | some n, some g => if j < 0 ∨ n ≤ j.toNatClampNeg then none else match ab_wi k i (va_up g j.toNatClampNeg x) s with
    | some s' => f s'
    | none => none
  | _, _ => none
def ab_uL (X : (Nat → Int32) × Nat) (k i : Nat) (j : Int32) (x : Int64) (s : ab_S) (f : ab_S → Option α) : Option α :=
  match ab_len X k i, ab_al k i s with
  | some n, some g => if j < 0 ∨ n ≤ j.toNatClampNeg then none else match ab_wl k i (va_up g j.toNatClampNeg x) s with
    | some s' => f s'
    | none => none
  | _, _ => none
def ab_uA (X : (Nat → Int32) × Nat) (k i : Nat) (j : Int32) (v : ab_V) (s : ab_S) (f : ab_S → Option α) : Option α :=
  match ab_len X k i with
  | some n => if j < 0 ∨ n ≤ j.toNatClampNeg then none else match ab_wr k j.toNatClampNeg v s with
    | some s' => f s'
    | none => none
  | none => none
/-- plain instructions; rt: what the method answers (0 none, 1 int, 2 long, 3 a reference, 4 boolean, 5 byte, 6 char) -/
def ab_x (X : (Nat → Int32) × Nat) (rt : Nat) (I : Instr) (n pc : Nat) (L : ab_L) (K : List ab_V) (s : ab_S) (g : Nat → ab_L → List ab_V → ab_S → Option α) (r : Option ab_V → Option α) : Option α :=
  match I with
  | .aload i => ab_lA L i fun v => g (pc + n) L (v :: K) s
  | .aload_n i => ab_lA L i.val fun v => g (pc + n) L (v :: K) s
  | .iload i => ab_lI L i fun x => g (pc + n) L (.inl (.int x) :: K) s
  | .iload_n i => ab_lI L i.val fun x => g (pc + n) L (.inl (.int x) :: K) s
  | .lload i => ab_lJ L i fun x => g (pc + n) L (.inl (.long x) :: K) s
  | .lload_n i => ab_lJ L i.val fun x => g (pc + n) L (.inl (.long x) :: K) s
  | .astore i => ab_pA K fun v K => ab_s1 L i (some v) fun L => g (pc + n) L K s
  | .astore_n i => ab_pA K fun v K => ab_s1 L i.val (some v) fun L => g (pc + n) L K s
  | .istore i => ab_pI K fun x K => ab_s1 L i (some (.inl (.int x))) fun L => g (pc + n) L K s
  | .istore_n i => ab_pI K fun x K => ab_s1 L i.val (some (.inl (.int x))) fun L => g (pc + n) L K s
  | .lstore i => ab_pJ K fun x K => ab_s2 L i (.inl (.long x)) fun L => g (pc + n) L K s
  | .lstore_n i => ab_pJ K fun x K => ab_s2 L i.val (.inl (.long x)) fun L => g (pc + n) L K s
  | .iinc i v => ab_lI L i fun x => ab_s1 L i (some (.inl (.int (x + Int32.ofInt v)))) fun L => g (pc + n) L K s
  | .iconst v => g (pc + n) L (.inl (.int (Int32.ofInt v)) :: K) s
  | .bipush v => g (pc + n) L (.inl (.int (Int32.ofInt v)) :: K) s
  | .sipush v => g (pc + n) L (.inl (.int (Int32.ofInt v)) :: K) s
  | .lconst v => g (pc + n) L (.inl (.long (Int64.ofNat v.val)) :: K) s
  | .iadd => ab_pI K fun y K => ab_pI K fun x K => g (pc + n) L (.inl (.int (x + y)) :: K) s
  | .isub => ab_pI K fun y K => ab_pI K fun x K => g (pc + n) L (.inl (.int (x - y)) :: K) s
  | .imul => ab_pI K fun y K => ab_pI K fun x K => g (pc + n) L (.inl (.int (x * y)) :: K) s
  | .iand => ab_pI K fun y K => ab_pI K fun x K => g (pc + n) L (.inl (.int (x &&& y)) :: K) s
  | .ior => ab_pI K fun y K => ab_pI K fun x K => g (pc + n) L (.inl (.int (x ||| y)) :: K) s
  | .ixor => ab_pI K fun y K => ab_pI K fun x K => g (pc + n) L (.inl (.int (x ^^^ y)) :: K) s
  | .ishl => ab_pI K fun y K => ab_pI K fun x K => g (pc + n) L (.inl (.int (x <<< (y &&& 31))) :: K) s
  | .ishr => ab_pI K fun y K => ab_pI K fun x K => g (pc + n) L (.inl (.int (x >>> (y &&& 31))) :: K) s
  | .iushr => ab_pI K fun y K => ab_pI K fun x K => g (pc + n) L (.inl (.int ((x.toUInt32 >>> (y.toUInt32 &&& Int32.toUInt32 31)).toInt32)) :: K) s
  | .idiv => ab_pI K fun y K => ab_pI K fun x K => if y = 0 then none else g (pc + n) L (.inl (.int (x / y)) :: K) s
  | .irem => ab_pI K fun y K => ab_pI K fun x K => if y = 0 then none else g (pc + n) L (.inl (.int (x - x / y * y)) :: K) s
  | .ineg => ab_pI K fun x K => g (pc + n) L (.inl (.int (-x)) :: K) s
  | .ladd => ab_pJ K fun y K => ab_pJ K fun x K => g (pc + n) L (.inl (.long (x + y)) :: K) s
  | .lsub => ab_pJ K fun y K => ab_pJ K fun x K => g (pc + n) L (.inl (.long (x - y)) :: K) s
  | .lmul => ab_pJ K fun y K => ab_pJ K fun x K => g (pc + n) L (.inl (.long (x * y)) :: K) s
  | .land => ab_pJ K fun y K => ab_pJ K fun x K => g (pc + n) L (.inl (.long (x &&& y)) :: K) s
  | .lor => ab_pJ K fun y K => ab_pJ K fun x K => g (pc + n) L (.inl (.long (x ||| y)) :: K) s
  | .lxor => ab_pJ K fun y K => ab_pJ K fun x K => g (pc + n) L (.inl (.long (x ^^^ y)) :: K) s
  | .ldiv => ab_pJ K fun y K => ab_pJ K fun x K => if y = 0 then none else g (pc + n) L (.inl (.long (x / y)) :: K) s
  | .lrem => ab_pJ K fun y K => ab_pJ K fun x K => if y = 0 then none else g (pc + n) L (.inl (.long (x - x / y * y)) :: K) s
  | .lneg => ab_pJ K fun x K => g (pc + n) L (.inl (.long (-x)) :: K) s
  | .lshl => ab_pI K fun y K => ab_pJ K fun x K => g (pc + n) L (.inl (.long (x <<< (y.toInt64 &&& 63))) :: K) s
  | .lshr => ab_pI K fun y K => ab_pJ K fun x K => g (pc + n) L (.inl (.long (x >>> (y.toInt64 &&& 63))) :: K) s
  | .lushr => ab_pI K fun y K => ab_pJ K fun x K => g (pc + n) L (.inl (.long ((x.toUInt64 >>> (y.toInt64.toUInt64 &&& Int64.toUInt64 63)).toInt64)) :: K) s
  | .lcmp => ab_pJ K fun y K => ab_pJ K fun x K => g (pc + n) L (.inl (.int (lg_cmp x y)) :: K) s
  | .i2l => ab_pI K fun x K => g (pc + n) L (.inl (.long x.toInt64) :: K) s
  | .l2i => ab_pJ K fun x K => g (pc + n) L (.inl (.int x.toInt32) :: K) s
  | .i2b => ab_pI K fun x K => g (pc + n) L (.inl (.int x.toInt8.toInt32) :: K) s
  | .i2s => ab_pI K fun x K => g (pc + n) L (.inl (.int x.toInt16.toInt32) :: K) s
  | .i2c => ab_pI K fun x K => g (pc + n) L (.inl (.int (x.toUInt32 % 65536).toInt32) :: K) s
  | .pop => ab_pI K fun _ K => g (pc + n) L K s
  | .dup => ab_p K fun v K => bif Nat.beq (ab_cat v) 1 then g (pc + n) L (v :: v :: K) s else none
  | .dup2 => ab_p K fun v K => ab_p K fun w K => bif Nat.beq (ab_cat v) 1 && Nat.beq (ab_cat w) 1 then g (pc + n) L (v :: w :: v :: w :: K) s else none
  | .pop2 => ab_pJ K fun _ K => g (pc + n) L K s
  | .goto o => g (ab_tg pc o) L K s
  | .ifCond c o => ab_pI K fun x K => ab_br c x 0 (g (ab_tg pc o) L K s) (g (pc + n) L K s)
  | .if_icmp c o => ab_pI K fun y K => ab_pI K fun x K => ab_br c x y (g (ab_tg pc o) L K s) (g (pc + n) L K s)
  | .if_acmp c o => ab_pR K fun k2 i2 K => ab_pR K fun k1 i1 K => bif Nat.beq k1 10 && Nat.beq k2 10 then (match c with
      | .eq => if i1 = i2 then g (ab_tg pc o) L K s else g (pc + n) L K s
      | .ne => if i1 = i2 then g (pc + n) L K s else g (ab_tg pc o) L K s) else none
  | .ifnull o => match K with
    | .inl .null :: K => g (ab_tg pc o) L K s
    | .inr q :: K => bif Nat.beq q.1 55 then none else g (pc + n) L K s
    | _ => none
  | .ifnonnull o => match K with
    | .inl .null :: K => g (pc + n) L K s
    | .inr q :: K => bif Nat.beq q.1 55 then none else g (ab_tg pc o) L K s
    | _ => none
  | .tableswitch d lo hi offs => ab_pI K fun x K => if x.toInt < lo ∨ hi < x.toInt then g (ab_tg pc d) L K s else match offs[(x.toInt - lo).toNat]? with
    | some o => g (ab_tg pc o) L K s
    | none => none
  | .lookupswitch d ps => ab_pI K fun x K => g (ab_tg pc (Op.lookupswitch.offset ps.toList d x.toInt)) L K s
  | .arraylength => ab_pR K fun k i K => match ab_len X k i with
    | some m => g (pc + n) L (.inl (.int (Int32.ofNat m)) :: K) s
    | none => none
  | .iaload => ab_pI K fun j K => ab_pR K fun k i K => bif ab_isi k then ab_rI X k i j s fun x => g (pc + n) L (.inl (.int x) :: K) s else none
  | .baload => ab_pI K fun j K => ab_pR K fun k i K => bif ab_isb k then ab_rI X k i j s fun x => g (pc + n) L (.inl (.int x) :: K) s else none
  | .laload => ab_pI K fun j K => ab_pR K fun k i K => ab_rL X k i j s fun x => g (pc + n) L (.inl (.long x) :: K) s
  | .aaload => ab_pI K fun j K => ab_pR K fun k i K => ab_rA X k i j s fun v => g (pc + n) L (v :: K) s
  | .iastore => ab_pI K fun x K => ab_pI K fun j K => ab_pR K fun k i K => bif ab_isi k then ab_uI X k i j x s fun s => g (pc + n) L K s else none
  | .bastore => ab_pI K fun x K => ab_pI K fun j K => ab_pR K fun k i K => if x = 1 then (bif ab_isb k then ab_uI X k i j 1 s fun s => g (pc + n) L K s else none) else none
  | .lastore => ab_pJ K fun x K => ab_pI K fun j K => ab_pR K fun k i K => ab_uL X k i j x s fun s => g (pc + n) L K s
  | .aastore => ab_p K fun v K => ab_pI K fun j K => ab_pR K fun k i K => ab_uA X k i j v s fun s => g (pc + n) L K s
  | .ireturn => match K with
    | [.inl (.int x)] => match rt with
      | 1 => r (some (.inl (.int x)))
      | 4 => if x = 0 then r (some (.inl (.int 0))) else if x = 1 then r (some (.inl (.int 1))) else none
      | 5 => if x.toInt8.toInt32 = x then r (some (.inl (.int x))) else none
      | 6 => if (x.toUInt32 % 65536).toInt32 = x then r (some (.inl (.int x))) else none
      | _ => none
    | _ => none
  | .lreturn => match K with
    | [.inl (.long x)] => match rt with
      | 2 => r (some (.inl (.long x)))
      | _ => none
    | _ => none
  | .areturn => match K with
    | [.inr v] => match rt with
      | 3 => r (some (.inr v))
      | _ => none
    | _ => none
  | .return_ => match K with
    | [] => match rt with
      | 0 => r none
      | _ => none
    | _ => none
  | _ => none
end ABX
abbrev ab_O : Type := Option ab_V ⊕ Nat
/-- a row of bytes read and written by System.arraycopy: ints alone -/
def ab_cpy (X : (Nat → Int32) × Nat) (k0 i0 : Nat) (sp : Int32) (k1 i1 : Nat) (dp n : Int32) (s : ab_S) : Option ab_S :=
  match ab_len X k0 i0, ab_ai X k0 i0 s, ab_len X k1 i1, ab_ai X k1 i1 s with
  | some n0, some f, some n1, some g => bif ab_isi k0 && ab_isi k1 then (if sp < 0 ∨ dp < 0 ∨ n < 0 ∨ n0 < sp.toNatClampNeg + n.toNatClampNeg ∨ n1 < dp.toNatClampNeg + n.toNatClampNeg then none else ab_wi k1 i1 (va_cpy f g sp.toNatClampNeg dp.toNatClampNeg n.toNatClampNeg) s) else none
  | _, _, _, _ => none
/-- the receiver is of the kind that the method asks for -/
def ab_rk (k : Nat) (as : List ab_V) : Bool := bif Nat.beq k 99 then true else match as with
  | .inr (k', _) :: _ => Nat.beq k' k
  | _ => false
/-- where a row of the method's table takes up what was thrown at pc -/
def ab_hd (hs : List (Nat × Nat × Nat × Nat)) (pc E : Nat) : Option Nat := match hs with
  | [] => none
  | (a, b, h, e) :: hs' => bif Nat.ble a pc && Nat.blt pc b && ab_cs E e then some h else ab_hd hs' pc E
noncomputable def ab_run (X : (Nat → Int32) × Nat) : Nat → Nat → Nat → Nat → ab_L → List ab_V → ab_S → Option (ab_O × ab_S)
  | 0, _, _, _, _, _, _ => none
  | q + 1, d, m, pc, L, K, s =>
    match ab_code m pc with
    | some (.inl I, n) => ab_x X (ab_rt m) I n pc L K s (fun pc L K s => ab_run X q d m pc L K s) (fun v => some (.inl v, s))
    | some (.inr (op, a, b), n) => match op with
      | 0 => ab_pR K fun k i K => bif Nat.beq k a then (match ab_gf k i b.toNat s with
        | some v => ab_run X q d m (pc + n) L (v :: K) s
        | none => none) else none
      | 1 => ab_p K fun v K => ab_pR K fun k i K => bif Nat.beq k a then (match ab_pf k i b.toNat v s with
        | some s => ab_run X q d m (pc + n) L K s
        | none => none) else none
      | 2 => match d, ab_pop b.toNat K [] with
        | d' + 1, some (as, K) => bif Nat.ble (ab_sum K) 8 && Nat.ble (ab_sum as) (ab_ml a) && ab_rk (ab_2 ab_rkT a 99) as then (match ab_run X q d' a 0 (ab_ent (ab_ml a) as) [] s with
          | some (.inl none, s) => ab_run X q d m (pc + n) L K s
          | some (.inl (some v), s) => ab_run X q d m (pc + n) L (v :: K) s
          | some (.inr E, s) => match ab_hd (ab_hs m) pc E with
            | none => some (.inr E, s)
            | some h => match ab_code m h with
              | some (.inl (.astore_n j), n) => ab_s1 L j.val none fun L => ab_run X q d m (h + n) L [] s
              | some (.inl (.astore j), n) => ab_s1 L j none fun L => ab_run X q d m (h + n) L [] s
              | _ => none
          | none => none) else none
        | _, _ => none
      | 3 => ab_run X q d m (pc + n) L (.inr (10, a) :: K) s
      | 4 => ab_run X q d m (pc + n) L (.inr (13, 0) :: K) s
      | 5 => ab_run X q d m (pc + n) L (.inl (.int (Int32.ofInt b)) :: K) s
      | 6 => ab_run X q d m (pc + n) L (.inr (ab_fmk, 0) :: K) s
      | 7 => ab_run X q d m (pc + n) L (.inr (11, a) :: K) s
      | 8 => ab_run X q d m (pc + n) L (.inl (.int (Int32.ofInt b)) :: K) s
      | 9 => ab_run X q d m (pc + n) L (.inl (.long (Int64.ofInt b)) :: K) s
      | 10 => match ab_hs m with
        | [] => bif Nat.ble (ab_sum K) 8 then some (.inr a, pn (pn s 0 (sn s 0 + 1)) 1 (sn s 1 + 6)) else none
        | _ => none
      | 11 => match a with
        | 2 => bif Nat.ble (ab_sum K) 8 then ab_run X q d m (pc + n) L (.inr (2, sn s 2) :: K) (ab_newT s) else none
        | 8 => bif Nat.ble (ab_sum K) 8 then ab_run X q d m (pc + n) L (.inr (8, sn s 3) :: K) (ab_newR s) else none
        | _ => none
      | 12 => match K with
        | .inl (.int c) :: .inl (.int dp) :: .inr (k1, i1) :: .inl (.int sp) :: .inr (k0, i0) :: K => match (bif Nat.ble (ab_sum K) 8 then ab_cpy X k0 i0 sp k1 i1 dp c s else none) with
          | some s => ab_run X q d m (pc + n) L K s
          | none => none
        | _ => none
      | _ => none
    | none => none
end
section
/-! What the abstract machine answers when it is let run long enough. -/
section NAT
variable {α β : Type} {h : α → Option β}
theorem na_pI {K : List ab_V} {f : Int32 → List ab_V → Option α} : (ab_pI K f).bind h = ab_pI K (fun x K => (f x K).bind h) := by
  unfold ab_pI
  split <;> rfl
theorem na_pJ {K : List ab_V} {f : Int64 → List ab_V → Option α} : (ab_pJ K f).bind h = ab_pJ K (fun x K => (f x K).bind h) := by
  unfold ab_pJ
  split <;> rfl
theorem na_pR {K : List ab_V} {f : Nat → Nat → List ab_V → Option α} : (ab_pR K f).bind h = ab_pR K (fun k i K => (f k i K).bind h) := by
  unfold ab_pR
  split <;> rfl
theorem na_pA {K : List ab_V} {f : ab_V → List ab_V → Option α} : (ab_pA K f).bind h = ab_pA K (fun x K => (f x K).bind h) := by
  unfold ab_pA
  split <;> rfl
theorem na_p {K : List ab_V} {f : ab_V → List ab_V → Option α} : (ab_p K f).bind h = ab_p K (fun x K => (f x K).bind h) := by
  unfold ab_p
  split <;> rfl
theorem na_lI {L : ab_L} {i : Nat} {f : Int32 → Option α} : (ab_lI L i f).bind h = ab_lI L i (fun x => (f x).bind h) := by
  unfold ab_lI
  split <;> rfl
theorem na_lJ {L : ab_L} {i : Nat} {f : Int64 → Option α} : (ab_lJ L i f).bind h = ab_lJ L i (fun x => (f x).bind h) := by
  unfold ab_lJ
  split <;> rfl
theorem na_lA {L : ab_L} {i : Nat} {f : ab_V → Option α} : (ab_lA L i f).bind h = ab_lA L i (fun x => (f x).bind h) := by
  unfold ab_lA
  split <;> rfl
theorem na_cond {b : Bool} {x y : Option α} : (bif b then x else y).bind h = bif b then x.bind h else y.bind h := by cases b <;> rfl
theorem na_ite {c : Prop} {q : Decidable c} {x y : Option α} : (ite c x y).bind h = ite c (x.bind h) (y.bind h) := by split <;> rfl
theorem na_s1 {L : ab_L} {i : Nat} {v : Option ab_V} {f : ab_L → Option α} : (ab_s1 L i v f).bind h = ab_s1 L i v (fun L => (f L).bind h) := by
  unfold ab_s1
  rw [na_cond]
  rfl
theorem na_s2 {L : ab_L} {i : Nat} {v : ab_V} {f : ab_L → Option α} : (ab_s2 L i v f).bind h = ab_s2 L i v (fun L => (f L).bind h) := by
  unfold ab_s2
  rw [na_cond]
  rfl
theorem na_br {c : Jvm.ClassFile.Cond} {x y : Int32} {a b : Option α} : (ab_br c x y a b).bind h = ab_br c x y (a.bind h) (b.bind h) := by
  unfold ab_br
  cases c <;> exact na_ite
theorem na_rI {X : (Nat → Int32) × Nat} {k i : Nat} {j : Int32} {s : ab_S} {f : Int32 → Option α} : (ab_rI X k i j s f).bind h = ab_rI X k i j s (fun x => (f x).bind h) := by
  unfold ab_rI
  split
  · exact na_ite
  · rfl
theorem na_rL {X : (Nat → Int32) × Nat} {k i : Nat} {j : Int32} {s : ab_S} {f : Int64 → Option α} : (ab_rL X k i j s f).bind h = ab_rL X k i j s (fun x => (f x).bind h) := by
  unfold ab_rL
  split
  · exact na_ite
  · rfl
theorem na_rA {X : (Nat → Int32) × Nat} {k i : Nat} {j : Int32} {s : ab_S} {f : ab_V → Option α} : (ab_rA X k i j s f).bind h = ab_rA X k i j s (fun x => (f x).bind h) := by
  unfold ab_rA
  split
  · rw [na_ite]
    congr 1
    split
    · split <;> rfl
    · rfl
    · rfl
  · rfl
theorem na_uI {X : (Nat → Int32) × Nat} {k i : Nat} {j x : Int32} {s : ab_S} {f : ab_S → Option α} : (ab_uI X k i j x s f).bind h = ab_uI X k i j x s (fun s => (f s).bind h) := by
  unfold ab_uI
  split
  · rw [na_ite]
    congr 1
    split <;> rfl
  · rfl
theorem na_uL {X : (Nat → Int32) × Nat} {k i : Nat} {j : Int32} {x : Int64} {s : ab_S} {f : ab_S → Option α} : (ab_uL X k i j x s f).bind h = ab_uL X k i j x s (fun s => (f s).bind h) := by
  unfold ab_uL
  split
  · rw [na_ite]
    congr 1
    split <;> rfl
  · rfl
theorem na_uA {X : (Nat → Int32) × Nat} {k i : Nat} {j : Int32} {v : ab_V} {s : ab_S} {f : ab_S → Option α} : (ab_uA X k i j v s f).bind h = ab_uA X k i j v s (fun s => (f s).bind h) := by
  unfold ab_uA
  split
  · rw [na_ite]
    congr 1
    split <;> rfl
  · rfl
theorem na_n : (none : Option α).bind h = none := rfl
/-- a plain instruction asks what follows once, at one place, or answers -/
theorem ab_x_nat {X : (Nat → Int32) × Nat} {rt : Nat} {I : Instr} {n pc : Nat} {L : ab_L} {K : List ab_V} {s : ab_S} {g : Nat → ab_L → List ab_V → ab_S → Option α} {r : Option ab_V → Option α} : (ab_x X rt I n pc L K s g r).bind h = ab_x X rt I n pc L K s (fun pc L K s => (g pc L K s).bind h) (fun v => (r v).bind h) := by
  cases I
  all_goals first
    | rfl
    | (simp only [ab_x, na_pI, na_pJ, na_pR, na_pA, na_p, na_lI, na_lJ, na_lA, na_s1, na_s2, na_br, na_rI, na_rL, na_rA, na_uI, na_uL, na_uA, na_ite, na_cond, na_n]; done)
    | (simp only [ab_x]; split <;> first | rfl | (rw [na_cond]; rfl))
    | (simp only [ab_x]; split <;> first | rfl | (split <;> first | rfl | exact na_ite | exact na_cond | (rw [na_ite]; congr 1; exact na_ite)))
    | (simp only [ab_x, na_pI, na_pJ, na_pR, na_pA, na_p, na_lI, na_lJ, na_lA, na_s1, na_s2, na_br, na_rI, na_rL, na_rA, na_uI, na_uL, na_uA, na_ite, na_cond, na_n]; congr 1; funext k2 i2 K; congr 1; funext k1 i1 K; congr 1; split <;> exact na_ite)
    | (simp only [ab_x, na_pI, na_pJ, na_pR, na_pA, na_p, na_lI, na_lJ, na_lA, na_s1, na_s2, na_br, na_rI, na_rL, na_rA, na_uI, na_uL, na_uA, na_ite, na_cond, na_n]; congr 1; funext x K; congr 1; split <;> rfl)
    | (simp only [ab_x, na_pI, na_pJ, na_pR, na_pA, na_p, na_lI, na_lJ, na_lA, na_s1, na_s2, na_br, na_rI, na_rL, na_rA, na_uI, na_uL, na_uA, na_ite, na_cond, na_n]; congr 1; funext x i K; split <;> rfl)
    | skip
end NAT
/-- where a plain instruction goes on, or what it answers -/
abbrev ab_N : Type := (Nat × ab_L × List ab_V × ab_S) ⊕ Option ab_V
def ab_x1 (X : (Nat → Int32) × Nat) (rt : Nat) (I : Instr) (n pc : Nat) (L : ab_L) (K : List ab_V) (s : ab_S) : Option ab_N := ab_x X rt I n pc L K s (fun pc L K s => some (.inl (pc, L, K, s))) (fun v => some (.inr v))
theorem ab_x_eq {α : Type} {X : (Nat → Int32) × Nat} {rt : Nat} {I : Instr} {n pc : Nat} {L : ab_L} {K : List ab_V} {s : ab_S} {g : Nat → ab_L → List ab_V → ab_S → Option α} {r : Option ab_V → Option α} : ab_x X rt I n pc L K s g r = (ab_x1 X rt I n pc L K s).bind (fun z => match z with
  | .inl (pc, L, K, s) => g pc L K s
  | .inr v => r v) := by
  rw [ab_x1, ab_x_nat]
  rfl
abbrev ab_R : Type := Option (ab_O × ab_S)
/-- what follows a throw in a callee -/
noncomputable def ab_hx (m pc : Nat) (L : ab_L) (E : Nat) (s : ab_S) (G : Nat → ab_L → List ab_V → ab_S → ab_R) : ab_R := match ab_hd (ab_hs m) pc E with
  | none => some (.inr E, s)
  | some h => match ab_code m h with
    | some (.inl (.astore_n j), n) => ab_s1 L j.val none fun L => G (h + n) L [] s
    | some (.inl (.astore j), n) => ab_s1 L j none fun L => G (h + n) L [] s
    | _ => none
/-- one step: G what follows, C the calls -/
noncomputable def ab_stp (X : (Nat → Int32) × Nat) (d m pc : Nat) (L : ab_L) (K : List ab_V) (s : ab_S) (G : Nat → ab_L → List ab_V → ab_S → ab_R) (C : Nat → Nat → List ab_V → ab_S → ab_R) : ab_R :=
  match ab_code m pc with
  | some (.inl I, n) => ab_x X (ab_rt m) I n pc L K s G (fun v => some (.inl v, s))
  | some (.inr (op, a, b), n) => match op with
    | 0 => ab_pR K fun k i K => bif Nat.beq k a then (match ab_gf k i b.toNat s with
      | some v => G (pc + n) L (v :: K) s
      | none => none) else none
    | 1 => ab_p K fun v K => ab_pR K fun k i K => bif Nat.beq k a then (match ab_pf k i b.toNat v s with
      | some s => G (pc + n) L K s
      | none => none) else none
    | 2 => match d, ab_pop b.toNat K [] with
      | d' + 1, some (as, K) => bif Nat.ble (ab_sum K) 8 && Nat.ble (ab_sum as) (ab_ml a) && ab_rk (ab_2 ab_rkT a 99) as then (match C d' a as s with
        | some (.inl none, s) => G (pc + n) L K s
        | some (.inl (some v), s) => G (pc + n) L (v :: K) s
        | some (.inr E, s) => ab_hx m pc L E s G
        | none => none) else none
      | _, _ => none
    | 3 => G (pc + n) L (.inr (10, a) :: K) s
    | 4 => G (pc + n) L (.inr (13, 0) :: K) s
    | 5 => G (pc + n) L (.inl (.int (Int32.ofInt b)) :: K) s
    | 6 => G (pc + n) L (.inr (ab_fmk, 0) :: K) s
    | 7 => G (pc + n) L (.inr (11, a) :: K) s
    | 8 => G (pc + n) L (.inl (.int (Int32.ofInt b)) :: K) s
    | 9 => G (pc + n) L (.inl (.long (Int64.ofInt b)) :: K) s
    | 10 => match ab_hs m with
      | [] => bif Nat.ble (ab_sum K) 8 then some (.inr a, pn (pn s 0 (sn s 0 + 1)) 1 (sn s 1 + 6)) else none
      | _ => none
    | 11 => match a with
      | 2 => bif Nat.ble (ab_sum K) 8 then G (pc + n) L (.inr (2, sn s 2) :: K) (ab_newT s) else none
      | 8 => bif Nat.ble (ab_sum K) 8 then G (pc + n) L (.inr (8, sn s 3) :: K) (ab_newR s) else none
      | _ => none
    | 12 => match K with
      | .inl (.int c) :: .inl (.int dp) :: .inr (k1, i1) :: .inl (.int sp) :: .inr (k0, i0) :: K => match (bif Nat.ble (ab_sum K) 8 then ab_cpy X k0 i0 sp k1 i1 dp c s else none) with
        | some s => G (pc + n) L K s
        | none => none
      | _ => none
    | _ => none
  | none => none
noncomputable abbrev ab_rG (X : (Nat → Int32) × Nat) (q d m : Nat) : Nat → ab_L → List ab_V → ab_S → ab_R := fun pc L K s => ab_run X q d m pc L K s
noncomputable abbrev ab_rC (X : (Nat → Int32) × Nat) (q : Nat) : Nat → Nat → List ab_V → ab_S → ab_R := fun d a as s => ab_run X q d a 0 (ab_ent (ab_ml a) as) [] s
theorem ab_run_S {X : (Nat → Int32) × Nat} {q d m pc : Nat} {L : ab_L} {K : List ab_V} {s : ab_S} : ab_run X (q + 1) d m pc L K s = ab_stp X d m pc L K s (ab_rG X q d m) (ab_rC X q) := by
  rw [ab_run]
  rfl
theorem ab_s1_b {α : Type} {y : α} {L : ab_L} {i : Nat} {v : Option ab_V} {f : ab_L → Option α} (h : ab_s1 L i v f = some y) : Nat.blt i L.length = true ∧ f ((ab_clr L i).set i v) = some y := by
  unfold ab_s1 at h
  cases e : Nat.blt i L.length with
  | true =>
    rw [e] at h
    exact ⟨rfl, h⟩
  | false =>
    rw [e] at h
    cases h
/-- what a method may answer, by what its descriptor says -/
def ab_ro (rt : Nat) (o : ab_O) : Prop := match o with
  | .inr _ => True
  | .inl none => rt = 0
  | .inl (some (.inl (.int _))) => rt ≠ 0 ∧ rt ≠ 2 ∧ rt ≠ 3
  | .inl (some (.inl (.long _))) => rt = 2
  | .inl (some (.inr _)) => rt = 3
  | _ => False
theorem ab_x1_ro {X : (Nat → Int32) × Nat} {rt : Nat} {I : Instr} {n pc : Nat} {L : ab_L} {K : List ab_V} {s : ab_S} {v : Option ab_V} (h : ab_x1 X rt I n pc L K s = some (.inr v)) : ab_ro rt (.inl v) := by
  unfold ab_x1 at h
  cases I
  case ireturn =>
    simp only [ab_x] at h
    split at h
    · split at h
      · cases h
        exact ⟨by decide, by decide, by decide⟩
      · split at h
        · cases h
          exact ⟨by decide, by decide, by decide⟩
        · split at h
          · cases h
            exact ⟨by decide, by decide, by decide⟩
          · cases h
      · split at h
        · cases h
          exact ⟨by decide, by decide, by decide⟩
        · cases h
      · split at h
        · cases h
          exact ⟨by decide, by decide, by decide⟩
        · cases h
      · cases h
    · cases h
  case lreturn =>
    simp only [ab_x] at h
    split at h
    · split at h
      · cases h
        rfl
      · cases h
    · cases h
  case areturn =>
    simp only [ab_x] at h
    split at h
    · split at h
      · cases h
        rfl
      · cases h
    · cases h
  case return_ =>
    simp only [ab_x] at h
    split at h
    · split at h
      · cases h
        rfl
      · cases h
    · cases h
  all_goals exfalso
  all_goals simp only [ab_x, ab_pI, ab_pJ, ab_pR, ab_pA, ab_p, ab_lI, ab_lJ, ab_lA, ab_s1, ab_s2, ab_br, ab_rI, ab_rL, ab_rA, ab_uI, ab_uL, ab_uA, cond_eq_ite] at h
  all_goals first
    | (cases h; done)
    | (repeat' split at h) <;> (cases h; done)
    | skip
section TRC
variable {X : (Nat → Int32) × Nat} {d m pc : Nat} {L : ab_L} {K : List ab_V} {s : ab_S} {G : Nat → ab_L → List ab_V → ab_S → ab_R} {C : Nat → Nat → List ab_V → ab_S → ab_R} {y : ab_O × ab_S}
/-- what a step that answers has asked -/
def ab_tr (m : Nat) (G : Nat → ab_L → List ab_V → ab_S → ab_R) (C : Nat → Nat → List ab_V → ab_S → ab_R) (y : ab_O × ab_S) (F : (Nat → ab_L → List ab_V → ab_S → ab_R) → (Nat → Nat → List ab_V → ab_S → ab_R) → ab_R) : Prop :=
  ∃ (ug : Option (Nat × ab_L × List ab_V × ab_S)) (uc : Option (Nat × Nat × List ab_V × ab_S)), (∀ u, ug = some u → ∃ z, G u.1 u.2.1 u.2.2.1 u.2.2.2 = some z) ∧ (∀ u, uc = some u → ∃ z, C u.1 u.2.1 u.2.2.1 u.2.2.2 = some z) ∧ ((∃ u, ug = some u ∧ G u.1 u.2.1 u.2.2.1 u.2.2.2 = some y) ∨ ab_ro (ab_rt m) y.1) ∧
    ∀ (G' : Nat → ab_L → List ab_V → ab_S → ab_R) (C' : Nat → Nat → List ab_V → ab_S → ab_R), (∀ u, ug = some u → G' u.1 u.2.1 u.2.2.1 u.2.2.2 = G u.1 u.2.1 u.2.2.1 u.2.2.2) → (∀ u, uc = some u → C' u.1 u.2.1 u.2.2.1 u.2.2.2 = C u.1 u.2.1 u.2.2.1 u.2.2.2) → F G' C' = some y
theorem ab_tr_g {F : (Nat → ab_L → List ab_V → ab_S → ab_R) → (Nat → Nat → List ab_V → ab_S → ab_R) → ab_R} {pc : Nat} {L : ab_L} {K : List ab_V} {s : ab_S} (hF : ∀ G' C', F G' C' = G' pc L K s) (h : F G C = some y) : ab_tr m G C y F := by
  rw [hF] at h
  exact ⟨some (pc, L, K, s), none, fun u e => by cases e; exact ⟨y, h⟩, fun u e => (by cases e), Or.inl ⟨_, rfl, h⟩, fun G' C' h1 h2 => by rw [hF, h1 _ rfl]; exact h⟩
theorem ab_tr_c {F : (Nat → ab_L → List ab_V → ab_S → ab_R) → (Nat → Nat → List ab_V → ab_S → ab_R) → ab_R} (hro : ab_ro (ab_rt m) y.1) (hF : ∀ G' C', F G' C' = some y) : ab_tr m G C y F :=
  ⟨none, none, fun u e => (by cases e), fun u e => (by cases e), Or.inr hro, fun G' C' _ _ => hF G' C'⟩
theorem ab_tr_n {F : (Nat → ab_L → List ab_V → ab_S → ab_R) → (Nat → Nat → List ab_V → ab_S → ab_R) → ab_R} (hF : ∀ G' C', F G' C' = none) (h : F G C = some y) : ab_tr m G C y F := by
  rw [hF] at h
  cases h
theorem ab_hx_tr {E : Nat} (h : ab_hx m pc L E s G = some y) : ((∀ G', ab_hx m pc L E s G' = some y) ∧ ab_ro (ab_rt m) y.1) ∨ ∃ (pc' : Nat) (L' : ab_L) (K' : List ab_V) (s' : ab_S), G pc' L' K' s' = some y ∧ ∀ G', ab_hx m pc L E s G' = G' pc' L' K' s' := by
  unfold ab_hx at h ⊢
  split at h
  · refine Or.inl ⟨fun G' => h, ?_⟩
    cases h
    trivial
  · rename_i hq hh
    split at h
    · rename_i j n hcd
      obtain ⟨hj, h1⟩ := ab_s1_b h
      refine Or.inr ⟨_, _, _, _, h1, fun G' => ?_⟩
      show ab_s1 L j.val none _ = _
      unfold ab_s1
      rw [hj]
      rfl
    · rename_i j n hcd
      obtain ⟨hj, h1⟩ := ab_s1_b h
      refine Or.inr ⟨_, _, _, _, h1, fun G' => ?_⟩
      show ab_s1 L j none _ = _
      unfold ab_s1
      rw [hj]
      rfl
    · cases h
theorem ab_stp_tr (h : ab_stp X d m pc L K s G C = some y) : ab_tr m G C y (ab_stp X d m pc L K s) := by
  cases hc : ab_code m pc with
  | none =>
    unfold ab_stp at h
    rw [hc] at h
    cases h
  | some z =>
    obtain ⟨r, n⟩ := z
    rcases r with I | ⟨op, a, b⟩
    · have e : ∀ G' C', ab_stp X d m pc L K s G' C' = ab_x X (ab_rt m) I n pc L K s G' (fun v => some (.inl v, s)) := by
        intro G' C'
        unfold ab_stp
        rw [hc]
        try rfl
      cases e1 : ab_x1 X (ab_rt m) I n pc L K s with
      | none => exact ab_tr_n (fun G' C' => by rw [e, ab_x_eq, e1]; rfl) h
      | some z =>
        rcases z with ⟨pc', L', K', s'⟩ | v
        · exact ab_tr_g (pc := pc') (L := L') (K := K') (s := s') (fun G' C' => by rw [e, ab_x_eq, e1]; rfl) h
        · have h1 := h
          rw [e, ab_x_eq, e1] at h1
          refine ab_tr_c ?_ (fun G' C' => by rw [e, ab_x_eq, e1]; exact h1)
          have h2 : some (Sum.inl v, s) = some y := h1
          cases h2
          exact ab_x1_ro e1
    · rcases op with _ | _ | _ | _ | _ | _ | _ | _ | _ | _ | _ | _ | _ | op
      · have e : ∀ G' C', ab_stp X d m pc L K s G' C' = (ab_pR K fun k i K => bif Nat.beq k a then (match ab_gf k i b.toNat s with
          | some v => G' (pc + n) L (v :: K) s
          | none => none) else none) := by
          intro G' C'
          unfold ab_stp
          rw [hc]
          try rfl
        unfold ab_pR at e
        split at e
        · rename_i k i K1
          cases hb : Nat.beq k a with
          | false => exact ab_tr_n (fun G' C' => by rw [e]; show (bif Nat.beq k a then _ else _) = _; rw [hb]; rfl) h
          | true =>
            cases hg : ab_gf k i b.toNat s with
            | none => exact ab_tr_n (fun G' C' => by rw [e]; show (bif Nat.beq k a then _ else _) = _; rw [hb, hg]; rfl) h
            | some v => exact ab_tr_g (pc := pc + n) (L := L) (K := v :: K1) (s := s) (fun G' C' => by rw [e]; show (bif Nat.beq k a then _ else _) = _; rw [hb, hg]; rfl) h
        · exact ab_tr_n (fun G' C' => by rw [e]) h
      · have e : ∀ G' C', ab_stp X d m pc L K s G' C' = (ab_p K fun v K => ab_pR K fun k i K => bif Nat.beq k a then (match ab_pf k i b.toNat v s with
          | some s => G' (pc + n) L K s
          | none => none) else none) := by
          intro G' C'
          unfold ab_stp
          rw [hc]
          try rfl
        unfold ab_p ab_pR at e
        rcases K with _ | ⟨v, K1⟩
        · exact ab_tr_n (fun G' C' => by rw [e]) h
        · rcases K1 with _ | ⟨w, K2⟩
          · exact ab_tr_n (fun G' C' => by rw [e]) h
          · rcases w with w | ⟨k, i⟩
            · exact ab_tr_n (fun G' C' => by rw [e]) h
            · cases hb : Nat.beq k a with
              | false => exact ab_tr_n (fun G' C' => by rw [e]; show (bif Nat.beq k a then _ else _) = _; rw [hb]; rfl) h
              | true =>
                cases hg : ab_pf k i b.toNat v s with
                | none => exact ab_tr_n (fun G' C' => by rw [e]; show (bif Nat.beq k a then _ else _) = _; rw [hb, hg]; rfl) h
                | some s2 => exact ab_tr_g (pc := pc + n) (L := L) (K := K2) (s := s2) (fun G' C' => by rw [e]; show (bif Nat.beq k a then _ else _) = _; rw [hb, hg]; rfl) h
      · have e : ∀ G' C', ab_stp X d m pc L K s G' C' = (match (generalizing := false) d, ab_pop b.toNat K [] with
          | d' + 1, some (as, K) => bif Nat.ble (ab_sum K) 8 && Nat.ble (ab_sum as) (ab_ml a) && ab_rk (ab_2 ab_rkT a 99) as then (match C' d' a as s with
            | some (.inl none, s) => G' (pc + n) L K s
            | some (.inl (some v), s) => G' (pc + n) L (v :: K) s
            | some (.inr E, s) => ab_hx m pc L E s G'
            | none => none) else none
          | _, _ => none) := by
          intro G' C'
          unfold ab_stp
          simp only [hc]
          try rfl
        cases d with
        | zero => exact ab_tr_n (fun G' C' => by rw [e]) h
        | succ d =>
          cases hp : ab_pop b.toNat K [] with
          | none => exact ab_tr_n (fun G' C' => by rw [e, hp]) h
          | some z =>
            obtain ⟨as, K1⟩ := z
            have e2 : ∀ G' C', ab_stp X (d + 1) m pc L K s G' C' = (bif Nat.ble (ab_sum K1) 8 && Nat.ble (ab_sum as) (ab_ml a) && ab_rk (ab_2 ab_rkT a 99) as then (match C' d a as s with
              | some (.inl none, s) => G' (pc + n) L K1 s
              | some (.inl (some v), s) => G' (pc + n) L (v :: K1) s
              | some (.inr E, s) => ab_hx m pc L E s G'
              | none => none) else none) := by
              intro G' C'
              rw [e, hp]
            clear e
            cases hb : (Nat.ble (ab_sum K1) 8 && Nat.ble (ab_sum as) (ab_ml a) && ab_rk (ab_2 ab_rkT a 99) as) with
            | false => exact ab_tr_n (fun G' C' => by rw [e2, hb]; rfl) h
            | true =>
              have e3 : ∀ G' C', ab_stp X (d + 1) m pc L K s G' C' = (match C' d a as s with
                | some (.inl none, s) => G' (pc + n) L K1 s
                | some (.inl (some v), s) => G' (pc + n) L (v :: K1) s
                | some (.inr E, s) => ab_hx m pc L E s G'
                | none => none) := by
                intro G' C'
                rw [e2, hb]
                rfl
              clear e2
              cases hC : C d a as s with
              | none =>
                rw [e3, hC] at h
                cases h
              | some z =>
                obtain ⟨o1, s1⟩ := z
                have h1 := h
                rw [e3, hC] at h1
                rcases o1 with (_ | v) | E
                · refine ⟨some (pc + n, L, K1, s1), some (d, a, as, s), fun u e => by cases e; exact ⟨y, h1⟩, fun u e => by cases e; exact ⟨_, hC⟩, Or.inl ⟨_, rfl, h1⟩, fun G' C' a1 a2 => ?_⟩
                  have z1 := a1 _ rfl
                  have z2 := a2 _ rfl
                  dsimp only at z1 z2
                  rw [e3, z2, hC]
                  exact z1.trans h1
                · refine ⟨some (pc + n, L, v :: K1, s1), some (d, a, as, s), fun u e => by cases e; exact ⟨y, h1⟩, fun u e => by cases e; exact ⟨_, hC⟩, Or.inl ⟨_, rfl, h1⟩, fun G' C' a1 a2 => ?_⟩
                  have z1 := a1 _ rfl
                  have z2 := a2 _ rfl
                  dsimp only at z1 z2
                  rw [e3, z2, hC]
                  exact z1.trans h1
                · rcases ab_hx_tr h1 with ⟨h2, h9⟩ | ⟨pc', L', K', s', h2, h3⟩
                  · refine ⟨none, some (d, a, as, s), fun u e => (by cases e), fun u e => (by cases e; exact ⟨_, hC⟩), (Or.inr h9), fun G' C' a1 a2 => ?_⟩
                    have z2 := a2 _ rfl
                    dsimp only at z2
                    rw [e3, z2, hC]
                    exact h2 G'
                  · refine ⟨some (pc', L', K', s'), some (d, a, as, s), fun u e => by cases e; exact ⟨y, h2⟩, fun u e => by cases e; exact ⟨_, hC⟩, Or.inl ⟨_, rfl, h2⟩, fun G' C' a1 a2 => ?_⟩
                    have z1 := a1 _ rfl
                    have z2 := a2 _ rfl
                    dsimp only at z1 z2
                    rw [e3, z2, hC]
                    exact (h3 G').trans (z1.trans h2)
      · exact ab_tr_g (pc := pc + n) (L := L) (K := .inr (10, a) :: K) (s := s) (fun G' C' => by unfold ab_stp; rw [hc]; try rfl) h
      · exact ab_tr_g (pc := pc + n) (L := L) (K := .inr (13, 0) :: K) (s := s) (fun G' C' => by unfold ab_stp; rw [hc]; try rfl) h
      · exact ab_tr_g (pc := pc + n) (L := L) (K := .inl (.int (Int32.ofInt b)) :: K) (s := s) (fun G' C' => by unfold ab_stp; rw [hc]; try rfl) h
      · exact ab_tr_g (pc := pc + n) (L := L) (K := .inr (ab_fmk, 0) :: K) (s := s) (fun G' C' => by unfold ab_stp; rw [hc]; try rfl) h
      · exact ab_tr_g (pc := pc + n) (L := L) (K := .inr (11, a) :: K) (s := s) (fun G' C' => by unfold ab_stp; rw [hc]; try rfl) h
      · exact ab_tr_g (pc := pc + n) (L := L) (K := .inl (.int (Int32.ofInt b)) :: K) (s := s) (fun G' C' => by unfold ab_stp; rw [hc]; try rfl) h
      · exact ab_tr_g (pc := pc + n) (L := L) (K := .inl (.long (Int64.ofInt b)) :: K) (s := s) (fun G' C' => by unfold ab_stp; rw [hc]; try rfl) h
      · have e : ∀ G' C', ab_stp X d m pc L K s G' C' = ab_stp X d m pc L K s G C := by
          intro G' C'
          unfold ab_stp
          rw [hc]
          try rfl
        refine ab_tr_c ?_ (fun G' C' => (e G' C').trans h)
        unfold ab_stp at h
        rw [hc] at h
        have h8 : (match (generalizing := false) ab_hs m with
          | [] => bif Nat.ble (ab_sum K) 8 then some (.inr a, pn (pn s 0 (sn s 0 + 1)) 1 (sn s 1 + 6)) else none
          | _ => none : ab_R) = some y := h
        split at h8
        · cases hb : Nat.ble (ab_sum K) 8 with
          | false =>
            rw [hb] at h8
            cases h8
          | true =>
            rw [hb] at h8
            cases h8
            trivial
        · cases h8
      · by_cases h2 : a = 2
        · subst h2
          cases hb : Nat.ble (ab_sum K) 8 with
          | false => exact ab_tr_n (fun G' C' => by unfold ab_stp; rw [hc]; show (bif Nat.ble (ab_sum K) 8 then _ else _) = _; rw [hb]; rfl) h
          | true => exact ab_tr_g (pc := pc + n) (L := L) (K := .inr (2, sn s 2) :: K) (s := ab_newT s) (fun G' C' => by unfold ab_stp; rw [hc]; show (bif Nat.ble (ab_sum K) 8 then _ else _) = _; rw [hb]; rfl) h
        · by_cases h8 : a = 8
          · subst h8
            cases hb : Nat.ble (ab_sum K) 8 with
            | false => exact ab_tr_n (fun G' C' => by unfold ab_stp; rw [hc]; show (bif Nat.ble (ab_sum K) 8 then _ else _) = _; rw [hb]; rfl) h
            | true => exact ab_tr_g (pc := pc + n) (L := L) (K := .inr (8, sn s 3) :: K) (s := ab_newR s) (fun G' C' => by unfold ab_stp; rw [hc]; show (bif Nat.ble (ab_sum K) 8 then _ else _) = _; rw [hb]; rfl) h
          · have e : ∀ G' C', ab_stp X d m pc L K s G' C' = (match (generalizing := false) a with
              | 2 => bif Nat.ble (ab_sum K) 8 then G' (pc + n) L (.inr (2, sn s 2) :: K) (ab_newT s) else none
              | 8 => bif Nat.ble (ab_sum K) 8 then G' (pc + n) L (.inr (8, sn s 3) :: K) (ab_newR s) else none
              | _ => none) := by
              intro G' C'
              unfold ab_stp
              simp only [hc]
              try rfl
            refine ab_tr_n (fun G' C' => ?_) h
            rw [e]
            split
            · exact absurd rfl h2
            · exact absurd rfl h8
            · rfl
      · have e : ∀ G' C', ab_stp X d m pc L K s G' C' = (match (generalizing := false) K with
          | .inl (.int c) :: .inl (.int dp) :: .inr (k1, i1) :: .inl (.int sp) :: .inr (k0, i0) :: K => match (bif Nat.ble (ab_sum K) 8 then ab_cpy X k0 i0 sp k1 i1 dp c s else none) with
            | some s => G' (pc + n) L K s
            | none => none
          | _ => none) := by
          intro G' C'
          unfold ab_stp
          simp only [hc]
          try rfl
        split at e
        · rename_i c dp k1 i1 sp k0 i0 K9
          cases e9 : (bif Nat.ble (ab_sum K9) 8 then ab_cpy X k0 i0 sp k1 i1 dp c s else none) with
          | none => exact ab_tr_n (fun G' C' => by rw [e, e9]) h
          | some s9 => exact ab_tr_g (pc := pc + n) (L := L) (K := K9) (s := s9) (fun G' C' => by rw [e, e9]) h
        · exact ab_tr_n (fun G' C' => by rw [e]) h
      · exact ab_tr_n (fun G' C' => by unfold ab_stp; rw [hc]; try rfl) h
end TRC
theorem ab_run_mono {X : (Nat → Int32) × Nat} : ∀ {q q' d m pc : Nat} {L : ab_L} {K : List ab_V} {s : ab_S} {y : ab_O × ab_S}, q ≤ q' → ab_run X q d m pc L K s = some y → ab_run X q' d m pc L K s = some y
  | 0, q', d, m, pc, L, K, s, y, hq, h => by
    rw [ab_run] at h
    cases h
  | q + 1, 0, d, m, pc, L, K, s, y, hq, h => by omega
  | q + 1, q' + 1, d, m, pc, L, K, s, y, hq, h => by
    rw [ab_run_S] at h ⊢
    obtain ⟨ug, uc, h1, h2, -, h3⟩ := ab_stp_tr h
    refine h3 _ _ (fun u e => ?_) (fun u e => ?_)
    · obtain ⟨z, hz⟩ := h1 u e
      rw [hz]
      exact ab_run_mono (by omega) hz
    · obtain ⟨z, hz⟩ := h2 u e
      rw [hz]
      exact ab_run_mono (by omega) hz
noncomputable def ab_at (X : (Nat → Int32) × Nat) (d m pc : Nat) (L : ab_L) (K : List ab_V) (s : ab_S) : ab_R := @dite _ (∃ q y, ab_run X q d m pc L K s = some y) (Classical.propDecidable _) (fun h => ab_run X h.choose d m pc L K s) (fun _ => none)
theorem ab_at_of {X : (Nat → Int32) × Nat} {q d m pc : Nat} {L : ab_L} {K : List ab_V} {s : ab_S} {y : ab_O × ab_S} (h : ab_run X q d m pc L K s = some y) : ab_at X d m pc L K s = some y := by
  have h1 : ∃ q y, ab_run X q d m pc L K s = some y := ⟨q, y, h⟩
  have e : ab_at X d m pc L K s = ab_run X h1.choose d m pc L K s := by
    unfold ab_at
    rw [dif_pos h1]
  rw [e]
  obtain ⟨z, hz⟩ := h1.choose_spec
  have a := ab_run_mono (Nat.le_max_left q h1.choose) h
  have b := ab_run_mono (Nat.le_max_right q h1.choose) hz
  rw [hz, ← b, a]
theorem ab_at_ex {X : (Nat → Int32) × Nat} {d m pc : Nat} {L : ab_L} {K : List ab_V} {s : ab_S} {y : ab_O × ab_S} (h : ab_at X d m pc L K s = some y) : ∃ q, ab_run X q d m pc L K s = some y := by
  unfold ab_at at h
  split at h
  · exact ⟨_, h⟩
  · cases h
noncomputable def ab_ev (X : (Nat → Int32) × Nat) (d a : Nat) (as : List ab_V) (s : ab_S) : ab_R := ab_at X d a 0 (ab_ent (ab_ml a) as) [] s
theorem ab_at_stp {X : (Nat → Int32) × Nat} {d m pc : Nat} {L : ab_L} {K : List ab_V} {s : ab_S} : ab_at X d m pc L K s = ab_stp X d m pc L K s (fun pc L K s => ab_at X d m pc L K s) (ab_ev X) := by
  refine Option.ext (fun y => ⟨fun h => ?_, fun h => ?_⟩)
  · obtain ⟨q, hq⟩ := ab_at_ex h
    cases q with
    | zero =>
      rw [ab_run] at hq
      cases hq
    | succ q =>
      rw [ab_run_S] at hq
      obtain ⟨ug, uc, h1, h2, -, h3⟩ := ab_stp_tr hq
      refine h3 _ _ (fun u e => ?_) (fun u e => ?_)
      · obtain ⟨z, hz⟩ := h1 u e
        rw [hz]
        exact ab_at_of hz
      · obtain ⟨z, hz⟩ := h2 u e
        rw [hz]
        exact ab_at_of hz
  · obtain ⟨ug, uc, h1, h2, -, h3⟩ := ab_stp_tr h
    have g1 : ∃ q1, ∀ u, ug = some u → ∀ q, q1 ≤ q → ab_rG X q d m u.1 u.2.1 u.2.2.1 u.2.2.2 = ab_at X d m u.1 u.2.1 u.2.2.1 u.2.2.2 := by
      cases ug with
      | none => exact ⟨0, fun u e => by cases e⟩
      | some u =>
        obtain ⟨z, hz⟩ := h1 u rfl
        obtain ⟨q1, hq1⟩ := ab_at_ex hz
        exact ⟨q1, fun v e q hq => by
          cases e
          exact (ab_run_mono hq hq1).trans hz.symm⟩
    have g2 : ∃ q1, ∀ u, uc = some u → ∀ q, q1 ≤ q → ab_rC X q u.1 u.2.1 u.2.2.1 u.2.2.2 = ab_ev X u.1 u.2.1 u.2.2.1 u.2.2.2 := by
      cases uc with
      | none => exact ⟨0, fun u e => by cases e⟩
      | some u =>
        obtain ⟨z, hz⟩ := h2 u rfl
        obtain ⟨q1, hq1⟩ := ab_at_ex hz
        exact ⟨q1, fun v e q hq => by
          cases e
          exact (ab_run_mono hq hq1).trans hz.symm⟩
    obtain ⟨q1, k1⟩ := g1
    obtain ⟨q2, k2⟩ := g2
    refine ab_at_of (q := max q1 q2 + 1) ?_
    rw [ab_run_S]
    exact h3 _ _ (fun u e => k1 u e _ (Nat.le_max_left _ _)) (fun u e => k2 u e _ (Nat.le_max_right _ _))
theorem ab_run_ro {X : (Nat → Int32) × Nat} : ∀ {q d m pc : Nat} {L : ab_L} {K : List ab_V} {s s' : ab_S} {o : ab_O}, ab_run X q d m pc L K s = some (o, s') → ab_ro (ab_rt m) o := by
  intro q
  induction q with
  | zero =>
    intro d m pc L K s s' o h
    rw [ab_run] at h
    cases h
  | succ q ih =>
    intro d m pc L K s s' o h
    rw [ab_run_S] at h
    obtain ⟨ug, uc, -, -, h1, -⟩ := ab_stp_tr h
    rcases h1 with ⟨u, -, h1⟩ | h1
    · exact ih h1
    · exact h1
theorem ab_ev_ro {X : (Nat → Int32) × Nat} {d a : Nat} {as : List ab_V} {s s' : ab_S} {o : ab_O} (h : ab_ev X d a as s = some (o, s')) : ab_ro (ab_rt a) o := by
  obtain ⟨q, hq⟩ := ab_at_ex h
  exact ab_run_ro hq
/-! What follows a call, by what the callee answers. -/
def ab_bU (r : ab_R) (f : ab_S → ab_R) (h : Nat → ab_S → ab_R) : ab_R := match r with
  | some (.inl none, s) => f s
  | some (.inr E, s) => h E s
  | _ => none
def ab_bI (r : ab_R) (f : Int32 → ab_S → ab_R) (h : Nat → ab_S → ab_R) : ab_R := match r with
  | some (.inl (some (.inl (.int x))), s) => f x s
  | some (.inr E, s) => h E s
  | _ => none
def ab_bJ (r : ab_R) (f : Int64 → ab_S → ab_R) (h : Nat → ab_S → ab_R) : ab_R := match r with
  | some (.inl (some (.inl (.long x))), s) => f x s
  | some (.inr E, s) => h E s
  | _ => none
def ab_bA (r : ab_R) (f : Nat → Nat → ab_S → ab_R) (h : Nat → ab_S → ab_R) : ab_R := match r with
  | some (.inl (some (.inr (k, i))), s) => f k i s
  | some (.inr E, s) => h E s
  | _ => none
/-- a throw that nothing takes up -/
def ab_px : Nat → ab_S → ab_R := fun E s => some (.inr E, s)
def ab_oq (x : Option Nat) (a : ab_R) (f : Nat → ab_R) : ab_R := match x with
  | none => a
  | some t => f t
def ab_ol (x : Option Nat) (f : Nat → ab_R) : ab_R := match x with
  | some t => f t
  | none => none
def ab_os (x : Option ab_S) (f : ab_S → ab_R) : ab_R := match x with
  | some t => f t
  | none => none
/-- one step, the calls by what they answer -/
noncomputable def ab_stq (X : (Nat → Int32) × Nat) (d m pc : Nat) (L : ab_L) (K : List ab_V) (s : ab_S) (G : Nat → ab_L → List ab_V → ab_S → ab_R) : ab_R :=
  match ab_code m pc with
  | some (.inl I, n) => ab_x X (ab_rt m) I n pc L K s G (fun v => some (.inl v, s))
  | some (.inr (op, a, b), n) => match op with
    | 2 => match d, ab_pop b.toNat K [] with
      | d' + 1, some (as, K) => bif Nat.ble (ab_sum K) 8 && Nat.ble (ab_sum as) (ab_ml a) && ab_rk (ab_2 ab_rkT a 99) as then (match ab_rt a with
        | 0 => ab_bU (ab_ev X d' a as s) (fun s => G (pc + n) L K s) (fun E s => ab_hx m pc L E s G)
        | 2 => ab_bJ (ab_ev X d' a as s) (fun x s => G (pc + n) L (.inl (.long x) :: K) s) (fun E s => ab_hx m pc L E s G)
        | 3 => ab_bA (ab_ev X d' a as s) (fun k i s => G (pc + n) L (.inr (k, i) :: K) s) (fun E s => ab_hx m pc L E s G)
        | _ => ab_bI (ab_ev X d' a as s) (fun x s => G (pc + n) L (.inl (.int x) :: K) s) (fun E s => ab_hx m pc L E s G)) else none
      | _, _ => none
    | 12 => match K with
      | .inl (.int c) :: .inl (.int dp) :: .inr (k1, i1) :: .inl (.int sp) :: .inr (k0, i0) :: K => bif Nat.ble (ab_sum K) 8 then ab_os (ab_cpy X k0 i0 sp k1 i1 dp c s) (fun s => G (pc + n) L K s) else none
      | _ => none
    | _ => ab_stp X d m pc L K s G (ab_ev X)
  | none => none
theorem ab_stq_eq {X : (Nat → Int32) × Nat} {d m pc : Nat} {L : ab_L} {K : List ab_V} {s : ab_S} {G : Nat → ab_L → List ab_V → ab_S → ab_R} : ab_stq X d m pc L K s G = ab_stp X d m pc L K s G (ab_ev X) := by
  unfold ab_stq
  split
  · rename_i I n hc
    unfold ab_stp
    rw [hc]
  · rename_i op a b n hc
    split
    · unfold ab_stp
      simp only [hc]
      cases d with
      | zero => rfl
      | succ d' =>
        cases hp : ab_pop b.toNat K [] with
        | none => rfl
        | some z =>
          obtain ⟨as, K1⟩ := z
          cases hb : (Nat.ble (ab_sum K1) 8 && Nat.ble (ab_sum as) (ab_ml a) && ab_rk (ab_2 ab_rkT a 99) as) with
          | false =>
            dsimp only
            rw [hb]
            rfl
          | true =>
            dsimp only
            rw [hb, cond_true, cond_true]
            cases hr : ab_ev X d' a as s with
            | none => split <;> rfl
            | some z =>
              obtain ⟨o, s1⟩ := z
              have ho := ab_ev_ro hr
              rcases o with (_ | v) | E
              · have ho : ab_rt a = 0 := ho
                rw [ho]
                rfl
              · rcases v with v | ⟨k, i⟩
                · cases v with
                  | int x =>
                    obtain ⟨h0, h2, h3⟩ := ho
                    split
                    · exact absurd (by assumption) h0
                    · exact absurd (by assumption) h2
                    · exact absurd (by assumption) h3
                    · rfl
                  | long x =>
                    have ho : ab_rt a = 2 := ho
                    rw [ho]
                    rfl
                  | _ => exact False.elim ho
                · have ho : ab_rt a = 3 := ho
                  rw [ho]
                  rfl
              · split <;> rfl
    · unfold ab_stp
      rw [hc]
      dsimp only
      split
      · rename_i c dp k1 i1 sp k0 i0 K1
        cases hb : Nat.ble (ab_sum K1) 8 with
        | false => rfl
        | true =>
          show ab_os (ab_cpy X k0 i0 sp k1 i1 dp c s) _ = match ab_cpy X k0 i0 sp k1 i1 dp c s with
            | some s => _
            | none => _
          cases ab_cpy X k0 i0 sp k1 i1 dp c s <;> rfl
      · rfl
    · rfl
  · rename_i hc
    unfold ab_stp
    rw [hc]
/-- steps on, up to the places in st -/
noncomputable def ab_go (X : (Nat → Int32) × Nat) (st : List Nat) (d m : Nat) : Nat → Nat → ab_L → List ab_V → ab_S → ab_R
  | 0, pc, L, K, s => ab_at X d m pc L K s
  | n + 1, pc, L, K, s => bif st.elem pc then ab_at X d m pc L K s else ab_stq X d m pc L K s (fun pc L K s => ab_go X st d m n pc L K s)
theorem ab_go_eq {X : (Nat → Int32) × Nat} {st : List Nat} {d m : Nat} : ∀ (n pc : Nat) (L : ab_L) (K : List ab_V) (s : ab_S), ab_go X st d m n pc L K s = ab_at X d m pc L K s
  | 0, pc, L, K, s => rfl
  | n + 1, pc, L, K, s => by
    rw [ab_go]
    cases st.elem pc with
    | true => rfl
    | false =>
      show ab_stq X d m pc L K s _ = _
      rw [ab_stq_eq, ab_at_stp]
      congr 1
      funext pc L K s
      exact ab_go_eq n pc L K s
theorem ab_blk {X : (Nat → Int32) × Nat} {d m pc : Nat} {L : ab_L} {K : List ab_V} {s : ab_S} (st : List Nat) (n : Nat) : ab_at X d m pc L K s = ab_stq X d m pc L K s (fun pc L K s => ab_go X st d m n pc L K s) := by
  rw [ab_stq_eq, ab_at_stp]
  congr 1
  funext pc L K s
  exact (ab_go_eq n pc L K s).symm
theorem ab_tsw {X : (Nat → Int32) × Nat} {d m pc n : Nat} {L : ab_L} {K : List ab_V} {s : ab_S} {x : Int32} {dd lo hi : Int} {offs : Array Int} (hc : ab_code m pc = some (.inl (.tableswitch dd lo hi offs), n)) : ab_at X d m pc L (.inl (.int x) :: K) s = if x.toInt < lo ∨ hi < x.toInt then ab_at X d m (ab_tg pc dd) L K s else match offs[(x.toInt - lo).toNat]? with
  | some o => ab_at X d m (ab_tg pc o) L K s
  | none => none := by
  rw [ab_at_stp]
  unfold ab_stp
  simp only [hc]
  rfl
theorem ab_lsw {X : (Nat → Int32) × Nat} {d m pc n : Nat} {L : ab_L} {K : List ab_V} {s : ab_S} {x : Int32} {dd : Int} {ps : Array (Int × Int)} (hc : ab_code m pc = some (.inl (.lookupswitch dd ps), n)) : ab_at X d m pc L (.inl (.int x) :: K) s = ab_at X d m (ab_tg pc (Op.lookupswitch.offset ps.toList dd x.toInt)) L K s := by
  rw [ab_at_stp]
  unfold ab_stp
  simp only [hc]
  rfl
theorem ab_lsw_d {X : (Nat → Int32) × Nat} {d m pc : Nat} {L : ab_L} {K : List ab_V} {s : ab_S} {o o' : Int} (h : o = o') : ab_at X d m (ab_tg pc o) L K s = ab_at X d m (ab_tg pc o') L K s := by rw [h]
/-! One object's field, one object's row written. -/
def wi (s : ab_S) (k i : Nat) (v : Int32) : ab_S := pi s k (va_up (si s k) i v)
def wA (s : ab_S) (k i : Nat) (G : Nat → Int32) : ab_S := pA s k (va_up (sA s k) i G)
def wB (s : ab_S) (k i : Nat) (G : Nat → Int64) : ab_S := pB s k (va_up (sB s k) i G)
end
section
/-! 0 MovingNames.feed(IIIII)I -/
theorem b0 {X : (Nat → Int32) × Nat} {d : Nat} {s : ab_S} {x1 : Int32} {x2 : Int32} {x3 : Int32} {x4 : Int32} {x5 : Int32} : ab_ev X (d + 1) 0 [.inr (0, 0), .inl (.int x1), .inl (.int x2), .inl (.int x3), .inl (.int x4), .inl (.int x5)] s = ab_bI (ab_ev X d 1 [.inr (1, 0), .inl (.int x1), .inl (.int x2), .inl (.int x3), .inl (.int x4), .inl (.int x5)] s) (fun r2 s1 => some (.inl (some (.inl (.int r2))), s1)) ab_px := ab_blk [] 11
/-! 1 MovingNames$Reader.append(IIIII)I -/
set_option maxRecDepth 100000 in
theorem b1 {X : (Nat → Int32) × Nat} {d : Nat} {s : ab_S} {x1 : Int32} {x2 : Int32} {x3 : Int32} {x4 : Int32} {x5 : Int32} : ab_ev X (d + 1) 1 [.inr (1, 0), .inl (.int x1), .inl (.int x2), .inl (.int x3), .inl (.int x4), .inl (.int x5)] s = (if (sz s 1) ≤ (nI 880) then ab_bU (ab_ev X d 2 [.inr (1, 0), .inl (.int x1)] s) (fun s1 => ab_bU (ab_ev X d 2 [.inr (1, 0), .inl (.int x2)] s1) (fun s2 => ab_bU (ab_ev X d 2 [.inr (1, 0), .inl (.int x3)] s2) (fun s3 => ab_bU (ab_ev X d 2 [.inr (1, 0), .inl (.int x4)] s3) (fun s4 => ab_bU (ab_ev X d 2 [.inr (1, 0), .inl (.int x5)] s4) (fun s5 => some (.inl (some (.inl (.int (sz s5 1)))), s5)) ab_px) ab_px) ab_px) ab_px) ab_px else some (.inl (some (.inl (.int (-nI 1)))), s)) := ab_blk [] 24
/-! 2 MovingNames$Reader.appendFour(I)V -/
theorem b2 {X : (Nat → Int32) × Nat} {d : Nat} {s : ab_S} {x1 : Int32} : ab_ev X (d + 1) 2 [.inr (1, 0), .inl (.int x1)] s = ab_at X (d + 1) 2 3 [some (.inr (1, 0)), some (.inl (.int x1)), some (.inl (.int (nI 24)))] [] s := ab_blk [3] 4
theorem b2_3 {X : (Nat → Int32) × Nat} {d : Nat} {s : ab_S} {x1 : Int32} {x2 : Int32} : ab_at X (d + 1) 2 3 [some (.inr (1, 0)), some (.inl (.int x1)), some (.inl (.int x2))] [] s = (if x2 < (nI 0) then some (.inl none, s) else ab_bU (ab_ev X d 3 [.inr (18, 0), .inl (.int (sz s 1)), .inl (.int (((x1.toUInt32 >>> (x2.toUInt32 &&& Int32.toUInt32 31)).toInt32) &&& (nI 255)))] s) (fun s1 => ab_at X (d + 1) 2 3 [some (.inr (1, 0)), some (.inl (.int x1)), some (.inl (.int (x2 + (-nI 8))))] [] (pz s1 1 ((sz s1 1) + (nI 1)))) ab_px) := ab_blk [3] 22
/-! 3 MovingNames.put([III)V -/
theorem b3 {X : (Nat → Int32) × Nat} {d : Nat} {s : ab_S} {k0 i0 : Nat} {x1 : Int32} {x2 : Int32} : ab_ev X d 3 [.inr (k0, i0), .inl (.int x1), .inl (.int x2)] s = (if x1 < (nI 0) then some (.inl none, s) else ab_ol (ab_len X k0 i0) (fun n1 => (if (nI n1) ≤ x1 then some (.inl none, s) else (bif ab_isi k0 then ab_uI X k0 i0 x1 x2 s (fun s2 => some (.inl none, s2)) else none)))) := ab_blk [] 13
/-! 4 MovingNames.fault(I)I -/
theorem b4 {X : (Nat → Int32) × Nat} {d : Nat} {s : ab_S} {x1 : Int32} : ab_ev X d 4 [.inr (0, 0), .inl (.int x1)] s = ab_at X d 4 1 [some (.inr (0, 0)), some (.inl (.int x1))] [.inl (.int x1)] s := ab_blk [1, 28, 36, 44] 3
theorem b4_1 {X : (Nat → Int32) × Nat} {d : Nat} {s : ab_S} {x1 : Int32} {v0 : Int32} : ab_at X d 4 1 [some (.inr (0, 0)), some (.inl (.int x1))] [.inl (.int v0)] s = (if v0 = (nI 0) then ab_at X d 4 28 [some (.inr (0, 0)), some (.inl (.int x1))] [] s else (if v0 = (nI 1) then ab_at X d 4 36 [some (.inr (0, 0)), some (.inl (.int x1))] [] s else ab_at X d 4 44 [some (.inr (0, 0)), some (.inl (.int x1))] [] s)) := by
  refine (ab_lsw (m := 4) (pc := 1) rfl).trans ?_
  by_cases h0 : v0 = (nI 0)
  · subst h0
    rfl
  rw [if_neg h0]
  by_cases h1 : v0 = (nI 1)
  · subst h1
    rfl
  rw [if_neg h1]
  have g0 : v0.toInt ≠ 0 := fun e => h0 (Int32.toInt_inj.mp (e.trans (by decide)))
  have g1 : v0.toInt ≠ 1 := fun e => h1 (Int32.toInt_inj.mp (e.trans (by decide)))
  refine ab_lsw_d (o' := 43) ?_
  show (if (0 : Int) = v0.toInt then (27 : Int) else if (1 : Int) = v0.toInt then (35 : Int) else (43 : Int)) = 43
  rw [if_neg (Ne.symm g0), if_neg (Ne.symm g1)]
theorem b4_28 {X : (Nat → Int32) × Nat} {d : Nat} {s : ab_S} {x1 : Int32} : ab_at X d 4 28 [some (.inr (0, 0)), some (.inl (.int x1))] [] s = some (.inl (some (.inl (.int (sz s 2)))), s) := ab_blk [1, 28, 36, 44] 6
theorem b4_36 {X : (Nat → Int32) × Nat} {d : Nat} {s : ab_S} {x1 : Int32} : ab_at X d 4 36 [some (.inr (0, 0)), some (.inl (.int x1))] [] s = some (.inl (some (.inl (.int (sz s 3)))), s) := ab_blk [1, 28, 36, 44] 6
theorem b4_44 {X : (Nat → Int32) × Nat} {d : Nat} {s : ab_S} {x1 : Int32} : ab_at X d 4 44 [some (.inr (0, 0)), some (.inl (.int x1))] [] s = some (.inl (some (.inl (.int (-nI 1)))), s) := ab_blk [1, 28, 36, 44] 4
/-! 5 MovingNames.rests()Z -/
theorem b5 {X : (Nat → Int32) × Nat} {d : Nat} {s : ab_S}  : ab_ev X (d + 1) 5 [.inr (0, 0)] s = ab_bI (ab_ev X d 6 [.inr (2, 0), .inl (.int (nI 1))] s) (fun r2 s1 => (if r2 = (nI 0) then some (.inl (some (.inl (.int (nI 1)))), s1) else some (.inl (some (.inl (.int (nI 0)))), s1))) ab_px := ab_blk [] 10
/-! 6 MovingNames$Town.movesAmong(I)I -/
theorem b6 {X : (Nat → Int32) × Nat} {d : Nat} {s : ab_S} {i0 : Nat} {x1 : Int32} : ab_ev X (d + 1) 6 [.inr (2, i0), .inl (.int x1)] s = ab_bI (ab_ev X d 7 [.inr (2, i0)] s) (fun r2 s1 => ab_at X (d + 1) 6 10 [some (.inr (2, i0)), some (.inl (.int x1)), some (.inl (.int r2)), some (.inl (.int (nI 0))), some (.inl (.int (nI 0)))] [] s1) ab_px := ab_blk [10] 9
set_option maxRecDepth 100000 in
theorem b6_10 {X : (Nat → Int32) × Nat} {d : Nat} {s : ab_S} {i0 : Nat} {x1 : Int32} {x2 : Int32} {x3 : Int32} {x4 : Int32} : ab_at X (d + 1) 6 10 [some (.inr (2, i0)), some (.inl (.int x1)), some (.inl (.int x2)), some (.inl (.int x3)), some (.inl (.int x4))] [] s = (if x1 ≤ x4 then some (.inl (some (.inl (.int x3))), s) else ab_bI (ab_ev X d 10 [.inr (4, i0), .inl (.int (((si s 4) i0) + x4)), .inl (.int (((si s 5) i0) + x3)), .inl (.int ((si s 3) i0)), .inl (.int x2)] s) (fun r2 s1 => (if r2 = (nI 0) then ab_at X (d + 1) 6 10 [some (.inr (2, i0)), some (.inl (.int x1)), some (.inl (.int x2)), some (.inl (.int (x3 + (nI 1)))), some (.inl (.int (x4 + (nI 1))))] [] s1 else ab_at X (d + 1) 6 10 [some (.inr (2, i0)), some (.inl (.int x1)), some (.inl (.int x2)), some (.inl (.int x3)), some (.inl (.int (x4 + (nI 1))))] [] s1)) ab_px) := ab_blk [10] 23
/-! 7 MovingNames$Town.wrongStreets()I -/
theorem b7 {X : (Nat → Int32) × Nat} {d : Nat} {s : ab_S} {i0 : Nat} : ab_ev X (d + 1) 7 [.inr (2, i0)] s = ab_bI (ab_ev X d 8 [.inr (2, i0)] s) (fun r2 s1 => ab_at X (d + 1) 7 9 [some (.inr (2, i0)), some (.inl (.int r2)), some (.inl (.int (nI 0))), some (.inl (.int (nI 0)))] [] s1) ab_px := ab_blk [9] 9
theorem b7_9 {X : (Nat → Int32) × Nat} {d : Nat} {s : ab_S} {i0 : Nat} {x1 : Int32} {x2 : Int32} {x3 : Int32} : ab_at X (d + 1) 7 9 [some (.inr (2, i0)), some (.inl (.int x1)), some (.inl (.int x2)), some (.inl (.int x3))] [] s = (if ((si s 1) i0) ≤ x3 then some (.inl (some (.inl (.int x2))), s) else ab_bI (ab_ev X d 9 [.inr (19, i0), .inl (.int x3)] s) (fun r2 s1 => ab_at X (d + 1) 7 9 [some (.inr (2, i0)), some (.inl (.int x1)), some (.inl (.int (x2 + ((x1 >>> (r2 &&& 31)) &&& (nI 1))))), some (.inl (.int (x3 + (nI 1))))] [] s1) ab_px) := ab_blk [9] 19
/-! 8 MovingNames$Town.sharedNames()I -/
theorem b8 {X : (Nat → Int32) × Nat} {d : Nat} {s : ab_S} {i0 : Nat} : ab_ev X (d + 1) 8 [.inr (2, i0)] s = ab_at X (d + 1) 8 6 [some (.inr (2, i0)), some (.inl (.int (nI 0))), some (.inl (.int (nI 0))), some (.inl (.int (nI 0))), none] [] s := ab_blk [6] 8
theorem b8_6 {X : (Nat → Int32) × Nat} {d : Nat} {s : ab_S} {i0 : Nat} {x1 : Int32} {x2 : Int32} {x3 : Int32} {u4 : Option ab_V} : ab_at X (d + 1) 8 6 [some (.inr (2, i0)), some (.inl (.int x1)), some (.inl (.int x2)), some (.inl (.int x3)), u4] [] s = (if ((si s 1) i0) ≤ x3 then some (.inl (some (.inl (.int x2))), s) else ab_bI (ab_ev X d 9 [.inr (19, i0), .inl (.int x3)] s) (fun r2 s1 => ab_at X (d + 1) 8 6 [some (.inr (2, i0)), some (.inl (.int (x1 ||| ((nI 1) <<< (r2 &&& 31))))), some (.inl (.int (x2 ||| (x1 &&& ((nI 1) <<< (r2 &&& 31)))))), some (.inl (.int (x3 + (nI 1)))), some (.inl (.int ((nI 1) <<< (r2 &&& 31))))] [] s1) ab_px) := ab_blk [6] 25
/-! 9 MovingNames.at([II)I -/
theorem b9 {X : (Nat → Int32) × Nat} {d : Nat} {s : ab_S} {k0 i0 : Nat} {x1 : Int32} : ab_ev X d 9 [.inr (k0, i0), .inl (.int x1)] s = (if x1 < (nI 0) then some (.inl (some (.inl (.int (nI 0)))), s) else ab_ol (ab_len X k0 i0) (fun n1 => (if (nI n1) ≤ x1 then some (.inl (some (.inl (.int (nI 0)))), s) else (bif ab_isi k0 then ab_rI X k0 i0 x1 s (fun r2 => some (.inl (some (.inl (.int r2))), s)) else none)))) := ab_blk [] 13
/-! 10 MovingNames$Law.holds(IIII)Z -/
theorem b10 {X : (Nat → Int32) × Nat} {d : Nat} {s : ab_S} {i0 : Nat} {x1 : Int32} {x2 : Int32} {x3 : Int32} {x4 : Int32} : ab_ev X (d + 1) 10 [.inr (4, i0), .inl (.int x1), .inl (.int x2), .inl (.int x3), .inl (.int x4)] s = ab_at X (d + 1) 10 6 [some (.inr (4, i0)), some (.inl (.int x1)), some (.inl (.int x2)), some (.inl (.int x3)), some (.inl (.int x4)), some (.inl (.int (nI 0))), some (.inl (.int (nI 0))), none] [] s := ab_blk [6] 6
set_option maxRecDepth 100000 in
theorem b10_6 {X : (Nat → Int32) × Nat} {d : Nat} {s : ab_S} {i0 : Nat} {x1 : Int32} {x2 : Int32} {x3 : Int32} {x4 : Int32} {x5 : Int32} {x6 : Int32} {u7 : Option ab_V} : ab_at X (d + 1) 10 6 [some (.inr (4, i0)), some (.inl (.int x1)), some (.inl (.int x2)), some (.inl (.int x3)), some (.inl (.int x4)), some (.inl (.int x5)), some (.inl (.int x6)), u7] [] s = (if ((si s 8) i0) ≤ x6 then (if x5 ≤ (nI 0) then some (.inl (some (.inl (.int (nI 0)))), s) else ab_bI (ab_ev X d 9 [.inr (26, i0), .inl (.int (nI 0))] s) (fun r2 s1 => (if r2 = (nI 0) then some (.inl (some (.inl (.int (nI 0)))), s1) else some (.inl (some (.inl (.int (nI 1)))), s1))) ab_px) else (if (nI 900) ≤ x6 then (if x5 ≤ (nI 0) then some (.inl (some (.inl (.int (nI 0)))), s) else ab_bI (ab_ev X d 9 [.inr (26, i0), .inl (.int (nI 0))] s) (fun r4 s3 => (if r4 = (nI 0) then some (.inl (some (.inl (.int (nI 0)))), s3) else some (.inl (some (.inl (.int (nI 1)))), s3))) ab_px) else (if x6 < (nI 0) ∨ 900 ≤ x6.toNatClampNeg then none else (if (((sA s 6) i0) x6.toNatClampNeg) < (-nI 5) then (if (((sA s 6) i0) x6.toNatClampNeg) = (-nI 12) then ab_bI (ab_ev X d 9 [.inr (26, i0), .inl (.int (x5 - (nI 1)))] s) (fun r6 s5 => ab_bU (ab_ev X d 3 [.inr (26, i0), .inl (.int (x5 - (nI 1))), .inl (.int ((nI 1) - r6))] s5) (fun s7 => ab_at X (d + 1) 10 6 [some (.inr (4, i0)), some (.inl (.int x1)), some (.inl (.int x2)), some (.inl (.int x3)), some (.inl (.int x4)), some (.inl (.int x5)), some (.inl (.int (x6 + (nI 1)))), some (.inl (.int (((sA s 6) i0) x6.toNatClampNeg)))] [] s7) ab_px) ab_px else ab_bI (ab_ev X d 9 [.inr (26, i0), .inl (.int ((x5 + (-nI 1)) - (nI 1)))] s) (fun r9 s8 => ab_bI (ab_ev X d 9 [.inr (26, i0), .inl (.int (x5 + (-nI 1)))] s8) (fun r11 s10 => ab_bI (ab_ev X d 12 [.inl (.int (((sA s 6) i0) x6.toNatClampNeg)), .inl (.int r9), .inl (.int r11)] s10) (fun r13 s12 => ab_bU (ab_ev X d 3 [.inr (26, i0), .inl (.int ((x5 + (-nI 1)) - (nI 1))), .inl (.int r13)] s12) (fun s14 => ab_at X (d + 1) 10 6 [some (.inr (4, i0)), some (.inl (.int x1)), some (.inl (.int x2)), some (.inl (.int x3)), some (.inl (.int x4)), some (.inl (.int (x5 + (-nI 1)))), some (.inl (.int (x6 + (nI 1)))), some (.inl (.int (((sA s 6) i0) x6.toNatClampNeg)))] [] s14) ab_px) ab_px) ab_px) ab_px) else (if (((sA s 6) i0) x6.toNatClampNeg) < (nI 0) then ab_bI (ab_ev X d 11 [.inl (.int (((sA s 6) i0) x6.toNatClampNeg)), .inl (.int x1), .inl (.int x2), .inl (.int x3), .inl (.int x4)] s) (fun r16 s15 => ab_bU (ab_ev X d 3 [.inr (26, i0), .inl (.int x5), .inl (.int r16)] s15) (fun s17 => ab_at X (d + 1) 10 6 [some (.inr (4, i0)), some (.inl (.int x1)), some (.inl (.int x2)), some (.inl (.int x3)), some (.inl (.int x4)), some (.inl (.int (x5 + (nI 1)))), some (.inl (.int (x6 + (nI 1)))), some (.inl (.int (((sA s 6) i0) x6.toNatClampNeg)))] [] s17) ab_px) ab_px else ab_bU (ab_ev X d 3 [.inr (26, i0), .inl (.int x5), .inl (.int (((sA s 6) i0) x6.toNatClampNeg))] s) (fun s18 => ab_at X (d + 1) 10 6 [some (.inr (4, i0)), some (.inl (.int x1)), some (.inl (.int x2)), some (.inl (.int x3)), some (.inl (.int x4)), some (.inl (.int (x5 + (nI 1)))), some (.inl (.int (x6 + (nI 1)))), some (.inl (.int (((sA s 6) i0) x6.toNatClampNeg)))] [] s18) ab_px))))) := ab_blk [6] 43
/-! 11 MovingNames$Law.reading(IIIII)I -/
theorem b11 {X : (Nat → Int32) × Nat} {d : Nat} {s : ab_S} {x0 : Int32} {x1 : Int32} {x2 : Int32} {x3 : Int32} {x4 : Int32} : ab_ev X d 11 [.inl (.int x0), .inl (.int x1), .inl (.int x2), .inl (.int x3), .inl (.int x4)] s = ab_at X d 11 1 [some (.inl (.int x0)), some (.inl (.int x1)), some (.inl (.int x2)), some (.inl (.int x3)), some (.inl (.int x4))] [.inl (.int x0)] s := ab_blk [1, 32, 34, 39, 45, 47] 3
theorem b11_1 {X : (Nat → Int32) × Nat} {d : Nat} {s : ab_S} {x0 : Int32} {x1 : Int32} {x2 : Int32} {x3 : Int32} {x4 : Int32} {v0 : Int32} : ab_at X d 11 1 [some (.inl (.int x0)), some (.inl (.int x1)), some (.inl (.int x2)), some (.inl (.int x3)), some (.inl (.int x4))] [.inl (.int v0)] s = (if v0 = (-nI 4) then ab_at X d 11 45 [some (.inl (.int x0)), some (.inl (.int x1)), some (.inl (.int x2)), some (.inl (.int x3)), some (.inl (.int x4))] [] s else (if v0 = (-nI 3) then ab_at X d 11 39 [some (.inl (.int x0)), some (.inl (.int x1)), some (.inl (.int x2)), some (.inl (.int x3)), some (.inl (.int x4))] [] s else (if v0 = (-nI 2) then ab_at X d 11 34 [some (.inl (.int x0)), some (.inl (.int x1)), some (.inl (.int x2)), some (.inl (.int x3)), some (.inl (.int x4))] [] s else (if v0 = (-nI 1) then ab_at X d 11 32 [some (.inl (.int x0)), some (.inl (.int x1)), some (.inl (.int x2)), some (.inl (.int x3)), some (.inl (.int x4))] [] s else ab_at X d 11 47 [some (.inl (.int x0)), some (.inl (.int x1)), some (.inl (.int x2)), some (.inl (.int x3)), some (.inl (.int x4))] [] s)))) := by
  refine (ab_tsw (m := 11) (pc := 1) rfl).trans ?_
  by_cases h0 : v0 = (-nI 4)
  · subst h0
    rfl
  rw [if_neg h0]
  by_cases h1 : v0 = (-nI 3)
  · subst h1
    rfl
  rw [if_neg h1]
  by_cases h2 : v0 = (-nI 2)
  · subst h2
    rfl
  rw [if_neg h2]
  by_cases h3 : v0 = (-nI 1)
  · subst h3
    rfl
  rw [if_neg h3]
  have g0 : v0.toInt ≠ (-4) := fun e => h0 (Int32.toInt_inj.mp (e.trans (by decide)))
  have g1 : v0.toInt ≠ (-3) := fun e => h1 (Int32.toInt_inj.mp (e.trans (by decide)))
  have g2 : v0.toInt ≠ (-2) := fun e => h2 (Int32.toInt_inj.mp (e.trans (by decide)))
  have g3 : v0.toInt ≠ (-1) := fun e => h3 (Int32.toInt_inj.mp (e.trans (by decide)))
  exact if_pos (by omega)
theorem b11_32 {X : (Nat → Int32) × Nat} {d : Nat} {s : ab_S} {x0 : Int32} {x1 : Int32} {x2 : Int32} {x3 : Int32} {x4 : Int32} : ab_at X d 11 32 [some (.inl (.int x0)), some (.inl (.int x1)), some (.inl (.int x2)), some (.inl (.int x3)), some (.inl (.int x4))] [] s = some (.inl (some (.inl (.int x1))), s) := ab_blk [1, 32, 34, 39, 45, 47] 4
theorem b11_34 {X : (Nat → Int32) × Nat} {d : Nat} {s : ab_S} {x0 : Int32} {x1 : Int32} {x2 : Int32} {x3 : Int32} {x4 : Int32} : ab_at X d 11 34 [some (.inl (.int x0)), some (.inl (.int x1)), some (.inl (.int x2)), some (.inl (.int x3)), some (.inl (.int x4))] [] s = some (.inl (some (.inl (.int (x1 - x1 / (nI 7) * (nI 7))))), s) := ab_blk [1, 32, 34, 39, 45, 47] 6
theorem b11_39 {X : (Nat → Int32) × Nat} {d : Nat} {s : ab_S} {x0 : Int32} {x1 : Int32} {x2 : Int32} {x3 : Int32} {x4 : Int32} : ab_at X d 11 39 [some (.inl (.int x0)), some (.inl (.int x1)), some (.inl (.int x2)), some (.inl (.int x3)), some (.inl (.int x4))] [] s = some (.inl (some (.inl (.int (x2 - x2 / (nI 1000) * (nI 1000))))), s) := ab_blk [1, 32, 34, 39, 45, 47] 6
theorem b11_45 {X : (Nat → Int32) × Nat} {d : Nat} {s : ab_S} {x0 : Int32} {x1 : Int32} {x2 : Int32} {x3 : Int32} {x4 : Int32} : ab_at X d 11 45 [some (.inl (.int x0)), some (.inl (.int x1)), some (.inl (.int x2)), some (.inl (.int x3)), some (.inl (.int x4))] [] s = some (.inl (some (.inl (.int x3))), s) := ab_blk [1, 32, 34, 39, 45, 47] 4
theorem b11_47 {X : (Nat → Int32) × Nat} {d : Nat} {s : ab_S} {x0 : Int32} {x1 : Int32} {x2 : Int32} {x3 : Int32} {x4 : Int32} : ab_at X d 11 47 [some (.inl (.int x0)), some (.inl (.int x1)), some (.inl (.int x2)), some (.inl (.int x3)), some (.inl (.int x4))] [] s = some (.inl (some (.inl (.int x4))), s) := ab_blk [1, 32, 34, 39, 45, 47] 4
/-! 12 MovingNames$Law.reckon(III)I -/
theorem b12 {X : (Nat → Int32) × Nat} {d : Nat} {s : ab_S} {x0 : Int32} {x1 : Int32} {x2 : Int32} : ab_ev X (d + 1) 12 [.inl (.int x0), .inl (.int x1), .inl (.int x2)] s = ab_at X (d + 1) 12 1 [some (.inl (.int x0)), some (.inl (.int x1)), some (.inl (.int x2))] [.inl (.int x0)] s := ab_blk [1, 48, 57, 66, 75, 86, 97, 108, 112] 3
theorem b12_1 {X : (Nat → Int32) × Nat} {d : Nat} {s : ab_S} {x0 : Int32} {x1 : Int32} {x2 : Int32} {v0 : Int32} : ab_at X (d + 1) 12 1 [some (.inl (.int x0)), some (.inl (.int x1)), some (.inl (.int x2))] [.inl (.int v0)] s = (if v0 = (-nI 13) then ab_at X (d + 1) 12 108 [some (.inl (.int x0)), some (.inl (.int x1)), some (.inl (.int x2))] [] s else (if v0 = (-nI 11) then ab_at X (d + 1) 12 97 [some (.inl (.int x0)), some (.inl (.int x1)), some (.inl (.int x2))] [] s else (if v0 = (-nI 10) then ab_at X (d + 1) 12 86 [some (.inl (.int x0)), some (.inl (.int x1)), some (.inl (.int x2))] [] s else (if v0 = (-nI 9) then ab_at X (d + 1) 12 75 [some (.inl (.int x0)), some (.inl (.int x1)), some (.inl (.int x2))] [] s else (if v0 = (-nI 8) then ab_at X (d + 1) 12 66 [some (.inl (.int x0)), some (.inl (.int x1)), some (.inl (.int x2))] [] s else (if v0 = (-nI 7) then ab_at X (d + 1) 12 57 [some (.inl (.int x0)), some (.inl (.int x1)), some (.inl (.int x2))] [] s else (if v0 = (-nI 6) then ab_at X (d + 1) 12 48 [some (.inl (.int x0)), some (.inl (.int x1)), some (.inl (.int x2))] [] s else ab_at X (d + 1) 12 112 [some (.inl (.int x0)), some (.inl (.int x1)), some (.inl (.int x2))] [] s))))))) := by
  refine (ab_tsw (m := 12) (pc := 1) rfl).trans ?_
  by_cases h0 : v0 = (-nI 13)
  · subst h0
    rfl
  rw [if_neg h0]
  by_cases h1 : v0 = (-nI 11)
  · subst h1
    rfl
  rw [if_neg h1]
  by_cases h2 : v0 = (-nI 10)
  · subst h2
    rfl
  rw [if_neg h2]
  by_cases h3 : v0 = (-nI 9)
  · subst h3
    rfl
  rw [if_neg h3]
  by_cases h4 : v0 = (-nI 8)
  · subst h4
    rfl
  rw [if_neg h4]
  by_cases h5 : v0 = (-nI 7)
  · subst h5
    rfl
  rw [if_neg h5]
  by_cases h6 : v0 = (-nI 6)
  · subst h6
    rfl
  rw [if_neg h6]
  have g0 : v0.toInt ≠ (-13) := fun e => h0 (Int32.toInt_inj.mp (e.trans (by decide)))
  have g1 : v0.toInt ≠ (-11) := fun e => h1 (Int32.toInt_inj.mp (e.trans (by decide)))
  have g2 : v0.toInt ≠ (-10) := fun e => h2 (Int32.toInt_inj.mp (e.trans (by decide)))
  have g3 : v0.toInt ≠ (-9) := fun e => h3 (Int32.toInt_inj.mp (e.trans (by decide)))
  have g4 : v0.toInt ≠ (-8) := fun e => h4 (Int32.toInt_inj.mp (e.trans (by decide)))
  have g5 : v0.toInt ≠ (-7) := fun e => h5 (Int32.toInt_inj.mp (e.trans (by decide)))
  have g6 : v0.toInt ≠ (-6) := fun e => h6 (Int32.toInt_inj.mp (e.trans (by decide)))
  by_cases k0 : v0 = (-nI 12)
  · subst k0
    rfl
  have f0 : v0.toInt ≠ (-12) := fun e => k0 (Int32.toInt_inj.mp (e.trans (by decide)))
  exact if_pos (by omega)
theorem b12_48 {X : (Nat → Int32) × Nat} {d : Nat} {s : ab_S} {x0 : Int32} {x1 : Int32} {x2 : Int32} : ab_at X (d + 1) 12 48 [some (.inl (.int x0)), some (.inl (.int x1)), some (.inl (.int x2))] [] s = ab_bI (ab_ev X d 13 [.inl (.long ((x1.toInt64) + (x2.toInt64)))] s) (fun r2 s1 => some (.inl (some (.inl (.int r2))), s1)) ab_px := ab_blk [1, 48, 57, 66, 75, 86, 97, 108, 112] 9
theorem b12_57 {X : (Nat → Int32) × Nat} {d : Nat} {s : ab_S} {x0 : Int32} {x1 : Int32} {x2 : Int32} : ab_at X (d + 1) 12 57 [some (.inl (.int x0)), some (.inl (.int x1)), some (.inl (.int x2))] [] s = ab_bI (ab_ev X d 13 [.inl (.long ((x1.toInt64) - (x2.toInt64)))] s) (fun r2 s1 => some (.inl (some (.inl (.int r2))), s1)) ab_px := ab_blk [1, 48, 57, 66, 75, 86, 97, 108, 112] 9
theorem b12_66 {X : (Nat → Int32) × Nat} {d : Nat} {s : ab_S} {x0 : Int32} {x1 : Int32} {x2 : Int32} : ab_at X (d + 1) 12 66 [some (.inl (.int x0)), some (.inl (.int x1)), some (.inl (.int x2))] [] s = ab_bI (ab_ev X d 13 [.inl (.long ((x1.toInt64) * (x2.toInt64)))] s) (fun r2 s1 => some (.inl (some (.inl (.int r2))), s1)) ab_px := ab_blk [1, 48, 57, 66, 75, 86, 97, 108, 112] 9
theorem b12_75 {X : (Nat → Int32) × Nat} {d : Nat} {s : ab_S} {x0 : Int32} {x1 : Int32} {x2 : Int32} : ab_at X (d + 1) 12 75 [some (.inl (.int x0)), some (.inl (.int x1)), some (.inl (.int x2))] [] s = (if x1 = x2 then some (.inl (some (.inl (.int (nI 1)))), s) else some (.inl (some (.inl (.int (nI 0)))), s)) := ab_blk [1, 48, 57, 66, 75, 86, 97, 108, 112] 8
theorem b12_86 {X : (Nat → Int32) × Nat} {d : Nat} {s : ab_S} {x0 : Int32} {x1 : Int32} {x2 : Int32} : ab_at X (d + 1) 12 86 [some (.inl (.int x0)), some (.inl (.int x1)), some (.inl (.int x2))] [] s = (if x2 ≤ x1 then some (.inl (some (.inl (.int (nI 0)))), s) else some (.inl (some (.inl (.int (nI 1)))), s)) := ab_blk [1, 48, 57, 66, 75, 86, 97, 108, 112] 8
theorem b12_97 {X : (Nat → Int32) × Nat} {d : Nat} {s : ab_S} {x0 : Int32} {x1 : Int32} {x2 : Int32} : ab_at X (d + 1) 12 97 [some (.inl (.int x0)), some (.inl (.int x1)), some (.inl (.int x2))] [] s = (if x1 ≤ x2 then some (.inl (some (.inl (.int (nI 0)))), s) else some (.inl (some (.inl (.int (nI 1)))), s)) := ab_blk [1, 48, 57, 66, 75, 86, 97, 108, 112] 8
theorem b12_108 {X : (Nat → Int32) × Nat} {d : Nat} {s : ab_S} {x0 : Int32} {x1 : Int32} {x2 : Int32} : ab_at X (d + 1) 12 108 [some (.inl (.int x0)), some (.inl (.int x1)), some (.inl (.int x2))] [] s = some (.inl (some (.inl (.int (x1 &&& x2)))), s) := ab_blk [1, 48, 57, 66, 75, 86, 97, 108, 112] 6
theorem b12_112 {X : (Nat → Int32) × Nat} {d : Nat} {s : ab_S} {x0 : Int32} {x1 : Int32} {x2 : Int32} : ab_at X (d + 1) 12 112 [some (.inl (.int x0)), some (.inl (.int x1)), some (.inl (.int x2))] [] s = some (.inl (some (.inl (.int (x1 ||| x2)))), s) := ab_blk [1, 48, 57, 66, 75, 86, 97, 108, 112] 6
/-! 13 MovingNames$Law.keep(J)I -/
theorem b13 {X : (Nat → Int32) × Nat} {d : Nat} {s : ab_S} {y0 : Int64} : ab_ev X (d + 1) 13 [.inl (.long y0)] s = ab_bJ (ab_ev X d 14 [.inl (.long (lN 1000000)), .inl (.long y0)] s) (fun q2 s1 => ab_bJ (ab_ev X d 15 [.inl (.long (-lN 1000000)), .inl (.long q2)] s1) (fun q4 s3 => some (.inl (some (.inl (.int (q4.toInt32)))), s3)) ab_px) ab_px := ab_blk [] 9
/-! 14 java/lang/Math.min(JJ)J -/
theorem b14 {X : (Nat → Int32) × Nat} {d : Nat} {s : ab_S} {y0 : Int64} {y1 : Int64} : ab_ev X d 14 [.inl (.long y0), .inl (.long y1)] s = (if (nI 0) < (lg_cmp y0 y1) then some (.inl (some (.inl (.long y1))), s) else some (.inl (some (.inl (.long y0))), s)) := ab_blk [] 9
/-! 15 java/lang/Math.max(JJ)J -/
theorem b15 {X : (Nat → Int32) × Nat} {d : Nat} {s : ab_S} {y0 : Int64} {y1 : Int64} : ab_ev X d 15 [.inl (.long y0), .inl (.long y1)] s = (if (lg_cmp y0 y1) < (nI 0) then some (.inl (some (.inl (.long y1))), s) else some (.inl (some (.inl (.long y0))), s)) := ab_blk [] 9
/-! 16 MovingNames.period()J -/
theorem b16 {X : (Nat → Int32) × Nat} {d : Nat} {s : ab_S}  : ab_ev X (d + 1) 16 [.inr (0, 0)] s = ab_bU (ab_ev X d 17 [.inr (6, 0), .inr (2, 0)] s) (fun s1 => ab_bI (ab_ev X d 26 [.inr (6, 0)] s1) (fun r3 s2 => some (.inl (some (.inl (.long (r3.toInt64)))), s2)) ab_px) ab_px := ab_blk [] 12
/-! 17 MovingNames$Outlook.look(LMovingNames$Town;)V -/
theorem b17 {X : (Nat → Int32) × Nat} {d : Nat} {s : ab_S} {i1 : Nat} : ab_ev X (d + 1) 17 [.inr (6, 0), .inr (2, i1)] s = ab_bI (ab_ev X d 8 [.inr (2, i1)] (pz s 8 ((si s 1) i1))) (fun r2 s1 => ab_bU (ab_ev X d 18 [.inr (28, 0), .inr (19, i1)] (pz s1 9 r2)) (fun s3 => ab_at X (d + 1) 17 29 [some (.inr (6, 0)), some (.inr (2, i1)), some (.inl (.int (nI 0)))] [] s3) ab_px) ab_px := ab_blk [29, 63, 88] 17
set_option maxRecDepth 100000 in
theorem b17_29 {X : (Nat → Int32) × Nat} {d : Nat} {s : ab_S} {i1 : Nat} {x2 : Int32} : ab_at X (d + 1) 17 29 [some (.inr (6, 0)), some (.inr (2, i1)), some (.inl (.int x2))] [] s = (if (sz s 8) ≤ x2 then ab_at X (d + 1) 17 63 [some (.inr (6, 0)), some (.inr (2, i1)), some (.inl (.int (nI 0)))] [] s else ab_bU (ab_ev X d 3 [.inr (31, 0), .inl (.int x2), .inl (.int x2)] s) (fun s1 => ab_bU (ab_ev X d 3 [.inr (29, 0), .inl (.int x2), .inl (.int x2)] s1) (fun s2 => ab_at X (d + 1) 17 29 [some (.inr (6, 0)), some (.inr (2, i1)), some (.inl (.int (x2 + (nI 1))))] [] s2) ab_px) ab_px) := ab_blk [29, 63, 88] 18
theorem b17_63 {X : (Nat → Int32) × Nat} {d : Nat} {s : ab_S} {i1 : Nat} {x2 : Int32} : ab_at X (d + 1) 17 63 [some (.inr (6, 0)), some (.inr (2, i1)), some (.inl (.int x2))] [] s = (if ((si s 7) i1) ≤ x2 then ab_at X (d + 1) 17 88 [some (.inr (6, 0)), some (.inr (2, i1)), some (.inl (.int (nI 0)))] [] s else ab_bU (ab_ev X d 20 [.inr (6, 0), .inr (2, i1), .inl (.int x2)] s) (fun s1 => ab_at X (d + 1) 17 63 [some (.inr (6, 0)), some (.inr (2, i1)), some (.inl (.int (x2 + (nI 1))))] [] s1) ab_px) := ab_blk [29, 63, 88] 13
theorem b17_88 {X : (Nat → Int32) × Nat} {d : Nat} {s : ab_S} {i1 : Nat} {x2 : Int32} : ab_at X (d + 1) 17 88 [some (.inr (6, 0)), some (.inr (2, i1)), some (.inl (.int x2))] [] s = (if (sz s 8) ≤ x2 then some (.inl none, s) else ab_bI (ab_ev X d 9 [.inr (29, 0), .inl (.int x2)] s) (fun r2 s1 => ab_bU (ab_ev X d 3 [.inr (30, 0), .inl (.int r2), .inl (.int x2)] s1) (fun s3 => ab_at X (d + 1) 17 88 [some (.inr (6, 0)), some (.inr (2, i1)), some (.inl (.int (x2 + (nI 1))))] [] s3) ab_px) ab_px) := ab_blk [29, 63, 88] 16
/-! 18 MovingNames.fillFrom([I[I)V -/
theorem b18 {X : (Nat → Int32) × Nat} {d : Nat} {s : ab_S} {k0 i0 : Nat} {k1 i1 : Nat} : ab_ev X (d + 1) 18 [.inr (k0, i0), .inr (k1, i1)] s = ab_ol (ab_len X k0 i0) (fun n1 => ab_ol (ab_len X k1 i1) (fun n2 => ab_bI (ab_ev X d 19 [.inl (.int (nI n1)), .inl (.int (nI n2))] s) (fun r4 s3 => ab_os (ab_cpy X k1 i1 (nI 0) k0 i0 (nI 0) r4 s3) (fun s5 => some (.inl none, s5))) ab_px)) := ab_blk [] 13
/-! 19 java/lang/Math.min(II)I -/
theorem b19 {X : (Nat → Int32) × Nat} {d : Nat} {s : ab_S} {x0 : Int32} {x1 : Int32} : ab_ev X d 19 [.inl (.int x0), .inl (.int x1)] s = (if x1 < x0 then some (.inl (some (.inl (.int x1))), s) else some (.inl (some (.inl (.int x0))), s)) := ab_blk [] 8
/-! 20 MovingNames$Outlook.goRound(LMovingNames$Town;I)V -/
theorem b20 {X : (Nat → Int32) × Nat} {d : Nat} {s : ab_S} {i1 : Nat} {x2 : Int32} : ab_ev X (d + 1) 20 [.inr (6, 0), .inr (2, i1), .inl (.int x2)] s = ab_bI (ab_ev X d 21 [.inr (3, i1), .inl (.int x2)] s) (fun r2 s1 => ab_at X (d + 1) 20 15 [some (.inr (6, 0)), some (.inr (2, i1)), some (.inl (.int x2)), some (.inl (.int (nI 0))), some (.inl (.int r2)), some (.inl (.int (nI 0))), none] [] s1) ab_px := ab_blk [15, 65, 104, 151] 11
set_option maxRecDepth 100000 in
theorem b20_15 {X : (Nat → Int32) × Nat} {d : Nat} {s : ab_S} {i1 : Nat} {x2 : Int32} {x3 : Int32} {x4 : Int32} {x5 : Int32} {u6 : Option ab_V} : ab_at X (d + 1) 20 15 [some (.inr (6, 0)), some (.inr (2, i1)), some (.inl (.int x2)), some (.inl (.int x3)), some (.inl (.int x4)), some (.inl (.int x5)), u6] [] s = (if x4 ≤ x5 then ab_at X (d + 1) 20 65 [some (.inr (6, 0)), some (.inr (2, i1)), some (.inl (.int x2)), some (.inl (.int x3)), some (.inl (.int x4)), some (.inl (.int (nI 0))), u6] [] s else ab_bI (ab_ev X d 22 [.inr (3, i1), .inl (.int x2), .inl (.int x5)] s) (fun r2 s1 => ab_bI (ab_ev X d 23 [.inr (2, i1), .inl (.int r2)] s1) (fun r4 s3 => (if r4 = (nI 0) then ab_bU (ab_ev X d 3 [.inr (32, 0), .inl (.int x3), .inl (.int r2)] s3) (fun s5 => ab_at X (d + 1) 20 15 [some (.inr (6, 0)), some (.inr (2, i1)), some (.inl (.int x2)), some (.inl (.int (x3 + (nI 1)))), some (.inl (.int x4)), some (.inl (.int (x5 + (nI 1)))), some (.inl (.int r2))] [] s5) ab_px else ab_at X (d + 1) 20 15 [some (.inr (6, 0)), some (.inr (2, i1)), some (.inl (.int x2)), some (.inl (.int x3)), some (.inl (.int x4)), some (.inl (.int (x5 + (nI 1)))), some (.inl (.int r2))] [] s3)) ab_px) ab_px) := ab_blk [15, 65, 104, 151] 23
set_option maxRecDepth 100000 in
theorem b20_65 {X : (Nat → Int32) × Nat} {d : Nat} {s : ab_S} {i1 : Nat} {x2 : Int32} {x3 : Int32} {x4 : Int32} {x5 : Int32} {u6 : Option ab_V} : ab_at X (d + 1) 20 65 [some (.inr (6, 0)), some (.inr (2, i1)), some (.inl (.int x2)), some (.inl (.int x3)), some (.inl (.int x4)), some (.inl (.int x5)), u6] [] s = (if (sz s 8) ≤ x5 then ab_bI (ab_ev X d 24 [.inr (3, i1), .inl (.int x2)] s) (fun r2 s1 => ab_at X (d + 1) 20 104 [some (.inr (6, 0)), some (.inr (2, i1)), some (.inl (.int x2)), some (.inl (.int x3)), some (.inl (.int x4)), some (.inl (.int r2)), some (.inl (.int (nI 0)))] [] s1) ab_px else ab_bU (ab_ev X d 3 [.inr (33, 0), .inl (.int x5), .inl (.int x5)] s) (fun s3 => ab_at X (d + 1) 20 65 [some (.inr (6, 0)), some (.inr (2, i1)), some (.inl (.int x2)), some (.inl (.int x3)), some (.inl (.int x4)), some (.inl (.int (x5 + (nI 1)))), u6] [] s3) ab_px) := ab_blk [15, 65, 104, 151] 13
set_option maxRecDepth 100000 in
theorem b20_104 {X : (Nat → Int32) × Nat} {d : Nat} {s : ab_S} {i1 : Nat} {x2 : Int32} {x3 : Int32} {x4 : Int32} {x5 : Int32} {x6 : Int32} : ab_at X (d + 1) 20 104 [some (.inr (6, 0)), some (.inr (2, i1)), some (.inl (.int x2)), some (.inl (.int x3)), some (.inl (.int x4)), some (.inl (.int x5)), some (.inl (.int x6))] [] s = (if x3 ≤ x6 then ab_at X (d + 1) 20 151 [some (.inr (6, 0)), some (.inr (2, i1)), some (.inl (.int x2)), some (.inl (.int x3)), some (.inl (.int x4)), some (.inl (.int x5)), some (.inl (.int (nI 0)))] [] s else ab_bI (ab_ev X d 9 [.inr (32, 0), .inl (.int x6)] s) (fun r2 s1 => ab_bI (ab_ev X d 25 [.inl (.int (x6 + x5)), .inl (.int x3)] s1) (fun r4 s3 => ab_bI (ab_ev X d 9 [.inr (32, 0), .inl (.int r4)] s3) (fun r6 s5 => ab_bU (ab_ev X d 3 [.inr (33, 0), .inl (.int r2), .inl (.int r6)] s5) (fun s7 => ab_at X (d + 1) 20 104 [some (.inr (6, 0)), some (.inr (2, i1)), some (.inl (.int x2)), some (.inl (.int x3)), some (.inl (.int x4)), some (.inl (.int x5)), some (.inl (.int (x6 + (nI 1))))] [] s7) ab_px) ab_px) ab_px) ab_px) := ab_blk [15, 65, 104, 151] 22
set_option maxRecDepth 100000 in
theorem b20_151 {X : (Nat → Int32) × Nat} {d : Nat} {s : ab_S} {i1 : Nat} {x2 : Int32} {x3 : Int32} {x4 : Int32} {x5 : Int32} {x6 : Int32} : ab_at X (d + 1) 20 151 [some (.inr (6, 0)), some (.inr (2, i1)), some (.inl (.int x2)), some (.inl (.int x3)), some (.inl (.int x4)), some (.inl (.int x5)), some (.inl (.int x6))] [] s = (if (sz s 8) ≤ x6 then some (.inl none, s) else ab_bI (ab_ev X d 9 [.inr (29, 0), .inl (.int x6)] s) (fun r2 s1 => ab_bI (ab_ev X d 9 [.inr (33, 0), .inl (.int r2)] s1) (fun r4 s3 => ab_bU (ab_ev X d 3 [.inr (29, 0), .inl (.int x6), .inl (.int r4)] s3) (fun s5 => ab_at X (d + 1) 20 151 [some (.inr (6, 0)), some (.inr (2, i1)), some (.inl (.int x2)), some (.inl (.int x3)), some (.inl (.int x4)), some (.inl (.int x5)), some (.inl (.int (x6 + (nI 1))))] [] s5) ab_px) ab_px) ab_px) := ab_blk [15, 65, 104, 151] 19
/-! 21 MovingNames$Rounds.sizeOf(I)I -/
theorem b21 {X : (Nat → Int32) × Nat} {d : Nat} {s : ab_S} {i0 : Nat} {x1 : Int32} : ab_ev X (d + 1) 21 [.inr (3, i0), .inl (.int x1)] s = ab_bI (ab_ev X d 9 [.inr (23, i0), .inl (.int x1)] s) (fun r2 s1 => some (.inl (some (.inl (.int r2))), s1)) ab_px := ab_blk [] 7
/-! 22 MovingNames$Rounds.streetAt(II)I -/
set_option maxRecDepth 100000 in
theorem b22 {X : (Nat → Int32) × Nat} {d : Nat} {s : ab_S} {i0 : Nat} {x1 : Int32} {x2 : Int32} : ab_ev X d 22 [.inr (3, i0), .inl (.int x1), .inl (.int x2)] s = (if x1 < (nI 0) then some (.inl (some (.inl (.int (-nI 1)))), s) else (if (nI 4) ≤ x1 then some (.inl (some (.inl (.int (-nI 1)))), s) else (if x2 < (nI 0) then some (.inl (some (.inl (.int (-nI 1)))), s) else (if x1 < (nI 0) ∨ 4 ≤ x1.toNatClampNeg then none else (if (((sA s 4) i0) x1.toNatClampNeg) ≤ x2 then some (.inl (some (.inl (.int (-nI 1)))), s) else (if (nI 80) ≤ ((x1 * (nI 20)) + x2) then some (.inl (some (.inl (.int (-nI 1)))), s) else (if ((x1 * (nI 20)) + x2) < (nI 0) ∨ 80 ≤ ((x1 * (nI 20)) + x2).toNatClampNeg then none else some (.inl (some (.inl (.int (((sA s 3) i0) ((x1 * (nI 20)) + x2).toNatClampNeg)))), s)))))))) := ab_blk [] 39
/-! 23 MovingNames$Town.isBlind(I)Z -/
theorem b23 {X : (Nat → Int32) × Nat} {d : Nat} {s : ab_S} {i0 : Nat} {x1 : Int32} : ab_ev X d 23 [.inr (2, i0), .inl (.int x1)] s = (if ((((si s 6) i0) >>> (x1 &&& 31)) &&& (nI 1)) = (nI 0) then some (.inl (some (.inl (.int (nI 0)))), s) else some (.inl (some (.inl (.int (nI 1)))), s)) := ab_blk [] 12
/-! 24 MovingNames$Rounds.byOf(I)I -/
theorem b24 {X : (Nat → Int32) × Nat} {d : Nat} {s : ab_S} {i0 : Nat} {x1 : Int32} : ab_ev X (d + 1) 24 [.inr (3, i0), .inl (.int x1)] s = ab_bI (ab_ev X d 9 [.inr (24, i0), .inl (.int x1)] s) (fun r2 s1 => some (.inl (some (.inl (.int r2))), s1)) ab_px := ab_blk [] 7
/-! 25 java/lang/Math.floorMod(II)I -/
theorem b25 {X : (Nat → Int32) × Nat} {d : Nat} {s : ab_S} {x0 : Int32} {x1 : Int32} : ab_ev X d 25 [.inl (.int x0), .inl (.int x1)] s = (if x1 = (nI 0) then none else (if (nI 0) ≤ (x0 ^^^ x1) then some (.inl (some (.inl (.int (x0 - x0 / x1 * x1)))), s) else (if (x0 - x0 / x1 * x1) = (nI 0) then some (.inl (some (.inl (.int (x0 - x0 / x1 * x1)))), s) else some (.inl (some (.inl (.int ((x0 - x0 / x1 * x1) + x1)))), s)))) := ab_blk [] 16
/-! 26 MovingNames$Outlook.periodLength()I -/
theorem b26 {X : (Nat → Int32) × Nat} {d : Nat} {s : ab_S}  : ab_ev X (d + 1) 26 [.inr (6, 0)] s = ab_at X (d + 1) 26 4 [some (.inr (6, 0)), some (.inl (.int (nI 1))), some (.inl (.int (nI 0)))] [] s := ab_blk [4] 6
theorem b26_4 {X : (Nat → Int32) × Nat} {d : Nat} {s : ab_S} {x1 : Int32} {x2 : Int32} : ab_at X (d + 1) 26 4 [some (.inr (6, 0)), some (.inl (.int x1)), some (.inl (.int x2))] [] s = (if (sz s 8) ≤ x2 then some (.inl (some (.inl (.int x1))), s) else ab_bI (ab_ev X d 27 [.inr (6, 0), .inl (.int x2)] s) (fun r2 s1 => ab_bI (ab_ev X d 28 [.inl (.int x1), .inl (.int r2)] s1) (fun r4 s3 => ab_at X (d + 1) 26 4 [some (.inr (6, 0)), some (.inl (.int r4)), some (.inl (.int (x2 + (nI 1))))] [] s3) ab_px) ab_px) := ab_blk [4] 14
/-! 27 MovingNames$Outlook.cycleOf(I)I -/
theorem b27 {X : (Nat → Int32) × Nat} {d : Nat} {s : ab_S} {x1 : Int32} : ab_ev X (d + 1) 27 [.inr (6, 0), .inl (.int x1)] s = ab_bI (ab_ev X d 9 [.inr (29, 0), .inl (.int x1)] s) (fun r2 s1 => ab_at X (d + 1) 27 11 [some (.inr (6, 0)), some (.inl (.int x1)), some (.inl (.int r2)), some (.inl (.int (nI 1)))] [] s1) ab_px := ab_blk [11] 9
theorem b27_11 {X : (Nat → Int32) × Nat} {d : Nat} {s : ab_S} {x1 : Int32} {x2 : Int32} {x3 : Int32} : ab_at X (d + 1) 27 11 [some (.inr (6, 0)), some (.inl (.int x1)), some (.inl (.int x2)), some (.inl (.int x3))] [] s = (if (nI 20) ≤ x3 then some (.inl (some (.inl (.int x3))), s) else (if x2 = x1 then some (.inl (some (.inl (.int x3))), s) else ab_bI (ab_ev X d 9 [.inr (29, 0), .inl (.int x2)] s) (fun r2 s1 => ab_at X (d + 1) 27 11 [some (.inr (6, 0)), some (.inl (.int x1)), some (.inl (.int r2)), some (.inl (.int (x3 + (nI 1))))] [] s1) ab_px)) := ab_blk [11] 15
/-! 28 MovingNames$Outlook.commonMultiple(II)I -/
theorem b28 {X : (Nat → Int32) × Nat} {d : Nat} {s : ab_S} {x0 : Int32} {x1 : Int32} : ab_ev X d 28 [.inl (.int x0), .inl (.int x1)] s = ab_at X d 28 2 [some (.inl (.int x0)), some (.inl (.int x1)), some (.inl (.int (nI 1)))] [] s := ab_blk [2] 4
theorem b28_2 {X : (Nat → Int32) × Nat} {d : Nat} {s : ab_S} {x0 : Int32} {x1 : Int32} {x2 : Int32} : ab_at X d 28 2 [some (.inl (.int x0)), some (.inl (.int x1)), some (.inl (.int x2))] [] s = (if x1 ≤ x2 then some (.inl (some (.inl (.int (x0 * x1)))), s) else (if x1 = (nI 0) then none else (if ((x0 * x2) - (x0 * x2) / x1 * x1) = (nI 0) then some (.inl (some (.inl (.int (x0 * x2)))), s) else ab_at X d 28 2 [some (.inl (.int x0)), some (.inl (.int x1)), some (.inl (.int (x2 + (nI 1))))] [] s))) := ab_blk [2] 15
/-! 29 MovingNames.asNow()J -/
theorem b29 {X : (Nat → Int32) × Nat} {d : Nat} {s : ab_S}  : ab_ev X (d + 1) 29 [.inr (0, 0)] s = ab_bU (ab_ev X d 17 [.inr (6, 0), .inr (2, 0)] s) (fun s1 => ab_bI (ab_ev X d 26 [.inr (6, 0)] s1) (fun r3 s2 => ab_at X (d + 1) 29 21 [some (.inr (0, 0)), some (.inl (.int r3)), some (.inl (.int (nI 1)))] [] s2) ab_px) ab_px := ab_blk [21] 13
theorem b29_21 {X : (Nat → Int32) × Nat} {d : Nat} {s : ab_S} {x1 : Int32} {x2 : Int32} : ab_at X (d + 1) 29 21 [some (.inr (0, 0)), some (.inl (.int x1)), some (.inl (.int x2))] [] s = (if x1 ≤ x2 then some (.inl (some (.inl (.long (x1.toInt64)))), s) else ab_bU (ab_ev X d 30 [.inr (6, 0)] s) (fun s1 => ab_bI (ab_ev X d 31 [.inr (6, 0)] s1) (fun r3 s2 => (if r3 = ((si s2 1) 0) then some (.inl (some (.inl (.long (x2.toInt64)))), s2) else ab_at X (d + 1) 29 21 [some (.inr (0, 0)), some (.inl (.int x1)), some (.inl (.int (x2 + (nI 1))))] [] s2)) ab_px) ab_px) := ab_blk [21] 18
/-! 30 MovingNames$Outlook.step()V -/
theorem b30 {X : (Nat → Int32) × Nat} {d : Nat} {s : ab_S}  : ab_ev X (d + 1) 30 [.inr (6, 0)] s = ab_at X (d + 1) 30 2 [some (.inr (6, 0)), some (.inl (.int (nI 0)))] [] s := ab_blk [2] 4
theorem b30_2 {X : (Nat → Int32) × Nat} {d : Nat} {s : ab_S} {x1 : Int32} : ab_at X (d + 1) 30 2 [some (.inr (6, 0)), some (.inl (.int x1))] [] s = (if (sz s 8) ≤ x1 then some (.inl none, s) else ab_bI (ab_ev X d 9 [.inr (31, 0), .inl (.int x1)] s) (fun r2 s1 => ab_bI (ab_ev X d 9 [.inr (30, 0), .inl (.int r2)] s1) (fun r4 s3 => ab_bU (ab_ev X d 3 [.inr (31, 0), .inl (.int x1), .inl (.int r4)] s3) (fun s5 => ab_at X (d + 1) 30 2 [some (.inr (6, 0)), some (.inl (.int (x1 + (nI 1))))] [] s5) ab_px) ab_px) ab_px) := ab_blk [2] 19
/-! 31 MovingNames$Outlook.rightStreets()I -/
theorem b31 {X : (Nat → Int32) × Nat} {d : Nat} {s : ab_S}  : ab_ev X (d + 1) 31 [.inr (6, 0)] s = ab_at X (d + 1) 31 4 [some (.inr (6, 0)), some (.inl (.int (nI 0))), some (.inl (.int (nI 0)))] [] s := ab_blk [4] 6
set_option maxRecDepth 100000 in
theorem b31_4 {X : (Nat → Int32) × Nat} {d : Nat} {s : ab_S} {x1 : Int32} {x2 : Int32} : ab_at X (d + 1) 31 4 [some (.inr (6, 0)), some (.inl (.int x1)), some (.inl (.int x2))] [] s = (if (sz s 8) ≤ x2 then some (.inl (some (.inl (.int x1))), s) else ab_bI (ab_ev X d 32 [.inr (6, 0), .inl (.int x2)] s) (fun r2 s1 => ab_bI (ab_ev X d 9 [.inr (28, 0), .inl (.int x2)] s1) (fun r4 s3 => (if r2 = r4 then ab_at X (d + 1) 31 4 [some (.inr (6, 0)), some (.inl (.int (x1 + (nI 1)))), some (.inl (.int (x2 + (nI 1))))] [] s3 else ab_at X (d + 1) 31 4 [some (.inr (6, 0)), some (.inl (.int x1)), some (.inl (.int (x2 + (nI 1))))] [] s3)) ab_px) ab_px) := ab_blk [4] 17
/-! 32 MovingNames$Outlook.nameThen(I)I -/
theorem b32 {X : (Nat → Int32) × Nat} {d : Nat} {s : ab_S} {x1 : Int32} : ab_ev X (d + 1) 32 [.inr (6, 0), .inl (.int x1)] s = ab_bI (ab_ev X d 9 [.inr (31, 0), .inl (.int x1)] s) (fun r2 s1 => ab_bI (ab_ev X d 9 [.inr (28, 0), .inl (.int r2)] s1) (fun r4 s3 => some (.inl (some (.inl (.int r4))), s3)) ab_px) ab_px := ab_blk [] 10
/-! 33 MovingNames.twice()I -/
theorem b33 {X : (Nat → Int32) × Nat} {d : Nat} {s : ab_S}  : ab_ev X (d + 1) 33 [.inr (0, 0)] s = ab_bI (ab_ev X d 8 [.inr (2, 0)] s) (fun r2 s1 => some (.inl (some (.inl (.int r2))), s1)) ab_px := ab_blk [] 6
/-! 34 MovingNames.lost()I -/
theorem b34 {X : (Nat → Int32) × Nat} {d : Nat} {s : ab_S}  : ab_ev X (d + 1) 34 [.inr (0, 0)] s = ab_bI (ab_ev X d 35 [.inr (2, 0)] s) (fun r2 s1 => some (.inl (some (.inl (.int r2))), s1)) ab_px := ab_blk [] 6
/-! 35 MovingNames$Town.lostNames()I -/
theorem b35 {X : (Nat → Int32) × Nat} {d : Nat} {s : ab_S} {i0 : Nat} : ab_ev X (d + 1) 35 [.inr (2, i0)] s = ab_at X (d + 1) 35 11 [some (.inr (2, i0)), some (.inl (.int (((nI 1) <<< (((si s 1) i0) &&& 31)) - (nI 1)))), some (.inl (.int (nI 0)))] [] s := ab_blk [11] 11
theorem b35_11 {X : (Nat → Int32) × Nat} {d : Nat} {s : ab_S} {i0 : Nat} {x1 : Int32} {x2 : Int32} : ab_at X (d + 1) 35 11 [some (.inr (2, i0)), some (.inl (.int x1)), some (.inl (.int x2))] [] s = (if ((si s 1) i0) ≤ x2 then some (.inl (some (.inl (.int x1))), s) else ab_bI (ab_ev X d 9 [.inr (19, i0), .inl (.int x2)] s) (fun r2 s1 => ab_at X (d + 1) 35 11 [some (.inr (2, i0)), some (.inl (.int (x1 &&& (((nI 1) <<< (r2 &&& 31)) ^^^ (-nI 1))))), some (.inl (.int (x2 + (nI 1))))] [] s1) ab_px) := ab_blk [11] 19
/-! 36 MovingNames.count(I)I -/
theorem b36 {X : (Nat → Int32) × Nat} {d : Nat} {s : ab_S} {x1 : Int32} : ab_ev X (d + 1) 36 [.inr (0, 0), .inl (.int x1)] s = ab_at X (d + 1) 36 1 [some (.inr (0, 0)), some (.inl (.int x1))] [.inl (.int x1)] s := ab_blk [1, 60, 68, 76, 87, 95, 103, 111, 119, 130, 138, 149, 157] 3
theorem b36_1 {X : (Nat → Int32) × Nat} {d : Nat} {s : ab_S} {x1 : Int32} {v0 : Int32} : ab_at X (d + 1) 36 1 [some (.inr (0, 0)), some (.inl (.int x1))] [.inl (.int v0)] s = (if v0 = (nI 0) then ab_at X (d + 1) 36 60 [some (.inr (0, 0)), some (.inl (.int x1))] [] s else (if v0 = (nI 1) then ab_at X (d + 1) 36 68 [some (.inr (0, 0)), some (.inl (.int x1))] [] s else (if v0 = (nI 2) then ab_at X (d + 1) 36 76 [some (.inr (0, 0)), some (.inl (.int x1))] [] s else (if v0 = (nI 3) then ab_at X (d + 1) 36 87 [some (.inr (0, 0)), some (.inl (.int x1))] [] s else (if v0 = (nI 4) then ab_at X (d + 1) 36 95 [some (.inr (0, 0)), some (.inl (.int x1))] [] s else (if v0 = (nI 5) then ab_at X (d + 1) 36 103 [some (.inr (0, 0)), some (.inl (.int x1))] [] s else (if v0 = (nI 6) then ab_at X (d + 1) 36 111 [some (.inr (0, 0)), some (.inl (.int x1))] [] s else (if v0 = (nI 7) then ab_at X (d + 1) 36 119 [some (.inr (0, 0)), some (.inl (.int x1))] [] s else (if v0 = (nI 8) then ab_at X (d + 1) 36 130 [some (.inr (0, 0)), some (.inl (.int x1))] [] s else (if v0 = (nI 9) then ab_at X (d + 1) 36 138 [some (.inr (0, 0)), some (.inl (.int x1))] [] s else (if v0 = (nI 10) then ab_at X (d + 1) 36 149 [some (.inr (0, 0)), some (.inl (.int x1))] [] s else ab_at X (d + 1) 36 157 [some (.inr (0, 0)), some (.inl (.int x1))] [] s))))))))))) := by
  refine (ab_tsw (m := 36) (pc := 1) rfl).trans ?_
  by_cases h0 : v0 = (nI 0)
  · subst h0
    rfl
  rw [if_neg h0]
  by_cases h1 : v0 = (nI 1)
  · subst h1
    rfl
  rw [if_neg h1]
  by_cases h2 : v0 = (nI 2)
  · subst h2
    rfl
  rw [if_neg h2]
  by_cases h3 : v0 = (nI 3)
  · subst h3
    rfl
  rw [if_neg h3]
  by_cases h4 : v0 = (nI 4)
  · subst h4
    rfl
  rw [if_neg h4]
  by_cases h5 : v0 = (nI 5)
  · subst h5
    rfl
  rw [if_neg h5]
  by_cases h6 : v0 = (nI 6)
  · subst h6
    rfl
  rw [if_neg h6]
  by_cases h7 : v0 = (nI 7)
  · subst h7
    rfl
  rw [if_neg h7]
  by_cases h8 : v0 = (nI 8)
  · subst h8
    rfl
  rw [if_neg h8]
  by_cases h9 : v0 = (nI 9)
  · subst h9
    rfl
  rw [if_neg h9]
  by_cases h10 : v0 = (nI 10)
  · subst h10
    rfl
  rw [if_neg h10]
  have g0 : v0.toInt ≠ 0 := fun e => h0 (Int32.toInt_inj.mp (e.trans (by decide)))
  have g1 : v0.toInt ≠ 1 := fun e => h1 (Int32.toInt_inj.mp (e.trans (by decide)))
  have g2 : v0.toInt ≠ 2 := fun e => h2 (Int32.toInt_inj.mp (e.trans (by decide)))
  have g3 : v0.toInt ≠ 3 := fun e => h3 (Int32.toInt_inj.mp (e.trans (by decide)))
  have g4 : v0.toInt ≠ 4 := fun e => h4 (Int32.toInt_inj.mp (e.trans (by decide)))
  have g5 : v0.toInt ≠ 5 := fun e => h5 (Int32.toInt_inj.mp (e.trans (by decide)))
  have g6 : v0.toInt ≠ 6 := fun e => h6 (Int32.toInt_inj.mp (e.trans (by decide)))
  have g7 : v0.toInt ≠ 7 := fun e => h7 (Int32.toInt_inj.mp (e.trans (by decide)))
  have g8 : v0.toInt ≠ 8 := fun e => h8 (Int32.toInt_inj.mp (e.trans (by decide)))
  have g9 : v0.toInt ≠ 9 := fun e => h9 (Int32.toInt_inj.mp (e.trans (by decide)))
  have g10 : v0.toInt ≠ 10 := fun e => h10 (Int32.toInt_inj.mp (e.trans (by decide)))
  exact if_pos (by omega)
theorem b36_60 {X : (Nat → Int32) × Nat} {d : Nat} {s : ab_S} {x1 : Int32} : ab_at X (d + 1) 36 60 [some (.inr (0, 0)), some (.inl (.int x1))] [] s = some (.inl (some (.inl (.int ((si s 0) 0)))), s) := ab_blk [1, 60, 68, 76, 87, 95, 103, 111, 119, 130, 138, 149, 157] 6
theorem b36_68 {X : (Nat → Int32) × Nat} {d : Nat} {s : ab_S} {x1 : Int32} : ab_at X (d + 1) 36 68 [some (.inr (0, 0)), some (.inl (.int x1))] [] s = some (.inl (some (.inl (.int ((si s 1) 0)))), s) := ab_blk [1, 60, 68, 76, 87, 95, 103, 111, 119, 130, 138, 149, 157] 6
theorem b36_76 {X : (Nat → Int32) × Nat} {d : Nat} {s : ab_S} {x1 : Int32} : ab_at X (d + 1) 36 76 [some (.inr (0, 0)), some (.inl (.int x1))] [] s = some (.inl (some (.inl (.int ((si s 7) 0)))), s) := ab_blk [1, 60, 68, 76, 87, 95, 103, 111, 119, 130, 138, 149, 157] 7
theorem b36_87 {X : (Nat → Int32) × Nat} {d : Nat} {s : ab_S} {x1 : Int32} : ab_at X (d + 1) 36 87 [some (.inr (0, 0)), some (.inl (.int x1))] [] s = some (.inl (some (.inl (.int ((si s 3) 0)))), s) := ab_blk [1, 60, 68, 76, 87, 95, 103, 111, 119, 130, 138, 149, 157] 6
theorem b36_95 {X : (Nat → Int32) × Nat} {d : Nat} {s : ab_S} {x1 : Int32} : ab_at X (d + 1) 36 95 [some (.inr (0, 0)), some (.inl (.int x1))] [] s = some (.inl (some (.inl (.int ((si s 2) 0)))), s) := ab_blk [1, 60, 68, 76, 87, 95, 103, 111, 119, 130, 138, 149, 157] 6
theorem b36_103 {X : (Nat → Int32) × Nat} {d : Nat} {s : ab_S} {x1 : Int32} : ab_at X (d + 1) 36 103 [some (.inr (0, 0)), some (.inl (.int x1))] [] s = some (.inl (some (.inl (.int ((si s 4) 0)))), s) := ab_blk [1, 60, 68, 76, 87, 95, 103, 111, 119, 130, 138, 149, 157] 6
theorem b36_111 {X : (Nat → Int32) × Nat} {d : Nat} {s : ab_S} {x1 : Int32} : ab_at X (d + 1) 36 111 [some (.inr (0, 0)), some (.inl (.int x1))] [] s = some (.inl (some (.inl (.int ((si s 5) 0)))), s) := ab_blk [1, 60, 68, 76, 87, 95, 103, 111, 119, 130, 138, 149, 157] 6
theorem b36_119 {X : (Nat → Int32) × Nat} {d : Nat} {s : ab_S} {x1 : Int32} : ab_at X (d + 1) 36 119 [some (.inr (0, 0)), some (.inl (.int x1))] [] s = ab_bI (ab_ev X d 37 [.inl (.int ((si s 6) 0))] s) (fun r2 s1 => some (.inl (some (.inl (.int r2))), s1)) ab_px := ab_blk [1, 60, 68, 76, 87, 95, 103, 111, 119, 130, 138, 149, 157] 7
theorem b36_130 {X : (Nat → Int32) × Nat} {d : Nat} {s : ab_S} {x1 : Int32} : ab_at X (d + 1) 36 130 [some (.inr (0, 0)), some (.inl (.int x1))] [] s = ab_bI (ab_ev X d 7 [.inr (2, 0)] s) (fun r2 s1 => some (.inl (some (.inl (.int r2))), s1)) ab_px := ab_blk [1, 60, 68, 76, 87, 95, 103, 111, 119, 130, 138, 149, 157] 6
theorem b36_138 {X : (Nat → Int32) × Nat} {d : Nat} {s : ab_S} {x1 : Int32} : ab_at X (d + 1) 36 138 [some (.inr (0, 0)), some (.inl (.int x1))] [] s = some (.inl (some (.inl (.int ((si s 9) 0)))), s) := ab_blk [1, 60, 68, 76, 87, 95, 103, 111, 119, 130, 138, 149, 157] 7
theorem b36_149 {X : (Nat → Int32) × Nat} {d : Nat} {s : ab_S} {x1 : Int32} : ab_at X (d + 1) 36 149 [some (.inr (0, 0)), some (.inl (.int x1))] [] s = some (.inl (some (.inl (.int (sz s 1)))), s) := ab_blk [1, 60, 68, 76, 87, 95, 103, 111, 119, 130, 138, 149, 157] 6
theorem b36_157 {X : (Nat → Int32) × Nat} {d : Nat} {s : ab_S} {x1 : Int32} : ab_at X (d + 1) 36 157 [some (.inr (0, 0)), some (.inl (.int x1))] [] s = some (.inl (some (.inl (.int (-nI 1)))), s) := ab_blk [1, 60, 68, 76, 87, 95, 103, 111, 119, 130, 138, 149, 157] 4
/-! 37 java/lang/Integer.bitCount(I)I -/
theorem b37 {X : (Nat → Int32) × Nat} {d : Nat} {s : ab_S} {x0 : Int32} : ab_ev X d 37 [.inl (.int x0)] s = ab_at X d 37 10 [some (.inl (.int (x0 - (((x0.toUInt32 >>> ((nI 1).toUInt32 &&& Int32.toUInt32 31)).toInt32) &&& (nI 1431655765)))))] [] s := ab_blk [10, 24, 34, 41, 48] 10
theorem b37_10 {X : (Nat → Int32) × Nat} {d : Nat} {s : ab_S} {x0 : Int32} : ab_at X d 37 10 [some (.inl (.int x0))] [] s = ab_at X d 37 24 [some (.inl (.int ((x0 &&& (nI 858993459)) + (((x0.toUInt32 >>> ((nI 2).toUInt32 &&& Int32.toUInt32 31)).toInt32) &&& (nI 858993459)))))] [] s := ab_blk [10, 24, 34, 41, 48] 12
theorem b37_24 {X : (Nat → Int32) × Nat} {d : Nat} {s : ab_S} {x0 : Int32} : ab_at X d 37 24 [some (.inl (.int x0))] [] s = ab_at X d 37 34 [some (.inl (.int ((x0 + ((x0.toUInt32 >>> ((nI 4).toUInt32 &&& Int32.toUInt32 31)).toInt32)) &&& (nI 252645135))))] [] s := ab_blk [10, 24, 34, 41, 48] 10
theorem b37_34 {X : (Nat → Int32) × Nat} {d : Nat} {s : ab_S} {x0 : Int32} : ab_at X d 37 34 [some (.inl (.int x0))] [] s = ab_at X d 37 41 [some (.inl (.int (x0 + ((x0.toUInt32 >>> ((nI 8).toUInt32 &&& Int32.toUInt32 31)).toInt32))))] [] s := ab_blk [10, 24, 34, 41, 48] 8
theorem b37_41 {X : (Nat → Int32) × Nat} {d : Nat} {s : ab_S} {x0 : Int32} : ab_at X d 37 41 [some (.inl (.int x0))] [] s = ab_at X d 37 48 [some (.inl (.int (x0 + ((x0.toUInt32 >>> ((nI 16).toUInt32 &&& Int32.toUInt32 31)).toInt32))))] [] s := ab_blk [10, 24, 34, 41, 48] 8
theorem b37_48 {X : (Nat → Int32) × Nat} {d : Nat} {s : ab_S} {x0 : Int32} : ab_at X d 37 48 [some (.inl (.int x0))] [] s = some (.inl (some (.inl (.int (x0 &&& (nI 63))))), s) := ab_blk [10, 24, 34, 41, 48] 6
/-! 39 MovingNames.town(I)I -/
set_option maxRecDepth 100000 in
theorem b39 {X : (Nat → Int32) × Nat} {d : Nat} {s : ab_S} {x1 : Int32} : ab_ev X (d + 1) 39 [.inr (0, 0), .inl (.int x1)] s = (if x1 < (nI 0) then some (.inr 0, pn (pn s 0 ((sn s 0) + 1)) 1 ((sn s 1) + 6)) else (if x1 ≤ (sz s 1) then ab_bU (ab_ev X d 40 [.inr (1, 0), .inl (.int x1), .inr (2, 1)] s) (fun s1 => (if (sz s1 2) = (nI 0) then ab_bU (ab_ev X d 80 [.inr (2, 0), .inr (2, 1)] s1) (fun s2 => some (.inl (some (.inl (.int ((si s2 0) 0)))), s2)) ab_px else some (.inl (some (.inl (.int ((-nI 10) - (sz s1 2))))), s1))) ab_px else some (.inr 0, pn (pn s 0 ((sn s 0) + 1)) 1 ((sn s 1) + 6)))) := ab_blk [] 28
/-! 40 MovingNames$Reader.read(ILMovingNames$Town;)V -/
set_option maxRecDepth 100000 in
theorem b40 {X : (Nat → Int32) × Nat} {d : Nat} {s : ab_S} {x1 : Int32} {i2 : Nat} : ab_ev X (d + 1) 40 [.inr (1, 0), .inl (.int x1), .inr (2, i2)] s = ab_bI (ab_ev X d 19 [.inl (.int x1), .inl (.int (nI 900))] s) (fun r2 s1 => ab_bU (ab_ev X d 41 [.inr (2, i2)] (pz (pz (pz (pz (pz s1 4 r2) 1 (nI 0)) 6 (nI 0)) 2 (nI 0)) 3 (-nI 1))) (fun s3 => ab_bU (ab_ev X d 43 [.inr (1, 0)] s3) (fun s4 => ab_bU (ab_ev X d 54 [.inr (1, 0), .inr (10, 4)] s4) (fun s5 => ab_bI (ab_ev X d 56 [.inr (1, 0), .inl (.int (nI 1)), .inl (.int (nI 20))] s5) (fun r7 s6 => ab_bU (ab_ev X d 57 [.inr (2, i2), .inl (.int r7)] s6) (fun s8 => ab_bU (ab_ev X d 59 [.inr (1, 0), .inr (2, i2)] s8) (fun s9 => ab_at X (d + 1) 40 66 [some (.inr (1, 0)), some (.inl (.int x1)), some (.inr (2, i2)), some (.inl (.int (nI 0)))] [] s9) ab_px) ab_px) ab_px) ab_px) ab_px) ab_px) ab_px := ab_blk [66] 39
theorem b40_66 {X : (Nat → Int32) × Nat} {d : Nat} {s : ab_S} {x1 : Int32} {i2 : Nat} {x3 : Int32} : ab_at X (d + 1) 40 66 [some (.inr (1, 0)), some (.inl (.int x1)), some (.inr (2, i2)), some (.inl (.int x3))] [] s = (if (nI 900) ≤ x3 then some (.inl none, s) else (if (sz s 2) = (nI 0) then (if (st s 0) = 0 then some (.inl none, s) else ab_bU (ab_ev X d 60 [.inr (1, 0), .inr (2, i2)] s) (fun s1 => ab_at X (d + 1) 40 66 [some (.inr (1, 0)), some (.inl (.int x1)), some (.inr (2, i2)), some (.inl (.int (x3 + (nI 1))))] [] s1) ab_px) else some (.inl none, s))) := ab_blk [66] 17
/-! 41 MovingNames$Town.clear()V -/
theorem b41 {X : (Nat → Int32) × Nat} {d : Nat} {s : ab_S} {i0 : Nat} : ab_ev X (d + 1) 41 [.inr (2, i0)] s = ab_bU (ab_ev X d 42 [.inr (4, i0)] (wi (wi (wi (wi (wi (wi (wi (wi s 0 i0 (nI 0)) 1 i0 (nI 0)) 2 i0 (nI 9)) 3 i0 (nI 0)) 4 i0 (nI 0)) 5 i0 (nI 0)) 6 i0 (nI 0)) 7 i0 (nI 0))) (fun s1 => some (.inl none, (wi s1 9 i0 (nI 0)))) ab_px := ab_blk [] 35
/-! 42 MovingNames$Law.clear()V -/
theorem b42 {X : (Nat → Int32) × Nat} {d : Nat} {s : ab_S} {i0 : Nat} : ab_ev X d 42 [.inr (4, i0)] s = some (.inl none, (wi s 8 i0 (nI 0))) := ab_blk [] 6
/-! 43 MovingNames$Reader.advance()V -/
theorem b43 {X : (Nat → Int32) × Nat} {d : Nat} {s : ab_S}  : ab_ev X (d + 1) 43 [.inr (1, 0)] s = (if (sz s 2) = (nI 0) then ab_at X (d + 1) 43 8 [some (.inr (1, 0)), none, none] [] s else some (.inl none, s)) := ab_blk [8, 59, 72, 140, 179, 211, 214] 6
set_option maxRecDepth 100000 in
theorem b43_8 {X : (Nat → Int32) × Nat} {d : Nat} {s : ab_S}  : ab_at X (d + 1) 43 8 [some (.inr (1, 0)), none, none] [] s = (if (sz s 4) ≤ (sz s 6) then ab_at X (d + 1) 43 72 [some (.inr (1, 0)), none, none] [] s else (if (nI 900) ≤ (sz s 6) then ab_at X (d + 1) 43 72 [some (.inr (1, 0)), none, none] [] s else (if (sz s 6) < (nI 0) ∨ 900 ≤ (sz s 6).toNatClampNeg then none else (if ((sa s 0) (sz s 6).toNatClampNeg) = (nI 32) then ab_at X (d + 1) 43 59 [some (.inr (1, 0)), none, none] [] s else (if (sz s 6) < (nI 0) ∨ 900 ≤ (sz s 6).toNatClampNeg then none else (if ((sa s 0) (sz s 6).toNatClampNeg) = (nI 10) then ab_at X (d + 1) 43 59 [some (.inr (1, 0)), none, none] [] s else ab_at X (d + 1) 43 72 [some (.inr (1, 0)), none, none] [] s)))))) := ab_blk [8, 59, 72, 140, 179, 211, 214] 27
theorem b43_59 {X : (Nat → Int32) × Nat} {d : Nat} {s : ab_S}  : ab_at X (d + 1) 43 59 [some (.inr (1, 0)), none, none] [] s = ab_at X (d + 1) 43 8 [some (.inr (1, 0)), none, none] [] (pz s 6 ((sz s 6) + (nI 1))) := ab_blk [8, 59, 72, 140, 179, 211, 214] 9
set_option maxRecDepth 100000 in
theorem b43_72 {X : (Nat → Int32) × Nat} {d : Nat} {s : ab_S}  : ab_at X (d + 1) 43 72 [some (.inr (1, 0)), none, none] [] s = ab_bI (ab_ev X d 44 [.inr (1, 0), .inl (.int (nI 97)), .inl (.int (nI 122))] (pz s 5 (sz s 6))) (fun r2 s1 => ab_bI (ab_ev X d 44 [.inr (1, 0), .inl (.int (nI 48)), .inl (.int (nI 57))] s1) (fun r4 s3 => (if (sz s3 5) < (sz s3 4) then (if r2 ≤ (sz s3 5) then (if r4 ≤ (sz s3 5) then ab_bA (ab_ev X d 45 [.inr (1, 0), .inr (10, 1)] (pz s3 6 ((sz s3 5) + (nI 1)))) (fun kr6 ir7 s5 => ab_at X (d + 1) 43 211 [some (.inr (1, 0)), some (.inl (.int r2)), some (.inl (.int r4))] [.inr (kr6, ir7), .inr (1, 0)] s5) ab_px else (if (r4 - (sz s3 5)) ≤ (nI 3) then ab_at X (d + 1) 43 179 [some (.inr (1, 0)), some (.inl (.int r2)), some (.inl (.int r4))] [.inr (10, 2), .inr (1, 0)] (pz s3 6 r4) else ab_at X (d + 1) 43 179 [some (.inr (1, 0)), some (.inl (.int r2)), some (.inl (.int r4))] [.inr (10, 1), .inr (1, 0)] (pz s3 6 r4))) else ab_bA (ab_ev X d 45 [.inr (1, 0), .inr (10, 3)] (pz s3 6 r2)) (fun kr9 ir10 s8 => ab_at X (d + 1) 43 140 [some (.inr (1, 0)), some (.inl (.int r2)), some (.inl (.int r4))] [.inr (kr9, ir10), .inr (1, 0)] s8) ab_px) else ab_at X (d + 1) 43 214 [some (.inr (1, 0)), some (.inl (.int r2)), some (.inl (.int r4))] [] (pt s3 0 0))) ab_px) ab_px := ab_blk [8, 59, 72, 140, 179, 211, 214] 41
theorem b43_140 {X : (Nat → Int32) × Nat} {d : Nat} {s : ab_S} {x1 : Int32} {x2 : Int32} {c0 : Nat} : ab_at X (d + 1) 43 140 [some (.inr (1, 0)), some (.inl (.int x1)), some (.inl (.int x2))] [.inr (10, c0), .inr (1, 0)] s = ab_at X (d + 1) 43 214 [some (.inr (1, 0)), some (.inl (.int x1)), some (.inl (.int x2))] [] (pt s 0 c0) := ab_blk [8, 59, 72, 140, 179, 211, 214] 4
theorem b43_179 {X : (Nat → Int32) × Nat} {d : Nat} {s : ab_S} {x1 : Int32} {x2 : Int32} : ab_at X (d + 1) 43 179 [some (.inr (1, 0)), some (.inl (.int x1)), some (.inl (.int x2))] [.inr (10, 1), .inr (1, 0)] s = ab_bI (ab_ev X d 53 [.inr (1, 0)] (pt s 0 1)) (fun r2 s1 => ab_at X (d + 1) 43 214 [some (.inr (1, 0)), some (.inl (.int x1)), some (.inl (.int x2))] [] (pz s1 7 r2)) ab_px := ab_blk [8, 59, 72, 140, 179, 211, 214] 8
theorem b43_179_1 {X : (Nat → Int32) × Nat} {d : Nat} {s : ab_S} {x1 : Int32} {x2 : Int32} : ab_at X (d + 1) 43 179 [some (.inr (1, 0)), some (.inl (.int x1)), some (.inl (.int x2))] [.inr (10, 2), .inr (1, 0)] s = ab_bI (ab_ev X d 53 [.inr (1, 0)] (pt s 0 2)) (fun r2 s1 => ab_at X (d + 1) 43 214 [some (.inr (1, 0)), some (.inl (.int x1)), some (.inl (.int x2))] [] (pz s1 7 r2)) ab_px := ab_blk [8, 59, 72, 140, 179, 211, 214] 8
theorem b43_211 {X : (Nat → Int32) × Nat} {d : Nat} {s : ab_S} {x1 : Int32} {x2 : Int32} {c0 : Nat} : ab_at X (d + 1) 43 211 [some (.inr (1, 0)), some (.inl (.int x1)), some (.inl (.int x2))] [.inr (10, c0), .inr (1, 0)] s = ab_at X (d + 1) 43 214 [some (.inr (1, 0)), some (.inl (.int x1)), some (.inl (.int x2))] [] (pt s 0 c0) := ab_blk [8, 59, 72, 140, 179, 211, 214] 3
theorem b43_214 {X : (Nat → Int32) × Nat} {d : Nat} {s : ab_S} {x1 : Int32} {x2 : Int32} : ab_at X (d + 1) 43 214 [some (.inr (1, 0)), some (.inl (.int x1)), some (.inl (.int x2))] [] s = some (.inl none, s) := ab_blk [8, 59, 72, 140, 179, 211, 214] 3
/-! 44 MovingNames$Reader.endOfRun(II)I -/
theorem b44 {X : (Nat → Int32) × Nat} {d : Nat} {s : ab_S} {x1 : Int32} {x2 : Int32} : ab_ev X d 44 [.inr (1, 0), .inl (.int x1), .inl (.int x2)] s = ab_at X d 44 5 [some (.inr (1, 0)), some (.inl (.int x1)), some (.inl (.int x2)), some (.inl (.int (sz s 5)))] [] s := ab_blk [5] 5
set_option maxRecDepth 100000 in
theorem b44_5 {X : (Nat → Int32) × Nat} {d : Nat} {s : ab_S} {x1 : Int32} {x2 : Int32} {x3 : Int32} : ab_at X d 44 5 [some (.inr (1, 0)), some (.inl (.int x1)), some (.inl (.int x2)), some (.inl (.int x3))] [] s = (if (sz s 4) ≤ x3 then some (.inl (some (.inl (.int x3))), s) else (if (nI 900) ≤ x3 then some (.inl (some (.inl (.int x3))), s) else (if x3 < (nI 0) ∨ 900 ≤ x3.toNatClampNeg then none else (if ((sa s 0) x3.toNatClampNeg) < x1 then some (.inl (some (.inl (.int x3))), s) else (if x3 < (nI 0) ∨ 900 ≤ x3.toNatClampNeg then none else (if x2 < ((sa s 0) x3.toNatClampNeg) then some (.inl (some (.inl (.int x3))), s) else ab_at X d 44 5 [some (.inr (1, 0)), some (.inl (.int x1)), some (.inl (.int x2)), some (.inl (.int (x3 + (nI 1))))] [] s)))))) := ab_blk [5] 25
/-! 45 MovingNames$Reader.spelled(LMovingNames$Token;)LMovingNames$Token; -/
theorem b45 {X : (Nat → Int32) × Nat} {d : Nat} {s : ab_S} {i1 : Nat} : ab_ev X (d + 1) 45 [.inr (1, 0), .inr (10, i1)] s = ab_at X (d + 1) 45 2 [some (.inr (1, 0)), some (.inr (10, i1)), some (.inl (.int (nI 0))), none, none] [] s := ab_blk [2, 22, 87, 116] 4
theorem b45_2 {X : (Nat → Int32) × Nat} {d : Nat} {s : ab_S} {i1 : Nat} {x2 : Int32} {u3 : Option ab_V} {u4 : Option ab_V} : ab_at X (d + 1) 45 2 [some (.inr (1, 0)), some (.inr (10, i1)), some (.inl (.int x2)), u3, u4] [] s = (if (nI 33) ≤ x2 then some (.inl (some (.inr (10, i1))), s) else (if x2 < (nI 0) ∨ 33 ≤ x2.toNatClampNeg then none else ab_at X (d + 1) 45 22 [some (.inr (1, 0)), some (.inr (10, i1)), some (.inl (.int x2)), some (.inr (11, (ab_tx x2.toNatClampNeg))), some (.inl (.int (nI 0)))] [] s)) := ab_blk [2, 22, 87, 116] 13
set_option maxRecDepth 100000 in
theorem b45_22 {X : (Nat → Int32) × Nat} {d : Nat} {s : ab_S} {i1 : Nat} {x2 : Int32} {i3 : Nat} {x4 : Int32} : ab_at X (d + 1) 45 22 [some (.inr (1, 0)), some (.inr (10, i1)), some (.inl (.int x2)), some (.inr (11, i3)), some (.inl (.int x4))] [] s = ab_bI (ab_ev X d 46 [.inr (11, i3)] s) (fun r2 s1 => (if r2 ≤ x4 then ab_at X (d + 1) 45 87 [some (.inr (1, 0)), some (.inr (10, i1)), some (.inl (.int x2)), some (.inr (11, i3)), some (.inl (.int x4))] [] s1 else (if (sz s1 6) ≤ ((sz s1 5) + x4) then ab_at X (d + 1) 45 87 [some (.inr (1, 0)), some (.inr (10, i1)), some (.inl (.int x2)), some (.inr (11, i3)), some (.inl (.int x4))] [] s1 else (if (nI 900) ≤ ((sz s1 5) + x4) then ab_at X (d + 1) 45 87 [some (.inr (1, 0)), some (.inr (10, i1)), some (.inl (.int x2)), some (.inr (11, i3)), some (.inl (.int x4))] [] s1 else ab_bI (ab_ev X d 48 [.inr (11, i3), .inl (.int x4)] s1) (fun r4 s3 => (if ((sz s3 5) + x4) < (nI 0) ∨ 900 ≤ ((sz s3 5) + x4).toNatClampNeg then none else (if r4 = ((sa s3 0) ((sz s3 5) + x4).toNatClampNeg) then ab_at X (d + 1) 45 22 [some (.inr (1, 0)), some (.inr (10, i1)), some (.inl (.int x2)), some (.inr (11, i3)), some (.inl (.int (x4 + (nI 1))))] [] s3 else ab_at X (d + 1) 45 87 [some (.inr (1, 0)), some (.inr (10, i1)), some (.inl (.int x2)), some (.inr (11, i3)), some (.inl (.int x4))] [] s3))) ab_px)))) ab_px := ab_blk [2, 22, 87, 116] 34
set_option maxRecDepth 100000 in
theorem b45_87 {X : (Nat → Int32) × Nat} {d : Nat} {s : ab_S} {i1 : Nat} {x2 : Int32} {i3 : Nat} {x4 : Int32} : ab_at X (d + 1) 45 87 [some (.inr (1, 0)), some (.inr (10, i1)), some (.inl (.int x2)), some (.inr (11, i3)), some (.inl (.int x4))] [] s = ab_bI (ab_ev X d 46 [.inr (11, i3)] s) (fun r2 s1 => (if x4 = r2 then (if ((sz s1 5) + x4) = (sz s1 6) then (if x2 < (nI 0) ∨ 33 ≤ x2.toNatClampNeg then none else some (.inl (some (.inr (10, x2.toNatClampNeg))), s1)) else ab_at X (d + 1) 45 116 [some (.inr (1, 0)), some (.inr (10, i1)), some (.inl (.int x2)), some (.inr (11, i3)), some (.inl (.int x4))] [] s1) else ab_at X (d + 1) 45 116 [some (.inr (1, 0)), some (.inr (10, i1)), some (.inl (.int x2)), some (.inr (11, i3)), some (.inl (.int x4))] [] s1)) ab_px := ab_blk [2, 22, 87, 116] 17
theorem b45_116 {X : (Nat → Int32) × Nat} {d : Nat} {s : ab_S} {i1 : Nat} {x2 : Int32} {i3 : Nat} {x4 : Int32} : ab_at X (d + 1) 45 116 [some (.inr (1, 0)), some (.inr (10, i1)), some (.inl (.int x2)), some (.inr (11, i3)), some (.inl (.int x4))] [] s = ab_at X (d + 1) 45 2 [some (.inr (1, 0)), some (.inr (10, i1)), some (.inl (.int (x2 + (nI 1)))), some (.inr (11, i3)), some (.inl (.int x4))] [] s := ab_blk [2, 22, 87, 116] 4
/-! 46 java/lang/String.length()I -/
theorem b46 {X : (Nat → Int32) × Nat} {d : Nat} {s : ab_S} {i0 : Nat} : ab_ev X (d + 1) 46 [.inr (11, i0)] s = ab_bI (ab_ev X d 47 [.inr (11, i0)] s) (fun r2 s1 => some (.inl (some (.inl (.int ((nI (ab_sl i0)) >>> (r2 &&& 31))))), s1)) ab_px := ab_blk [] 9
/-! 47 java/lang/String.coder()B -/
theorem b47 {X : (Nat → Int32) × Nat} {d : Nat} {s : ab_S} {i0 : Nat} : ab_ev X d 47 [.inr (11, i0)] s = (if (nI 0).toInt8.toInt32 = (nI 0) then some (.inl (some (.inl (.int (nI 0)))), s) else none) := ab_blk [] 8
/-! 48 java/lang/String.charAt(I)C -/
theorem b48 {X : (Nat → Int32) × Nat} {d : Nat} {s : ab_S} {i0 : Nat} {x1 : Int32} : ab_ev X (d + 1) 48 [.inr (11, i0), .inl (.int x1)] s = ab_bI (ab_ev X d 49 [.inr (11, i0)] s) (fun r2 s1 => (if r2 = (nI 0) then none else ab_bI (ab_ev X d 50 [.inr (12, i0), .inl (.int x1)] s1) (fun r4 s3 => (if (r4.toUInt32 % 65536).toInt32 = r4 then some (.inl (some (.inl (.int r4))), s3) else none)) ab_px)) ab_px := ab_blk [] 10
/-! 49 java/lang/String.isLatin1()Z -/
theorem b49 {X : (Nat → Int32) × Nat} {d : Nat} {s : ab_S} {i0 : Nat} : ab_ev X d 49 [.inr (11, i0)] s = some (.inl (some (.inl (.int (nI 1)))), s) := ab_blk [] 10
/-! 50 java/lang/StringLatin1.charAt([BI)C -/
set_option maxRecDepth 100000 in
theorem b50 {X : (Nat → Int32) × Nat} {d : Nat} {s : ab_S} {i0 : Nat} {x1 : Int32} : ab_ev X (d + 1) 50 [.inr (12, i0), .inl (.int x1)] s = ab_bU (ab_ev X d 51 [.inl (.int x1), .inl (.int (nI (ab_sl i0)))] s) (fun s1 => (if x1 < (nI 0) ∨ (ab_sl i0) ≤ x1.toNatClampNeg then none else (if ((((((ab_sb i0) x1.toNatClampNeg) &&& (nI 255)).toUInt32 % 65536).toInt32).toUInt32 % 65536).toInt32 = (((((ab_sb i0) x1.toNatClampNeg) &&& (nI 255)).toUInt32 % 65536).toInt32) then some (.inl (some (.inl (.int (((((ab_sb i0) x1.toNatClampNeg) &&& (nI 255)).toUInt32 % 65536).toInt32)))), s1) else none))) ab_px := ab_blk [] 13
/-! 51 java/lang/String.checkIndex(II)V -/
theorem b51 {X : (Nat → Int32) × Nat} {d : Nat} {s : ab_S} {x0 : Int32} {x1 : Int32} : ab_ev X (d + 1) 51 [.inl (.int x0), .inl (.int x1)] s = ab_bI (ab_ev X d 52 [.inl (.int x0), .inl (.int x1), .inr (55, 0)] s) (fun r2 s1 => some (.inl none, s1)) ab_px := ab_blk [] 8
/-! 52 jdk/internal/util/Preconditions.checkIndex(IILjava/util/function/BiFunction;)I -/
theorem b52 {X : (Nat → Int32) × Nat} {d : Nat} {s : ab_S} {x0 : Int32} {x1 : Int32} : ab_ev X d 52 [.inl (.int x0), .inl (.int x1), .inr (55, 0)] s = (if x0 < (nI 0) then none else (if x0 < x1 then some (.inl (some (.inl (.int x0))), s) else none)) := ab_blk [] 9
/-! 53 MovingNames$Reader.numberRead()I -/
theorem b53 {X : (Nat → Int32) × Nat} {d : Nat} {s : ab_S}  : ab_ev X d 53 [.inr (1, 0)] s = ab_at X d 53 7 [some (.inr (1, 0)), some (.inl (.int (nI 0))), some (.inl (.int (sz s 5)))] [] s := ab_blk [7] 7
set_option maxRecDepth 100000 in
theorem b53_7 {X : (Nat → Int32) × Nat} {d : Nat} {s : ab_S} {x1 : Int32} {x2 : Int32} : ab_at X d 53 7 [some (.inr (1, 0)), some (.inl (.int x1)), some (.inl (.int x2))] [] s = (if (sz s 6) ≤ x2 then some (.inl (some (.inl (.int x1))), s) else (if ((sz s 5) + (nI 3)) ≤ x2 then some (.inl (some (.inl (.int x1))), s) else (if (nI 900) ≤ x2 then some (.inl (some (.inl (.int x1))), s) else (if x2 < (nI 0) ∨ 900 ≤ x2.toNatClampNeg then none else ab_at X d 53 7 [some (.inr (1, 0)), some (.inl (.int (((x1 * (nI 10)) + ((sa s 0) x2.toNatClampNeg)) - (nI 48)))), some (.inl (.int (x2 + (nI 1))))] [] s)))) := ab_blk [7] 30
/-! 54 MovingNames$Reader.take(LMovingNames$Token;)V -/
theorem b54 {X : (Nat → Int32) × Nat} {d : Nat} {s : ab_S} {i1 : Nat} : ab_ev X (d + 1) 54 [.inr (1, 0), .inr (10, i1)] s = (if (st s 0) = i1 then ab_bU (ab_ev X d 43 [.inr (1, 0)] s) (fun s1 => some (.inl none, s1)) ab_px else ab_bU (ab_ev X d 55 [.inr (1, 0), .inl (.int (nI 2))] s) (fun s2 => some (.inl none, s2)) ab_px) := ab_blk [] 11
/-! 55 MovingNames$Reader.refuse(I)V -/
theorem b55 {X : (Nat → Int32) × Nat} {d : Nat} {s : ab_S} {x1 : Int32} : ab_ev X d 55 [.inr (1, 0), .inl (.int x1)] s = (if (sz s 2) = (nI 0) then (if (st s 0) = 1 then some (.inl none, (pz (pz s 2 (nI 1)) 3 (sz s 5))) else some (.inl none, (pz (pz s 2 x1) 3 (sz s 5)))) else some (.inl none, s)) := ab_blk [] 18
/-! 56 MovingNames$Reader.takeNumber(II)I -/
set_option maxRecDepth 100000 in
theorem b56 {X : (Nat → Int32) × Nat} {d : Nat} {s : ab_S} {x1 : Int32} {x2 : Int32} : ab_ev X (d + 1) 56 [.inr (1, 0), .inl (.int x1), .inl (.int x2)] s = (if (st s 0) = 2 then (if (sz s 7) < x1 then ab_bU (ab_ev X d 55 [.inr (1, 0), .inl (.int (nI 3))] s) (fun s1 => some (.inl (some (.inl (.int (sz s 7)))), s1)) ab_px else (if (sz s 7) ≤ x2 then ab_bU (ab_ev X d 43 [.inr (1, 0)] s) (fun s2 => some (.inl (some (.inl (.int (sz s 7)))), s2)) ab_px else ab_bU (ab_ev X d 55 [.inr (1, 0), .inl (.int (nI 3))] s) (fun s3 => some (.inl (some (.inl (.int (sz s 7)))), s3)) ab_px)) else ab_bU (ab_ev X d 55 [.inr (1, 0), .inl (.int (nI 2))] s) (fun s4 => some (.inl (some (.inl (.int (sz s 7)))), s4)) ab_px) := ab_blk [] 21
/-! 57 MovingNames$Town.settle(I)V -/
theorem b57 {X : (Nat → Int32) × Nat} {d : Nat} {s : ab_S} {i0 : Nat} {x1 : Int32} : ab_ev X (d + 1) 57 [.inr (2, i0), .inl (.int x1)] s = ab_bI (ab_ev X d 19 [.inl (.int x1), .inl (.int (nI 20))] s) (fun r2 s1 => ab_bI (ab_ev X d 58 [.inl (.int (nI 0)), .inl (.int r2)] s1) (fun r4 s3 => ab_at X (d + 1) 57 16 [some (.inr (2, i0)), some (.inl (.int x1)), some (.inl (.int (nI 0)))] [] (wi s3 1 i0 r4)) ab_px) ab_px := ab_blk [16] 11
theorem b57_16 {X : (Nat → Int32) × Nat} {d : Nat} {s : ab_S} {i0 : Nat} {x1 : Int32} {x2 : Int32} : ab_at X (d + 1) 57 16 [some (.inr (2, i0)), some (.inl (.int x1)), some (.inl (.int x2))] [] s = (if ((si s 1) i0) ≤ x2 then some (.inl none, s) else ab_bU (ab_ev X d 3 [.inr (19, i0), .inl (.int x2), .inl (.int x2)] s) (fun s1 => ab_at X (d + 1) 57 16 [some (.inr (2, i0)), some (.inl (.int x1)), some (.inl (.int (x2 + (nI 1))))] [] s1) ab_px) := ab_blk [16] 13
/-! 58 java/lang/Math.max(II)I -/
theorem b58 {X : (Nat → Int32) × Nat} {d : Nat} {s : ab_S} {x0 : Int32} {x1 : Int32} : ab_ev X d 58 [.inl (.int x0), .inl (.int x1)] s = (if x0 < x1 then some (.inl (some (.inl (.int x1))), s) else some (.inl (some (.inl (.int x0))), s)) := ab_blk [] 8
/-! 59 MovingNames$Reader.endLine(LMovingNames$Town;)V -/
theorem b59 {X : (Nat → Int32) × Nat} {d : Nat} {s : ab_S} {i1 : Nat} : ab_ev X (d + 1) 59 [.inr (1, 0), .inr (2, i1)] s = ab_bU (ab_ev X d 54 [.inr (1, 0), .inr (10, 13)] s) (fun s1 => some (.inl none, (wi s1 0 i1 (((si s1 0) i1) + (nI 1))))) ab_px := ab_blk [] 12
/-! 60 MovingNames$Reader.readLine(LMovingNames$Town;)V -/
set_option maxRecDepth 100000 in
theorem b60 {X : (Nat → Int32) × Nat} {d : Nat} {s : ab_S} {i1 : Nat} : ab_ev X (d + 1) 60 [.inr (1, 0), .inr (2, i1)] s = (if (st s 0) = 5 then ab_bU (ab_ev X d 61 [.inr (1, 0), .inr (2, i1)] s) (fun s1 => ab_bU (ab_ev X d 59 [.inr (1, 0), .inr (2, i1)] s1) (fun s2 => some (.inl none, s2)) ab_px) ab_px else (if (st s 0) = 8 then ab_bU (ab_ev X d 43 [.inr (1, 0)] s) (fun s3 => ab_bI (ab_ev X d 56 [.inr (1, 0), .inl (.int (nI 0)), .inl (.int (((si s3 1) i1) - (nI 1)))] s3) (fun r5 s4 => ab_bU (ab_ev X d 66 [.inr (2, i1), .inl (.int r5)] s4) (fun s6 => ab_bU (ab_ev X d 59 [.inr (1, 0), .inr (2, i1)] s6) (fun s7 => some (.inl none, s7)) ab_px) ab_px) ab_px) ab_px else (if (st s 0) = 9 then ab_bU (ab_ev X d 67 [.inr (1, 0), .inr (2, i1)] s) (fun s8 => ab_bU (ab_ev X d 59 [.inr (1, 0), .inr (2, i1)] s8) (fun s9 => some (.inl none, s9)) ab_px) ab_px else (if (st s 0) = 10 then ab_bU (ab_ev X d 43 [.inr (1, 0)] s) (fun s10 => ab_bI (ab_ev X d 56 [.inr (1, 0), .inl (.int (nI 0)), .inl (.int (((si s10 1) i1) - (nI 1)))] s10) (fun r12 s11 => ab_bI (ab_ev X d 56 [.inr (1, 0), .inl (.int (nI 0)), .inl (.int (((si s11 1) i1) - (nI 1)))] s11) (fun r14 s13 => ab_bU (ab_ev X d 3 [.inr (19, i1), .inl (.int r12), .inl (.int r14)] s13) (fun s15 => ab_bU (ab_ev X d 59 [.inr (1, 0), .inr (2, i1)] s15) (fun s16 => some (.inl none, s16)) ab_px) ab_px) ab_px) ab_px) ab_px else (if (st s 0) = 11 then (if ((si s 3) i1) = (nI 0) then ab_bU (ab_ev X d 43 [.inr (1, 0)] s) (fun s17 => ab_bI (ab_ev X d 56 [.inr (1, 0), .inl (.int (nI 1)), .inl (.int (nI 99))] s17) (fun r19 s18 => ab_bU (ab_ev X d 59 [.inr (1, 0), .inr (2, i1)] (wi s18 2 i1 r19)) (fun s20 => some (.inl none, s20)) ab_px) ab_px) ab_px else (if (st s 0) = 12 then ab_bU (ab_ev X d 43 [.inr (1, 0)] s) (fun s21 => ab_bU (ab_ev X d 42 [.inr (4, i1)] s21) (fun s22 => ab_bU (ab_ev X d 69 [.inr (1, 0), .inr (4, i1), .inl (.int (nI 0))] s22) (fun s23 => ab_bU (ab_ev X d 59 [.inr (1, 0), .inr (2, i1)] s23) (fun s24 => some (.inl none, s24)) ab_px) ab_px) ab_px) ab_px else ab_bU (ab_ev X d 55 [.inr (1, 0), .inl (.int (nI 2))] s) (fun s25 => ab_bU (ab_ev X d 59 [.inr (1, 0), .inr (2, i1)] s25) (fun s26 => some (.inl none, s26)) ab_px) ab_px)) else (if (st s 0) = 12 then ab_bU (ab_ev X d 43 [.inr (1, 0)] s) (fun s27 => ab_bU (ab_ev X d 42 [.inr (4, i1)] s27) (fun s28 => ab_bU (ab_ev X d 69 [.inr (1, 0), .inr (4, i1), .inl (.int (nI 0))] s28) (fun s29 => ab_bU (ab_ev X d 59 [.inr (1, 0), .inr (2, i1)] s29) (fun s30 => some (.inl none, s30)) ab_px) ab_px) ab_px) ab_px else ab_bU (ab_ev X d 55 [.inr (1, 0), .inl (.int (nI 2))] s) (fun s31 => ab_bU (ab_ev X d 59 [.inr (1, 0), .inr (2, i1)] s31) (fun s32 => some (.inl none, s32)) ab_px) ab_px)))))) := ab_blk [] 44
/-! 61 MovingNames$Reader.readRound(LMovingNames$Town;)V -/
set_option maxRecDepth 100000 in
theorem b61 {X : (Nat → Int32) × Nat} {d : Nat} {s : ab_S} {i1 : Nat} : ab_ev X (d + 1) 61 [.inr (1, 0), .inr (2, i1)] s = (if ((si s 7) i1) = (nI 4) then ab_bU (ab_ev X d 55 [.inr (1, 0), .inl (.int (nI 4))] s) (fun s1 => some (.inl none, s1)) ab_px else ab_bU (ab_ev X d 43 [.inr (1, 0)] s) (fun s2 => (if (st s2 0) = 6 then ab_bU (ab_ev X d 43 [.inr (1, 0)] s2) (fun s3 => (if (st s3 0) = 7 then ab_bU (ab_ev X d 43 [.inr (1, 0)] s3) (fun s4 => ab_bI (ab_ev X d 56 [.inr (1, 0), .inl (.int (nI 1)), .inl (.int (nI 9))] s4) (fun r6 s5 => ab_bU (ab_ev X d 54 [.inr (1, 0), .inr (10, 14)] s5) (fun s7 => ab_bI (ab_ev X d 62 [.inr (3, i1), .inl (.int ((-nI 1) * r6))] s7) (fun r9 s8 => ab_at X (d + 1) 61 85 [some (.inr (1, 0)), some (.inr (2, i1)), some (.inl (.int (-nI 1))), some (.inl (.int r6)), some (.inl (.int r9)), some (.inl (.int (nI 0)))] [] s8) ab_px) ab_px) ab_px) ab_px else ab_bU (ab_ev X d 54 [.inr (1, 0), .inr (10, 14)] s3) (fun s10 => ab_bI (ab_ev X d 62 [.inr (3, i1), .inl (.int ((-nI 1) * (nI 1)))] s10) (fun r12 s11 => ab_at X (d + 1) 61 85 [some (.inr (1, 0)), some (.inr (2, i1)), some (.inl (.int (-nI 1))), some (.inl (.int (nI 1))), some (.inl (.int r12)), some (.inl (.int (nI 0)))] [] s11) ab_px) ab_px)) ab_px else (if (st s2 0) = 7 then ab_bU (ab_ev X d 43 [.inr (1, 0)] s2) (fun s13 => ab_bI (ab_ev X d 56 [.inr (1, 0), .inl (.int (nI 1)), .inl (.int (nI 9))] s13) (fun r15 s14 => ab_bU (ab_ev X d 54 [.inr (1, 0), .inr (10, 14)] s14) (fun s16 => ab_bI (ab_ev X d 62 [.inr (3, i1), .inl (.int ((nI 1) * r15))] s16) (fun r18 s17 => ab_at X (d + 1) 61 85 [some (.inr (1, 0)), some (.inr (2, i1)), some (.inl (.int (nI 1))), some (.inl (.int r15)), some (.inl (.int r18)), some (.inl (.int (nI 0)))] [] s17) ab_px) ab_px) ab_px) ab_px else ab_bU (ab_ev X d 54 [.inr (1, 0), .inr (10, 14)] s2) (fun s19 => ab_bI (ab_ev X d 62 [.inr (3, i1), .inl (.int ((nI 1) * (nI 1)))] s19) (fun r21 s20 => ab_at X (d + 1) 61 85 [some (.inr (1, 0)), some (.inr (2, i1)), some (.inl (.int (nI 1))), some (.inl (.int (nI 1))), some (.inl (.int r21)), some (.inl (.int (nI 0)))] [] s20) ab_px) ab_px))) ab_px) := ab_blk [85] 44
set_option maxRecDepth 100000 in
theorem b61_85 {X : (Nat → Int32) × Nat} {d : Nat} {s : ab_S} {i1 : Nat} {x2 : Int32} {x3 : Int32} {x4 : Int32} {x5 : Int32} : ab_at X (d + 1) 61 85 [some (.inr (1, 0)), some (.inr (2, i1)), some (.inl (.int x2)), some (.inl (.int x3)), some (.inl (.int x4)), some (.inl (.int x5))] [] s = (if (nI 20) < x5 then some (.inl none, s) else (if (sz s 2) = (nI 0) then (if x5 = (nI 0) then ab_bU (ab_ev X d 63 [.inr (1, 0), .inr (2, i1), .inl (.int x4), .inl (.int x5)] s) (fun s1 => ab_at X (d + 1) 61 85 [some (.inr (1, 0)), some (.inr (2, i1)), some (.inl (.int x2)), some (.inl (.int x3)), some (.inl (.int x4)), some (.inl (.int (x5 + (nI 1))))] [] s1) ab_px else (if (st s 0) = 2 then ab_bU (ab_ev X d 63 [.inr (1, 0), .inr (2, i1), .inl (.int x4), .inl (.int x5)] s) (fun s2 => ab_at X (d + 1) 61 85 [some (.inr (1, 0)), some (.inr (2, i1)), some (.inl (.int x2)), some (.inl (.int x3)), some (.inl (.int x4)), some (.inl (.int (x5 + (nI 1))))] [] s2) ab_px else some (.inl none, s))) else some (.inl none, s))) := ab_blk [85] 21
/-! 62 MovingNames$Rounds.begin(I)I -/
theorem b62 {X : (Nat → Int32) × Nat} {d : Nat} {s : ab_S} {i0 : Nat} {x1 : Int32} : ab_ev X (d + 1) 62 [.inr (3, i0), .inl (.int x1)] s = ab_bU (ab_ev X d 3 [.inr (23, i0), .inl (.int ((si s 7) i0)), .inl (.int (nI 0))] s) (fun s1 => ab_bU (ab_ev X d 3 [.inr (24, i0), .inl (.int ((si s 7) i0)), .inl (.int x1)] s1) (fun s2 => ab_bI (ab_ev X d 19 [.inl (.int (((si s 7) i0) + (nI 1))), .inl (.int (nI 4))] s2) (fun r4 s3 => some (.inl (some (.inl (.int ((si s 7) i0)))), (wi s3 7 i0 r4))) ab_px) ab_px) ab_px := ab_blk [] 24
/-! 63 MovingNames$Reader.readStop(LMovingNames$Town;II)V -/
set_option maxRecDepth 100000 in
theorem b63 {X : (Nat → Int32) × Nat} {d : Nat} {s : ab_S} {i1 : Nat} {x2 : Int32} {x3 : Int32} : ab_ev X (d + 1) 63 [.inr (1, 0), .inr (2, i1), .inl (.int x2), .inl (.int x3)] s = (if (st s 0) = 2 then ab_bI (ab_ev X d 64 [.inr (3, i1), .inl (.int x2), .inl (.int (sz s 7))] s) (fun r2 s1 => (if r2 = (-nI 1) then ab_bI (ab_ev X d 56 [.inr (1, 0), .inl (.int (nI 0)), .inl (.int (((si s1 1) i1) - (nI 1)))] s1) (fun r4 s3 => (if (sz s3 2) = (nI 0) then ab_bU (ab_ev X d 65 [.inr (3, i1), .inl (.int x2), .inl (.int x3), .inl (.int (sz s 7))] s3) (fun s5 => some (.inl none, s5)) ab_px else some (.inl none, s3))) ab_px else ab_bU (ab_ev X d 55 [.inr (1, 0), .inl (.int (nI 3))] s1) (fun s6 => some (.inl none, s6)) ab_px)) ab_px else ab_bI (ab_ev X d 56 [.inr (1, 0), .inl (.int (nI 0)), .inl (.int (((si s 1) i1) - (nI 1)))] s) (fun r8 s7 => (if (sz s7 2) = (nI 0) then ab_bU (ab_ev X d 65 [.inr (3, i1), .inl (.int x2), .inl (.int x3), .inl (.int (sz s 7))] s7) (fun s9 => some (.inl none, s9)) ab_px else some (.inl none, s7))) ab_px) := ab_blk [] 38
/-! 64 MovingNames$Rounds.placeOf(II)I -/
theorem b64 {X : (Nat → Int32) × Nat} {d : Nat} {s : ab_S} {i0 : Nat} {x1 : Int32} {x2 : Int32} : ab_ev X (d + 1) 64 [.inr (3, i0), .inl (.int x1), .inl (.int x2)] s = ab_bI (ab_ev X d 21 [.inr (3, i0), .inl (.int x1)] s) (fun r2 s1 => ab_at X (d + 1) 64 9 [some (.inr (3, i0)), some (.inl (.int x1)), some (.inl (.int x2)), some (.inl (.int r2)), some (.inl (.int (nI 0)))] [] s1) ab_px := ab_blk [9] 8
theorem b64_9 {X : (Nat → Int32) × Nat} {d : Nat} {s : ab_S} {i0 : Nat} {x1 : Int32} {x2 : Int32} {x3 : Int32} {x4 : Int32} : ab_at X (d + 1) 64 9 [some (.inr (3, i0)), some (.inl (.int x1)), some (.inl (.int x2)), some (.inl (.int x3)), some (.inl (.int x4))] [] s = (if x3 ≤ x4 then some (.inl (some (.inl (.int (-nI 1)))), s) else ab_bI (ab_ev X d 22 [.inr (3, i0), .inl (.int x1), .inl (.int x4)] s) (fun r2 s1 => (if r2 = x2 then some (.inl (some (.inl (.int x4))), s1) else ab_at X (d + 1) 64 9 [some (.inr (3, i0)), some (.inl (.int x1)), some (.inl (.int x2)), some (.inl (.int x3)), some (.inl (.int (x4 + (nI 1))))] [] s1)) ab_px) := ab_blk [9] 13
/-! 65 MovingNames$Rounds.insert(III)V -/
theorem b65 {X : (Nat → Int32) × Nat} {d : Nat} {s : ab_S} {i0 : Nat} {x1 : Int32} {x2 : Int32} {x3 : Int32} : ab_ev X (d + 1) 65 [.inr (3, i0), .inl (.int x1), .inl (.int x2), .inl (.int x3)] s = ab_bI (ab_ev X d 21 [.inr (3, i0), .inl (.int x1)] s) (fun r2 s1 => (if r2 < (nI 20) then ab_at X (d + 1) 65 19 [some (.inr (3, i0)), some (.inl (.int x1)), some (.inl (.int x2)), some (.inl (.int x3)), some (.inl (.int r2)), some (.inl (.int r2))] [] s1 else some (.inl none, s1))) ab_px := ab_blk [19] 11
set_option maxRecDepth 100000 in
theorem b65_19 {X : (Nat → Int32) × Nat} {d : Nat} {s : ab_S} {i0 : Nat} {x1 : Int32} {x2 : Int32} {x3 : Int32} {x4 : Int32} {x5 : Int32} : ab_at X (d + 1) 65 19 [some (.inr (3, i0)), some (.inl (.int x1)), some (.inl (.int x2)), some (.inl (.int x3)), some (.inl (.int x4)), some (.inl (.int x5))] [] s = (if x5 ≤ x2 then ab_bU (ab_ev X d 3 [.inr (22, i0), .inl (.int ((x1 * (nI 20)) + x2)), .inl (.int x3)] s) (fun s1 => ab_bU (ab_ev X d 3 [.inr (23, i0), .inl (.int x1), .inl (.int (x4 + (nI 1)))] s1) (fun s2 => some (.inl none, s2)) ab_px) ab_px else ab_bI (ab_ev X d 22 [.inr (3, i0), .inl (.int x1), .inl (.int (x5 - (nI 1)))] s) (fun r4 s3 => ab_bU (ab_ev X d 3 [.inr (22, i0), .inl (.int ((x1 * (nI 20)) + x5)), .inl (.int r4)] s3) (fun s5 => ab_at X (d + 1) 65 19 [some (.inr (3, i0)), some (.inl (.int x1)), some (.inl (.int x2)), some (.inl (.int x3)), some (.inl (.int x4)), some (.inl (.int (x5 + (-nI 1))))] [] s5) ab_px) ab_px) := ab_blk [19] 22
/-! 66 MovingNames$Town.makeBlind(I)V -/
theorem b66 {X : (Nat → Int32) × Nat} {d : Nat} {s : ab_S} {i0 : Nat} {x1 : Int32} : ab_ev X d 66 [.inr (2, i0), .inl (.int x1)] s = some (.inl none, (wi s 6 i0 (((si s 6) i0) ||| ((nI 1) <<< (x1 &&& 31))))) := ab_blk [] 11
/-! 67 MovingNames$Reader.readPerson(LMovingNames$Town;)V -/
set_option maxRecDepth 100000 in
theorem b67 {X : (Nat → Int32) × Nat} {d : Nat} {s : ab_S} {i1 : Nat} : ab_ev X (d + 1) 67 [.inr (1, 0), .inr (2, i1)] s = (if ((si s 3) i1) = (nI 8) then ab_bU (ab_ev X d 55 [.inr (1, 0), .inl (.int (nI 4))] s) (fun s1 => some (.inl none, s1)) ab_px else ab_bU (ab_ev X d 43 [.inr (1, 0)] s) (fun s2 => ab_bI (ab_ev X d 56 [.inr (1, 0), .inl (.int (nI 0)), .inl (.int (((si s2 1) i1) - (nI 1)))] s2) (fun r4 s3 => ab_bI (ab_ev X d 56 [.inr (1, 0), .inl (.int (nI 1)), .inl (.int ((si s3 2) i1))] s3) (fun r6 s5 => ab_bU (ab_ev X d 68 [.inr (2, i1), .inl (.int r4), .inl (.int r6)] s5) (fun s7 => some (.inl none, s7)) ab_px) ab_px) ab_px) ab_px) := ab_blk [] 25
/-! 68 MovingNames$Town.addPerson(II)V -/
theorem b68 {X : (Nat → Int32) × Nat} {d : Nat} {s : ab_S} {i0 : Nat} {x1 : Int32} {x2 : Int32} : ab_ev X (d + 1) 68 [.inr (2, i0), .inl (.int x1), .inl (.int x2)] s = ab_bU (ab_ev X d 3 [.inr (20, i0), .inl (.int ((si s 3) i0)), .inl (.int x1)] s) (fun s1 => ab_bU (ab_ev X d 3 [.inr (21, i0), .inl (.int ((si s1 3) i0)), .inl (.int x2)] s1) (fun s2 => ab_bI (ab_ev X d 19 [.inl (.int (((si s2 3) i0) + (nI 1))), .inl (.int (nI 8))] s2) (fun r4 s3 => some (.inl none, (wi s3 3 i0 r4))) ab_px) ab_px) ab_px := ab_blk [] 23
/-! 69 MovingNames$Reader.readTruth(LMovingNames$Law;I)V -/
theorem b69 {X : (Nat → Int32) × Nat} {d : Nat} {s : ab_S} {i1 : Nat} {x2 : Int32} : ab_ev X (d + 1) 69 [.inr (1, 0), .inr (4, i1), .inl (.int x2)] s = ab_bU (ab_ev X d 70 [.inr (1, 0), .inr (4, i1), .inl (.int x2)] s) (fun s1 => ab_at X (d + 1) 69 8 [some (.inr (1, 0)), some (.inr (4, i1)), some (.inl (.int x2)), some (.inl (.int (nI 0)))] [] s1) ab_px := ab_blk [8] 8
set_option maxRecDepth 100000 in
theorem b69_8 {X : (Nat → Int32) × Nat} {d : Nat} {s : ab_S} {i1 : Nat} {x2 : Int32} {x3 : Int32} : ab_at X (d + 1) 69 8 [some (.inr (1, 0)), some (.inr (4, i1)), some (.inl (.int x2)), some (.inl (.int x3))] [] s = (if (nI 900) ≤ x3 then some (.inl none, s) else (if (sz s 2) = (nI 0) then (if (st s 0) = 19 then ab_bU (ab_ev X d 43 [.inr (1, 0)] s) (fun s1 => ab_bU (ab_ev X d 70 [.inr (1, 0), .inr (4, i1), .inl (.int x2)] s1) (fun s2 => ab_bU (ab_ev X d 73 [.inr (4, i1), .inl (.int (-nI 14))] s2) (fun s3 => ab_at X (d + 1) 69 8 [some (.inr (1, 0)), some (.inr (4, i1)), some (.inl (.int x2)), some (.inl (.int (x3 + (nI 1))))] [] s3) ab_px) ab_px) ab_px else some (.inl none, s)) else some (.inl none, s))) := ab_blk [8] 23
/-! 70 MovingNames$Reader.readBoth(LMovingNames$Law;I)V -/
theorem b70 {X : (Nat → Int32) × Nat} {d : Nat} {s : ab_S} {i1 : Nat} {x2 : Int32} : ab_ev X (d + 1) 70 [.inr (1, 0), .inr (4, i1), .inl (.int x2)] s = ab_bU (ab_ev X d 71 [.inr (1, 0), .inr (4, i1), .inl (.int x2)] s) (fun s1 => ab_at X (d + 1) 70 8 [some (.inr (1, 0)), some (.inr (4, i1)), some (.inl (.int x2)), some (.inl (.int (nI 0)))] [] s1) ab_px := ab_blk [8] 8
set_option maxRecDepth 100000 in
theorem b70_8 {X : (Nat → Int32) × Nat} {d : Nat} {s : ab_S} {i1 : Nat} {x2 : Int32} {x3 : Int32} : ab_at X (d + 1) 70 8 [some (.inr (1, 0)), some (.inr (4, i1)), some (.inl (.int x2)), some (.inl (.int x3))] [] s = (if (nI 900) ≤ x3 then some (.inl none, s) else (if (sz s 2) = (nI 0) then (if (st s 0) = 20 then ab_bU (ab_ev X d 43 [.inr (1, 0)] s) (fun s1 => ab_bU (ab_ev X d 71 [.inr (1, 0), .inr (4, i1), .inl (.int x2)] s1) (fun s2 => ab_bU (ab_ev X d 73 [.inr (4, i1), .inl (.int (-nI 13))] s2) (fun s3 => ab_at X (d + 1) 70 8 [some (.inr (1, 0)), some (.inr (4, i1)), some (.inl (.int x2)), some (.inl (.int (x3 + (nI 1))))] [] s3) ab_px) ab_px) ab_px else some (.inl none, s)) else some (.inl none, s))) := ab_blk [8] 23
/-! 71 MovingNames$Reader.readUnit(LMovingNames$Law;I)V -/
set_option maxRecDepth 100000 in
theorem b71 {X : (Nat → Int32) × Nat} {d : Nat} {s : ab_S} {i1 : Nat} {x2 : Int32} : ab_ev X (d + 1) 71 [.inr (1, 0), .inr (4, i1), .inl (.int x2)] s = (if (st s 0) = 21 then ab_bI (ab_ev X d 72 [.inr (1, 0), .inl (.int x2)] s) (fun r2 s1 => (if r2 = (nI 0) then some (.inl none, s1) else ab_bU (ab_ev X d 71 [.inr (1, 0), .inr (4, i1), .inl (.int (x2 + (nI 1)))] s1) (fun s3 => ab_bU (ab_ev X d 73 [.inr (4, i1), .inl (.int (-nI 12))] s3) (fun s4 => some (.inl none, s4)) ab_px) ab_px)) ab_px else (if (st s 0) = 17 then ab_bI (ab_ev X d 72 [.inr (1, 0), .inl (.int x2)] s) (fun r6 s5 => (if r6 = (nI 0) then some (.inl none, s5) else ab_bU (ab_ev X d 69 [.inr (1, 0), .inr (4, i1), .inl (.int (x2 + (nI 1)))] s5) (fun s7 => ab_bU (ab_ev X d 54 [.inr (1, 0), .inr (10, 18)] s7) (fun s8 => some (.inl none, s8)) ab_px) ab_px)) ab_px else ab_bU (ab_ev X d 74 [.inr (1, 0), .inr (4, i1), .inl (.int x2)] s) (fun s9 => some (.inl none, s9)) ab_px)) := ab_blk [] 25
/-! 72 MovingNames$Reader.enters(I)Z -/
theorem b72 {X : (Nat → Int32) × Nat} {d : Nat} {s : ab_S} {x1 : Int32} : ab_ev X (d + 1) 72 [.inr (1, 0), .inl (.int x1)] s = (if x1 < (nI 6) then ab_bU (ab_ev X d 43 [.inr (1, 0)] s) (fun s1 => some (.inl (some (.inl (.int (nI 1)))), s1)) ab_px else ab_bU (ab_ev X d 55 [.inr (1, 0), .inl (.int (nI 4))] s) (fun s2 => some (.inl (some (.inl (.int (nI 0)))), s2)) ab_px) := ab_blk [] 10
/-! 73 MovingNames$Law.add(I)V -/
theorem b73 {X : (Nat → Int32) × Nat} {d : Nat} {s : ab_S} {i0 : Nat} {x1 : Int32} : ab_ev X (d + 1) 73 [.inr (4, i0), .inl (.int x1)] s = ab_bU (ab_ev X d 3 [.inr (25, i0), .inl (.int ((si s 8) i0)), .inl (.int x1)] s) (fun s1 => ab_bI (ab_ev X d 19 [.inl (.int (((si s1 8) i0) + (nI 1))), .inl (.int (nI 900))] s1) (fun r3 s2 => some (.inl none, (wi s2 8 i0 r3))) ab_px) ab_px := ab_blk [] 19
/-! 74 MovingNames$Reader.readComparison(LMovingNames$Law;I)V -/
set_option maxRecDepth 100000 in
theorem b74 {X : (Nat → Int32) × Nat} {d : Nat} {s : ab_S} {i1 : Nat} {x2 : Int32} : ab_ev X (d + 1) 74 [.inr (1, 0), .inr (4, i1), .inl (.int x2)] s = ab_bU (ab_ev X d 75 [.inr (1, 0), .inr (4, i1), .inl (.int x2)] s) (fun s1 => ab_bI (ab_ev X d 79 [.inr (10, (st s1 0))] s1) (fun r3 s2 => (if r3 = (nI 0) then ab_bU (ab_ev X d 55 [.inr (1, 0), .inl (.int (nI 2))] s2) (fun s4 => (if (sz s4 2) = (nI 0) then ab_bU (ab_ev X d 43 [.inr (1, 0)] s4) (fun s5 => ab_bU (ab_ev X d 75 [.inr (1, 0), .inr (4, i1), .inl (.int x2)] s5) (fun s6 => ab_bU (ab_ev X d 73 [.inr (4, i1), .inl (.int (ab_tl (st s1 0)))] s6) (fun s7 => some (.inl none, s7)) ab_px) ab_px) ab_px else some (.inl none, s4))) ab_px else (if (sz s2 2) = (nI 0) then ab_bU (ab_ev X d 43 [.inr (1, 0)] s2) (fun s8 => ab_bU (ab_ev X d 75 [.inr (1, 0), .inr (4, i1), .inl (.int x2)] s8) (fun s9 => ab_bU (ab_ev X d 73 [.inr (4, i1), .inl (.int (ab_tl (st s1 0)))] s9) (fun s10 => some (.inl none, s10)) ab_px) ab_px) ab_px else some (.inl none, s2)))) ab_px) ab_px := ab_blk [] 30
/-! 75 MovingNames$Reader.readSum(LMovingNames$Law;I)V -/
theorem b75 {X : (Nat → Int32) × Nat} {d : Nat} {s : ab_S} {i1 : Nat} {x2 : Int32} : ab_ev X (d + 1) 75 [.inr (1, 0), .inr (4, i1), .inl (.int x2)] s = ab_bU (ab_ev X d 76 [.inr (1, 0), .inr (4, i1), .inl (.int x2)] s) (fun s1 => ab_at X (d + 1) 75 8 [some (.inr (1, 0)), some (.inr (4, i1)), some (.inl (.int x2)), some (.inl (.int (nI 0))), none] [] s1) ab_px := ab_blk [8] 8
set_option maxRecDepth 100000 in
theorem b75_8 {X : (Nat → Int32) × Nat} {d : Nat} {s : ab_S} {i1 : Nat} {x2 : Int32} {x3 : Int32} {u4 : Option ab_V} : ab_at X (d + 1) 75 8 [some (.inr (1, 0)), some (.inr (4, i1)), some (.inl (.int x2)), some (.inl (.int x3)), u4] [] s = (if (nI 900) ≤ x3 then some (.inl none, s) else (if (sz s 2) = (nI 0) then (if (st s 0) = 25 then ab_bU (ab_ev X d 43 [.inr (1, 0)] s) (fun s1 => ab_bU (ab_ev X d 76 [.inr (1, 0), .inr (4, i1), .inl (.int x2)] s1) (fun s2 => ab_bU (ab_ev X d 73 [.inr (4, i1), .inl (.int (ab_tl (st s 0)))] s2) (fun s3 => ab_at X (d + 1) 75 8 [some (.inr (1, 0)), some (.inr (4, i1)), some (.inl (.int x2)), some (.inl (.int (x3 + (nI 1)))), some (.inl (.int (ab_tl (st s 0))))] [] s3) ab_px) ab_px) ab_px else (if (st s 0) = 26 then ab_bU (ab_ev X d 43 [.inr (1, 0)] s) (fun s4 => ab_bU (ab_ev X d 76 [.inr (1, 0), .inr (4, i1), .inl (.int x2)] s4) (fun s5 => ab_bU (ab_ev X d 73 [.inr (4, i1), .inl (.int (ab_tl (st s 0)))] s5) (fun s6 => ab_at X (d + 1) 75 8 [some (.inr (1, 0)), some (.inr (4, i1)), some (.inl (.int x2)), some (.inl (.int (x3 + (nI 1)))), some (.inl (.int (ab_tl (st s 0))))] [] s6) ab_px) ab_px) ab_px else some (.inl none, s))) else some (.inl none, s))) := ab_blk [8] 31
/-! 76 MovingNames$Reader.readTerm(LMovingNames$Law;I)V -/
theorem b76 {X : (Nat → Int32) × Nat} {d : Nat} {s : ab_S} {i1 : Nat} {x2 : Int32} : ab_ev X (d + 1) 76 [.inr (1, 0), .inr (4, i1), .inl (.int x2)] s = ab_bU (ab_ev X d 77 [.inr (1, 0), .inr (4, i1), .inl (.int x2)] s) (fun s1 => ab_at X (d + 1) 76 8 [some (.inr (1, 0)), some (.inr (4, i1)), some (.inl (.int x2)), some (.inl (.int (nI 0)))] [] s1) ab_px := ab_blk [8] 8
set_option maxRecDepth 100000 in
theorem b76_8 {X : (Nat → Int32) × Nat} {d : Nat} {s : ab_S} {i1 : Nat} {x2 : Int32} {x3 : Int32} : ab_at X (d + 1) 76 8 [some (.inr (1, 0)), some (.inr (4, i1)), some (.inl (.int x2)), some (.inl (.int x3))] [] s = (if (nI 900) ≤ x3 then some (.inl none, s) else (if (sz s 2) = (nI 0) then (if (st s 0) = 27 then ab_bU (ab_ev X d 43 [.inr (1, 0)] s) (fun s1 => ab_bU (ab_ev X d 77 [.inr (1, 0), .inr (4, i1), .inl (.int x2)] s1) (fun s2 => ab_bU (ab_ev X d 73 [.inr (4, i1), .inl (.int (-nI 8))] s2) (fun s3 => ab_at X (d + 1) 76 8 [some (.inr (1, 0)), some (.inr (4, i1)), some (.inl (.int x2)), some (.inl (.int (x3 + (nI 1))))] [] s3) ab_px) ab_px) ab_px else some (.inl none, s)) else some (.inl none, s))) := ab_blk [8] 23
/-! 77 MovingNames$Reader.readAtom(LMovingNames$Law;I)V -/
set_option maxRecDepth 100000 in
theorem b77 {X : (Nat → Int32) × Nat} {d : Nat} {s : ab_S} {i1 : Nat} {x2 : Int32} : ab_ev X (d + 1) 77 [.inr (1, 0), .inr (4, i1), .inl (.int x2)] s = (if (st s 0) = 2 then ab_bU (ab_ev X d 73 [.inr (4, i1), .inl (.int (sz s 7))] s) (fun s1 => ab_bU (ab_ev X d 43 [.inr (1, 0)] s1) (fun s2 => some (.inl none, s2)) ab_px) ab_px else ab_bI (ab_ev X d 78 [.inr (10, (st s 0))] s) (fun r4 s3 => (if r4 = (nI 0) then (if (st s3 0) = 15 then ab_bI (ab_ev X d 72 [.inr (1, 0), .inl (.int x2)] s3) (fun r6 s5 => (if r6 = (nI 0) then some (.inl none, s5) else ab_bU (ab_ev X d 75 [.inr (1, 0), .inr (4, i1), .inl (.int (x2 + (nI 1)))] s5) (fun s7 => ab_bU (ab_ev X d 54 [.inr (1, 0), .inr (10, 16)] s7) (fun s8 => some (.inl none, s8)) ab_px) ab_px)) ab_px else ab_bU (ab_ev X d 55 [.inr (1, 0), .inl (.int (nI 2))] s3) (fun s9 => some (.inl none, s9)) ab_px) else ab_bU (ab_ev X d 73 [.inr (4, i1), .inl (.int (ab_tl (st s3 0)))] s3) (fun s10 => ab_bU (ab_ev X d 43 [.inr (1, 0)] s10) (fun s11 => some (.inl none, s11)) ab_px) ab_px)) ab_px) := ab_blk [] 28
/-! 78 MovingNames$Token.isReading()Z -/
theorem b78 {X : (Nat → Int32) × Nat} {d : Nat} {s : ab_S} {i0 : Nat} : ab_ev X d 78 [.inr (10, i0)] s = (if (-nI 1) < (ab_tl i0) then some (.inl (some (.inl (.int (nI 0)))), s) else (if (ab_tl i0) < (-nI 5) then some (.inl (some (.inl (.int (nI 0)))), s) else some (.inl (some (.inl (.int (nI 1)))), s))) := ab_blk [] 13
/-! 79 MovingNames$Token.isComparison()Z -/
theorem b79 {X : (Nat → Int32) × Nat} {d : Nat} {s : ab_S} {i0 : Nat} : ab_ev X d 79 [.inr (10, i0)] s = (if (-nI 9) < (ab_tl i0) then some (.inl (some (.inl (.int (nI 0)))), s) else (if (ab_tl i0) < (-nI 11) then some (.inl (some (.inl (.int (nI 0)))), s) else some (.inl (some (.inl (.int (nI 1)))), s))) := ab_blk [] 13
/-! 80 MovingNames$Town.takeOver(LMovingNames$Town;)V -/
set_option maxRecDepth 100000 in
theorem b80 {X : (Nat → Int32) × Nat} {d : Nat} {s : ab_S} {i0 : Nat} {i1 : Nat} : ab_ev X (d + 1) 80 [.inr (2, i0), .inr (2, i1)] s = ab_bU (ab_ev X d 18 [.inr (19, i0), .inr (19, i1)] (wi (wi (wi (wi (wi (wi (wi s 0 i0 ((si s 0) i1)) 1 i0 ((si s 1) i1)) 2 i0 ((si s 2) i1)) 3 i0 ((si s 3) i1)) 4 i0 ((si s 4) i1)) 5 i0 ((si s 5) i1)) 6 i0 ((si s 6) i1))) (fun s1 => ab_bU (ab_ev X d 18 [.inr (20, i0), .inr (20, i1)] s1) (fun s2 => ab_bU (ab_ev X d 18 [.inr (21, i0), .inr (21, i1)] s2) (fun s3 => ab_bU (ab_ev X d 81 [.inr (3, i0), .inr (3, i1)] s3) (fun s4 => ab_bU (ab_ev X d 82 [.inr (4, i0), .inr (4, i1)] s4) (fun s5 => ab_bU (ab_ev X d 83 [.inr (5, i0), .inr (5, i1)] s5) (fun s6 => some (.inl none, s6)) ab_px) ab_px) ab_px) ab_px) ab_px) ab_px := ab_blk [] 61
/-! 81 MovingNames$Rounds.takeOver(LMovingNames$Rounds;)V -/
theorem b81 {X : (Nat → Int32) × Nat} {d : Nat} {s : ab_S} {i0 : Nat} {i1 : Nat} : ab_ev X (d + 1) 81 [.inr (3, i0), .inr (3, i1)] s = ab_bU (ab_ev X d 18 [.inr (22, i0), .inr (22, i1)] s) (fun s1 => ab_bU (ab_ev X d 18 [.inr (23, i0), .inr (23, i1)] s1) (fun s2 => ab_bU (ab_ev X d 18 [.inr (24, i0), .inr (24, i1)] s2) (fun s3 => some (.inl none, (wi s3 7 i0 ((si s3 7) i1)))) ab_px) ab_px) ab_px := ab_blk [] 22
/-! 82 MovingNames$Law.takeOver(LMovingNames$Law;)V -/
theorem b82 {X : (Nat → Int32) × Nat} {d : Nat} {s : ab_S} {i0 : Nat} {i1 : Nat} : ab_ev X (d + 1) 82 [.inr (4, i0), .inr (4, i1)] s = ab_bI (ab_ev X d 19 [.inl (.int ((si s 8) i1)), .inl (.int (nI 900))] s) (fun r2 s1 => ab_os (ab_cpy X 25 i1 (nI 0) 25 i0 (nI 0) r2 s1) (fun s3 => some (.inl none, (wi s3 8 i0 ((si s3 8) i1))))) ab_px := ab_blk [] 20
/-! 83 MovingNames$Deeds.takeOver(LMovingNames$Deeds;)V -/
theorem b83 {X : (Nat → Int32) × Nat} {d : Nat} {s : ab_S} {i0 : Nat} {i1 : Nat} : ab_ev X (d + 1) 83 [.inr (5, i0), .inr (5, i1)] s = ab_bU (ab_ev X d 18 [.inr (27, i0), .inr (27, i1)] s) (fun s1 => some (.inl none, (wi s1 9 i0 ((si s1 9) i1)))) ab_px := ab_blk [] 12
/-! 85 MovingNames.street(II)I -/
theorem b85 {X : (Nat → Int32) × Nat} {d : Nat} {s : ab_S} {x1 : Int32} {x2 : Int32} : ab_ev X (d + 1) 85 [.inr (0, 0), .inl (.int x1), .inl (.int x2)] s = ab_bU (ab_ev X d 86 [.inr (0, 0), .inl (.int x1)] s) (fun s1 => ab_at X (d + 1) 85 6 [some (.inr (0, 0)), some (.inl (.int x1)), some (.inl (.int x2))] [.inl (.int x2)] s1) ab_px := ab_blk [6, 40, 52, 69, 81, 101, 110] 6
theorem b85_6 {X : (Nat → Int32) × Nat} {d : Nat} {s : ab_S} {x1 : Int32} {x2 : Int32} {v0 : Int32} : ab_at X (d + 1) 85 6 [some (.inr (0, 0)), some (.inl (.int x1)), some (.inl (.int x2))] [.inl (.int v0)] s = (if v0 = (nI 0) then ab_at X (d + 1) 85 40 [some (.inr (0, 0)), some (.inl (.int x1)), some (.inl (.int x2))] [] s else (if v0 = (nI 1) then ab_at X (d + 1) 85 52 [some (.inr (0, 0)), some (.inl (.int x1)), some (.inl (.int x2))] [] s else (if v0 = (nI 2) then ab_at X (d + 1) 85 69 [some (.inr (0, 0)), some (.inl (.int x1)), some (.inl (.int x2))] [] s else (if v0 = (nI 3) then ab_at X (d + 1) 85 81 [some (.inr (0, 0)), some (.inl (.int x1)), some (.inl (.int x2))] [] s else (if v0 = (nI 4) then ab_at X (d + 1) 85 101 [some (.inr (0, 0)), some (.inl (.int x1)), some (.inl (.int x2))] [] s else ab_at X (d + 1) 85 110 [some (.inr (0, 0)), some (.inl (.int x1)), some (.inl (.int x2))] [] s))))) := by
  refine (ab_tsw (m := 85) (pc := 6) rfl).trans ?_
  by_cases h0 : v0 = (nI 0)
  · subst h0
    rfl
  rw [if_neg h0]
  by_cases h1 : v0 = (nI 1)
  · subst h1
    rfl
  rw [if_neg h1]
  by_cases h2 : v0 = (nI 2)
  · subst h2
    rfl
  rw [if_neg h2]
  by_cases h3 : v0 = (nI 3)
  · subst h3
    rfl
  rw [if_neg h3]
  by_cases h4 : v0 = (nI 4)
  · subst h4
    rfl
  rw [if_neg h4]
  have g0 : v0.toInt ≠ 0 := fun e => h0 (Int32.toInt_inj.mp (e.trans (by decide)))
  have g1 : v0.toInt ≠ 1 := fun e => h1 (Int32.toInt_inj.mp (e.trans (by decide)))
  have g2 : v0.toInt ≠ 2 := fun e => h2 (Int32.toInt_inj.mp (e.trans (by decide)))
  have g3 : v0.toInt ≠ 3 := fun e => h3 (Int32.toInt_inj.mp (e.trans (by decide)))
  have g4 : v0.toInt ≠ 4 := fun e => h4 (Int32.toInt_inj.mp (e.trans (by decide)))
  exact if_pos (by omega)
theorem b85_40 {X : (Nat → Int32) × Nat} {d : Nat} {s : ab_S} {x1 : Int32} {x2 : Int32} : ab_at X (d + 1) 85 40 [some (.inr (0, 0)), some (.inl (.int x1)), some (.inl (.int x2))] [] s = ab_bI (ab_ev X d 9 [.inr (19, 0), .inl (.int x1)] s) (fun r2 s1 => some (.inl (some (.inl (.int r2))), s1)) ab_px := ab_blk [6, 40, 52, 69, 81, 101, 110] 8
theorem b85_52 {X : (Nat → Int32) × Nat} {d : Nat} {s : ab_S} {x1 : Int32} {x2 : Int32} : ab_at X (d + 1) 85 52 [some (.inr (0, 0)), some (.inl (.int x1)), some (.inl (.int x2))] [] s = ab_bI (ab_ev X d 23 [.inr (2, 0), .inl (.int x1)] s) (fun r2 s1 => (if r2 = (nI 0) then some (.inl (some (.inl (.int (nI 0)))), s1) else some (.inl (some (.inl (.int (nI 1)))), s1))) ab_px := ab_blk [6, 40, 52, 69, 81, 101, 110] 10
theorem b85_69 {X : (Nat → Int32) × Nat} {d : Nat} {s : ab_S} {x1 : Int32} {x2 : Int32} : ab_at X (d + 1) 85 69 [some (.inr (0, 0)), some (.inl (.int x1)), some (.inl (.int x2))] [] s = ab_bI (ab_ev X d 87 [.inr (3, 0), .inl (.int x1)] s) (fun r2 s1 => some (.inl (some (.inl (.int r2))), s1)) ab_px := ab_blk [6, 40, 52, 69, 81, 101, 110] 8
theorem b85_81 {X : (Nat → Int32) × Nat} {d : Nat} {s : ab_S} {x1 : Int32} {x2 : Int32} : ab_at X (d + 1) 85 81 [some (.inr (0, 0)), some (.inl (.int x1)), some (.inl (.int x2))] [] s = ab_bU (ab_ev X d 17 [.inr (6, 0), .inr (2, 0)] s) (fun s1 => ab_bI (ab_ev X d 27 [.inr (6, 0), .inl (.int x1)] s1) (fun r3 s2 => some (.inl (some (.inl (.int r3))), s2)) ab_px) ab_px := ab_blk [6, 40, 52, 69, 81, 101, 110] 12
theorem b85_101 {X : (Nat → Int32) × Nat} {d : Nat} {s : ab_S} {x1 : Int32} {x2 : Int32} : ab_at X (d + 1) 85 101 [some (.inr (0, 0)), some (.inl (.int x1)), some (.inl (.int x2))] [] s = ab_bI (ab_ev X d 88 [.inr (2, 0), .inl (.int x1)] s) (fun r2 s1 => some (.inl (some (.inl (.int r2))), s1)) ab_px := ab_blk [6, 40, 52, 69, 81, 101, 110] 7
theorem b85_110 {X : (Nat → Int32) × Nat} {d : Nat} {s : ab_S} {x1 : Int32} {x2 : Int32} : ab_at X (d + 1) 85 110 [some (.inr (0, 0)), some (.inl (.int x1)), some (.inl (.int x2))] [] s = some (.inr 0, pn (pn s 0 ((sn s 0) + 1)) 1 ((sn s 1) + 6)) := ab_blk [6, 40, 52, 69, 81, 101, 110] 3
/-! 86 MovingNames.needStreet(I)V -/
theorem b86 {X : (Nat → Int32) × Nat} {d : Nat} {s : ab_S} {x1 : Int32} : ab_ev X d 86 [.inr (0, 0), .inl (.int x1)] s = (if x1 < (nI 0) then some (.inr 1, pn (pn s 0 ((sn s 0) + 1)) 1 ((sn s 1) + 6)) else (if x1 < ((si s 1) 0) then some (.inl none, s) else some (.inr 1, pn (pn s 0 ((sn s 0) + 1)) 1 ((sn s 1) + 6)))) := ab_blk [] 10
/-! 87 MovingNames$Rounds.roundsOf(I)I -/
theorem b87 {X : (Nat → Int32) × Nat} {d : Nat} {s : ab_S} {i0 : Nat} {x1 : Int32} : ab_ev X (d + 1) 87 [.inr (3, i0), .inl (.int x1)] s = ab_at X (d + 1) 87 4 [some (.inr (3, i0)), some (.inl (.int x1)), some (.inl (.int (nI 0))), some (.inl (.int (nI 0)))] [] s := ab_blk [4] 6
set_option maxRecDepth 100000 in
theorem b87_4 {X : (Nat → Int32) × Nat} {d : Nat} {s : ab_S} {i0 : Nat} {x1 : Int32} {x2 : Int32} {x3 : Int32} : ab_at X (d + 1) 87 4 [some (.inr (3, i0)), some (.inl (.int x1)), some (.inl (.int x2)), some (.inl (.int x3))] [] s = (if ((si s 7) i0) ≤ x3 then some (.inl (some (.inl (.int x2))), s) else ab_bI (ab_ev X d 64 [.inr (3, i0), .inl (.int x3), .inl (.int x1)] s) (fun r2 s1 => (if r2 = (-nI 1) then ab_at X (d + 1) 87 4 [some (.inr (3, i0)), some (.inl (.int x1)), some (.inl (.int x2)), some (.inl (.int (x3 + (nI 1))))] [] s1 else ab_at X (d + 1) 87 4 [some (.inr (3, i0)), some (.inl (.int x1)), some (.inl (.int (x2 ||| ((nI 1) <<< (x3 &&& 31))))), some (.inl (.int (x3 + (nI 1))))] [] s1)) ab_px) := ab_blk [4] 20
/-! 88 MovingNames$Town.peopleOn(I)I -/
theorem b88 {X : (Nat → Int32) × Nat} {d : Nat} {s : ab_S} {i0 : Nat} {x1 : Int32} : ab_ev X (d + 1) 88 [.inr (2, i0), .inl (.int x1)] s = ab_at X (d + 1) 88 4 [some (.inr (2, i0)), some (.inl (.int x1)), some (.inl (.int (nI 0))), some (.inl (.int (nI 0)))] [] s := ab_blk [4] 6
set_option maxRecDepth 100000 in
theorem b88_4 {X : (Nat → Int32) × Nat} {d : Nat} {s : ab_S} {i0 : Nat} {x1 : Int32} {x2 : Int32} {x3 : Int32} : ab_at X (d + 1) 88 4 [some (.inr (2, i0)), some (.inl (.int x1)), some (.inl (.int x2)), some (.inl (.int x3))] [] s = (if ((si s 3) i0) ≤ x3 then some (.inl (some (.inl (.int x2))), s) else ab_bI (ab_ev X d 9 [.inr (20, i0), .inl (.int x3)] s) (fun r2 s1 => (if r2 = x1 then ab_at X (d + 1) 88 4 [some (.inr (2, i0)), some (.inl (.int x1)), some (.inl (.int (x2 ||| ((nI 1) <<< (x3 &&& 31))))), some (.inl (.int (x3 + (nI 1))))] [] s1 else ab_at X (d + 1) 88 4 [some (.inr (2, i0)), some (.inl (.int x1)), some (.inl (.int x2)), some (.inl (.int (x3 + (nI 1))))] [] s1)) ab_px) := ab_blk [4] 20
/-! 90 MovingNames.round(II)I -/
theorem b90 {X : (Nat → Int32) × Nat} {d : Nat} {s : ab_S} {x1 : Int32} {x2 : Int32} : ab_ev X (d + 1) 90 [.inr (0, 0), .inl (.int x1), .inl (.int x2)] s = ab_bU (ab_ev X d 91 [.inr (0, 0), .inl (.int x1)] s) (fun s1 => ab_at X (d + 1) 90 6 [some (.inr (0, 0)), some (.inl (.int x1)), some (.inl (.int x2))] [.inl (.int x2)] s1) ab_px := ab_blk [6, 32, 44, 59, 79] 6
theorem b90_6 {X : (Nat → Int32) × Nat} {d : Nat} {s : ab_S} {x1 : Int32} {x2 : Int32} {v0 : Int32} : ab_at X (d + 1) 90 6 [some (.inr (0, 0)), some (.inl (.int x1)), some (.inl (.int x2))] [.inl (.int v0)] s = (if v0 = (nI 0) then ab_at X (d + 1) 90 32 [some (.inr (0, 0)), some (.inl (.int x1)), some (.inl (.int x2))] [] s else (if v0 = (nI 1) then ab_at X (d + 1) 90 44 [some (.inr (0, 0)), some (.inl (.int x1)), some (.inl (.int x2))] [] s else (if v0 = (nI 2) then ab_at X (d + 1) 90 59 [some (.inr (0, 0)), some (.inl (.int x1)), some (.inl (.int x2))] [] s else ab_at X (d + 1) 90 79 [some (.inr (0, 0)), some (.inl (.int x1)), some (.inl (.int x2))] [] s))) := by
  refine (ab_tsw (m := 90) (pc := 6) rfl).trans ?_
  by_cases h0 : v0 = (nI 0)
  · subst h0
    rfl
  rw [if_neg h0]
  by_cases h1 : v0 = (nI 1)
  · subst h1
    rfl
  rw [if_neg h1]
  by_cases h2 : v0 = (nI 2)
  · subst h2
    rfl
  rw [if_neg h2]
  have g0 : v0.toInt ≠ 0 := fun e => h0 (Int32.toInt_inj.mp (e.trans (by decide)))
  have g1 : v0.toInt ≠ 1 := fun e => h1 (Int32.toInt_inj.mp (e.trans (by decide)))
  have g2 : v0.toInt ≠ 2 := fun e => h2 (Int32.toInt_inj.mp (e.trans (by decide)))
  exact if_pos (by omega)
theorem b90_32 {X : (Nat → Int32) × Nat} {d : Nat} {s : ab_S} {x1 : Int32} {x2 : Int32} : ab_at X (d + 1) 90 32 [some (.inr (0, 0)), some (.inl (.int x1)), some (.inl (.int x2))] [] s = ab_bI (ab_ev X d 21 [.inr (3, 0), .inl (.int x1)] s) (fun r2 s1 => some (.inl (some (.inl (.int r2))), s1)) ab_px := ab_blk [6, 32, 44, 59, 79] 8
theorem b90_44 {X : (Nat → Int32) × Nat} {d : Nat} {s : ab_S} {x1 : Int32} {x2 : Int32} : ab_at X (d + 1) 90 44 [some (.inr (0, 0)), some (.inl (.int x1)), some (.inl (.int x2))] [] s = ab_bI (ab_ev X d 24 [.inr (3, 0), .inl (.int x1)] s) (fun r2 s1 => ab_bI (ab_ev X d 92 [.inl (.int r2)] s1) (fun r4 s3 => some (.inl (some (.inl (.int r4))), s3)) ab_px) ab_px := ab_blk [6, 32, 44, 59, 79] 9
theorem b90_59 {X : (Nat → Int32) × Nat} {d : Nat} {s : ab_S} {x1 : Int32} {x2 : Int32} : ab_at X (d + 1) 90 59 [some (.inr (0, 0)), some (.inl (.int x1)), some (.inl (.int x2))] [] s = ab_bI (ab_ev X d 24 [.inr (3, 0), .inl (.int x1)] s) (fun r2 s1 => (if (nI 0) ≤ r2 then some (.inl (some (.inl (.int (nI 0)))), s1) else some (.inl (some (.inl (.int (nI 1)))), s1))) ab_px := ab_blk [6, 32, 44, 59, 79] 11
theorem b90_79 {X : (Nat → Int32) × Nat} {d : Nat} {s : ab_S} {x1 : Int32} {x2 : Int32} : ab_at X (d + 1) 90 79 [some (.inr (0, 0)), some (.inl (.int x1)), some (.inl (.int x2))] [] s = (if x2 < (nI 10) then some (.inr 0, pn (pn s 0 ((sn s 0) + 1)) 1 ((sn s 1) + 6)) else (if x2 < (nI 30) then ab_bI (ab_ev X d 22 [.inr (3, 0), .inl (.int x1), .inl (.int (x2 - (nI 10)))] s) (fun r2 s1 => some (.inl (some (.inl (.int r2))), s1)) ab_px else some (.inr 0, pn (pn s 0 ((sn s 0) + 1)) 1 ((sn s 1) + 6)))) := ab_blk [6, 32, 44, 59, 79] 17
/-! 91 MovingNames.needRound(I)V -/
theorem b91 {X : (Nat → Int32) × Nat} {d : Nat} {s : ab_S} {x1 : Int32} : ab_ev X d 91 [.inr (0, 0), .inl (.int x1)] s = (if x1 < (nI 0) then some (.inr 1, pn (pn s 0 ((sn s 0) + 1)) 1 ((sn s 1) + 6)) else (if x1 < ((si s 7) 0) then some (.inl none, s) else some (.inr 1, pn (pn s 0 ((sn s 0) + 1)) 1 ((sn s 1) + 6)))) := ab_blk [] 11
/-! 92 java/lang/Math.abs(I)I -/
theorem b92 {X : (Nat → Int32) × Nat} {d : Nat} {s : ab_S} {x0 : Int32} : ab_ev X d 92 [.inl (.int x0)] s = (if (nI 0) ≤ x0 then some (.inl (some (.inl (.int x0))), s) else some (.inl (some (.inl (.int (-x0)))), s)) := ab_blk [] 8
/-! 94 MovingNames.person(II)I -/
theorem b94 {X : (Nat → Int32) × Nat} {d : Nat} {s : ab_S} {x1 : Int32} {x2 : Int32} : ab_ev X (d + 1) 94 [.inr (0, 0), .inl (.int x1), .inl (.int x2)] s = ab_bU (ab_ev X d 95 [.inr (0, 0), .inl (.int x1)] s) (fun s1 => ab_at X (d + 1) 94 6 [some (.inr (0, 0)), some (.inl (.int x1)), some (.inl (.int x2))] [.inl (.int x2)] s1) ab_px := ab_blk [6, 32, 44, 56, 78] 6
theorem b94_6 {X : (Nat → Int32) × Nat} {d : Nat} {s : ab_S} {x1 : Int32} {x2 : Int32} {v0 : Int32} : ab_at X (d + 1) 94 6 [some (.inr (0, 0)), some (.inl (.int x1)), some (.inl (.int x2))] [.inl (.int v0)] s = (if v0 = (nI 0) then ab_at X (d + 1) 94 32 [some (.inr (0, 0)), some (.inl (.int x1)), some (.inl (.int x2))] [] s else (if v0 = (nI 1) then ab_at X (d + 1) 94 44 [some (.inr (0, 0)), some (.inl (.int x1)), some (.inl (.int x2))] [] s else (if v0 = (nI 2) then ab_at X (d + 1) 94 56 [some (.inr (0, 0)), some (.inl (.int x1)), some (.inl (.int x2))] [] s else ab_at X (d + 1) 94 78 [some (.inr (0, 0)), some (.inl (.int x1)), some (.inl (.int x2))] [] s))) := by
  refine (ab_tsw (m := 94) (pc := 6) rfl).trans ?_
  by_cases h0 : v0 = (nI 0)
  · subst h0
    rfl
  rw [if_neg h0]
  by_cases h1 : v0 = (nI 1)
  · subst h1
    rfl
  rw [if_neg h1]
  by_cases h2 : v0 = (nI 2)
  · subst h2
    rfl
  rw [if_neg h2]
  have g0 : v0.toInt ≠ 0 := fun e => h0 (Int32.toInt_inj.mp (e.trans (by decide)))
  have g1 : v0.toInt ≠ 1 := fun e => h1 (Int32.toInt_inj.mp (e.trans (by decide)))
  have g2 : v0.toInt ≠ 2 := fun e => h2 (Int32.toInt_inj.mp (e.trans (by decide)))
  exact if_pos (by omega)
theorem b94_32 {X : (Nat → Int32) × Nat} {d : Nat} {s : ab_S} {x1 : Int32} {x2 : Int32} : ab_at X (d + 1) 94 32 [some (.inr (0, 0)), some (.inl (.int x1)), some (.inl (.int x2))] [] s = ab_bI (ab_ev X d 9 [.inr (20, 0), .inl (.int x1)] s) (fun r2 s1 => some (.inl (some (.inl (.int r2))), s1)) ab_px := ab_blk [6, 32, 44, 56, 78] 8
theorem b94_44 {X : (Nat → Int32) × Nat} {d : Nat} {s : ab_S} {x1 : Int32} {x2 : Int32} : ab_at X (d + 1) 94 44 [some (.inr (0, 0)), some (.inl (.int x1)), some (.inl (.int x2))] [] s = ab_bI (ab_ev X d 9 [.inr (21, 0), .inl (.int x1)] s) (fun r2 s1 => some (.inl (some (.inl (.int r2))), s1)) ab_px := ab_blk [6, 32, 44, 56, 78] 8
theorem b94_56 {X : (Nat → Int32) × Nat} {d : Nat} {s : ab_S} {x1 : Int32} {x2 : Int32} : ab_at X (d + 1) 94 56 [some (.inr (0, 0)), some (.inl (.int x1)), some (.inl (.int x2))] [] s = ab_bI (ab_ev X d 9 [.inr (20, 0), .inl (.int x1)] s) (fun r2 s1 => ab_bI (ab_ev X d 9 [.inr (19, 0), .inl (.int r2)] s1) (fun r4 s3 => some (.inl (some (.inl (.int r4))), s3)) ab_px) ab_px := ab_blk [6, 32, 44, 56, 78] 12
theorem b94_78 {X : (Nat → Int32) × Nat} {d : Nat} {s : ab_S} {x1 : Int32} {x2 : Int32} : ab_at X (d + 1) 94 78 [some (.inr (0, 0)), some (.inl (.int x1)), some (.inl (.int x2))] [] s = some (.inr 0, pn (pn s 0 ((sn s 0) + 1)) 1 ((sn s 1) + 6)) := ab_blk [6, 32, 44, 56, 78] 3
/-! 95 MovingNames.needPerson(I)V -/
theorem b95 {X : (Nat → Int32) × Nat} {d : Nat} {s : ab_S} {x1 : Int32} : ab_ev X d 95 [.inr (0, 0), .inl (.int x1)] s = (if x1 < (nI 0) then some (.inr 1, pn (pn s 0 ((sn s 0) + 1)) 1 ((sn s 1) + 6)) else (if x1 < ((si s 3) 0) then some (.inl none, s) else some (.inr 1, pn (pn s 0 ((sn s 0) + 1)) 1 ((sn s 1) + 6)))) := ab_blk [] 10
/-! 97 MovingNames.where(I)I -/
theorem b97 {X : (Nat → Int32) × Nat} {d : Nat} {s : ab_S} {x1 : Int32} : ab_ev X (d + 1) 97 [.inr (0, 0), .inl (.int x1)] s = ab_bU (ab_ev X d 98 [.inr (0, 0), .inl (.int x1)] s) (fun s1 => ab_bI (ab_ev X d 99 [.inr (2, 0), .inl (.int x1)] s1) (fun r3 s2 => some (.inl (some (.inl (.int r3))), s2)) ab_px) ab_px := ab_blk [] 10
/-! 98 MovingNames.needName(I)V -/
theorem b98 {X : (Nat → Int32) × Nat} {d : Nat} {s : ab_S} {x1 : Int32} : ab_ev X d 98 [.inr (0, 0), .inl (.int x1)] s = (if x1 < (nI 0) then some (.inr 1, pn (pn s 0 ((sn s 0) + 1)) 1 ((sn s 1) + 6)) else (if x1 < ((si s 1) 0) then some (.inl none, s) else some (.inr 1, pn (pn s 0 ((sn s 0) + 1)) 1 ((sn s 1) + 6)))) := ab_blk [] 10
/-! 99 MovingNames$Town.streetsOf(I)I -/
theorem b99 {X : (Nat → Int32) × Nat} {d : Nat} {s : ab_S} {i0 : Nat} {x1 : Int32} : ab_ev X (d + 1) 99 [.inr (2, i0), .inl (.int x1)] s = ab_at X (d + 1) 99 4 [some (.inr (2, i0)), some (.inl (.int x1)), some (.inl (.int (nI 0))), some (.inl (.int (nI 0)))] [] s := ab_blk [4] 6
set_option maxRecDepth 100000 in
theorem b99_4 {X : (Nat → Int32) × Nat} {d : Nat} {s : ab_S} {i0 : Nat} {x1 : Int32} {x2 : Int32} {x3 : Int32} : ab_at X (d + 1) 99 4 [some (.inr (2, i0)), some (.inl (.int x1)), some (.inl (.int x2)), some (.inl (.int x3))] [] s = (if ((si s 1) i0) ≤ x3 then some (.inl (some (.inl (.int x2))), s) else ab_bI (ab_ev X d 9 [.inr (19, i0), .inl (.int x3)] s) (fun r2 s1 => (if r2 = x1 then ab_at X (d + 1) 99 4 [some (.inr (2, i0)), some (.inl (.int x1)), some (.inl (.int (x2 ||| ((nI 1) <<< (x3 &&& 31))))), some (.inl (.int (x3 + (nI 1))))] [] s1 else ab_at X (d + 1) 99 4 [some (.inr (2, i0)), some (.inl (.int x1)), some (.inl (.int x2)), some (.inl (.int (x3 + (nI 1))))] [] s1)) ab_px) := ab_blk [4] 20
/-! 101 MovingNames.finds(II)I -/
theorem b101 {X : (Nat → Int32) × Nat} {d : Nat} {s : ab_S} {x1 : Int32} {x2 : Int32} : ab_ev X (d + 1) 101 [.inr (0, 0), .inl (.int x1), .inl (.int x2)] s = ab_bU (ab_ev X d 98 [.inr (0, 0), .inl (.int x1)] s) (fun s1 => ab_bU (ab_ev X d 102 [.inr (0, 0), .inl (.int x2)] s1) (fun s2 => ab_bI (ab_ev X d 99 [.inr (2, 0), .inl (.int x1)] s2) (fun r4 s3 => ab_bI (ab_ev X d 104 [.inr (2, 0), .inl (.int x2), .inl (.int r4)] s3) (fun r6 s5 => some (.inl (some (.inl (.int r6))), s5)) ab_px) ab_px) ab_px) ab_px := ab_blk [] 17
/-! 102 MovingNames.needHouse(I)V -/
theorem b102 {X : (Nat → Int32) × Nat} {d : Nat} {s : ab_S} {x1 : Int32} : ab_ev X (d + 1) 102 [.inr (0, 0), .inl (.int x1)] s = ab_bU (ab_ev X d 103 [.inr (0, 0), .inl (.int x1), .inl (.int (nI 1)), .inl (.int ((si s 2) 0))] s) (fun s1 => some (.inl none, s1)) ab_px := ab_blk [] 10
/-! 103 MovingNames.needWithin(III)V -/
theorem b103 {X : (Nat → Int32) × Nat} {d : Nat} {s : ab_S} {x1 : Int32} {x2 : Int32} {x3 : Int32} : ab_ev X d 103 [.inr (0, 0), .inl (.int x1), .inl (.int x2), .inl (.int x3)] s = (if x1 < x2 then some (.inr 0, pn (pn s 0 ((sn s 0) + 1)) 1 ((sn s 1) + 6)) else (if x1 ≤ x3 then some (.inl none, s) else some (.inr 0, pn (pn s 0 ((sn s 0) + 1)) 1 ((sn s 1) + 6)))) := ab_blk [] 9
/-! 104 MovingNames$Town.peopleIn(II)I -/
theorem b104 {X : (Nat → Int32) × Nat} {d : Nat} {s : ab_S} {i0 : Nat} {x1 : Int32} {x2 : Int32} : ab_ev X (d + 1) 104 [.inr (2, i0), .inl (.int x1), .inl (.int x2)] s = ab_at X (d + 1) 104 5 [some (.inr (2, i0)), some (.inl (.int x1)), some (.inl (.int x2)), some (.inl (.int (nI 0))), some (.inl (.int (nI 0)))] [] s := ab_blk [5] 6
set_option maxRecDepth 100000 in
theorem b104_5 {X : (Nat → Int32) × Nat} {d : Nat} {s : ab_S} {i0 : Nat} {x1 : Int32} {x2 : Int32} {x3 : Int32} {x4 : Int32} : ab_at X (d + 1) 104 5 [some (.inr (2, i0)), some (.inl (.int x1)), some (.inl (.int x2)), some (.inl (.int x3)), some (.inl (.int x4))] [] s = (if ((si s 3) i0) ≤ x4 then some (.inl (some (.inl (.int x3))), s) else ab_bI (ab_ev X d 9 [.inr (21, i0), .inl (.int x4)] s) (fun r2 s1 => (if r2 = x1 then ab_bI (ab_ev X d 9 [.inr (20, i0), .inl (.int x4)] s1) (fun r4 s3 => (if ((x2 >>> (r4 &&& 31)) &&& (nI 1)) = (nI 0) then ab_at X (d + 1) 104 5 [some (.inr (2, i0)), some (.inl (.int x1)), some (.inl (.int x2)), some (.inl (.int x3)), some (.inl (.int (x4 + (nI 1))))] [] s3 else ab_at X (d + 1) 104 5 [some (.inr (2, i0)), some (.inl (.int x1)), some (.inl (.int x2)), some (.inl (.int (x3 ||| ((nI 1) <<< (x4 &&& 31))))), some (.inl (.int (x4 + (nI 1))))] [] s3)) ab_px else ab_at X (d + 1) 104 5 [some (.inr (2, i0)), some (.inl (.int x1)), some (.inl (.int x2)), some (.inl (.int x3)), some (.inl (.int (x4 + (nI 1))))] [] s1)) ab_px) := ab_blk [5] 29
/-! 106 MovingNames.nameIn(II)I -/
set_option maxRecDepth 100000 in
theorem b106 {X : (Nat → Int32) × Nat} {d : Nat} {s : ab_S} {x1 : Int32} {x2 : Int32} : ab_ev X (d + 1) 106 [.inr (0, 0), .inl (.int x1), .inl (.int x2)] s = ab_bU (ab_ev X d 86 [.inr (0, 0), .inl (.int x1)] s) (fun s1 => ab_bU (ab_ev X d 107 [.inr (0, 0), .inl (.int x2)] s1) (fun s2 => ab_bU (ab_ev X d 17 [.inr (6, 0), .inr (2, 0)] s2) (fun s3 => ab_bI (ab_ev X d 108 [.inr (6, 0), .inl (.int x1), .inl (.int (-x2))] s3) (fun r5 s4 => ab_bI (ab_ev X d 9 [.inr (28, 0), .inl (.int r5)] s4) (fun r7 s6 => some (.inl (some (.inl (.int r7))), s6)) ab_px) ab_px) ab_px) ab_px) ab_px := ab_blk [] 24
/-! 107 MovingNames.needReach(I)V -/
theorem b107 {X : (Nat → Int32) × Nat} {d : Nat} {s : ab_S} {x1 : Int32} : ab_ev X (d + 1) 107 [.inr (0, 0), .inl (.int x1)] s = ab_bU (ab_ev X d 103 [.inr (0, 0), .inl (.int x1), .inl (.int (-nI 9999)), .inl (.int (nI 9999))] s) (fun s1 => some (.inl none, s1)) ab_px := ab_blk [] 8
/-! 108 MovingNames$Outlook.ahead(II)I -/
set_option maxRecDepth 100000 in
theorem b108 {X : (Nat → Int32) × Nat} {d : Nat} {s : ab_S} {x1 : Int32} {x2 : Int32} : ab_ev X (d + 1) 108 [.inr (6, 0), .inl (.int x1), .inl (.int x2)] s = ab_bI (ab_ev X d 27 [.inr (6, 0), .inl (.int x1)] s) (fun r2 s1 => (if r2 ≤ (nI 0) then ab_at X (d + 1) 108 27 [some (.inr (6, 0)), some (.inl (.int x1)), some (.inl (.int x2)), some (.inl (.int r2)), some (.inl (.int (nI 0))), some (.inl (.int x1)), some (.inl (.int (nI 0)))] [] s1 else ab_bI (ab_ev X d 25 [.inl (.int x2), .inl (.int r2)] s1) (fun r4 s3 => ab_at X (d + 1) 108 27 [some (.inr (6, 0)), some (.inl (.int x1)), some (.inl (.int x2)), some (.inl (.int r2)), some (.inl (.int r4)), some (.inl (.int x1)), some (.inl (.int (nI 0)))] [] s3) ab_px)) ab_px := ab_blk [27] 17
theorem b108_27 {X : (Nat → Int32) × Nat} {d : Nat} {s : ab_S} {x1 : Int32} {x2 : Int32} {x3 : Int32} {x4 : Int32} {x5 : Int32} {x6 : Int32} : ab_at X (d + 1) 108 27 [some (.inr (6, 0)), some (.inl (.int x1)), some (.inl (.int x2)), some (.inl (.int x3)), some (.inl (.int x4)), some (.inl (.int x5)), some (.inl (.int x6))] [] s = (if x4 ≤ x6 then some (.inl (some (.inl (.int x5))), s) else ab_bI (ab_ev X d 9 [.inr (29, 0), .inl (.int x5)] s) (fun r2 s1 => ab_at X (d + 1) 108 27 [some (.inr (6, 0)), some (.inl (.int x1)), some (.inl (.int x2)), some (.inl (.int x3)), some (.inl (.int x4)), some (.inl (.int r2)), some (.inl (.int (x6 + (nI 1))))] [] s1) ab_px) := ab_blk [27] 12
/-! 110 MovingNames.goesTo(II)I -/
theorem b110 {X : (Nat → Int32) × Nat} {d : Nat} {s : ab_S} {x1 : Int32} {x2 : Int32} : ab_ev X (d + 1) 110 [.inr (0, 0), .inl (.int x1), .inl (.int x2)] s = ab_bU (ab_ev X d 86 [.inr (0, 0), .inl (.int x1)] s) (fun s1 => ab_bU (ab_ev X d 107 [.inr (0, 0), .inl (.int x2)] s1) (fun s2 => ab_bU (ab_ev X d 17 [.inr (6, 0), .inr (2, 0)] s2) (fun s3 => ab_bI (ab_ev X d 108 [.inr (6, 0), .inl (.int x1), .inl (.int x2)] s3) (fun r5 s4 => some (.inl (some (.inl (.int r5))), s4)) ab_px) ab_px) ab_px) ab_px := ab_blk [] 19
/-! 112 MovingNames.nights(I)I -/
theorem b112 {X : (Nat → Int32) × Nat} {d : Nat} {s : ab_S} {x1 : Int32} : ab_ev X (d + 1) 112 [.inr (0, 0), .inl (.int x1)] s = ab_bU (ab_ev X d 103 [.inr (0, 0), .inl (.int x1), .inl (.int (nI 1)), .inl (.int (nI 99))] s) (fun s1 => ab_bI (ab_ev X d 113 [.inr (2, 0), .inl (.int x1), .inr (6, 0)] s1) (fun r3 s2 => some (.inl (some (.inl (.int r3))), s2)) ab_px) ab_px := ab_blk [] 14
/-! 113 MovingNames$Town.passNights(ILMovingNames$Outlook;)I -/
theorem b113 {X : (Nat → Int32) × Nat} {d : Nat} {s : ab_S} {i0 : Nat} {x1 : Int32} : ab_ev X (d + 1) 113 [.inr (2, i0), .inl (.int x1), .inr (6, 0)] s = ab_bI (ab_ev X d 6 [.inr (2, i0), .inl (.int x1)] s) (fun r2 s1 => ab_bU (ab_ev X d 114 [.inr (2, i0), .inl (.int r2), .inr (6, 0)] s1) (fun s3 => ab_bU (ab_ev X d 116 [.inr (5, i0), .inl (.int (nI 1)), .inl (.int x1), .inl (.int r2), .inl (.int (nI 0))] (wi (wi s3 4 i0 (((si s3 4) i0) + x1)) 5 i0 (((si s3 5) i0) + r2))) (fun s4 => some (.inl (some (.inl (.int r2))), s4)) ab_px) ab_px) ab_px := ab_blk [] 31
/-! 114 MovingNames$Town.goOn(ILMovingNames$Outlook;)V -/
theorem b114 {X : (Nat → Int32) × Nat} {d : Nat} {s : ab_S} {i0 : Nat} {x1 : Int32} : ab_ev X (d + 1) 114 [.inr (2, i0), .inl (.int x1), .inr (6, 0)] s = ab_bU (ab_ev X d 17 [.inr (6, 0), .inr (2, i0)] s) (fun s1 => ab_bU (ab_ev X d 115 [.inr (6, 0), .inl (.int x1)] s1) (fun s2 => ab_at X (d + 1) 114 12 [some (.inr (2, i0)), some (.inl (.int x1)), some (.inr (6, 0)), some (.inl (.int (nI 0)))] [] s2) ab_px) ab_px := ab_blk [12] 10
theorem b114_12 {X : (Nat → Int32) × Nat} {d : Nat} {s : ab_S} {i0 : Nat} {x1 : Int32} {x3 : Int32} : ab_at X (d + 1) 114 12 [some (.inr (2, i0)), some (.inl (.int x1)), some (.inr (6, 0)), some (.inl (.int x3))] [] s = (if ((si s 1) i0) ≤ x3 then some (.inl none, s) else ab_bI (ab_ev X d 32 [.inr (6, 0), .inl (.int x3)] s) (fun r2 s1 => ab_bU (ab_ev X d 3 [.inr (19, i0), .inl (.int x3), .inl (.int r2)] s1) (fun s3 => ab_at X (d + 1) 114 12 [some (.inr (2, i0)), some (.inl (.int x1)), some (.inr (6, 0)), some (.inl (.int (x3 + (nI 1))))] [] s3) ab_px) ab_px) := ab_blk [12] 15
/-! 115 MovingNames$Outlook.leap(I)V -/
theorem b115 {X : (Nat → Int32) × Nat} {d : Nat} {s : ab_S} {x1 : Int32} : ab_ev X (d + 1) 115 [.inr (6, 0), .inl (.int x1)] s = ab_at X (d + 1) 115 2 [some (.inr (6, 0)), some (.inl (.int x1)), some (.inl (.int (nI 0)))] [] s := ab_blk [2] 4
theorem b115_2 {X : (Nat → Int32) × Nat} {d : Nat} {s : ab_S} {x1 : Int32} {x2 : Int32} : ab_at X (d + 1) 115 2 [some (.inr (6, 0)), some (.inl (.int x1)), some (.inl (.int x2))] [] s = (if (sz s 8) ≤ x2 then some (.inl none, s) else ab_bI (ab_ev X d 108 [.inr (6, 0), .inl (.int x2), .inl (.int (-x1))] s) (fun r2 s1 => ab_bU (ab_ev X d 3 [.inr (31, 0), .inl (.int x2), .inl (.int r2)] s1) (fun s3 => ab_at X (d + 1) 115 2 [some (.inr (6, 0)), some (.inl (.int x1)), some (.inl (.int (x2 + (nI 1))))] [] s3) ab_px) ab_px) := ab_blk [2] 17
/-! 116 MovingNames$Deeds.note(IIII)V -/
set_option maxRecDepth 100000 in
theorem b116 {X : (Nat → Int32) × Nat} {d : Nat} {s : ab_S} {i0 : Nat} {x1 : Int32} {x2 : Int32} {x3 : Int32} {x4 : Int32} : ab_ev X (d + 1) 116 [.inr (5, i0), .inl (.int x1), .inl (.int x2), .inl (.int x3), .inl (.int x4)] s = (if ((si s 9) i0) < (nI 10) then ab_bU (ab_ev X d 3 [.inr (27, i0), .inl (.int (((si s 9) i0) * (nI 4))), .inl (.int x1)] s) (fun s1 => ab_bU (ab_ev X d 3 [.inr (27, i0), .inl (.int ((((si s1 9) i0) * (nI 4)) + (nI 1))), .inl (.int x2)] s1) (fun s2 => ab_bU (ab_ev X d 3 [.inr (27, i0), .inl (.int ((((si s2 9) i0) * (nI 4)) + (nI 2))), .inl (.int x3)] s2) (fun s3 => ab_bU (ab_ev X d 3 [.inr (27, i0), .inl (.int ((((si s3 9) i0) * (nI 4)) + (nI 3))), .inl (.int x4)] s3) (fun s4 => some (.inl none, (wi s4 9 i0 (((si s4 9) i0) + (nI 1))))) ab_px) ab_px) ab_px) ab_px else ab_os (ab_cpy X 27 i0 (nI 4) 27 i0 (nI 0) ((nI 40) - (nI 4)) s) (fun s5 => ab_bU (ab_ev X d 3 [.inr (27, i0), .inl (.int (((si (wi s5 9 i0 (nI 9)) 9) i0) * (nI 4))), .inl (.int x1)] (wi s5 9 i0 (nI 9))) (fun s6 => ab_bU (ab_ev X d 3 [.inr (27, i0), .inl (.int ((((si s6 9) i0) * (nI 4)) + (nI 1))), .inl (.int x2)] s6) (fun s7 => ab_bU (ab_ev X d 3 [.inr (27, i0), .inl (.int ((((si s7 9) i0) * (nI 4)) + (nI 2))), .inl (.int x3)] s7) (fun s8 => ab_bU (ab_ev X d 3 [.inr (27, i0), .inl (.int ((((si s8 9) i0) * (nI 4)) + (nI 3))), .inl (.int x4)] s8) (fun s9 => some (.inl none, (wi s9 9 i0 (((si s9 9) i0) + (nI 1))))) ab_px) ab_px) ab_px) ab_px)) := ab_blk [] 66
/-! 118 MovingNames.movesIn(I)I -/
theorem b118 {X : (Nat → Int32) × Nat} {d : Nat} {s : ab_S} {x1 : Int32} : ab_ev X (d + 1) 118 [.inr (0, 0), .inl (.int x1)] s = ab_bU (ab_ev X d 103 [.inr (0, 0), .inl (.int x1), .inl (.int (nI 0)), .inl (.int (nI 999))] s) (fun s1 => ab_bI (ab_ev X d 6 [.inr (2, 0), .inl (.int x1)] s1) (fun r3 s2 => some (.inl (some (.inl (.int r3))), s2)) ab_px) ab_px := ab_blk [] 12
/-! 120 MovingNames.nightsFor(I)I -/
theorem b120 {X : (Nat → Int32) × Nat} {d : Nat} {s : ab_S} {x1 : Int32} : ab_ev X (d + 1) 120 [.inr (0, 0), .inl (.int x1)] s = ab_bU (ab_ev X d 103 [.inr (0, 0), .inl (.int x1), .inl (.int (nI 0)), .inl (.int (nI 999))] s) (fun s1 => ab_bI (ab_ev X d 121 [.inr (2, 0), .inl (.int x1)] s1) (fun r3 s2 => some (.inl (some (.inl (.int r3))), s2)) ab_px) ab_px := ab_blk [] 12
/-! 121 MovingNames$Town.nightsTill(I)I -/
theorem b121 {X : (Nat → Int32) × Nat} {d : Nat} {s : ab_S} {i0 : Nat} {x1 : Int32} : ab_ev X (d + 1) 121 [.inr (2, i0), .inl (.int x1)] s = ab_bI (ab_ev X d 7 [.inr (2, i0)] s) (fun r2 s1 => ab_at X (d + 1) 121 10 [some (.inr (2, i0)), some (.inl (.int x1)), some (.inl (.int r2)), some (.inl (.int (nI 0))), some (.inl (.int (nI 0)))] [] s1) ab_px := ab_blk [10] 9
set_option maxRecDepth 100000 in
theorem b121_10 {X : (Nat → Int32) × Nat} {d : Nat} {s : ab_S} {i0 : Nat} {x1 : Int32} {x2 : Int32} {x3 : Int32} {x4 : Int32} : ab_at X (d + 1) 121 10 [some (.inr (2, i0)), some (.inl (.int x1)), some (.inl (.int x2)), some (.inl (.int x3)), some (.inl (.int x4))] [] s = (if (nI 999) ≤ x4 then (if x1 = (nI 0) then some (.inl (some (.inl (.int (nI 0)))), s) else some (.inl (some (.inl (.int (-nI 1)))), s)) else (if x1 ≤ x3 then (if x1 = (nI 0) then some (.inl (some (.inl (.int (nI 0)))), s) else some (.inl (some (.inl (.int (-nI 1)))), s)) else ab_bI (ab_ev X d 10 [.inr (4, i0), .inl (.int (((si s 4) i0) + x4)), .inl (.int (((si s 5) i0) + x3)), .inl (.int ((si s 3) i0)), .inl (.int x2)] s) (fun r2 s1 => (if r2 = (nI 0) then (if (x3 + (nI 1)) = x1 then some (.inl (some (.inl (.int (x4 + (nI 1))))), s1) else ab_at X (d + 1) 121 10 [some (.inr (2, i0)), some (.inl (.int x1)), some (.inl (.int x2)), some (.inl (.int (x3 + (nI 1)))), some (.inl (.int (x4 + (nI 1))))] [] s1) else ab_at X (d + 1) 121 10 [some (.inr (2, i0)), some (.inl (.int x1)), some (.inl (.int x2)), some (.inl (.int x3)), some (.inl (.int (x4 + (nI 1))))] [] s1)) ab_px)) := ab_blk [10] 31
/-! 123 MovingNames.hang(II)I -/
theorem b123 {X : (Nat → Int32) × Nat} {d : Nat} {s : ab_S} {x1 : Int32} {x2 : Int32} : ab_ev X (d + 1) 123 [.inr (0, 0), .inl (.int x1), .inl (.int x2)] s = ab_bU (ab_ev X d 86 [.inr (0, 0), .inl (.int x1)] s) (fun s1 => ab_bU (ab_ev X d 98 [.inr (0, 0), .inl (.int x2)] s1) (fun s2 => ab_bI (ab_ev X d 124 [.inr (2, 0), .inl (.int x1), .inl (.int x2)] s2) (fun r4 s3 => some (.inl (some (.inl (.int r4))), s3)) ab_px) ab_px) ab_px := ab_blk [] 14
/-! 124 MovingNames$Town.hangSign(II)I -/
theorem b124 {X : (Nat → Int32) × Nat} {d : Nat} {s : ab_S} {i0 : Nat} {x1 : Int32} {x2 : Int32} : ab_ev X (d + 1) 124 [.inr (2, i0), .inl (.int x1), .inl (.int x2)] s = ab_bI (ab_ev X d 9 [.inr (19, i0), .inl (.int x1)] s) (fun r2 s1 => ab_bU (ab_ev X d 3 [.inr (19, i0), .inl (.int x1), .inl (.int x2)] s1) (fun s3 => ab_bU (ab_ev X d 116 [.inr (5, i0), .inl (.int (nI 2)), .inl (.int x1), .inl (.int r2), .inl (.int (nI 0))] s3) (fun s4 => some (.inl (some (.inl (.int r2))), s4)) ab_px) ab_px) ab_px := ab_blk [] 21
/-! 126 MovingNames.change(II)I -/
theorem b126 {X : (Nat → Int32) × Nat} {d : Nat} {s : ab_S} {x1 : Int32} {x2 : Int32} : ab_ev X (d + 1) 126 [.inr (0, 0), .inl (.int x1), .inl (.int x2)] s = ab_bU (ab_ev X d 127 [.inr (0, 0), .inl (.int x1), .inl (.int x2)] s) (fun s1 => ab_bU (ab_ev X d 128 [.inr (2, 0), .inl (.int x1), .inl (.int x2)] s1) (fun s2 => ab_bI (ab_ev X d 7 [.inr (2, 0)] s2) (fun r4 s3 => some (.inl (some (.inl (.int r4))), s3)) ab_px) ab_px) ab_px := ab_blk [] 15
/-! 127 MovingNames.needTwoStreets(II)V -/
theorem b127 {X : (Nat → Int32) × Nat} {d : Nat} {s : ab_S} {x1 : Int32} {x2 : Int32} : ab_ev X (d + 1) 127 [.inr (0, 0), .inl (.int x1), .inl (.int x2)] s = ab_bU (ab_ev X d 86 [.inr (0, 0), .inl (.int x1)] s) (fun s1 => ab_bU (ab_ev X d 86 [.inr (0, 0), .inl (.int x2)] s1) (fun s2 => (if x1 = x2 then some (.inr 0, pn (pn s2 0 ((sn s2 0) + 1)) 1 ((sn s2 1) + 6)) else some (.inl none, s2))) ab_px) ab_px := ab_blk [] 12
/-! 128 MovingNames$Town.exchangeSigns(II)V -/
theorem b128 {X : (Nat → Int32) × Nat} {d : Nat} {s : ab_S} {i0 : Nat} {x1 : Int32} {x2 : Int32} : ab_ev X (d + 1) 128 [.inr (2, i0), .inl (.int x1), .inl (.int x2)] s = ab_bU (ab_ev X d 129 [.inr (2, i0), .inl (.int x1), .inl (.int x2)] s) (fun s1 => ab_bU (ab_ev X d 116 [.inr (5, i0), .inl (.int (nI 3)), .inl (.int x1), .inl (.int x2), .inl (.int (nI 0))] s1) (fun s2 => some (.inl none, s2)) ab_px) ab_px := ab_blk [] 14
/-! 129 MovingNames$Town.swapNames(II)V -/
theorem b129 {X : (Nat → Int32) × Nat} {d : Nat} {s : ab_S} {i0 : Nat} {x1 : Int32} {x2 : Int32} : ab_ev X (d + 1) 129 [.inr (2, i0), .inl (.int x1), .inl (.int x2)] s = ab_bI (ab_ev X d 9 [.inr (19, i0), .inl (.int x1)] s) (fun r2 s1 => ab_bI (ab_ev X d 9 [.inr (19, i0), .inl (.int x2)] s1) (fun r4 s3 => ab_bU (ab_ev X d 3 [.inr (19, i0), .inl (.int x1), .inl (.int r4)] s3) (fun s5 => ab_bU (ab_ev X d 3 [.inr (19, i0), .inl (.int x2), .inl (.int r2)] s5) (fun s6 => some (.inl none, s6)) ab_px) ab_px) ab_px) ab_px := ab_blk [] 21
/-! 131 MovingNames.letIn(III)I -/
set_option maxRecDepth 100000 in
theorem b131 {X : (Nat → Int32) × Nat} {d : Nat} {s : ab_S} {x1 : Int32} {x2 : Int32} {x3 : Int32} : ab_ev X (d + 1) 131 [.inr (0, 0), .inl (.int x1), .inl (.int x2), .inl (.int x3)] s = ab_bU (ab_ev X d 86 [.inr (0, 0), .inl (.int x1)] s) (fun s1 => ab_bU (ab_ev X d 91 [.inr (0, 0), .inl (.int x2)] s1) (fun s2 => ab_bI (ab_ev X d 64 [.inr (3, 0), .inl (.int x2), .inl (.int x1)] s2) (fun r4 s3 => (if r4 = (-nI 1) then ab_bI (ab_ev X d 21 [.inr (3, 0), .inl (.int x2)] s3) (fun r6 s5 => ab_bU (ab_ev X d 103 [.inr (0, 0), .inl (.int x3), .inl (.int (nI 0)), .inl (.int r6)] s5) (fun s7 => ab_bI (ab_ev X d 132 [.inr (2, 0), .inl (.int x1), .inl (.int x2), .inl (.int x3)] s7) (fun r9 s8 => some (.inl (some (.inl (.int r9))), s8)) ab_px) ab_px) ab_px else some (.inr 2, pn (pn s3 0 ((sn s3 0) + 1)) 1 ((sn s3 1) + 6)))) ab_px) ab_px) ab_px := ab_blk [] 32
/-! 132 MovingNames$Town.join(III)I -/
theorem b132 {X : (Nat → Int32) × Nat} {d : Nat} {s : ab_S} {i0 : Nat} {x1 : Int32} {x2 : Int32} {x3 : Int32} : ab_ev X (d + 1) 132 [.inr (2, i0), .inl (.int x1), .inl (.int x2), .inl (.int x3)] s = ab_bU (ab_ev X d 65 [.inr (3, i0), .inl (.int x2), .inl (.int x3), .inl (.int x1)] s) (fun s1 => ab_bU (ab_ev X d 116 [.inr (5, i0), .inl (.int (nI 4)), .inl (.int x1), .inl (.int x2), .inl (.int x3)] s1) (fun s2 => ab_bI (ab_ev X d 21 [.inr (3, i0), .inl (.int x2)] s2) (fun r4 s3 => some (.inl (some (.inl (.int r4))), s3)) ab_px) ab_px) ab_px := ab_blk [] 20
/-! 134 MovingNames.takeOut(II)I -/
set_option maxRecDepth 100000 in
theorem b134 {X : (Nat → Int32) × Nat} {d : Nat} {s : ab_S} {x1 : Int32} {x2 : Int32} : ab_ev X (d + 1) 134 [.inr (0, 0), .inl (.int x1), .inl (.int x2)] s = ab_bU (ab_ev X d 86 [.inr (0, 0), .inl (.int x1)] s) (fun s1 => ab_bU (ab_ev X d 91 [.inr (0, 0), .inl (.int x2)] s1) (fun s2 => ab_bI (ab_ev X d 64 [.inr (3, 0), .inl (.int x2), .inl (.int x1)] s2) (fun r4 s3 => (if r4 = (-nI 1) then some (.inr 2, pn (pn s3 0 ((sn s3 0) + 1)) 1 ((sn s3 1) + 6)) else ab_bI (ab_ev X d 135 [.inr (2, 0), .inl (.int x1), .inl (.int x2)] s3) (fun r6 s5 => some (.inl (some (.inl (.int r6))), s5)) ab_px)) ab_px) ab_px) ab_px := ab_blk [] 22
/-! 135 MovingNames$Town.leave(II)I -/
set_option maxRecDepth 100000 in
theorem b135 {X : (Nat → Int32) × Nat} {d : Nat} {s : ab_S} {i0 : Nat} {x1 : Int32} {x2 : Int32} : ab_ev X (d + 1) 135 [.inr (2, i0), .inl (.int x1), .inl (.int x2)] s = ab_bI (ab_ev X d 64 [.inr (3, i0), .inl (.int x2), .inl (.int x1)] s) (fun r2 s1 => ab_bU (ab_ev X d 136 [.inr (3, i0), .inl (.int x2), .inl (.int r2)] s1) (fun s3 => ab_bU (ab_ev X d 116 [.inr (5, i0), .inl (.int (nI 5)), .inl (.int x1), .inl (.int x2), .inl (.int r2)] s3) (fun s4 => ab_bI (ab_ev X d 21 [.inr (3, i0), .inl (.int x2)] s4) (fun r6 s5 => some (.inl (some (.inl (.int r6))), s5)) ab_px) ab_px) ab_px) ab_px := ab_blk [] 25
/-! 136 MovingNames$Rounds.remove(II)V -/
theorem b136 {X : (Nat → Int32) × Nat} {d : Nat} {s : ab_S} {i0 : Nat} {x1 : Int32} {x2 : Int32} : ab_ev X (d + 1) 136 [.inr (3, i0), .inl (.int x1), .inl (.int x2)] s = ab_bI (ab_ev X d 21 [.inr (3, i0), .inl (.int x1)] s) (fun r2 s1 => (if (nI 0) < r2 then ab_at X (d + 1) 136 14 [some (.inr (3, i0)), some (.inl (.int x1)), some (.inl (.int x2)), some (.inl (.int r2)), some (.inl (.int x2))] [] s1 else some (.inl none, s1))) ab_px := ab_blk [14] 10
set_option maxRecDepth 100000 in
theorem b136_14 {X : (Nat → Int32) × Nat} {d : Nat} {s : ab_S} {i0 : Nat} {x1 : Int32} {x2 : Int32} {x3 : Int32} {x4 : Int32} : ab_at X (d + 1) 136 14 [some (.inr (3, i0)), some (.inl (.int x1)), some (.inl (.int x2)), some (.inl (.int x3)), some (.inl (.int x4))] [] s = (if (x3 - (nI 1)) ≤ x4 then ab_bU (ab_ev X d 3 [.inr (23, i0), .inl (.int x1), .inl (.int (x3 - (nI 1)))] s) (fun s1 => some (.inl none, s1)) ab_px else ab_bI (ab_ev X d 22 [.inr (3, i0), .inl (.int x1), .inl (.int (x4 + (nI 1)))] s) (fun r3 s2 => ab_bU (ab_ev X d 3 [.inr (22, i0), .inl (.int ((x1 * (nI 20)) + x4)), .inl (.int r3)] s2) (fun s4 => ab_at X (d + 1) 136 14 [some (.inr (3, i0)), some (.inl (.int x1)), some (.inl (.int x2)), some (.inl (.int x3)), some (.inl (.int (x4 + (nI 1))))] [] s4) ab_px) ab_px) := ab_blk [14] 23
/-! 138 MovingNames.blind(I)I -/
theorem b138 {X : (Nat → Int32) × Nat} {d : Nat} {s : ab_S} {x1 : Int32} : ab_ev X (d + 1) 138 [.inr (0, 0), .inl (.int x1)] s = ab_bU (ab_ev X d 86 [.inr (0, 0), .inl (.int x1)] s) (fun s1 => ab_bI (ab_ev X d 139 [.inr (2, 0), .inl (.int x1)] s1) (fun r3 s2 => some (.inl (some (.inl (.int r3))), s2)) ab_px) ab_px := ab_blk [] 10
/-! 139 MovingNames$Town.turnBlind(I)I -/
theorem b139 {X : (Nat → Int32) × Nat} {d : Nat} {s : ab_S} {i0 : Nat} {x1 : Int32} : ab_ev X (d + 1) 139 [.inr (2, i0), .inl (.int x1)] s = ab_bU (ab_ev X d 116 [.inr (5, i0), .inl (.int (nI 6)), .inl (.int x1), .inl (.int (nI 0)), .inl (.int (nI 0))] (wi s 6 i0 (((si s 6) i0) ^^^ ((nI 1) <<< (x1 &&& 31))))) (fun s1 => ab_bI (ab_ev X d 23 [.inr (2, i0), .inl (.int x1)] s1) (fun r3 s2 => (if r3 = (nI 0) then some (.inl (some (.inl (.int (nI 0)))), s2) else some (.inl (some (.inl (.int (nI 1)))), s2))) ab_px) ab_px := ab_blk [] 24
/-! 141 MovingNames.moves(III)I -/
theorem b141 {X : (Nat → Int32) × Nat} {d : Nat} {s : ab_S} {x1 : Int32} {x2 : Int32} {x3 : Int32} : ab_ev X (d + 1) 141 [.inr (0, 0), .inl (.int x1), .inl (.int x2), .inl (.int x3)] s = ab_bU (ab_ev X d 95 [.inr (0, 0), .inl (.int x1)] s) (fun s1 => ab_bU (ab_ev X d 86 [.inr (0, 0), .inl (.int x2)] s1) (fun s2 => ab_bU (ab_ev X d 102 [.inr (0, 0), .inl (.int x3)] s2) (fun s3 => ab_bI (ab_ev X d 142 [.inr (2, 0), .inl (.int x1), .inl (.int x2), .inl (.int x3)] s3) (fun r5 s4 => some (.inl (some (.inl (.int r5))), s4)) ab_px) ab_px) ab_px) ab_px := ab_blk [] 18
/-! 142 MovingNames$Town.moveHouse(III)I -/
set_option maxRecDepth 100000 in
theorem b142 {X : (Nat → Int32) × Nat} {d : Nat} {s : ab_S} {i0 : Nat} {x1 : Int32} {x2 : Int32} {x3 : Int32} : ab_ev X (d + 1) 142 [.inr (2, i0), .inl (.int x1), .inl (.int x2), .inl (.int x3)] s = ab_bI (ab_ev X d 9 [.inr (20, i0), .inl (.int x1)] s) (fun r2 s1 => ab_bI (ab_ev X d 9 [.inr (21, i0), .inl (.int x1)] s1) (fun r4 s3 => ab_bU (ab_ev X d 116 [.inr (5, i0), .inl (.int (nI 7)), .inl (.int x1), .inl (.int r2), .inl (.int r4)] s3) (fun s5 => ab_bU (ab_ev X d 3 [.inr (20, i0), .inl (.int x1), .inl (.int x2)] s5) (fun s6 => ab_bU (ab_ev X d 3 [.inr (21, i0), .inl (.int x1), .inl (.int x3)] s6) (fun s7 => ab_bI (ab_ev X d 9 [.inr (19, i0), .inl (.int x2)] s7) (fun r9 s8 => some (.inl (some (.inl (.int r9))), s8)) ab_px) ab_px) ab_px) ab_px) ab_px) ab_px := ab_blk [] 30
/-! 144 MovingNames.undo(I)I -/
theorem b144 {X : (Nat → Int32) × Nat} {d : Nat} {s : ab_S} {x1 : Int32} : ab_ev X (d + 1) 144 [.inr (0, 0), .inl (.int x1)] s = ab_bU (ab_ev X d 103 [.inr (0, 0), .inl (.int x1), .inl (.int (nI 1)), .inl (.int ((si s 9) 0))] s) (fun s1 => ab_at X (d + 1) 144 18 [some (.inr (0, 0)), some (.inl (.int x1)), some (.inl (.int (nI 0)))] [] s1) ab_px := ab_blk [18] 12
theorem b144_18 {X : (Nat → Int32) × Nat} {d : Nat} {s : ab_S} {x1 : Int32} {x2 : Int32} : ab_at X (d + 1) 144 18 [some (.inr (0, 0)), some (.inl (.int x1)), some (.inl (.int x2))] [] s = (if x1 ≤ x2 then some (.inl (some (.inl (.int ((si s 9) 0)))), s) else ab_bU (ab_ev X d 145 [.inr (2, 0), .inr (6, 0)] s) (fun s1 => ab_at X (d + 1) 144 18 [some (.inr (0, 0)), some (.inl (.int x1)), some (.inl (.int (x2 + (nI 1))))] [] s1) ab_px) := ab_blk [18] 12
/-! 145 MovingNames$Town.undoLatest(LMovingNames$Outlook;)V -/
set_option maxRecDepth 100000 in
theorem b145 {X : (Nat → Int32) × Nat} {d : Nat} {s : ab_S} {i0 : Nat} : ab_ev X (d + 1) 145 [.inr (2, i0), .inr (6, 0)] s = ab_bI (ab_ev X d 146 [.inr (5, i0), .inl (.int (nI 1))] s) (fun r2 s1 => ab_bI (ab_ev X d 146 [.inr (5, i0), .inl (.int (nI 2))] s1) (fun r4 s3 => ab_bI (ab_ev X d 146 [.inr (5, i0), .inl (.int (nI 3))] s3) (fun r6 s5 => ab_bI (ab_ev X d 146 [.inr (5, i0), .inl (.int (nI 0))] s5) (fun r8 s7 => ab_at X (d + 1) 145 36 [some (.inr (2, i0)), some (.inr (6, 0)), some (.inl (.int r2)), some (.inl (.int r4)), some (.inl (.int r6))] [.inl (.int r8)] s7) ab_px) ab_px) ab_px) ab_px := ab_blk [36, 80, 110, 122, 131, 144, 158, 173, 195] 21
theorem b145_36 {X : (Nat → Int32) × Nat} {d : Nat} {s : ab_S} {i0 : Nat} {x2 : Int32} {x3 : Int32} {x4 : Int32} {v0 : Int32} : ab_at X (d + 1) 145 36 [some (.inr (2, i0)), some (.inr (6, 0)), some (.inl (.int x2)), some (.inl (.int x3)), some (.inl (.int x4))] [.inl (.int v0)] s = (if v0 = (nI 1) then ab_at X (d + 1) 145 80 [some (.inr (2, i0)), some (.inr (6, 0)), some (.inl (.int x2)), some (.inl (.int x3)), some (.inl (.int x4))] [] s else (if v0 = (nI 2) then ab_at X (d + 1) 145 110 [some (.inr (2, i0)), some (.inr (6, 0)), some (.inl (.int x2)), some (.inl (.int x3)), some (.inl (.int x4))] [] s else (if v0 = (nI 3) then ab_at X (d + 1) 145 122 [some (.inr (2, i0)), some (.inr (6, 0)), some (.inl (.int x2)), some (.inl (.int x3)), some (.inl (.int x4))] [] s else (if v0 = (nI 4) then ab_at X (d + 1) 145 131 [some (.inr (2, i0)), some (.inr (6, 0)), some (.inl (.int x2)), some (.inl (.int x3)), some (.inl (.int x4))] [] s else (if v0 = (nI 5) then ab_at X (d + 1) 145 144 [some (.inr (2, i0)), some (.inr (6, 0)), some (.inl (.int x2)), some (.inl (.int x3)), some (.inl (.int x4))] [] s else (if v0 = (nI 6) then ab_at X (d + 1) 145 158 [some (.inr (2, i0)), some (.inr (6, 0)), some (.inl (.int x2)), some (.inl (.int x3)), some (.inl (.int x4))] [] s else (if v0 = (nI 7) then ab_at X (d + 1) 145 173 [some (.inr (2, i0)), some (.inr (6, 0)), some (.inl (.int x2)), some (.inl (.int x3)), some (.inl (.int x4))] [] s else ab_at X (d + 1) 145 195 [some (.inr (2, i0)), some (.inr (6, 0)), some (.inl (.int x2)), some (.inl (.int x3)), some (.inl (.int x4))] [] s))))))) := by
  refine (ab_tsw (m := 145) (pc := 36) rfl).trans ?_
  by_cases h0 : v0 = (nI 1)
  · subst h0
    rfl
  rw [if_neg h0]
  by_cases h1 : v0 = (nI 2)
  · subst h1
    rfl
  rw [if_neg h1]
  by_cases h2 : v0 = (nI 3)
  · subst h2
    rfl
  rw [if_neg h2]
  by_cases h3 : v0 = (nI 4)
  · subst h3
    rfl
  rw [if_neg h3]
  by_cases h4 : v0 = (nI 5)
  · subst h4
    rfl
  rw [if_neg h4]
  by_cases h5 : v0 = (nI 6)
  · subst h5
    rfl
  rw [if_neg h5]
  by_cases h6 : v0 = (nI 7)
  · subst h6
    rfl
  rw [if_neg h6]
  have g0 : v0.toInt ≠ 1 := fun e => h0 (Int32.toInt_inj.mp (e.trans (by decide)))
  have g1 : v0.toInt ≠ 2 := fun e => h1 (Int32.toInt_inj.mp (e.trans (by decide)))
  have g2 : v0.toInt ≠ 3 := fun e => h2 (Int32.toInt_inj.mp (e.trans (by decide)))
  have g3 : v0.toInt ≠ 4 := fun e => h3 (Int32.toInt_inj.mp (e.trans (by decide)))
  have g4 : v0.toInt ≠ 5 := fun e => h4 (Int32.toInt_inj.mp (e.trans (by decide)))
  have g5 : v0.toInt ≠ 6 := fun e => h5 (Int32.toInt_inj.mp (e.trans (by decide)))
  have g6 : v0.toInt ≠ 7 := fun e => h6 (Int32.toInt_inj.mp (e.trans (by decide)))
  exact if_pos (by omega)
theorem b145_80 {X : (Nat → Int32) × Nat} {d : Nat} {s : ab_S} {i0 : Nat} {x2 : Int32} {x3 : Int32} {x4 : Int32} : ab_at X (d + 1) 145 80 [some (.inr (2, i0)), some (.inr (6, 0)), some (.inl (.int x2)), some (.inl (.int x3)), some (.inl (.int x4))] [] s = ab_bU (ab_ev X d 114 [.inr (2, i0), .inl (.int (-x3)), .inr (6, 0)] s) (fun s1 => ab_at X (d + 1) 145 195 [some (.inr (2, i0)), some (.inr (6, 0)), some (.inl (.int x2)), some (.inl (.int x3)), some (.inl (.int x4))] [] (wi (wi s1 4 i0 (((si s1 4) i0) - x2)) 5 i0 (((si s1 5) i0) - x3))) ab_px := ab_blk [36, 80, 110, 122, 131, 144, 158, 173, 195] 20
theorem b145_110 {X : (Nat → Int32) × Nat} {d : Nat} {s : ab_S} {i0 : Nat} {x2 : Int32} {x3 : Int32} {x4 : Int32} : ab_at X (d + 1) 145 110 [some (.inr (2, i0)), some (.inr (6, 0)), some (.inl (.int x2)), some (.inl (.int x3)), some (.inl (.int x4))] [] s = ab_bU (ab_ev X d 3 [.inr (19, i0), .inl (.int x2), .inl (.int x3)] s) (fun s1 => ab_at X (d + 1) 145 195 [some (.inr (2, i0)), some (.inr (6, 0)), some (.inl (.int x2)), some (.inl (.int x3)), some (.inl (.int x4))] [] s1) ab_px := ab_blk [36, 80, 110, 122, 131, 144, 158, 173, 195] 8
theorem b145_122 {X : (Nat → Int32) × Nat} {d : Nat} {s : ab_S} {i0 : Nat} {x2 : Int32} {x3 : Int32} {x4 : Int32} : ab_at X (d + 1) 145 122 [some (.inr (2, i0)), some (.inr (6, 0)), some (.inl (.int x2)), some (.inl (.int x3)), some (.inl (.int x4))] [] s = ab_bU (ab_ev X d 129 [.inr (2, i0), .inl (.int x2), .inl (.int x3)] s) (fun s1 => ab_at X (d + 1) 145 195 [some (.inr (2, i0)), some (.inr (6, 0)), some (.inl (.int x2)), some (.inl (.int x3)), some (.inl (.int x4))] [] s1) ab_px := ab_blk [36, 80, 110, 122, 131, 144, 158, 173, 195] 7
theorem b145_131 {X : (Nat → Int32) × Nat} {d : Nat} {s : ab_S} {i0 : Nat} {x2 : Int32} {x3 : Int32} {x4 : Int32} : ab_at X (d + 1) 145 131 [some (.inr (2, i0)), some (.inr (6, 0)), some (.inl (.int x2)), some (.inl (.int x3)), some (.inl (.int x4))] [] s = ab_bU (ab_ev X d 136 [.inr (3, i0), .inl (.int x3), .inl (.int x4)] s) (fun s1 => ab_at X (d + 1) 145 195 [some (.inr (2, i0)), some (.inr (6, 0)), some (.inl (.int x2)), some (.inl (.int x3)), some (.inl (.int x4))] [] s1) ab_px := ab_blk [36, 80, 110, 122, 131, 144, 158, 173, 195] 8
theorem b145_144 {X : (Nat → Int32) × Nat} {d : Nat} {s : ab_S} {i0 : Nat} {x2 : Int32} {x3 : Int32} {x4 : Int32} : ab_at X (d + 1) 145 144 [some (.inr (2, i0)), some (.inr (6, 0)), some (.inl (.int x2)), some (.inl (.int x3)), some (.inl (.int x4))] [] s = ab_bU (ab_ev X d 65 [.inr (3, i0), .inl (.int x3), .inl (.int x4), .inl (.int x2)] s) (fun s1 => ab_at X (d + 1) 145 195 [some (.inr (2, i0)), some (.inr (6, 0)), some (.inl (.int x2)), some (.inl (.int x3)), some (.inl (.int x4))] [] s1) ab_px := ab_blk [36, 80, 110, 122, 131, 144, 158, 173, 195] 9
theorem b145_158 {X : (Nat → Int32) × Nat} {d : Nat} {s : ab_S} {i0 : Nat} {x2 : Int32} {x3 : Int32} {x4 : Int32} : ab_at X (d + 1) 145 158 [some (.inr (2, i0)), some (.inr (6, 0)), some (.inl (.int x2)), some (.inl (.int x3)), some (.inl (.int x4))] [] s = ab_at X (d + 1) 145 195 [some (.inr (2, i0)), some (.inr (6, 0)), some (.inl (.int x2)), some (.inl (.int x3)), some (.inl (.int x4))] [] (wi s 6 i0 (((si s 6) i0) ^^^ ((nI 1) <<< (x2 &&& 31)))) := ab_blk [36, 80, 110, 122, 131, 144, 158, 173, 195] 11
theorem b145_173 {X : (Nat → Int32) × Nat} {d : Nat} {s : ab_S} {i0 : Nat} {x2 : Int32} {x3 : Int32} {x4 : Int32} : ab_at X (d + 1) 145 173 [some (.inr (2, i0)), some (.inr (6, 0)), some (.inl (.int x2)), some (.inl (.int x3)), some (.inl (.int x4))] [] s = ab_bU (ab_ev X d 3 [.inr (20, i0), .inl (.int x2), .inl (.int x3)] s) (fun s1 => ab_bU (ab_ev X d 3 [.inr (21, i0), .inl (.int x2), .inl (.int x4)] s1) (fun s2 => ab_at X (d + 1) 145 195 [some (.inr (2, i0)), some (.inr (6, 0)), some (.inl (.int x2)), some (.inl (.int x3)), some (.inl (.int x4))] [] s2) ab_px) ab_px := ab_blk [36, 80, 110, 122, 131, 144, 158, 173, 195] 13
theorem b145_195 {X : (Nat → Int32) × Nat} {d : Nat} {s : ab_S} {i0 : Nat} {x2 : Int32} {x3 : Int32} {x4 : Int32} : ab_at X (d + 1) 145 195 [some (.inr (2, i0)), some (.inr (6, 0)), some (.inl (.int x2)), some (.inl (.int x3)), some (.inl (.int x4))] [] s = ab_bU (ab_ev X d 147 [.inr (5, i0)] s) (fun s1 => some (.inl none, s1)) ab_px := ab_blk [36, 80, 110, 122, 131, 144, 158, 173, 195] 6
/-! 146 MovingNames$Deeds.ofLatest(I)I -/
theorem b146 {X : (Nat → Int32) × Nat} {d : Nat} {s : ab_S} {i0 : Nat} {x1 : Int32} : ab_ev X (d + 1) 146 [.inr (5, i0), .inl (.int x1)] s = ab_bI (ab_ev X d 9 [.inr (27, i0), .inl (.int (((((si s 9) i0) - (nI 1)) * (nI 4)) + x1))] s) (fun r2 s1 => some (.inl (some (.inl (.int r2))), s1)) ab_px := ab_blk [] 14
/-! 147 MovingNames$Deeds.dropLatest()V -/
theorem b147 {X : (Nat → Int32) × Nat} {d : Nat} {s : ab_S} {i0 : Nat} : ab_ev X (d + 1) 147 [.inr (5, i0)] s = ab_bI (ab_ev X d 58 [.inl (.int (nI 0)), .inl (.int (((si s 9) i0) - (nI 1)))] s) (fun r2 s1 => some (.inl none, (wi s1 9 i0 r2))) ab_px := ab_blk [] 11
/-! 149 MovingNames.judge(II)I -/
theorem b149 {X : (Nat → Int32) × Nat} {d : Nat} {s : ab_S} {x1 : Int32} {x2 : Int32} : ab_ev X (d + 1) 149 [.inr (0, 0), .inl (.int x1), .inl (.int x2)] s = ab_bA (ab_ev X d 150 [.inr (0, 0), .inl (.int x1)] s) (fun kr2 ir3 s1 => ab_at X (d + 1) 149 5 [some (.inr (0, 0)), some (.inl (.int x1)), some (.inl (.int x2)), none, none, none, none] [.inr (kr2, ir3)] s1) ab_px := ab_blk [5, 61, 88, 100, 123, 126] 5
set_option maxRecDepth 100000 in
theorem b149_5 {X : (Nat → Int32) × Nat} {d : Nat} {s : ab_S} {x1 : Int32} {x2 : Int32} {c0 : Nat} : ab_at X (d + 1) 149 5 [some (.inr (0, 0)), some (.inl (.int x1)), some (.inl (.int x2)), none, none, none, none] [.inr (8, c0)] s = ab_bU (ab_ev X d 103 [.inr (0, 0), .inl (.int x2), .inl (.int (nI 0)), .inl (.int (nI 3))] s) (fun s1 => ab_bI (ab_ev X d 151 [.inr (0, 0), .inr (8, c0)] s1) (fun r3 s2 => ab_bU (ab_ev X d 80 [.inr (2, 1), .inr (2, 0)] s2) (fun s4 => ab_bI (ab_ev X d 154 [.inr (0, 0), .inr (8, c0), .inl (.int r3), .inr (2, 1)] s4) (fun r6 s5 => (if r3 = ((si s5 11) c0) then ab_at X (d + 1) 149 61 [some (.inr (0, 0)), some (.inl (.int x1)), some (.inl (.int x2)), some (.inr (8, c0)), some (.inl (.int r3)), some (.inl (.int r6)), some (.inl (.int (nI 1)))] [.inl (.int x2)] s5 else ab_at X (d + 1) 149 61 [some (.inr (0, 0)), some (.inl (.int x1)), some (.inl (.int x2)), some (.inr (8, c0)), some (.inl (.int r3)), some (.inl (.int r6)), some (.inl (.int (nI 0)))] [.inl (.int x2)] s5)) ab_px) ab_px) ab_px) ab_px := ab_blk [5, 61, 88, 100, 123, 126] 32
theorem b149_61 {X : (Nat → Int32) × Nat} {d : Nat} {s : ab_S} {x1 : Int32} {x2 : Int32} {i3 : Nat} {x4 : Int32} {x5 : Int32} {x6 : Int32} {v0 : Int32} : ab_at X (d + 1) 149 61 [some (.inr (0, 0)), some (.inl (.int x1)), some (.inl (.int x2)), some (.inr (8, i3)), some (.inl (.int x4)), some (.inl (.int x5)), some (.inl (.int x6))] [.inl (.int v0)] s = (if v0 = (nI 0) then ab_at X (d + 1) 149 88 [some (.inr (0, 0)), some (.inl (.int x1)), some (.inl (.int x2)), some (.inr (8, i3)), some (.inl (.int x4)), some (.inl (.int x5)), some (.inl (.int x6))] [] s else (if v0 = (nI 1) then ab_at X (d + 1) 149 100 [some (.inr (0, 0)), some (.inl (.int x1)), some (.inl (.int x2)), some (.inr (8, i3)), some (.inl (.int x4)), some (.inl (.int x5)), some (.inl (.int x6))] [] s else (if v0 = (nI 2) then ab_at X (d + 1) 149 123 [some (.inr (0, 0)), some (.inl (.int x1)), some (.inl (.int x2)), some (.inr (8, i3)), some (.inl (.int x4)), some (.inl (.int x5)), some (.inl (.int x6))] [] s else ab_at X (d + 1) 149 126 [some (.inr (0, 0)), some (.inl (.int x1)), some (.inl (.int x2)), some (.inr (8, i3)), some (.inl (.int x4)), some (.inl (.int x5)), some (.inl (.int x6))] [] s))) := by
  refine (ab_tsw (m := 149) (pc := 61) rfl).trans ?_
  by_cases h0 : v0 = (nI 0)
  · subst h0
    rfl
  rw [if_neg h0]
  by_cases h1 : v0 = (nI 1)
  · subst h1
    rfl
  rw [if_neg h1]
  by_cases h2 : v0 = (nI 2)
  · subst h2
    rfl
  rw [if_neg h2]
  have g0 : v0.toInt ≠ 0 := fun e => h0 (Int32.toInt_inj.mp (e.trans (by decide)))
  have g1 : v0.toInt ≠ 1 := fun e => h1 (Int32.toInt_inj.mp (e.trans (by decide)))
  have g2 : v0.toInt ≠ 2 := fun e => h2 (Int32.toInt_inj.mp (e.trans (by decide)))
  exact if_pos (by omega)
theorem b149_88 {X : (Nat → Int32) × Nat} {d : Nat} {s : ab_S} {x1 : Int32} {x2 : Int32} {i3 : Nat} {x4 : Int32} {x5 : Int32} {x6 : Int32} : ab_at X (d + 1) 149 88 [some (.inr (0, 0)), some (.inl (.int x1)), some (.inl (.int x2)), some (.inr (8, i3)), some (.inl (.int x4)), some (.inl (.int x5)), some (.inl (.int x6))] [] s = (if x6 = (nI 0) then some (.inl (some (.inl (.int x4))), s) else some (.inl (some (.inl (.int (-nI 1)))), s)) := ab_blk [5, 61, 88, 100, 123, 126] 7
theorem b149_100 {X : (Nat → Int32) × Nat} {d : Nat} {s : ab_S} {x1 : Int32} {x2 : Int32} {i3 : Nat} {x4 : Int32} {x5 : Int32} {x6 : Int32} : ab_at X (d + 1) 149 100 [some (.inr (0, 0)), some (.inl (.int x1)), some (.inl (.int x2)), some (.inr (8, i3)), some (.inl (.int x4)), some (.inl (.int x5)), some (.inl (.int x6))] [] s = (if x6 = (nI 0) then ab_bJ (ab_ev X d 152 [.inr (8, i3), .inl (.int x4)] s) (fun q2 s1 => ab_bI (ab_ev X d 153 [.inr (2, 0), .inl (.long q2)] s1) (fun r4 s3 => some (.inl (some (.inl (.int r4))), s3)) ab_px) ab_px else some (.inl (some (.inl (.int (nI 0)))), s)) := ab_blk [5, 61, 88, 100, 123, 126] 11
theorem b149_123 {X : (Nat → Int32) × Nat} {d : Nat} {s : ab_S} {x1 : Int32} {x2 : Int32} {i3 : Nat} {x4 : Int32} {x5 : Int32} {x6 : Int32} : ab_at X (d + 1) 149 123 [some (.inr (0, 0)), some (.inl (.int x1)), some (.inl (.int x2)), some (.inr (8, i3)), some (.inl (.int x4)), some (.inl (.int x5)), some (.inl (.int x6))] [] s = some (.inl (some (.inl (.int x5))), s) := ab_blk [5, 61, 88, 100, 123, 126] 4
theorem b149_126 {X : (Nat → Int32) × Nat} {d : Nat} {s : ab_S} {x1 : Int32} {x2 : Int32} {i3 : Nat} {x4 : Int32} {x5 : Int32} {x6 : Int32} : ab_at X (d + 1) 149 126 [some (.inr (0, 0)), some (.inl (.int x1)), some (.inl (.int x2)), some (.inr (8, i3)), some (.inl (.int x4)), some (.inl (.int x5)), some (.inl (.int x6))] [] s = ab_bI (ab_ev X d 7 [.inr (2, 1)] s) (fun r2 s1 => some (.inl (some (.inl (.int r2))), s1)) ab_px := ab_blk [5, 61, 88, 100, 123, 126] 6
/-! 150 MovingNames.needTray(I)LMovingNames$Tray; -/
theorem b150 {X : (Nat → Int32) × Nat} {d : Nat} {s : ab_S} {x1 : Int32} : ab_ev X d 150 [.inr (0, 0), .inl (.int x1)] s = (if x1 < (nI 0) then some (.inr 1, pn (pn s 0 ((sn s 0) + 1)) 1 ((sn s 1) + 6)) else (if x1 < (nI 4) then (if x1 < (nI 0) ∨ 4 ≤ x1.toNatClampNeg then none else ab_oq ((sq s 0) x1.toNatClampNeg) (some (.inr 2, pn (pn s 0 ((sn s 0) + 1)) 1 ((sn s 1) + 6))) (fun t1 => some (.inl (some (.inr (8, t1))), s))) else some (.inr 1, pn (pn s 0 ((sn s 0) + 1)) 1 ((sn s 1) + 6)))) := ab_blk [] 18
/-! 151 MovingNames.doable(LMovingNames$Tray;)I -/
theorem b151 {X : (Nat → Int32) × Nat} {d : Nat} {s : ab_S} {i1 : Nat} : ab_ev X (d + 1) 151 [.inr (0, 0), .inr (8, i1)] s = ab_at X (d + 1) 151 2 [some (.inr (0, 0)), some (.inr (8, i1)), some (.inl (.int (nI 0)))] [] s := ab_blk [2] 4
theorem b151_2 {X : (Nat → Int32) × Nat} {d : Nat} {s : ab_S} {i1 : Nat} {x2 : Int32} : ab_at X (d + 1) 151 2 [some (.inr (0, 0)), some (.inr (8, i1)), some (.inl (.int x2))] [] s = (if ((si s 11) i1) ≤ x2 then some (.inl (some (.inl (.int x2))), s) else ab_bJ (ab_ev X d 152 [.inr (8, i1), .inl (.int x2)] s) (fun q2 s1 => ab_bI (ab_ev X d 153 [.inr (2, 0), .inl (.long q2)] s1) (fun r4 s3 => (if r4 = (nI 0) then ab_at X (d + 1) 151 2 [some (.inr (0, 0)), some (.inr (8, i1)), some (.inl (.int (x2 + (nI 1))))] [] s3 else some (.inl (some (.inl (.int x2))), s3))) ab_px) ab_px) := ab_blk [2] 15
/-! 152 MovingNames$Tray.get(I)J -/
theorem b152 {X : (Nat → Int32) × Nat} {d : Nat} {s : ab_S} {i0 : Nat} {x1 : Int32} : ab_ev X d 152 [.inr (8, i0), .inl (.int x1)] s = (if x1 < (nI 0) then some (.inl (some (.inl (.long (lN 0)))), s) else (if ((si s 11) i0) ≤ x1 then some (.inl (some (.inl (.long (lN 0)))), s) else (if (nI 30) ≤ x1 then some (.inl (some (.inl (.long (lN 0)))), s) else (if x1 < (nI 0) ∨ 30 ≤ x1.toNatClampNeg then none else some (.inl (some (.inl (.long (((sB s 0) i0) x1.toNatClampNeg)))), s))))) := ab_blk [] 19
/-! 153 MovingNames$Town.troubleOf(J)I -/
set_option maxRecDepth 100000 in
theorem b153 {X : (Nat → Int32) × Nat} {d : Nat} {s : ab_S} {i0 : Nat} {y1 : Int64} : ab_ev X d 153 [.inr (2, i0), .inl (.long y1)] s = (if (lg_cmp y1 (-lN 1)) = (nI 0) then some (.inl (some (.inl (.int (nI 0)))), s) else (if (lg_cmp y1 (lN 0)) < (nI 0) then some (.inl (some (.inl (.int (nI 1)))), s) else (if (lg_cmp y1 (lN 800)) < (nI 0) then (if (nI 0) ≤ (lg_cmp ((y1 - y1 / (lN 400) * (lN 400)) - (y1 - y1 / (lN 400) * (lN 400)) / (lN 20) * (lN 20)) (((si s 1) i0).toInt64)) then some (.inl (some (.inl (.int (nI 1)))), s) else (if (lg_cmp ((y1 - y1 / (lN 400) * (lN 400)) / (lN 20)) (((si s 1) i0).toInt64)) < (nI 0) then (if (lg_cmp y1 (lN 400)) < (nI 0) then some (.inl (some (.inl (.int (nI 0)))), s) else (if (lg_cmp ((y1 - y1 / (lN 400) * (lN 400)) - (y1 - y1 / (lN 400) * (lN 400)) / (lN 20) * (lN 20)) ((y1 - y1 / (lN 400) * (lN 400)) / (lN 20))) = (nI 0) then some (.inl (some (.inl (.int (nI 2)))), s) else some (.inl (some (.inl (.int (nI 0)))), s))) else some (.inl (some (.inl (.int (nI 1)))), s))) else some (.inl (some (.inl (.int (nI 1)))), s)))) := ab_blk [] 49
/-! 154 MovingNames.doTold(LMovingNames$Tray;ILMovingNames$Town;)I -/
theorem b154 {X : (Nat → Int32) × Nat} {d : Nat} {s : ab_S} {i1 : Nat} {x2 : Int32} {i3 : Nat} : ab_ev X (d + 1) 154 [.inr (0, 0), .inr (8, i1), .inl (.int x2), .inr (2, i3)] s = ab_at X (d + 1) 154 6 [some (.inr (0, 0)), some (.inr (8, i1)), some (.inl (.int x2)), some (.inr (2, i3)), some (.inl (.int (nI 0))), some (.inl (.int (nI 0))), none, none, none] [] s := ab_blk [6] 6
set_option maxRecDepth 100000 in
theorem b154_6 {X : (Nat → Int32) × Nat} {d : Nat} {s : ab_S} {i1 : Nat} {x2 : Int32} {i3 : Nat} {x4 : Int32} {x5 : Int32} {u6 : Option ab_V} {u7 : Option ab_V} {u8 : Option ab_V} : ab_at X (d + 1) 154 6 [some (.inr (0, 0)), some (.inr (8, i1)), some (.inl (.int x2)), some (.inr (2, i3)), some (.inl (.int x4)), some (.inl (.int x5)), u6, u7, u8] [] s = (if x2 ≤ x5 then some (.inl (some (.inl (.int x4))), s) else ab_bJ (ab_ev X d 152 [.inr (8, i1), .inl (.int x5)] s) (fun q2 s1 => (if (q2.toInt32) = (-nI 1) then ab_bI (ab_ev X d 113 [.inr (2, i3), .inl (.int (nI 1)), .inr (6, 0)] s1) (fun r4 s3 => ab_at X (d + 1) 154 6 [some (.inr (0, 0)), some (.inr (8, i1)), some (.inl (.int x2)), some (.inr (2, i3)), some (.inl (.int (x4 + r4))), some (.inl (.int (x5 + (nI 1)))), some (.inl (.int (q2.toInt32))), some (.inl (.int (((q2.toInt32) - (q2.toInt32) / (nI 400) * (nI 400)) - ((q2.toInt32) - (q2.toInt32) / (nI 400) * (nI 400)) / (nI 20) * (nI 20)))), some (.inl (.int (((q2.toInt32) - (q2.toInt32) / (nI 400) * (nI 400)) / (nI 20))))] [] s3) ab_px else (if (nI 400) ≤ (q2.toInt32) then ab_bU (ab_ev X d 128 [.inr (2, i3), .inl (.int (((q2.toInt32) - (q2.toInt32) / (nI 400) * (nI 400)) - ((q2.toInt32) - (q2.toInt32) / (nI 400) * (nI 400)) / (nI 20) * (nI 20))), .inl (.int (((q2.toInt32) - (q2.toInt32) / (nI 400) * (nI 400)) / (nI 20)))] s1) (fun s5 => ab_at X (d + 1) 154 6 [some (.inr (0, 0)), some (.inr (8, i1)), some (.inl (.int x2)), some (.inr (2, i3)), some (.inl (.int x4)), some (.inl (.int (x5 + (nI 1)))), some (.inl (.int (q2.toInt32))), some (.inl (.int (((q2.toInt32) - (q2.toInt32) / (nI 400) * (nI 400)) - ((q2.toInt32) - (q2.toInt32) / (nI 400) * (nI 400)) / (nI 20) * (nI 20)))), some (.inl (.int (((q2.toInt32) - (q2.toInt32) / (nI 400) * (nI 400)) / (nI 20))))] [] s5) ab_px else ab_bI (ab_ev X d 124 [.inr (2, i3), .inl (.int (((q2.toInt32) - (q2.toInt32) / (nI 400) * (nI 400)) - ((q2.toInt32) - (q2.toInt32) / (nI 400) * (nI 400)) / (nI 20) * (nI 20))), .inl (.int (((q2.toInt32) - (q2.toInt32) / (nI 400) * (nI 400)) / (nI 20)))] s1) (fun r7 s6 => ab_at X (d + 1) 154 6 [some (.inr (0, 0)), some (.inr (8, i1)), some (.inl (.int x2)), some (.inr (2, i3)), some (.inl (.int x4)), some (.inl (.int (x5 + (nI 1)))), some (.inl (.int (q2.toInt32))), some (.inl (.int (((q2.toInt32) - (q2.toInt32) / (nI 400) * (nI 400)) - ((q2.toInt32) - (q2.toInt32) / (nI 400) * (nI 400)) / (nI 20) * (nI 20)))), some (.inl (.int (((q2.toInt32) - (q2.toInt32) / (nI 400) * (nI 400)) / (nI 20))))] [] s6) ab_px))) ab_px) := ab_blk [6] 36
/-! 156 MovingNames.perform(I)I -/
theorem b156 {X : (Nat → Int32) × Nat} {d : Nat} {s : ab_S} {x1 : Int32} : ab_ev X (d + 1) 156 [.inr (0, 0), .inl (.int x1)] s = ab_bA (ab_ev X d 150 [.inr (0, 0), .inl (.int x1)] s) (fun kr2 ir3 s1 => ab_at X (d + 1) 156 5 [some (.inr (0, 0)), some (.inl (.int x1)), none, none] [.inr (kr2, ir3)] s1) ab_px := ab_blk [5] 5
theorem b156_5 {X : (Nat → Int32) × Nat} {d : Nat} {s : ab_S} {x1 : Int32} {c0 : Nat} : ab_at X (d + 1) 156 5 [some (.inr (0, 0)), some (.inl (.int x1)), none, none] [.inr (8, c0)] s = ab_bI (ab_ev X d 151 [.inr (0, 0), .inr (8, c0)] s) (fun r2 s1 => ab_bI (ab_ev X d 154 [.inr (0, 0), .inr (8, c0), .inl (.int r2), .inr (2, 0)] s1) (fun r4 s3 => some (.inl (some (.inl (.int r2))), s3)) ab_px) ab_px := ab_blk [5] 16
/-! 158 MovingNames.month(II)I -/
theorem b158 {X : (Nat → Int32) × Nat} {d : Nat} {s : ab_S} {x1 : Int32} {x2 : Int32} : ab_ev X (d + 1) 158 [.inr (0, 0), .inl (.int x1), .inl (.int x2)] s = ab_bU (ab_ev X d 103 [.inr (0, 0), .inl (.int x2), .inl (.int (nI 1)), .inl (.int (nI 30))] s) (fun s1 => (if ((si s1 1) 0) = (nI 0) then some (.inr 2, pn (pn s1 0 ((sn s1 0) + 1)) 1 ((sn s1 1) + 6)) else ab_at X (d + 1) 158 39 [some (.inr (0, 0)), some (.inl (.int x1)), some (.inl (.int x2)), some (.inl (.int (nI 0))), some (.inl (.int (nI 0)))] [] (pz s1 0 x1))) ab_px := ab_blk [39] 18
set_option maxRecDepth 100000 in
theorem b158_39 {X : (Nat → Int32) × Nat} {d : Nat} {s : ab_S} {x1 : Int32} {x2 : Int32} {x3 : Int32} {x4 : Int32} : ab_at X (d + 1) 158 39 [some (.inr (0, 0)), some (.inl (.int x1)), some (.inl (.int x2)), some (.inl (.int x3)), some (.inl (.int x4))] [] s = (if x2 ≤ x4 then some (.inl (some (.inl (.int x3))), s) else ab_bI (ab_ev X d 159 [.inr (0, 0)] s) (fun r2 s1 => (if r2 = (nI 0) then ab_at X (d + 1) 158 39 [some (.inr (0, 0)), some (.inl (.int x1)), some (.inl (.int x2)), some (.inl (.int x3)), some (.inl (.int (x4 + (nI 1))))] [] s1 else ab_at X (d + 1) 158 39 [some (.inr (0, 0)), some (.inl (.int x1)), some (.inl (.int x2)), some (.inl (.int (x3 + (nI 1)))), some (.inl (.int (x4 + (nI 1))))] [] s1)) ab_px) := ab_blk [39] 11
/-! 159 MovingNames.doDrawn()Z -/
set_option maxRecDepth 100000 in
theorem b159 {X : (Nat → Int32) × Nat} {d : Nat} {s : ab_S}  : ab_ev X (d + 1) 159 [.inr (0, 0)] s = ab_bI (ab_ev X d 160 [.inr (0, 0), .inl (.int (nI 4))] s) (fun r2 s1 => (if (nI 2) ≤ r2 then ab_bI (ab_ev X d 160 [.inr (0, 0), .inl (.int ((si s1 1) 0))] s1) (fun r4 s3 => ab_bI (ab_ev X d 160 [.inr (0, 0), .inl (.int ((si s3 1) 0))] s3) (fun r6 s5 => (if r2 = (nI 2) then ab_bI (ab_ev X d 124 [.inr (2, 0), .inl (.int r4), .inl (.int r6)] s5) (fun r8 s7 => some (.inl (some (.inl (.int (nI 1)))), s7)) ab_px else (if r4 = r6 then some (.inl (some (.inl (.int (nI 0)))), s5) else ab_bU (ab_ev X d 128 [.inr (2, 0), .inl (.int r4), .inl (.int r6)] s5) (fun s9 => some (.inl (some (.inl (.int (nI 1)))), s9)) ab_px))) ab_px) ab_px else ab_bI (ab_ev X d 113 [.inr (2, 0), .inl (.int (nI 1)), .inr (6, 0)] s1) (fun r11 s10 => some (.inl (some (.inl (.int (nI 1)))), s10)) ab_px)) ab_px := ab_blk [] 34
/-! 160 MovingNames.drawBelow(I)I -/
set_option maxRecDepth 100000 in
theorem b160 {X : (Nat → Int32) × Nat} {d : Nat} {s : ab_S} {x1 : Int32} : ab_ev X d 160 [.inr (0, 0), .inl (.int x1)] s = (if x1 ≤ (nI 0) then some (.inl (some (.inl (.int (nI 0)))), (pz s 0 (((nI 1103515245) * (sz s 0)) + (nI 12345)))) else (if x1 = (nI 0) then none else some (.inl (some (.inl (.int ((((((nI 1103515245) * (sz s 0)) + (nI 12345)).toUInt32 >>> ((nI 16).toUInt32 &&& Int32.toUInt32 31)).toInt32) - (((((nI 1103515245) * (sz s 0)) + (nI 12345)).toUInt32 >>> ((nI 16).toUInt32 &&& Int32.toUInt32 31)).toInt32) / x1 * x1)))), (pz s 0 (((nI 1103515245) * (sz s 0)) + (nI 12345)))))) := ab_blk [] 20
/-! 162 MovingNames.when(I)J -/
theorem b162 {X : (Nat → Int32) × Nat} {d : Nat} {s : ab_S} {x1 : Int32} : ab_ev X (d + 1) 162 [.inr (0, 0), .inl (.int x1)] s = ab_bA (ab_ev X d 150 [.inr (0, 0), .inl (.int x1)] s) (fun kr2 ir3 s1 => ab_at X (d + 1) 162 5 [some (.inr (0, 0)), some (.inl (.int x1)), none, none, none] [.inr (kr2, ir3)] s1) ab_px := ab_blk [5, 35] 5
theorem b162_5 {X : (Nat → Int32) × Nat} {d : Nat} {s : ab_S} {x1 : Int32} {c0 : Nat} : ab_at X (d + 1) 162 5 [some (.inr (0, 0)), some (.inl (.int x1)), none, none, none] [.inr (8, c0)] s = ab_bU (ab_ev X d 163 [.inr (0, 0), .inr (8, c0), .inl (.int (nI 10))] s) (fun s1 => ab_bU (ab_ev X d 17 [.inr (6, 0), .inr (2, 0)] s1) (fun s2 => ab_bI (ab_ev X d 26 [.inr (6, 0)] s2) (fun r4 s3 => ab_at X (d + 1) 162 35 [some (.inr (0, 0)), some (.inl (.int x1)), some (.inr (8, c0)), some (.inl (.int r4)), some (.inl (.int (nI 0)))] [] s3) ab_px) ab_px) ab_px := ab_blk [5, 35] 18
set_option maxRecDepth 100000 in
theorem b162_35 {X : (Nat → Int32) × Nat} {d : Nat} {s : ab_S} {x1 : Int32} {i2 : Nat} {x3 : Int32} {x4 : Int32} : ab_at X (d + 1) 162 35 [some (.inr (0, 0)), some (.inl (.int x1)), some (.inr (8, i2)), some (.inl (.int x3)), some (.inl (.int x4))] [] s = (if x3 ≤ x4 then some (.inl (some (.inl (.long (-lN 1)))), s) else ab_bI (ab_ev X d 164 [.inr (6, 0), .inr (8, i2)] s) (fun r2 s1 => (if r2 = (nI 0) then ab_bU (ab_ev X d 30 [.inr (6, 0)] s1) (fun s3 => ab_at X (d + 1) 162 35 [some (.inr (0, 0)), some (.inl (.int x1)), some (.inr (8, i2)), some (.inl (.int x3)), some (.inl (.int (x4 + (nI 1))))] [] s3) ab_px else some (.inl (some (.inl (.long (x4.toInt64)))), s1))) ab_px) := ab_blk [5, 35] 15
/-! 163 MovingNames.needToldSigns(LMovingNames$Tray;I)V -/
theorem b163 {X : (Nat → Int32) × Nat} {d : Nat} {s : ab_S} {i1 : Nat} {x2 : Int32} : ab_ev X (d + 1) 163 [.inr (0, 0), .inr (8, i1), .inl (.int x2)] s = ab_bU (ab_ev X d 103 [.inr (0, 0), .inl (.int ((si s 11) i1)), .inl (.int (nI 1)), .inl (.int x2)] s) (fun s1 => ab_at X (d + 1) 163 12 [some (.inr (0, 0)), some (.inr (8, i1)), some (.inl (.int x2)), some (.inl (.int (nI 0))), none, none] [] s1) ab_px := ab_blk [12] 10
set_option maxRecDepth 100000 in
theorem b163_12 {X : (Nat → Int32) × Nat} {d : Nat} {s : ab_S} {i1 : Nat} {x2 : Int32} {x3 : Int32} {u4 : Option ab_V} : ab_at X (d + 1) 163 12 [some (.inr (0, 0)), some (.inr (8, i1)), some (.inl (.int x2)), some (.inl (.int x3)), u4, none] [] s = (if ((si s 11) i1) ≤ x3 then some (.inl none, s) else ab_bJ (ab_ev X d 152 [.inr (8, i1), .inl (.int x3)] s) (fun q2 s1 => (if (lg_cmp q2 (lN 0)) < (nI 0) then some (.inr 0, pn (pn s1 0 ((sn s1 0) + 1)) 1 ((sn s1 1) + 6)) else (if (nI 0) ≤ (lg_cmp (q2 - q2 / (lN 20) * (lN 20)) (((si s1 1) 0).toInt64)) then some (.inr 0, pn (pn s1 0 ((sn s1 0) + 1)) 1 ((sn s1 1) + 6)) else (if (lg_cmp (q2 / (lN 20)) (((si s1 1) 0).toInt64)) < (nI 0) then ab_at X (d + 1) 163 12 [some (.inr (0, 0)), some (.inr (8, i1)), some (.inl (.int x2)), some (.inl (.int (x3 + (nI 1)))), some (.inl (.long q2)), none] [] s1 else some (.inr 0, pn (pn s1 0 ((sn s1 0) + 1)) 1 ((sn s1 1) + 6)))))) ab_px) := ab_blk [12] 34
/-! 164 MovingNames$Outlook.allHang(LMovingNames$Tray;)Z -/
theorem b164 {X : (Nat → Int32) × Nat} {d : Nat} {s : ab_S} {i1 : Nat} : ab_ev X (d + 1) 164 [.inr (6, 0), .inr (8, i1)] s = ab_at X (d + 1) 164 2 [some (.inr (6, 0)), some (.inr (8, i1)), some (.inl (.int (nI 0))), none] [] s := ab_blk [2] 4
set_option maxRecDepth 100000 in
theorem b164_2 {X : (Nat → Int32) × Nat} {d : Nat} {s : ab_S} {i1 : Nat} {x2 : Int32} {u3 : Option ab_V} : ab_at X (d + 1) 164 2 [some (.inr (6, 0)), some (.inr (8, i1)), some (.inl (.int x2)), u3] [] s = (if ((si s 11) i1) ≤ x2 then some (.inl (some (.inl (.int (nI 1)))), s) else ab_bJ (ab_ev X d 152 [.inr (8, i1), .inl (.int x2)] s) (fun q2 s1 => ab_bI (ab_ev X d 32 [.inr (6, 0), .inl (.int ((q2.toInt32) - (q2.toInt32) / (nI 20) * (nI 20)))] s1) (fun r4 s3 => (if r4 = ((q2.toInt32) / (nI 20)) then ab_at X (d + 1) 164 2 [some (.inr (6, 0)), some (.inr (8, i1)), some (.inl (.int (x2 + (nI 1)))), some (.inl (.int (q2.toInt32)))] [] s3 else some (.inl (some (.inl (.int (nI 0)))), s3))) ab_px) ab_px) := ab_blk [2] 22
/-! 166 MovingNames.follows(II)J -/
theorem b166 {X : (Nat → Int32) × Nat} {d : Nat} {s : ab_S} {x1 : Int32} {x2 : Int32} : ab_ev X (d + 1) 166 [.inr (0, 0), .inl (.int x1), .inl (.int x2)] s = ab_bU (ab_ev X d 127 [.inr (0, 0), .inl (.int x1), .inl (.int x2)] s) (fun s1 => ab_bU (ab_ev X d 17 [.inr (6, 0), .inr (2, 0)] s1) (fun s2 => ab_bI (ab_ev X d 108 [.inr (6, 0), .inl (.int x2), .inl (.int (nI 1))] s2) (fun r4 s3 => (if r4 = x1 then some (.inl (some (.inl (.long (lN 0)))), s3) else some (.inl (some (.inl (.long (-lN 1)))), s3))) ab_px) ab_px) ab_px := ab_blk [] 21
/-! 168 MovingNames.again(I)I -/
set_option maxRecDepth 100000 in
theorem b168 {X : (Nat → Int32) × Nat} {d : Nat} {s : ab_S} {x1 : Int32} : ab_ev X (d + 1) 168 [.inr (0, 0), .inl (.int x1)] s = ab_bU (ab_ev X d 86 [.inr (0, 0), .inl (.int x1)] s) (fun s1 => ab_bU (ab_ev X d 17 [.inr (6, 0), .inr (2, 0)] s1) (fun s2 => ab_bI (ab_ev X d 9 [.inr (28, 0), .inl (.int x1)] s2) (fun r4 s3 => ab_bI (ab_ev X d 9 [.inr (30, 0), .inl (.int x1)] s3) (fun r6 s5 => ab_at X (d + 1) 168 43 [some (.inr (0, 0)), some (.inl (.int x1)), some (.inl (.int r4)), some (.inl (.int r6)), some (.inl (.int (nI 1)))] [] s5) ab_px) ab_px) ab_px) ab_px := ab_blk [43] 24
set_option maxRecDepth 100000 in
theorem b168_43 {X : (Nat → Int32) × Nat} {d : Nat} {s : ab_S} {x1 : Int32} {x2 : Int32} {x3 : Int32} {x4 : Int32} : ab_at X (d + 1) 168 43 [some (.inr (0, 0)), some (.inl (.int x1)), some (.inl (.int x2)), some (.inl (.int x3)), some (.inl (.int x4))] [] s = (if (nI 20) ≤ x4 then some (.inl (some (.inl (.int x4))), s) else ab_bI (ab_ev X d 9 [.inr (28, 0), .inl (.int x3)] s) (fun r2 s1 => (if r2 = x2 then some (.inl (some (.inl (.int x4))), s1) else ab_bI (ab_ev X d 9 [.inr (30, 0), .inl (.int x3)] s1) (fun r4 s3 => ab_at X (d + 1) 168 43 [some (.inr (0, 0)), some (.inl (.int x1)), some (.inl (.int x2)), some (.inl (.int r4)), some (.inl (.int (x4 + (nI 1))))] [] s3) ab_px)) ab_px) := ab_blk [43] 20
/-! 170 MovingNames.beside(II)I -/
set_option maxRecDepth 100000 in
theorem b170 {X : (Nat → Int32) × Nat} {d : Nat} {s : ab_S} {x1 : Int32} {x2 : Int32} : ab_ev X (d + 1) 170 [.inr (0, 0), .inl (.int x1), .inl (.int x2)] s = ab_bU (ab_ev X d 127 [.inr (0, 0), .inl (.int x1), .inl (.int x2)] s) (fun s1 => ab_bU (ab_ev X d 17 [.inr (6, 0), .inr (2, 0)] s1) (fun s2 => ab_bI (ab_ev X d 26 [.inr (6, 0)] s2) (fun r4 s3 => ab_at X (d + 1) 170 37 [some (.inr (0, 0)), some (.inl (.int x1)), some (.inl (.int x2)), some (.inl (.int r4)), some (.inl (.int x1)), some (.inl (.int x2)), some (.inl (.int (nI 0))), some (.inl (.int (nI 0)))] [] s3) ab_px) ab_px) ab_px := ab_blk [37] 23
set_option maxRecDepth 100000 in
theorem b170_37 {X : (Nat → Int32) × Nat} {d : Nat} {s : ab_S} {x1 : Int32} {x2 : Int32} {x3 : Int32} {x4 : Int32} {x5 : Int32} {x6 : Int32} {x7 : Int32} : ab_at X (d + 1) 170 37 [some (.inr (0, 0)), some (.inl (.int x1)), some (.inl (.int x2)), some (.inl (.int x3)), some (.inl (.int x4)), some (.inl (.int x5)), some (.inl (.int x6)), some (.inl (.int x7))] [] s = (if x3 ≤ x7 then some (.inl (some (.inl (.int x6))), s) else ab_bI (ab_ev X d 92 [.inl (.int (x4 - x5))] s) (fun r2 s1 => (if r2 = (nI 1) then ab_bI (ab_ev X d 9 [.inr (29, 0), .inl (.int x4)] s1) (fun r4 s3 => ab_bI (ab_ev X d 9 [.inr (29, 0), .inl (.int x5)] s3) (fun r6 s5 => ab_at X (d + 1) 170 37 [some (.inr (0, 0)), some (.inl (.int x1)), some (.inl (.int x2)), some (.inl (.int x3)), some (.inl (.int r4)), some (.inl (.int r6)), some (.inl (.int (x6 + (nI 1)))), some (.inl (.int (x7 + (nI 1))))] [] s5) ab_px) ab_px else ab_bI (ab_ev X d 9 [.inr (29, 0), .inl (.int x4)] s1) (fun r8 s7 => ab_bI (ab_ev X d 9 [.inr (29, 0), .inl (.int x5)] s7) (fun r10 s9 => ab_at X (d + 1) 170 37 [some (.inr (0, 0)), some (.inl (.int x1)), some (.inl (.int x2)), some (.inl (.int x3)), some (.inl (.int r8)), some (.inl (.int r10)), some (.inl (.int x6)), some (.inl (.int (x7 + (nI 1))))] [] s9) ab_px) ab_px)) ab_px) := ab_blk [37] 26
/-! 172 MovingNames.visits(II)I -/
set_option maxRecDepth 100000 in
theorem b172 {X : (Nat → Int32) × Nat} {d : Nat} {s : ab_S} {x1 : Int32} {x2 : Int32} : ab_ev X (d + 1) 172 [.inr (0, 0), .inl (.int x1), .inl (.int x2)] s = ab_bU (ab_ev X d 98 [.inr (0, 0), .inl (.int x1)] s) (fun s1 => ab_bU (ab_ev X d 103 [.inr (0, 0), .inl (.int x2), .inl (.int (nI 0)), .inl (.int (nI 999))] s1) (fun s2 => ab_bU (ab_ev X d 17 [.inr (6, 0), .inr (2, 0)] s2) (fun s3 => ab_at X (d + 1) 172 30 [some (.inr (0, 0)), some (.inl (.int x1)), some (.inl (.int x2)), some (.inl (.int (nI 0))), some (.inl (.int (nI 0)))] [] s3) ab_px) ab_px) ab_px := ab_blk [30] 19
set_option maxRecDepth 100000 in
theorem b172_30 {X : (Nat → Int32) × Nat} {d : Nat} {s : ab_S} {x1 : Int32} {x2 : Int32} {x3 : Int32} {x4 : Int32} : ab_at X (d + 1) 172 30 [some (.inr (0, 0)), some (.inl (.int x1)), some (.inl (.int x2)), some (.inl (.int x3)), some (.inl (.int x4))] [] s = (if ((si s 1) 0) ≤ x4 then some (.inl (some (.inl (.int x3))), s) else ab_bI (ab_ev X d 9 [.inr (19, 0), .inl (.int x4)] s) (fun r2 s1 => (if r2 = x1 then ab_bI (ab_ev X d 173 [.inr (6, 0), .inl (.int x4), .inl (.int x2)] s1) (fun r4 s3 => ab_at X (d + 1) 172 30 [some (.inr (0, 0)), some (.inl (.int x1)), some (.inl (.int x2)), some (.inl (.int (x3 ||| r4))), some (.inl (.int (x4 + (nI 1))))] [] s3) ab_px else ab_at X (d + 1) 172 30 [some (.inr (0, 0)), some (.inl (.int x1)), some (.inl (.int x2)), some (.inl (.int x3)), some (.inl (.int (x4 + (nI 1))))] [] s1)) ab_px) := ab_blk [30] 24
/-! 173 MovingNames$Outlook.visitedBy(II)I -/
theorem b173 {X : (Nat → Int32) × Nat} {d : Nat} {s : ab_S} {x1 : Int32} {x2 : Int32} : ab_ev X (d + 1) 173 [.inr (6, 0), .inl (.int x1), .inl (.int x2)] s = ab_at X (d + 1) 173 8 [some (.inr (6, 0)), some (.inl (.int x1)), some (.inl (.int x2)), some (.inl (.int (nI 0))), some (.inl (.int x1)), some (.inl (.int (nI 0)))] [] s := ab_blk [8] 8
set_option maxRecDepth 100000 in
theorem b173_8 {X : (Nat → Int32) × Nat} {d : Nat} {s : ab_S} {x1 : Int32} {x2 : Int32} {x3 : Int32} {x4 : Int32} {x5 : Int32} : ab_at X (d + 1) 173 8 [some (.inr (6, 0)), some (.inl (.int x1)), some (.inl (.int x2)), some (.inl (.int x3)), some (.inl (.int x4)), some (.inl (.int x5))] [] s = (if x2 < x5 then some (.inl (some (.inl (.int x3))), s) else (if (nI 20) ≤ x5 then some (.inl (some (.inl (.int x3))), s) else ab_bI (ab_ev X d 9 [.inr (29, 0), .inl (.int x4)] s) (fun r2 s1 => ab_at X (d + 1) 173 8 [some (.inr (6, 0)), some (.inl (.int x1)), some (.inl (.int x2)), some (.inl (.int (x3 ||| ((nI 1) <<< (x4 &&& 31))))), some (.inl (.int r2)), some (.inl (.int (x5 + (nI 1))))] [] s1) ab_px)) := ab_blk [8] 21
/-! 175 MovingNames.under(II)I -/
set_option maxRecDepth 100000 in
theorem b175 {X : (Nat → Int32) × Nat} {d : Nat} {s : ab_S} {x1 : Int32} {x2 : Int32} : ab_ev X (d + 1) 175 [.inr (0, 0), .inl (.int x1), .inl (.int x2)] s = ab_bU (ab_ev X d 95 [.inr (0, 0), .inl (.int x1)] s) (fun s1 => ab_bU (ab_ev X d 103 [.inr (0, 0), .inl (.int x2), .inl (.int (nI 0)), .inl (.int (nI 999))] s1) (fun s2 => ab_bU (ab_ev X d 17 [.inr (6, 0), .inr (2, 0)] s2) (fun s3 => ab_bI (ab_ev X d 9 [.inr (20, 0), .inl (.int x1)] s3) (fun r5 s4 => ab_bI (ab_ev X d 176 [.inr (6, 0), .inl (.int r5), .inl (.int x2)] s4) (fun r7 s6 => some (.inl (some (.inl (.int r7))), s6)) ab_px) ab_px) ab_px) ab_px) ab_px := ab_blk [] 25
/-! 176 MovingNames$Outlook.namesOn(II)I -/
theorem b176 {X : (Nat → Int32) × Nat} {d : Nat} {s : ab_S} {x1 : Int32} {x2 : Int32} : ab_ev X (d + 1) 176 [.inr (6, 0), .inl (.int x1), .inl (.int x2)] s = ab_at X (d + 1) 176 8 [some (.inr (6, 0)), some (.inl (.int x1)), some (.inl (.int x2)), some (.inl (.int (nI 0))), some (.inl (.int x1)), some (.inl (.int (nI 0)))] [] s := ab_blk [8] 8
set_option maxRecDepth 100000 in
theorem b176_8 {X : (Nat → Int32) × Nat} {d : Nat} {s : ab_S} {x1 : Int32} {x2 : Int32} {x3 : Int32} {x4 : Int32} {x5 : Int32} : ab_at X (d + 1) 176 8 [some (.inr (6, 0)), some (.inl (.int x1)), some (.inl (.int x2)), some (.inl (.int x3)), some (.inl (.int x4)), some (.inl (.int x5))] [] s = (if x2 < x5 then some (.inl (some (.inl (.int x3))), s) else (if (nI 20) ≤ x5 then some (.inl (some (.inl (.int x3))), s) else ab_bI (ab_ev X d 9 [.inr (28, 0), .inl (.int x4)] s) (fun r2 s1 => ab_bI (ab_ev X d 9 [.inr (30, 0), .inl (.int x4)] s1) (fun r4 s3 => ab_at X (d + 1) 176 8 [some (.inr (6, 0)), some (.inl (.int x1)), some (.inl (.int x2)), some (.inl (.int (x3 ||| ((nI 1) <<< (r2 &&& 31))))), some (.inl (.int r4)), some (.inl (.int (x5 + (nI 1))))] [] s3) ab_px) ab_px)) := ab_blk [8] 24
/-! 178 MovingNames.home(II)I -/
theorem b178 {X : (Nat → Int32) × Nat} {d : Nat} {s : ab_S} {x1 : Int32} {x2 : Int32} : ab_ev X (d + 1) 178 [.inr (0, 0), .inl (.int x1), .inl (.int x2)] s = ab_bA (ab_ev X d 150 [.inr (0, 0), .inl (.int x1)] s) (fun kr2 ir3 s1 => ab_at X (d + 1) 178 5 [some (.inr (0, 0)), some (.inl (.int x1)), some (.inl (.int x2)), none, none, none] [.inr (kr2, ir3)] s1) ab_px := ab_blk [5, 54] 5
set_option maxRecDepth 100000 in
theorem b178_5 {X : (Nat → Int32) × Nat} {d : Nat} {s : ab_S} {x1 : Int32} {x2 : Int32} {c0 : Nat} : ab_at X (d + 1) 178 5 [some (.inr (0, 0)), some (.inl (.int x1)), some (.inl (.int x2)), none, none, none] [.inr (8, c0)] s = ab_bU (ab_ev X d 163 [.inr (0, 0), .inr (8, c0), .inl (.int (nI 8))] s) (fun s1 => (if x2 = (nI 0) then ab_bU (ab_ev X d 17 [.inr (6, 0), .inr (2, 0)] s1) (fun s2 => ab_bU (ab_ev X d 179 [.inr (7, 0)] s2) (fun s3 => ab_at X (d + 1) 178 54 [some (.inr (0, 0)), some (.inl (.int x1)), some (.inl (.int x2)), some (.inr (8, c0)), some (.inl (.int (nI 0))), none] [] s3) ab_px) ab_px else ab_bU (ab_ev X d 103 [.inr (0, 0), .inl (.int x2), .inl (.int (nI 10)), .inl (.int (((nI 10) + ((si s1 11) c0)) - (nI 1)))] s1) (fun s4 => ab_bU (ab_ev X d 17 [.inr (6, 0), .inr (2, 0)] s4) (fun s5 => ab_bU (ab_ev X d 179 [.inr (7, 0)] s5) (fun s6 => ab_at X (d + 1) 178 54 [some (.inr (0, 0)), some (.inl (.int x1)), some (.inl (.int x2)), some (.inr (8, c0)), some (.inl (.int (nI 0))), none] [] s6) ab_px) ab_px) ab_px)) ab_px := ab_blk [5, 54] 29
set_option maxRecDepth 100000 in
theorem b178_54 {X : (Nat → Int32) × Nat} {d : Nat} {s : ab_S} {x1 : Int32} {x2 : Int32} {i3 : Nat} {x4 : Int32} {u5 : Option ab_V} : ab_at X (d + 1) 178 54 [some (.inr (0, 0)), some (.inl (.int x1)), some (.inl (.int x2)), some (.inr (8, i3)), some (.inl (.int x4)), u5] [] s = (if ((si s 11) i3) ≤ x4 then ab_bI (ab_ev X d 182 [.inr (7, 0)] s) (fun r2 s1 => (if x2 = (nI 0) then some (.inl (some (.inl (.int r2))), s1) else ab_bI (ab_ev X d 189 [.inr (7, 0), .inl (.int (x2 - (nI 10)))] s1) (fun r4 s3 => some (.inl (some (.inl (.int r4))), s3)) ab_px)) ab_px else ab_bJ (ab_ev X d 152 [.inr (8, i3), .inl (.int x4)] s) (fun q6 s5 => ab_bJ (ab_ev X d 180 [.inr (6, 0), .inl (.int ((q6.toInt32) / (nI 20))), .inl (.int ((q6.toInt32) - (q6.toInt32) / (nI 20) * (nI 20))), .inl (.int (nI 59))] s5) (fun q8 s7 => ab_bU (ab_ev X d 181 [.inr (7, 0), .inl (.long q8)] s7) (fun s9 => ab_at X (d + 1) 178 54 [some (.inr (0, 0)), some (.inl (.int x1)), some (.inl (.int x2)), some (.inr (8, i3)), some (.inl (.int (x4 + (nI 1)))), some (.inl (.int (q6.toInt32)))] [] s9) ab_px) ab_px) ab_px) := ab_blk [5, 54] 26
/-! 179 MovingNames$Letters.clear()V -/
theorem b179 {X : (Nat → Int32) × Nat} {d : Nat} {s : ab_S}  : ab_ev X d 179 [.inr (7, 0)] s = some (.inl none, (pz s 10 (nI 0))) := ab_blk [] 6
/-! 180 MovingNames$Outlook.nightsOf(III)J -/
theorem b180 {X : (Nat → Int32) × Nat} {d : Nat} {s : ab_S} {x1 : Int32} {x2 : Int32} {x3 : Int32} : ab_ev X (d + 1) 180 [.inr (6, 0), .inl (.int x1), .inl (.int x2), .inl (.int x3)] s = ab_at X (d + 1) 180 9 [some (.inr (6, 0)), some (.inl (.int x1)), some (.inl (.int x2)), some (.inl (.int x3)), some (.inl (.long (lN 0))), none, some (.inl (.int x2)), some (.inl (.int (nI 0)))] [] s := ab_blk [9] 8
set_option maxRecDepth 100000 in
theorem b180_9 {X : (Nat → Int32) × Nat} {d : Nat} {s : ab_S} {x1 : Int32} {x2 : Int32} {x3 : Int32} {y4 : Int64} {x6 : Int32} {x7 : Int32} : ab_at X (d + 1) 180 9 [some (.inr (6, 0)), some (.inl (.int x1)), some (.inl (.int x2)), some (.inl (.int x3)), some (.inl (.long y4)), none, some (.inl (.int x6)), some (.inl (.int x7))] [] s = (if x3 < x7 then some (.inl (some (.inl (.long y4))), s) else ab_bI (ab_ev X d 9 [.inr (28, 0), .inl (.int x6)] s) (fun r2 s1 => (if r2 = x1 then ab_bI (ab_ev X d 9 [.inr (30, 0), .inl (.int x6)] s1) (fun r4 s3 => ab_at X (d + 1) 180 9 [some (.inr (6, 0)), some (.inl (.int x1)), some (.inl (.int x2)), some (.inl (.int x3)), some (.inl (.long (y4 ||| ((lN 1) <<< (x7.toInt64 &&& 63))))), none, some (.inl (.int r4)), some (.inl (.int (x7 + (nI 1))))] [] s3) ab_px else ab_bI (ab_ev X d 9 [.inr (30, 0), .inl (.int x6)] s1) (fun r6 s5 => ab_at X (d + 1) 180 9 [some (.inr (6, 0)), some (.inl (.int x1)), some (.inl (.int x2)), some (.inl (.int x3)), some (.inl (.long y4)), none, some (.inl (.int r6)), some (.inl (.int (x7 + (nI 1))))] [] s5) ab_px)) ab_px) := ab_blk [9] 24
/-! 181 MovingNames$Letters.add(J)V -/
theorem b181 {X : (Nat → Int32) × Nat} {d : Nat} {s : ab_S} {y1 : Int64} : ab_ev X (d + 1) 181 [.inr (7, 0), .inl (.long y1)] s = (if (nI 8) ≤ (sz s 10) then some (.inl none, s) else (if (sz s 10) < (nI 0) ∨ 8 ≤ (sz s 10).toNatClampNeg then none else ab_bU (ab_ev X d 3 [.inr (35, 0), .inl (.int (sz s 10)), .inl (.int (-nI 1))] (pb s 0 (va_up (sb s 0) (sz s 10).toNatClampNeg y1))) (fun s1 => some (.inl none, (pz s1 10 ((sz s1 10) + (nI 1))))) ab_px)) := ab_blk [] 27
/-! 182 MovingNames$Letters.bringAll()I -/
theorem b182 {X : (Nat → Int32) × Nat} {d : Nat} {s : ab_S}  : ab_ev X (d + 1) 182 [.inr (7, 0)] s = ab_bI (ab_ev X d 183 [.inr (7, 0)] s) (fun r2 s1 => (if r2 = (-nI 1) then some (.inl (some (.inl (.int r2))), s1) else ab_at X (d + 1) 182 12 [some (.inr (7, 0)), some (.inl (.int r2)), some (.inl (.int (nI 0)))] [] s1)) ab_px := ab_blk [12, 40] 10
theorem b182_12 {X : (Nat → Int32) × Nat} {d : Nat} {s : ab_S} {x1 : Int32} {x2 : Int32} : ab_at X (d + 1) 182 12 [some (.inr (7, 0)), some (.inl (.int x1)), some (.inl (.int x2))] [] s = (if (sz s 10) ≤ x2 then ab_at X (d + 1) 182 40 [some (.inr (7, 0)), some (.inl (.int x1)), some (.inl (.int (nI 0)))] [] s else ab_bU (ab_ev X d 187 [.inr (7, 0), .inl (.int x2), .inl (.long (((lN 2) <<< (x1.toInt64 &&& 63)) - (lN 1)))] s) (fun s1 => ab_at X (d + 1) 182 12 [some (.inr (7, 0)), some (.inl (.int x1)), some (.inl (.int (x2 + (nI 1))))] [] s1) ab_px) := ab_blk [12, 40] 16
theorem b182_40 {X : (Nat → Int32) × Nat} {d : Nat} {s : ab_S} {x1 : Int32} {x2 : Int32} : ab_at X (d + 1) 182 40 [some (.inr (7, 0)), some (.inl (.int x1)), some (.inl (.int x2))] [] s = (if (sz s 10) ≤ x2 then some (.inl (some (.inl (.int x1))), s) else ab_bU (ab_ev X d 188 [.inr (7, 0), .inl (.int x2)] s) (fun s1 => ab_at X (d + 1) 182 40 [some (.inr (7, 0)), some (.inl (.int x1)), some (.inl (.int (x2 + (nI 1))))] [] s1) ab_px) := ab_blk [12, 40] 11
/-! 183 MovingNames$Letters.earliestEnd()I -/
theorem b183 {X : (Nat → Int32) × Nat} {d : Nat} {s : ab_S}  : ab_ev X (d + 1) 183 [.inr (7, 0)] s = ab_at X (d + 1) 183 4 [some (.inr (7, 0)), some (.inl (.int (-nI 1))), some (.inl (.int (nI 1))), none] [] s := ab_blk [4] 6
set_option maxRecDepth 100000 in
theorem b183_4 {X : (Nat → Int32) × Nat} {d : Nat} {s : ab_S} {x1 : Int32} {x2 : Int32} {u3 : Option ab_V} : ab_at X (d + 1) 183 4 [some (.inr (7, 0)), some (.inl (.int x1)), some (.inl (.int x2)), u3] [] s = (if ((nI 1) <<< ((sz s 10) &&& 31)) ≤ x2 then some (.inl (some (.inl (.int x1))), s) else ab_bJ (ab_ev X d 184 [.inr (7, 0), .inl (.int x2)] s) (fun q2 s1 => ab_bI (ab_ev X d 37 [.inl (.int x2)] s1) (fun r4 s3 => ab_bI (ab_ev X d 185 [.inl (.long q2), .inl (.int r4)] s3) (fun r6 s5 => (if r6 = (-nI 1) then some (.inl (some (.inl (.int (-nI 1)))), s5) else ab_bI (ab_ev X d 58 [.inl (.int x1), .inl (.int r6)] s5) (fun r8 s7 => ab_at X (d + 1) 183 4 [some (.inr (7, 0)), some (.inl (.int r8)), some (.inl (.int (x2 + (nI 1)))), some (.inl (.int r6))] [] s7) ab_px)) ab_px) ab_px) ab_px) := ab_blk [4] 24
/-! 184 MovingNames$Letters.nightsAmong(I)J -/
theorem b184 {X : (Nat → Int32) × Nat} {d : Nat} {s : ab_S} {x1 : Int32} : ab_ev X d 184 [.inr (7, 0), .inl (.int x1)] s = ab_at X d 184 5 [some (.inr (7, 0)), some (.inl (.int x1)), some (.inl (.long (lN 0))), none, some (.inl (.int (nI 0)))] [] s := ab_blk [5] 6
set_option maxRecDepth 100000 in
theorem b184_5 {X : (Nat → Int32) × Nat} {d : Nat} {s : ab_S} {x1 : Int32} {y2 : Int64} {x4 : Int32} : ab_at X d 184 5 [some (.inr (7, 0)), some (.inl (.int x1)), some (.inl (.long y2)), none, some (.inl (.int x4))] [] s = (if (sz s 10) ≤ x4 then some (.inl (some (.inl (.long y2))), s) else (if (nI 8) ≤ x4 then some (.inl (some (.inl (.long y2))), s) else (if ((x1 >>> (x4 &&& 31)) &&& (nI 1)) = (nI 0) then ab_at X d 184 5 [some (.inr (7, 0)), some (.inl (.int x1)), some (.inl (.long y2)), none, some (.inl (.int (x4 + (nI 1))))] [] s else (if x4 < (nI 0) ∨ 8 ≤ x4.toNatClampNeg then none else ab_at X d 184 5 [some (.inr (7, 0)), some (.inl (.int x1)), some (.inl (.long (y2 ||| ((sb s 0) x4.toNatClampNeg)))), none, some (.inl (.int (x4 + (nI 1))))] [] s)))) := ab_blk [5] 26
/-! 185 MovingNames$Letters.bitOf(JI)I -/
theorem b185 {X : (Nat → Int32) × Nat} {d : Nat} {s : ab_S} {y0 : Int64} {x1 : Int32} : ab_ev X (d + 1) 185 [.inl (.long y0), .inl (.int x1)] s = ab_at X (d + 1) 185 5 [some (.inl (.long y0)), none, some (.inl (.int x1)), some (.inl (.long y0)), none, some (.inl (.int (nI 1)))] [] s := ab_blk [5] 6
theorem b185_5 {X : (Nat → Int32) × Nat} {d : Nat} {s : ab_S} {y0 : Int64} {x2 : Int32} {y3 : Int64} {x5 : Int32} : ab_at X (d + 1) 185 5 [some (.inl (.long y0)), none, some (.inl (.int x2)), some (.inl (.long y3)), none, some (.inl (.int x5))] [] s = (if x2 ≤ x5 then (if (lg_cmp y3 (lN 0)) = (nI 0) then some (.inl (some (.inl (.int (-nI 1)))), s) else ab_bI (ab_ev X d 186 [.inl (.long ((y3 &&& (-y3)) - (lN 1)))] s) (fun r2 s1 => some (.inl (some (.inl (.int r2))), s1)) ab_px) else ab_at X (d + 1) 185 5 [some (.inl (.long y0)), none, some (.inl (.int x2)), some (.inl (.long (y3 &&& (y3 - (lN 1))))), none, some (.inl (.int (x5 + (nI 1))))] [] s) := ab_blk [5] 17
/-! 186 java/lang/Long.bitCount(J)I -/
theorem b186 {X : (Nat → Int32) × Nat} {d : Nat} {s : ab_S} {y0 : Int64} : ab_ev X d 186 [.inl (.long y0)] s = ab_at X d 186 10 [some (.inl (.long (y0 - (((y0.toUInt64 >>> ((nI 1).toInt64.toUInt64 &&& Int64.toUInt64 63)).toInt64) &&& (lN 6148914691236517205))))), none] [] s := ab_blk [10, 24, 34, 41, 48, 55] 10
theorem b186_10 {X : (Nat → Int32) × Nat} {d : Nat} {s : ab_S} {y0 : Int64} : ab_at X d 186 10 [some (.inl (.long y0)), none] [] s = ab_at X d 186 24 [some (.inl (.long ((y0 &&& (lN 3689348814741910323)) + (((y0.toUInt64 >>> ((nI 2).toInt64.toUInt64 &&& Int64.toUInt64 63)).toInt64) &&& (lN 3689348814741910323))))), none] [] s := ab_blk [10, 24, 34, 41, 48, 55] 12
theorem b186_24 {X : (Nat → Int32) × Nat} {d : Nat} {s : ab_S} {y0 : Int64} : ab_at X d 186 24 [some (.inl (.long y0)), none] [] s = ab_at X d 186 34 [some (.inl (.long ((y0 + ((y0.toUInt64 >>> ((nI 4).toInt64.toUInt64 &&& Int64.toUInt64 63)).toInt64)) &&& (lN 1085102592571150095)))), none] [] s := ab_blk [10, 24, 34, 41, 48, 55] 10
theorem b186_34 {X : (Nat → Int32) × Nat} {d : Nat} {s : ab_S} {y0 : Int64} : ab_at X d 186 34 [some (.inl (.long y0)), none] [] s = ab_at X d 186 41 [some (.inl (.long (y0 + ((y0.toUInt64 >>> ((nI 8).toInt64.toUInt64 &&& Int64.toUInt64 63)).toInt64)))), none] [] s := ab_blk [10, 24, 34, 41, 48, 55] 8
theorem b186_41 {X : (Nat → Int32) × Nat} {d : Nat} {s : ab_S} {y0 : Int64} : ab_at X d 186 41 [some (.inl (.long y0)), none] [] s = ab_at X d 186 48 [some (.inl (.long (y0 + ((y0.toUInt64 >>> ((nI 16).toInt64.toUInt64 &&& Int64.toUInt64 63)).toInt64)))), none] [] s := ab_blk [10, 24, 34, 41, 48, 55] 8
theorem b186_48 {X : (Nat → Int32) × Nat} {d : Nat} {s : ab_S} {y0 : Int64} : ab_at X d 186 48 [some (.inl (.long y0)), none] [] s = ab_at X d 186 55 [some (.inl (.long (y0 + ((y0.toUInt64 >>> ((nI 32).toInt64.toUInt64 &&& Int64.toUInt64 63)).toInt64)))), none] [] s := ab_blk [10, 24, 34, 41, 48, 55] 8
theorem b186_55 {X : (Nat → Int32) × Nat} {d : Nat} {s : ab_S} {y0 : Int64} : ab_at X d 186 55 [some (.inl (.long y0)), none] [] s = some (.inl (some (.inl (.int ((y0.toInt32) &&& (nI 127))))), s) := ab_blk [10, 24, 34, 41, 48, 55] 7
/-! 187 MovingNames$Letters.keep(IJ)V -/
theorem b187 {X : (Nat → Int32) × Nat} {d : Nat} {s : ab_S} {x1 : Int32} {y2 : Int64} : ab_ev X d 187 [.inr (7, 0), .inl (.int x1), .inl (.long y2)] s = (if x1 < (nI 0) then some (.inl none, s) else (if (nI 8) ≤ x1 then some (.inl none, s) else (if x1 < (nI 0) ∨ 8 ≤ x1.toNatClampNeg then none else (if x1 < (nI 0) ∨ 8 ≤ x1.toNatClampNeg then none else some (.inl none, (pb s 0 (va_up (sb s 0) x1.toNatClampNeg (((sb s 0) x1.toNatClampNeg) &&& y2)))))))) := ab_blk [] 18
/-! 188 MovingNames$Letters.bring(I)V -/
theorem b188 {X : (Nat → Int32) × Nat} {d : Nat} {s : ab_S} {x1 : Int32} : ab_ev X (d + 1) 188 [.inr (7, 0), .inl (.int x1)] s = ab_at X (d + 1) 188 5 [some (.inr (7, 0)), some (.inl (.int x1)), some (.inl (.long (lN 0))), none, some (.inl (.int (nI 1))), none, none] [] s := ab_blk [5, 106] 6
set_option maxRecDepth 100000 in
theorem b188_5 {X : (Nat → Int32) × Nat} {d : Nat} {s : ab_S} {x1 : Int32} {y2 : Int64} {x4 : Int32} {u5 : Option ab_V} : ab_at X (d + 1) 188 5 [some (.inr (7, 0)), some (.inl (.int x1)), some (.inl (.long y2)), none, some (.inl (.int x4)), u5, none] [] s = (if ((nI 1) <<< ((((sz s 10) - x1) - (nI 1)) &&& 31)) ≤ x4 then (if x1 < (nI 0) then ab_bI (ab_ev X d 185 [.inl (.long (lN 0)), .inl (.int (nI 1))] s) (fun r2 s1 => ab_bU (ab_ev X d 3 [.inr (35, 0), .inl (.int x1), .inl (.int r2)] s1) (fun s3 => ab_at X (d + 1) 188 106 [some (.inr (7, 0)), some (.inl (.int x1)), some (.inl (.long y2)), none, some (.inl (.long (lN 0))), none, some (.inl (.int (x1 + (nI 1))))] [] s3) ab_px) ab_px else (if (nI 8) ≤ x1 then ab_bI (ab_ev X d 185 [.inl (.long (lN 0)), .inl (.int (nI 1))] s) (fun r5 s4 => ab_bU (ab_ev X d 3 [.inr (35, 0), .inl (.int x1), .inl (.int r5)] s4) (fun s6 => ab_at X (d + 1) 188 106 [some (.inr (7, 0)), some (.inl (.int x1)), some (.inl (.long y2)), none, some (.inl (.long (lN 0))), none, some (.inl (.int (x1 + (nI 1))))] [] s6) ab_px) ab_px else (if x1 < (nI 0) ∨ 8 ≤ x1.toNatClampNeg then none else ab_bI (ab_ev X d 185 [.inl (.long (((sb s 0) x1.toNatClampNeg) &&& (y2 ^^^ (-lN 1)))), .inl (.int (nI 1))] s) (fun r8 s7 => ab_bU (ab_ev X d 3 [.inr (35, 0), .inl (.int x1), .inl (.int r8)] s7) (fun s9 => ab_at X (d + 1) 188 106 [some (.inr (7, 0)), some (.inl (.int x1)), some (.inl (.long y2)), none, some (.inl (.long (((sb s 0) x1.toNatClampNeg) &&& (y2 ^^^ (-lN 1))))), none, some (.inl (.int (x1 + (nI 1))))] [] s9) ab_px) ab_px))) else ab_bJ (ab_ev X d 184 [.inr (7, 0), .inl (.int (x4 <<< ((x1 + (nI 1)) &&& 31)))] s) (fun q11 s10 => ab_bI (ab_ev X d 186 [.inl (.long q11)] s10) (fun r13 s12 => ab_bI (ab_ev X d 37 [.inl (.int x4)] s12) (fun r15 s14 => (if r13 = r15 then ab_at X (d + 1) 188 5 [some (.inr (7, 0)), some (.inl (.int x1)), some (.inl (.long (y2 ||| q11))), none, some (.inl (.int (x4 + (nI 1)))), some (.inl (.long q11)), none] [] s14 else ab_at X (d + 1) 188 5 [some (.inr (7, 0)), some (.inl (.int x1)), some (.inl (.long y2)), none, some (.inl (.int (x4 + (nI 1)))), some (.inl (.long q11)), none] [] s14)) ab_px) ab_px) ab_px) := ab_blk [5, 106] 40
theorem b188_106 {X : (Nat → Int32) × Nat} {d : Nat} {s : ab_S} {x1 : Int32} {y2 : Int64} {y4 : Int64} {x6 : Int32} : ab_at X (d + 1) 188 106 [some (.inr (7, 0)), some (.inl (.int x1)), some (.inl (.long y2)), none, some (.inl (.long y4)), none, some (.inl (.int x6))] [] s = (if (sz s 10) ≤ x6 then some (.inl none, s) else ab_bU (ab_ev X d 187 [.inr (7, 0), .inl (.int x6), .inl (.long ((y4 &&& (-y4)) ^^^ (-lN 1)))] s) (fun s1 => ab_at X (d + 1) 188 106 [some (.inr (7, 0)), some (.inl (.int x1)), some (.inl (.long y2)), none, some (.inl (.long y4)), none, some (.inl (.int (x6 + (nI 1))))] [] s1) ab_px) := ab_blk [5, 106] 17
/-! 189 MovingNames$Letters.nightOf(I)I -/
theorem b189 {X : (Nat → Int32) × Nat} {d : Nat} {s : ab_S} {x1 : Int32} : ab_ev X (d + 1) 189 [.inr (7, 0), .inl (.int x1)] s = ab_bI (ab_ev X d 9 [.inr (35, 0), .inl (.int x1)] s) (fun r2 s1 => some (.inl (some (.inl (.int r2))), s1)) ab_px := ab_blk [] 7
/-! 191 MovingNames.written(III)I -/
set_option maxRecDepth 100000 in
theorem b191 {X : (Nat → Int32) × Nat} {d : Nat} {s : ab_S} {x1 : Int32} {x2 : Int32} {x3 : Int32} : ab_ev X (d + 1) 191 [.inr (0, 0), .inl (.int x1), .inl (.int x2), .inl (.int x3)] s = ab_bU (ab_ev X d 98 [.inr (0, 0), .inl (.int x1)] s) (fun s1 => ab_bU (ab_ev X d 86 [.inr (0, 0), .inl (.int x2)] s1) (fun s2 => ab_bU (ab_ev X d 103 [.inr (0, 0), .inl (.int x3), .inl (.int (nI 0)), .inl (.int (nI 99))] s2) (fun s3 => ab_bU (ab_ev X d 17 [.inr (6, 0), .inr (2, 0)] s3) (fun s4 => ab_at X (d + 1) 191 38 [some (.inr (0, 0)), some (.inl (.int x1)), some (.inl (.int x2)), some (.inl (.int x3)), some (.inl (.int x2)), some (.inl (.int (nI 0))), some (.inl (.int (nI 0)))] [] s4) ab_px) ab_px) ab_px) ab_px := ab_blk [38] 24
set_option maxRecDepth 100000 in
theorem b191_38 {X : (Nat → Int32) × Nat} {d : Nat} {s : ab_S} {x1 : Int32} {x2 : Int32} {x3 : Int32} {x4 : Int32} {x5 : Int32} {x6 : Int32} : ab_at X (d + 1) 191 38 [some (.inr (0, 0)), some (.inl (.int x1)), some (.inl (.int x2)), some (.inl (.int x3)), some (.inl (.int x4)), some (.inl (.int x5)), some (.inl (.int x6))] [] s = (if (nI 99) < x6 then some (.inl (some (.inl (.int x5))), s) else (if x6 < x3 then ab_bI (ab_ev X d 9 [.inr (29, 0), .inl (.int x4)] s) (fun r2 s1 => ab_at X (d + 1) 191 38 [some (.inr (0, 0)), some (.inl (.int x1)), some (.inl (.int x2)), some (.inl (.int x3)), some (.inl (.int r2)), some (.inl (.int x5)), some (.inl (.int (x6 + (nI 1))))] [] s1) ab_px else ab_bI (ab_ev X d 9 [.inr (28, 0), .inl (.int x4)] s) (fun r4 s3 => (if r4 = x1 then ab_bI (ab_ev X d 9 [.inr (29, 0), .inl (.int x4)] s3) (fun r6 s5 => ab_at X (d + 1) 191 38 [some (.inr (0, 0)), some (.inl (.int x1)), some (.inl (.int x2)), some (.inl (.int x3)), some (.inl (.int r6)), some (.inl (.int (x5 + (nI 1)))), some (.inl (.int (x6 + (nI 1))))] [] s5) ab_px else ab_bI (ab_ev X d 9 [.inr (29, 0), .inl (.int x4)] s3) (fun r8 s7 => ab_at X (d + 1) 191 38 [some (.inr (0, 0)), some (.inl (.int x1)), some (.inl (.int x2)), some (.inl (.int x3)), some (.inl (.int r8)), some (.inl (.int x5)), some (.inl (.int (x6 + (nI 1))))] [] s7) ab_px)) ab_px)) := ab_blk [38] 24
/-! 193 MovingNames.served(III)I -/
set_option maxRecDepth 100000 in
theorem b193 {X : (Nat → Int32) × Nat} {d : Nat} {s : ab_S} {x1 : Int32} {x2 : Int32} {x3 : Int32} : ab_ev X (d + 1) 193 [.inr (0, 0), .inl (.int x1), .inl (.int x2), .inl (.int x3)] s = ab_bU (ab_ev X d 95 [.inr (0, 0), .inl (.int x1)] s) (fun s1 => ab_bU (ab_ev X d 98 [.inr (0, 0), .inl (.int x2)] s1) (fun s2 => ab_bU (ab_ev X d 103 [.inr (0, 0), .inl (.int x3), .inl (.int (nI 0)), .inl (.int (nI 1))] s2) (fun s3 => ab_bU (ab_ev X d 17 [.inr (6, 0), .inr (2, 0)] s3) (fun s4 => ab_bI (ab_ev X d 9 [.inr (20, 0), .inl (.int x1)] s4) (fun r6 s5 => ab_at X (d + 1) 193 50 [some (.inr (0, 0)), some (.inl (.int x1)), some (.inl (.int x2)), some (.inl (.int x3)), some (.inl (.int r6)), some (.inl (.int (nI 0))), some (.inl (.int (-nI 1))), some (.inl (.int (nI 0)))] [] s5) ab_px) ab_px) ab_px) ab_px) ab_px := ab_blk [50] 30
set_option maxRecDepth 100000 in
theorem b193_50 {X : (Nat → Int32) × Nat} {d : Nat} {s : ab_S} {x1 : Int32} {x2 : Int32} {x3 : Int32} {x4 : Int32} {x5 : Int32} {x6 : Int32} {x7 : Int32} : ab_at X (d + 1) 193 50 [some (.inr (0, 0)), some (.inl (.int x1)), some (.inl (.int x2)), some (.inl (.int x3)), some (.inl (.int x4)), some (.inl (.int x5)), some (.inl (.int x6)), some (.inl (.int x7))] [] s = (if (nI 100) ≤ x7 then (if x3 = (nI 0) then some (.inl (some (.inl (.int x5))), s) else some (.inl (some (.inl (.int x6))), s)) else ab_bI (ab_ev X d 9 [.inr (28, 0), .inl (.int x4)] s) (fun r2 s1 => (if r2 = x2 then (if x5 = (nI 0) then ab_bI (ab_ev X d 9 [.inr (30, 0), .inl (.int x4)] s1) (fun r4 s3 => ab_at X (d + 1) 193 50 [some (.inr (0, 0)), some (.inl (.int x1)), some (.inl (.int x2)), some (.inl (.int x3)), some (.inl (.int r4)), some (.inl (.int (x5 + (nI 1)))), some (.inl (.int x7)), some (.inl (.int (x7 + (nI 1))))] [] s3) ab_px else ab_bI (ab_ev X d 9 [.inr (30, 0), .inl (.int x4)] s1) (fun r6 s5 => ab_at X (d + 1) 193 50 [some (.inr (0, 0)), some (.inl (.int x1)), some (.inl (.int x2)), some (.inl (.int x3)), some (.inl (.int r6)), some (.inl (.int (x5 + (nI 1)))), some (.inl (.int x6)), some (.inl (.int (x7 + (nI 1))))] [] s5) ab_px) else ab_bI (ab_ev X d 9 [.inr (30, 0), .inl (.int x4)] s1) (fun r8 s7 => ab_at X (d + 1) 193 50 [some (.inr (0, 0)), some (.inl (.int x1)), some (.inl (.int x2)), some (.inl (.int x3)), some (.inl (.int r8)), some (.inl (.int x5)), some (.inl (.int x6)), some (.inl (.int (x7 + (nI 1))))] [] s7) ab_px)) ab_px) := ab_blk [50] 26
/-! 195 MovingNames.findsIn(III)I -/
set_option maxRecDepth 100000 in
theorem b195 {X : (Nat → Int32) × Nat} {d : Nat} {s : ab_S} {x1 : Int32} {x2 : Int32} {x3 : Int32} : ab_ev X (d + 1) 195 [.inr (0, 0), .inl (.int x1), .inl (.int x2), .inl (.int x3)] s = ab_bU (ab_ev X d 98 [.inr (0, 0), .inl (.int x1)] s) (fun s1 => ab_bU (ab_ev X d 102 [.inr (0, 0), .inl (.int x2)] s1) (fun s2 => ab_bU (ab_ev X d 107 [.inr (0, 0), .inl (.int x3)] s2) (fun s3 => ab_bU (ab_ev X d 17 [.inr (6, 0), .inr (2, 0)] s3) (fun s4 => ab_bU (ab_ev X d 115 [.inr (6, 0), .inl (.int x3)] s4) (fun s5 => ab_bI (ab_ev X d 196 [.inr (6, 0), .inl (.int x1)] s5) (fun r7 s6 => ab_bI (ab_ev X d 104 [.inr (2, 0), .inl (.int x2), .inl (.int r7)] s6) (fun r9 s8 => some (.inl (some (.inl (.int r9))), s8)) ab_px) ab_px) ab_px) ab_px) ab_px) ab_px) ab_px := ab_blk [] 29
/-! 196 MovingNames$Outlook.streetsThen(I)I -/
theorem b196 {X : (Nat → Int32) × Nat} {d : Nat} {s : ab_S} {x1 : Int32} : ab_ev X (d + 1) 196 [.inr (6, 0), .inl (.int x1)] s = ab_at X (d + 1) 196 4 [some (.inr (6, 0)), some (.inl (.int x1)), some (.inl (.int (nI 0))), some (.inl (.int (nI 0)))] [] s := ab_blk [4] 6
set_option maxRecDepth 100000 in
theorem b196_4 {X : (Nat → Int32) × Nat} {d : Nat} {s : ab_S} {x1 : Int32} {x2 : Int32} {x3 : Int32} : ab_at X (d + 1) 196 4 [some (.inr (6, 0)), some (.inl (.int x1)), some (.inl (.int x2)), some (.inl (.int x3))] [] s = (if (sz s 8) ≤ x3 then some (.inl (some (.inl (.int x2))), s) else ab_bI (ab_ev X d 32 [.inr (6, 0), .inl (.int x3)] s) (fun r2 s1 => (if r2 = x1 then ab_at X (d + 1) 196 4 [some (.inr (6, 0)), some (.inl (.int x1)), some (.inl (.int (x2 ||| ((nI 1) <<< (x3 &&& 31))))), some (.inl (.int (x3 + (nI 1))))] [] s1 else ab_at X (d + 1) 196 4 [some (.inr (6, 0)), some (.inl (.int x1)), some (.inl (.int x2)), some (.inl (.int (x3 + (nI 1))))] [] s1)) ab_px) := ab_blk [4] 19
/-! 198 MovingNames.right(I)I -/
theorem b198 {X : (Nat → Int32) × Nat} {d : Nat} {s : ab_S} {x1 : Int32} : ab_ev X (d + 1) 198 [.inr (0, 0), .inl (.int x1)] s = ab_bU (ab_ev X d 107 [.inr (0, 0), .inl (.int x1)] s) (fun s1 => ab_bU (ab_ev X d 17 [.inr (6, 0), .inr (2, 0)] s1) (fun s2 => ab_bU (ab_ev X d 115 [.inr (6, 0), .inl (.int x1)] s2) (fun s3 => ab_bI (ab_ev X d 31 [.inr (6, 0)] s3) (fun r5 s4 => some (.inl (some (.inl (.int r5))), s4)) ab_px) ab_px) ab_px) ab_px := ab_blk [] 18
/-! 200 MovingNames.rightDays(II)I -/
set_option maxRecDepth 100000 in
theorem b200 {X : (Nat → Int32) × Nat} {d : Nat} {s : ab_S} {x1 : Int32} {x2 : Int32} : ab_ev X (d + 1) 200 [.inr (0, 0), .inl (.int x1), .inl (.int x2)] s = ab_bU (ab_ev X d 103 [.inr (0, 0), .inl (.int x2), .inl (.int (nI 0)), .inl (.int (nI 999))] s) (fun s1 => (if (nI 0) ≤ x1 then ab_bU (ab_ev X d 17 [.inr (6, 0), .inr (2, 0)] s1) (fun s2 => ab_at X (d + 1) 200 40 [some (.inr (0, 0)), some (.inl (.int x1)), some (.inl (.int x2)), some (.inl (.int (nI 0))), some (.inl (.int (nI 0)))] [] s2) ab_px else some (.inr 0, pn (pn s1 0 ((sn s1 0) + 1)) 1 ((sn s1 1) + 6)))) ab_px := ab_blk [40] 18
set_option maxRecDepth 100000 in
theorem b200_40 {X : (Nat → Int32) × Nat} {d : Nat} {s : ab_S} {x1 : Int32} {x2 : Int32} {x3 : Int32} {x4 : Int32} : ab_at X (d + 1) 200 40 [some (.inr (0, 0)), some (.inl (.int x1)), some (.inl (.int x2)), some (.inl (.int x3)), some (.inl (.int x4))] [] s = (if x2 ≤ x4 then some (.inl (some (.inl (.int x3))), s) else ab_bU (ab_ev X d 30 [.inr (6, 0)] s) (fun s1 => ab_bI (ab_ev X d 31 [.inr (6, 0)] s1) (fun r3 s2 => (if r3 < x1 then ab_at X (d + 1) 200 40 [some (.inr (0, 0)), some (.inl (.int x1)), some (.inl (.int x2)), some (.inl (.int x3)), some (.inl (.int (x4 + (nI 1))))] [] s2 else ab_at X (d + 1) 200 40 [some (.inr (0, 0)), some (.inl (.int x1)), some (.inl (.int x2)), some (.inl (.int (x3 + (nI 1)))), some (.inl (.int (x4 + (nI 1))))] [] s2)) ab_px) ab_px) := ab_blk [40] 16
/-! 202 MovingNames.harm(I)I -/
theorem b202 {X : (Nat → Int32) × Nat} {d : Nat} {s : ab_S} {x1 : Int32} : ab_ev X (d + 1) 202 [.inr (0, 0), .inl (.int x1)] s = ab_bU (ab_ev X d 107 [.inr (0, 0), .inl (.int x1)] s) (fun s1 => ab_bU (ab_ev X d 17 [.inr (6, 0), .inr (2, 0)] s1) (fun s2 => ab_bU (ab_ev X d 115 [.inr (6, 0), .inl (.int x1)] s2) (fun s3 => ab_bI (ab_ev X d 203 [.inr (6, 0)] s3) (fun r5 s4 => some (.inl (some (.inl (.int r5))), s4)) ab_px) ab_px) ab_px) ab_px := ab_blk [] 18
/-! 203 MovingNames$Outlook.harmThen()I -/
theorem b203 {X : (Nat → Int32) × Nat} {d : Nat} {s : ab_S}  : ab_ev X (d + 1) 203 [.inr (6, 0)] s = ab_at X (d + 1) 203 4 [some (.inr (6, 0)), some (.inl (.int (nI 0))), some (.inl (.int (nI 0)))] [] s := ab_blk [4] 6
set_option maxRecDepth 100000 in
theorem b203_4 {X : (Nat → Int32) × Nat} {d : Nat} {s : ab_S} {x1 : Int32} {x2 : Int32} : ab_at X (d + 1) 203 4 [some (.inr (6, 0)), some (.inl (.int x1)), some (.inl (.int x2))] [] s = (if (sz s 8) ≤ x2 then some (.inl (some (.inl (.int x1))), s) else ab_bI (ab_ev X d 32 [.inr (6, 0), .inl (.int x2)] s) (fun r2 s1 => (if (((sz s 9) >>> (r2 &&& 31)) &&& (nI 1)) = (nI 0) then ab_bI (ab_ev X d 9 [.inr (31, 0), .inl (.int x2)] s1) (fun r4 s3 => ab_bI (ab_ev X d 92 [.inl (.int (x2 - r4))] s3) (fun r6 s5 => ab_at X (d + 1) 203 4 [some (.inr (6, 0)), some (.inl (.int (x1 + r6))), some (.inl (.int (x2 + (nI 1))))] [] s5) ab_px) ab_px else ab_at X (d + 1) 203 4 [some (.inr (6, 0)), some (.inl (.int x1)), some (.inl (.int (x2 + (nI 1))))] [] s1)) ab_px) := ab_blk [4] 27
/-! 205 MovingNames.leastHarm(I)I -/
set_option maxRecDepth 100000 in
theorem b205 {X : (Nat → Int32) × Nat} {d : Nat} {s : ab_S} {x1 : Int32} : ab_ev X (d + 1) 205 [.inr (0, 0), .inl (.int x1)] s = ab_bU (ab_ev X d 103 [.inr (0, 0), .inl (.int x1), .inl (.int (nI 1)), .inl (.int (nI 999))] s) (fun s1 => ab_bU (ab_ev X d 17 [.inr (6, 0), .inr (2, 0)] s1) (fun s2 => ab_bU (ab_ev X d 30 [.inr (6, 0)] s2) (fun s3 => ab_bI (ab_ev X d 203 [.inr (6, 0)] s3) (fun r5 s4 => ab_at X (d + 1) 205 40 [some (.inr (0, 0)), some (.inl (.int x1)), some (.inl (.int (nI 1))), some (.inl (.int r5)), some (.inl (.int (nI 2))), none] [] s4) ab_px) ab_px) ab_px) ab_px := ab_blk [40] 23
set_option maxRecDepth 100000 in
theorem b205_40 {X : (Nat → Int32) × Nat} {d : Nat} {s : ab_S} {x1 : Int32} {x2 : Int32} {x3 : Int32} {x4 : Int32} {u5 : Option ab_V} : ab_at X (d + 1) 205 40 [some (.inr (0, 0)), some (.inl (.int x1)), some (.inl (.int x2)), some (.inl (.int x3)), some (.inl (.int x4)), u5] [] s = (if x1 < x4 then some (.inl (some (.inl (.int x2))), s) else (if x3 ≤ (nI 0) then some (.inl (some (.inl (.int x2))), s) else ab_bU (ab_ev X d 30 [.inr (6, 0)] s) (fun s1 => ab_bI (ab_ev X d 203 [.inr (6, 0)] s1) (fun r3 s2 => (if x3 ≤ r3 then ab_at X (d + 1) 205 40 [some (.inr (0, 0)), some (.inl (.int x1)), some (.inl (.int x2)), some (.inl (.int x3)), some (.inl (.int (x4 + (nI 1)))), some (.inl (.int r3))] [] s2 else ab_at X (d + 1) 205 40 [some (.inr (0, 0)), some (.inl (.int x1)), some (.inl (.int x4)), some (.inl (.int r3)), some (.inl (.int (x4 + (nI 1)))), some (.inl (.int r3))] [] s2)) ab_px) ab_px)) := ab_blk [40] 23
/-! 207 MovingNames.errors(II)I -/
theorem b207 {X : (Nat → Int32) × Nat} {d : Nat} {s : ab_S} {x1 : Int32} {x2 : Int32} : ab_ev X (d + 1) 207 [.inr (0, 0), .inl (.int x1), .inl (.int x2)] s = ab_bA (ab_ev X d 150 [.inr (0, 0), .inl (.int x1)] s) (fun kr2 ir3 s1 => ab_at X (d + 1) 207 5 [some (.inr (0, 0)), some (.inl (.int x1)), some (.inl (.int x2)), none, none, none, none, none, none] [.inr (kr2, ir3)] s1) ab_px := ab_blk [5, 55, 107, 132, 138, 141] 5
set_option maxRecDepth 100000 in
theorem b207_5 {X : (Nat → Int32) × Nat} {d : Nat} {s : ab_S} {x1 : Int32} {x2 : Int32} {c0 : Nat} : ab_at X (d + 1) 207 5 [some (.inr (0, 0)), some (.inl (.int x1)), some (.inl (.int x2)), none, none, none, none, none, none] [.inr (8, c0)] s = ab_bU (ab_ev X d 208 [.inr (0, 0), .inr (8, c0), .inl (.int (-nI 1))] s) (fun s1 => ab_bU (ab_ev X d 103 [.inr (0, 0), .inl (.int x2), .inl (.int (nI 0)), .inl (.int (nI 2))] s1) (fun s2 => ab_bU (ab_ev X d 17 [.inr (6, 0), .inr (2, 0)] s2) (fun s3 => ab_bI (ab_ev X d 26 [.inr (6, 0)] s3) (fun r5 s4 => ab_bI (ab_ev X d 209 [.inr (6, 0), .inr (8, c0)] s4) (fun r7 s6 => ab_at X (d + 1) 207 55 [some (.inr (0, 0)), some (.inl (.int x1)), some (.inl (.int x2)), some (.inr (8, c0)), some (.inl (.int r5)), some (.inl (.int (nI 0))), some (.inl (.int r7)), some (.inl (.int (nI 1))), none] [] s6) ab_px) ab_px) ab_px) ab_px) ab_px := ab_blk [5, 55, 107, 132, 138, 141] 30
set_option maxRecDepth 100000 in
theorem b207_55 {X : (Nat → Int32) × Nat} {d : Nat} {s : ab_S} {x1 : Int32} {x2 : Int32} {i3 : Nat} {x4 : Int32} {x5 : Int32} {x6 : Int32} {x7 : Int32} {u8 : Option ab_V} : ab_at X (d + 1) 207 55 [some (.inr (0, 0)), some (.inl (.int x1)), some (.inl (.int x2)), some (.inr (8, i3)), some (.inl (.int x4)), some (.inl (.int x5)), some (.inl (.int x6)), some (.inl (.int x7)), u8] [] s = (if x4 ≤ x7 then ab_at X (d + 1) 207 107 [some (.inr (0, 0)), some (.inl (.int x1)), some (.inl (.int x2)), some (.inr (8, i3)), some (.inl (.int x4)), some (.inl (.int x5)), some (.inl (.int x6)), some (.inl (.int x7)), u8] [.inl (.int x2)] s else ab_bU (ab_ev X d 30 [.inr (6, 0)] s) (fun s1 => ab_bI (ab_ev X d 209 [.inr (6, 0), .inr (8, i3)] s1) (fun r3 s2 => ab_bI (ab_ev X d 37 [.inl (.int r3)] s2) (fun r5 s4 => ab_bI (ab_ev X d 37 [.inl (.int x6)] s4) (fun r7 s6 => (if r7 ≤ r5 then ab_at X (d + 1) 207 55 [some (.inr (0, 0)), some (.inl (.int x1)), some (.inl (.int x2)), some (.inr (8, i3)), some (.inl (.int x4)), some (.inl (.int x5)), some (.inl (.int x6)), some (.inl (.int (x7 + (nI 1)))), some (.inl (.int r3))] [] s6 else ab_at X (d + 1) 207 55 [some (.inr (0, 0)), some (.inl (.int x1)), some (.inl (.int x2)), some (.inr (8, i3)), some (.inl (.int x4)), some (.inl (.int x7)), some (.inl (.int r3)), some (.inl (.int (x7 + (nI 1)))), some (.inl (.int r3))] [] s6)) ab_px) ab_px) ab_px) ab_px) := ab_blk [5, 55, 107, 132, 138, 141] 24
theorem b207_107 {X : (Nat → Int32) × Nat} {d : Nat} {s : ab_S} {x1 : Int32} {x2 : Int32} {i3 : Nat} {x4 : Int32} {x5 : Int32} {x6 : Int32} {x7 : Int32} {u8 : Option ab_V} {v0 : Int32} : ab_at X (d + 1) 207 107 [some (.inr (0, 0)), some (.inl (.int x1)), some (.inl (.int x2)), some (.inr (8, i3)), some (.inl (.int x4)), some (.inl (.int x5)), some (.inl (.int x6)), some (.inl (.int x7)), u8] [.inl (.int v0)] s = (if v0 = (nI 0) then ab_at X (d + 1) 207 132 [some (.inr (0, 0)), some (.inl (.int x1)), some (.inl (.int x2)), some (.inr (8, i3)), some (.inl (.int x4)), some (.inl (.int x5)), some (.inl (.int x6)), some (.inl (.int x7)), u8] [] s else (if v0 = (nI 1) then ab_at X (d + 1) 207 138 [some (.inr (0, 0)), some (.inl (.int x1)), some (.inl (.int x2)), some (.inr (8, i3)), some (.inl (.int x4)), some (.inl (.int x5)), some (.inl (.int x6)), some (.inl (.int x7)), u8] [] s else ab_at X (d + 1) 207 141 [some (.inr (0, 0)), some (.inl (.int x1)), some (.inl (.int x2)), some (.inr (8, i3)), some (.inl (.int x4)), some (.inl (.int x5)), some (.inl (.int x6)), some (.inl (.int x7)), u8] [] s)) := by
  refine (ab_lsw (m := 207) (pc := 107) rfl).trans ?_
  by_cases h0 : v0 = (nI 0)
  · subst h0
    rfl
  rw [if_neg h0]
  by_cases h1 : v0 = (nI 1)
  · subst h1
    rfl
  rw [if_neg h1]
  have g0 : v0.toInt ≠ 0 := fun e => h0 (Int32.toInt_inj.mp (e.trans (by decide)))
  have g1 : v0.toInt ≠ 1 := fun e => h1 (Int32.toInt_inj.mp (e.trans (by decide)))
  refine ab_lsw_d (o' := 34) ?_
  show (if (0 : Int) = v0.toInt then (25 : Int) else if (1 : Int) = v0.toInt then (31 : Int) else (34 : Int)) = 34
  rw [if_neg (Ne.symm g0), if_neg (Ne.symm g1)]
theorem b207_132 {X : (Nat → Int32) × Nat} {d : Nat} {s : ab_S} {x1 : Int32} {x2 : Int32} {i3 : Nat} {x4 : Int32} {x5 : Int32} {x6 : Int32} {x7 : Int32} {u8 : Option ab_V} : ab_at X (d + 1) 207 132 [some (.inr (0, 0)), some (.inl (.int x1)), some (.inl (.int x2)), some (.inr (8, i3)), some (.inl (.int x4)), some (.inl (.int x5)), some (.inl (.int x6)), some (.inl (.int x7)), u8] [] s = ab_bI (ab_ev X d 37 [.inl (.int x6)] s) (fun r2 s1 => some (.inl (some (.inl (.int r2))), s1)) ab_px := ab_blk [5, 55, 107, 132, 138, 141] 5
theorem b207_138 {X : (Nat → Int32) × Nat} {d : Nat} {s : ab_S} {x1 : Int32} {x2 : Int32} {i3 : Nat} {x4 : Int32} {x5 : Int32} {x6 : Int32} {x7 : Int32} {u8 : Option ab_V} : ab_at X (d + 1) 207 138 [some (.inr (0, 0)), some (.inl (.int x1)), some (.inl (.int x2)), some (.inr (8, i3)), some (.inl (.int x4)), some (.inl (.int x5)), some (.inl (.int x6)), some (.inl (.int x7)), u8] [] s = some (.inl (some (.inl (.int x5))), s) := ab_blk [5, 55, 107, 132, 138, 141] 4
theorem b207_141 {X : (Nat → Int32) × Nat} {d : Nat} {s : ab_S} {x1 : Int32} {x2 : Int32} {i3 : Nat} {x4 : Int32} {x5 : Int32} {x6 : Int32} {x7 : Int32} {u8 : Option ab_V} : ab_at X (d + 1) 207 141 [some (.inr (0, 0)), some (.inl (.int x1)), some (.inl (.int x2)), some (.inr (8, i3)), some (.inl (.int x4)), some (.inl (.int x5)), some (.inl (.int x6)), some (.inl (.int x7)), u8] [] s = some (.inl (some (.inl (.int x6))), s) := ab_blk [5, 55, 107, 132, 138, 141] 4
/-! 208 MovingNames.needNames(LMovingNames$Tray;I)V -/
theorem b208 {X : (Nat → Int32) × Nat} {d : Nat} {s : ab_S} {i1 : Nat} {x2 : Int32} : ab_ev X (d + 1) 208 [.inr (0, 0), .inr (8, i1), .inl (.int x2)] s = ab_bU (ab_ev X d 103 [.inr (0, 0), .inl (.int ((si s 11) i1)), .inl (.int ((si s 1) 0)), .inl (.int ((si s 1) 0))] s) (fun s1 => ab_at X (d + 1) 208 24 [some (.inr (0, 0)), some (.inr (8, i1)), some (.inl (.int x2)), some (.inl (.int (nI 0))), none, none] [] s1) ab_px := ab_blk [24] 14
set_option maxRecDepth 100000 in
theorem b208_24 {X : (Nat → Int32) × Nat} {d : Nat} {s : ab_S} {i1 : Nat} {x2 : Int32} {x3 : Int32} {u4 : Option ab_V} : ab_at X (d + 1) 208 24 [some (.inr (0, 0)), some (.inr (8, i1)), some (.inl (.int x2)), some (.inl (.int x3)), u4, none] [] s = (if ((si s 11) i1) ≤ x3 then some (.inl none, s) else ab_bJ (ab_ev X d 152 [.inr (8, i1), .inl (.int x3)] s) (fun q2 s1 => (if (lg_cmp q2 (x2.toInt64)) < (nI 0) then some (.inr 0, pn (pn s1 0 ((sn s1 0) + 1)) 1 ((sn s1 1) + 6)) else (if (lg_cmp q2 (((si s1 1) 0).toInt64)) < (nI 0) then ab_at X (d + 1) 208 24 [some (.inr (0, 0)), some (.inr (8, i1)), some (.inl (.int x2)), some (.inl (.int (x3 + (nI 1)))), some (.inl (.long q2)), none] [] s1 else some (.inr 0, pn (pn s1 0 ((sn s1 0) + 1)) 1 ((sn s1 1) + 6))))) ab_px) := ab_blk [24] 24
/-! 209 MovingNames$Outlook.streetsUnlike(LMovingNames$Tray;)I -/
theorem b209 {X : (Nat → Int32) × Nat} {d : Nat} {s : ab_S} {i1 : Nat} : ab_ev X (d + 1) 209 [.inr (6, 0), .inr (8, i1)] s = ab_at X (d + 1) 209 4 [some (.inr (6, 0)), some (.inr (8, i1)), some (.inl (.int (nI 0))), some (.inl (.int (nI 0))), none, none] [] s := ab_blk [4] 6
set_option maxRecDepth 100000 in
theorem b209_4 {X : (Nat → Int32) × Nat} {d : Nat} {s : ab_S} {i1 : Nat} {x2 : Int32} {x3 : Int32} {u4 : Option ab_V} : ab_at X (d + 1) 209 4 [some (.inr (6, 0)), some (.inr (8, i1)), some (.inl (.int x2)), some (.inl (.int x3)), u4, none] [] s = (if (sz s 8) ≤ x3 then some (.inl (some (.inl (.int x2))), s) else ab_bJ (ab_ev X d 152 [.inr (8, i1), .inl (.int x3)] s) (fun q2 s1 => (if (lg_cmp q2 (-lN 1)) = (nI 0) then ab_at X (d + 1) 209 4 [some (.inr (6, 0)), some (.inr (8, i1)), some (.inl (.int x2)), some (.inl (.int (x3 + (nI 1)))), some (.inl (.long q2)), none] [] s1 else ab_bI (ab_ev X d 32 [.inr (6, 0), .inl (.int x3)] s1) (fun r4 s3 => (if (lg_cmp q2 (r4.toInt64)) = (nI 0) then ab_at X (d + 1) 209 4 [some (.inr (6, 0)), some (.inr (8, i1)), some (.inl (.int x2)), some (.inl (.int (x3 + (nI 1)))), some (.inl (.long q2)), none] [] s3 else ab_at X (d + 1) 209 4 [some (.inr (6, 0)), some (.inr (8, i1)), some (.inl (.int (x2 ||| ((nI 1) <<< (x3 &&& 31))))), some (.inl (.int (x3 + (nI 1)))), some (.inl (.long q2)), none] [] s3)) ab_px)) ab_px) := ab_blk [4] 29
/-! 211 MovingNames.ink(I)I -/
theorem b211 {X : (Nat → Int32) × Nat} {d : Nat} {s : ab_S} {x1 : Int32} : ab_ev X (d + 1) 211 [.inr (0, 0), .inl (.int x1)] s = ab_bA (ab_ev X d 150 [.inr (0, 0), .inl (.int x1)] s) (fun kr2 ir3 s1 => ab_at X (d + 1) 211 5 [some (.inr (0, 0)), some (.inl (.int x1)), none, none, none] [.inr (kr2, ir3)] s1) ab_px := ab_blk [5, 17] 5
theorem b211_5 {X : (Nat → Int32) × Nat} {d : Nat} {s : ab_S} {x1 : Int32} {c0 : Nat} : ab_at X (d + 1) 211 5 [some (.inr (0, 0)), some (.inl (.int x1)), none, none, none] [.inr (8, c0)] s = ab_bU (ab_ev X d 208 [.inr (0, 0), .inr (8, c0), .inl (.int (nI 0))] s) (fun s1 => ab_at X (d + 1) 211 17 [some (.inr (0, 0)), some (.inl (.int x1)), some (.inr (8, c0)), some (.inl (.int (nI 0))), some (.inl (.int (nI 0)))] [] s1) ab_px := ab_blk [5, 17] 11
set_option maxRecDepth 100000 in
theorem b211_17 {X : (Nat → Int32) × Nat} {d : Nat} {s : ab_S} {x1 : Int32} {i2 : Nat} {x3 : Int32} {x4 : Int32} : ab_at X (d + 1) 211 17 [some (.inr (0, 0)), some (.inl (.int x1)), some (.inr (8, i2)), some (.inl (.int x3)), some (.inl (.int x4))] [] s = (if ((si s 1) 0) ≤ x4 then some (.inl (some (.inl (.int x3))), s) else ab_bJ (ab_ev X d 152 [.inr (8, i2), .inl (.int x4)] s) (fun q2 s1 => ab_bI (ab_ev X d 9 [.inr (19, 0), .inl (.int x4)] s1) (fun r4 s3 => (if (lg_cmp q2 (r4.toInt64)) = (nI 0) then ab_at X (d + 1) 211 17 [some (.inr (0, 0)), some (.inl (.int x1)), some (.inr (8, i2)), some (.inl (.int x3)), some (.inl (.int (x4 + (nI 1))))] [] s3 else ab_at X (d + 1) 211 17 [some (.inr (0, 0)), some (.inl (.int x1)), some (.inr (8, i2)), some (.inl (.int (x3 + (nI 1)))), some (.inl (.int (x4 + (nI 1))))] [] s3)) ab_px) ab_px) := ab_blk [5, 17] 21
/-! 213 MovingNames.changes(I)I -/
theorem b213 {X : (Nat → Int32) × Nat} {d : Nat} {s : ab_S} {x1 : Int32} : ab_ev X (d + 1) 213 [.inr (0, 0), .inl (.int x1)] s = ab_bA (ab_ev X d 150 [.inr (0, 0), .inl (.int x1)] s) (fun kr2 ir3 s1 => ab_at X (d + 1) 213 5 [some (.inr (0, 0)), some (.inl (.int x1)), none] [.inr (kr2, ir3)] s1) ab_px := ab_blk [5] 5
theorem b213_5 {X : (Nat → Int32) × Nat} {d : Nat} {s : ab_S} {x1 : Int32} {c0 : Nat} : ab_at X (d + 1) 213 5 [some (.inr (0, 0)), some (.inl (.int x1)), none] [.inr (8, c0)] s = ab_bU (ab_ev X d 208 [.inr (0, 0), .inr (8, c0), .inl (.int (nI 0))] s) (fun s1 => ab_bI (ab_ev X d 8 [.inr (2, 0)] s1) (fun r3 s2 => (if r3 = (nI 0) then ab_bI (ab_ev X d 214 [.inr (2, 0), .inr (8, c0)] s2) (fun r5 s4 => some (.inl (some (.inl (.int r5))), s4)) ab_px else some (.inl (some (.inl (.int (-nI 2)))), s2))) ab_px) ab_px := ab_blk [5] 16
/-! 214 MovingNames$Town.fewestChanges(LMovingNames$Tray;)I -/
theorem b214 {X : (Nat → Int32) × Nat} {d : Nat} {s : ab_S} {i0 : Nat} {i1 : Nat} : ab_ev X (d + 1) 214 [.inr (2, i0), .inr (8, i1)] s = ab_at X (d + 1) 214 11 [some (.inr (2, i0)), some (.inr (8, i1)), some (.inl (.int (((nI 1) <<< (((si s 1) i0) &&& 31)) - (nI 1)))), some (.inl (.int (nI 0))), none, none, none, none] [] s := ab_blk [11, 55, 83] 11
set_option maxRecDepth 100000 in
theorem b214_11 {X : (Nat → Int32) × Nat} {d : Nat} {s : ab_S} {i0 : Nat} {i1 : Nat} {x2 : Int32} {x3 : Int32} : ab_at X (d + 1) 214 11 [some (.inr (2, i0)), some (.inr (8, i1)), some (.inl (.int x2)), some (.inl (.int x3)), none, none, none, none] [] s = (if ((si s 1) i0) ≤ x3 then (if x2 = (nI 0) then ab_at X (d + 1) 214 55 [some (.inr (2, i0)), some (.inr (8, i1)), some (.inl (.int x2)), some (.inl (.int ((si s 1) i0))), some (.inl (.int (nI 0))), some (.inl (.int (nI 0))), none, none] [] s else some (.inl (some (.inl (.int (-nI 1)))), s)) else ab_bJ (ab_ev X d 152 [.inr (8, i1), .inl (.int x3)] s) (fun q2 s1 => ab_at X (d + 1) 214 11 [some (.inr (2, i0)), some (.inr (8, i1)), some (.inl (.int (x2 &&& (((nI 1) <<< ((q2.toInt32) &&& 31)) ^^^ (-nI 1))))), some (.inl (.int (x3 + (nI 1)))), none, none, none, none] [] s1) ab_px) := ab_blk [11, 55, 83] 19
theorem b214_55 {X : (Nat → Int32) × Nat} {d : Nat} {s : ab_S} {i0 : Nat} {i1 : Nat} {x2 : Int32} {x3 : Int32} {x4 : Int32} {x5 : Int32} {u6 : Option ab_V} {u7 : Option ab_V} : ab_at X (d + 1) 214 55 [some (.inr (2, i0)), some (.inr (8, i1)), some (.inl (.int x2)), some (.inl (.int x3)), some (.inl (.int x4)), some (.inl (.int x5)), u6, u7] [] s = (if ((si s 1) i0) ≤ x5 then some (.inl (some (.inl (.int x3))), s) else ab_at X (d + 1) 214 83 [some (.inr (2, i0)), some (.inr (8, i1)), some (.inl (.int x2)), some (.inl (.int (x3 - ((nI 1) - ((x4 >>> (x5 &&& 31)) &&& (nI 1)))))), some (.inl (.int x4)), some (.inl (.int x5)), some (.inl (.int x5)), some (.inl (.int (nI 0)))] [] s) := ab_blk [11, 55, 83] 20
set_option maxRecDepth 100000 in
theorem b214_83 {X : (Nat → Int32) × Nat} {d : Nat} {s : ab_S} {i0 : Nat} {i1 : Nat} {x2 : Int32} {x3 : Int32} {x4 : Int32} {x5 : Int32} {x6 : Int32} {x7 : Int32} : ab_at X (d + 1) 214 83 [some (.inr (2, i0)), some (.inr (8, i1)), some (.inl (.int x2)), some (.inl (.int x3)), some (.inl (.int x4)), some (.inl (.int x5)), some (.inl (.int x6)), some (.inl (.int x7))] [] s = (if ((si s 1) i0) ≤ x7 then ab_at X (d + 1) 214 55 [some (.inr (2, i0)), some (.inr (8, i1)), some (.inl (.int x2)), some (.inl (.int x3)), some (.inl (.int x4)), some (.inl (.int (x5 + (nI 1)))), some (.inl (.int x6)), some (.inl (.int x7))] [] s else (if ((x4 >>> (x6 &&& 31)) &&& (nI 1)) = (nI 0) then ab_bJ (ab_ev X d 152 [.inr (8, i1), .inl (.int x6)] s) (fun q2 s1 => ab_bI (ab_ev X d 215 [.inr (2, i0), .inl (.int (q2.toInt32))] s1) (fun r4 s3 => ab_at X (d + 1) 214 83 [some (.inr (2, i0)), some (.inr (8, i1)), some (.inl (.int x2)), some (.inl (.int x3)), some (.inl (.int (x4 ||| ((nI 1) <<< (x6 &&& 31))))), some (.inl (.int x5)), some (.inl (.int r4)), some (.inl (.int (x7 + (nI 1))))] [] s3) ab_px) ab_px else ab_at X (d + 1) 214 55 [some (.inr (2, i0)), some (.inr (8, i1)), some (.inl (.int x2)), some (.inl (.int x3)), some (.inl (.int x4)), some (.inl (.int (x5 + (nI 1)))), some (.inl (.int x6)), some (.inl (.int x7))] [] s)) := ab_blk [11, 55, 83] 27
/-! 215 MovingNames$Town.streetBearing(I)I -/
theorem b215 {X : (Nat → Int32) × Nat} {d : Nat} {s : ab_S} {i0 : Nat} {x1 : Int32} : ab_ev X (d + 1) 215 [.inr (2, i0), .inl (.int x1)] s = ab_at X (d + 1) 215 2 [some (.inr (2, i0)), some (.inl (.int x1)), some (.inl (.int (nI 0)))] [] s := ab_blk [2] 4
theorem b215_2 {X : (Nat → Int32) × Nat} {d : Nat} {s : ab_S} {i0 : Nat} {x1 : Int32} {x2 : Int32} : ab_at X (d + 1) 215 2 [some (.inr (2, i0)), some (.inl (.int x1)), some (.inl (.int x2))] [] s = (if ((si s 1) i0) ≤ x2 then some (.inl (some (.inl (.int (nI 0)))), s) else ab_bI (ab_ev X d 9 [.inr (19, i0), .inl (.int x2)] s) (fun r2 s1 => (if r2 = x1 then some (.inl (some (.inl (.int x2))), s1) else ab_at X (d + 1) 215 2 [some (.inr (2, i0)), some (.inl (.int x1)), some (.inl (.int (x2 + (nI 1))))] [] s1)) ab_px) := ab_blk [2] 14
/-! 217 MovingNames.tray(III)V -/
set_option maxRecDepth 100000 in
theorem b217 {X : (Nat → Int32) × Nat} {d : Nat} {s : ab_S} {x1 : Int32} {x2 : Int32} {x3 : Int32} : ab_ev X (d + 1) 217 [.inr (0, 0), .inl (.int x1), .inl (.int x2), .inl (.int x3)] s = (if x1 < (nI 0) then some (.inr 1, pn (pn s 0 ((sn s 0) + 1)) 1 ((sn s 1) + 6)) else (if x1 < (nI 4) then ab_bU (ab_ev X d 103 [.inr (0, 0), .inl (.int x2), .inl (.int (nI 0)), .inl (.int (nI 3))] s) (fun s1 => ab_bU (ab_ev X d 103 [.inr (0, 0), .inl (.int x3), .inl (.int (nI 0)), .inl (.int (nI 30))] s1) (fun s2 => (if x1 < (nI 0) ∨ 4 ≤ x1.toNatClampNeg then none else ab_oq ((sq s2 0) x1.toNatClampNeg) ((if x1 < (nI 0) ∨ 4 ≤ x1.toNatClampNeg then none else ab_bU (ab_ev X d 218 [.inr (8, (sn s2 3)), .inl (.int x2), .inl (.int x3)] (pq (ab_newR s2) 0 (va_up (sq (ab_newR s2) 0) x1.toNatClampNeg (some (sn s2 3))))) (fun s4 => some (.inl none, s4)) ab_px)) (fun t3 => ab_bU (ab_ev X d 218 [.inr (8, t3), .inl (.int x2), .inl (.int x3)] s2) (fun s5 => some (.inl none, s5)) ab_px))) ab_px) ab_px else some (.inr 1, pn (pn s 0 ((sn s 0) + 1)) 1 ((sn s 1) + 6)))) := ab_blk [] 38
/-! 218 MovingNames$Tray.empty(II)V -/
theorem b218 {X : (Nat → Int32) × Nat} {d : Nat} {s : ab_S} {i0 : Nat} {x1 : Int32} {x2 : Int32} : ab_ev X (d + 1) 218 [.inr (8, i0), .inl (.int x1), .inl (.int x2)] s = ab_bI (ab_ev X d 19 [.inl (.int x2), .inl (.int (nI 30))] (wi s 10 i0 x1)) (fun r2 s1 => ab_at X (d + 1) 218 20 [some (.inr (8, i0)), some (.inl (.int x1)), some (.inl (.int x2)), some (.inl (.int (nI 0)))] [] (wi s1 11 i0 r2)) ab_px := ab_blk [20] 14
theorem b218_20 {X : (Nat → Int32) × Nat} {d : Nat} {s : ab_S} {i0 : Nat} {x1 : Int32} {x2 : Int32} {x3 : Int32} : ab_at X (d + 1) 218 20 [some (.inr (8, i0)), some (.inl (.int x1)), some (.inl (.int x2)), some (.inl (.int x3))] [] s = (if (nI 30) ≤ x3 then some (.inl none, s) else (if x3 < (nI 0) ∨ 30 ≤ x3.toNatClampNeg then none else ab_at X (d + 1) 218 20 [some (.inr (8, i0)), some (.inl (.int x1)), some (.inl (.int x2)), some (.inl (.int (x3 + (nI 1))))] [] (wB s 0 i0 (va_up ((sB s 0) i0) x3.toNatClampNeg (lN 0))))) := ab_blk [20] 14
/-! 220 MovingNames.write(IIJ)J -/
theorem b220 {X : (Nat → Int32) × Nat} {d : Nat} {s : ab_S} {x1 : Int32} {x2 : Int32} {y3 : Int64} : ab_ev X (d + 1) 220 [.inr (0, 0), .inl (.int x1), .inl (.int x2), .inl (.long y3)] s = ab_bA (ab_ev X d 150 [.inr (0, 0), .inl (.int x1)] s) (fun kr2 ir3 s1 => ab_at X (d + 1) 220 5 [some (.inr (0, 0)), some (.inl (.int x1)), some (.inl (.int x2)), some (.inl (.long y3)), none, none] [.inr (kr2, ir3)] s1) ab_px := ab_blk [5] 5
theorem b220_5 {X : (Nat → Int32) × Nat} {d : Nat} {s : ab_S} {x1 : Int32} {x2 : Int32} {y3 : Int64} {c0 : Nat} : ab_at X (d + 1) 220 5 [some (.inr (0, 0)), some (.inl (.int x1)), some (.inl (.int x2)), some (.inl (.long y3)), none, none] [.inr (8, c0)] s = (if x2 < (nI 0) then some (.inr 3, pn (pn s 0 ((sn s 0) + 1)) 1 ((sn s 1) + 6)) else (if x2 < ((si s 11) c0) then ab_bU (ab_ev X d 221 [.inr (8, c0), .inl (.int x2), .inl (.long y3)] s) (fun s1 => ab_bJ (ab_ev X d 152 [.inr (8, c0), .inl (.int x2)] s1) (fun q3 s2 => some (.inl (some (.inl (.long q3))), s2)) ab_px) ab_px else some (.inr 3, pn (pn s 0 ((sn s 0) + 1)) 1 ((sn s 1) + 6)))) := ab_blk [5] 17
/-! 221 MovingNames$Tray.set(IJ)V -/
theorem b221 {X : (Nat → Int32) × Nat} {d : Nat} {s : ab_S} {i0 : Nat} {x1 : Int32} {y2 : Int64} : ab_ev X (d + 1) 221 [.inr (8, i0), .inl (.int x1), .inl (.long y2)] s = (if x1 < (nI 0) then some (.inl none, s) else (if ((si s 11) i0) ≤ x1 then some (.inl none, s) else (if (nI 30) ≤ x1 then some (.inl none, s) else ab_bJ (ab_ev X d 222 [.inr (8, i0), .inl (.long y2)] s) (fun q2 s1 => (if x1 < (nI 0) ∨ 30 ≤ x1.toNatClampNeg then none else some (.inl none, (wB s1 0 i0 (va_up ((sB s1 0) i0) x1.toNatClampNeg q2))))) ab_px))) := ab_blk [] 21
/-! 222 MovingNames$Tray.cut(J)J -/
theorem b222 {X : (Nat → Int32) × Nat} {d : Nat} {s : ab_S} {i0 : Nat} {y1 : Int64} : ab_ev X d 222 [.inr (8, i0), .inl (.long y1)] s = ab_at X d 222 4 [some (.inr (8, i0)), some (.inl (.long y1)), none] [.inl (.int ((si s 10) i0))] s := ab_blk [4, 32, 37, 42, 46] 4
theorem b222_4 {X : (Nat → Int32) × Nat} {d : Nat} {s : ab_S} {i0 : Nat} {y1 : Int64} {v0 : Int32} : ab_at X d 222 4 [some (.inr (8, i0)), some (.inl (.long y1)), none] [.inl (.int v0)] s = (if v0 = (nI 0) then ab_at X d 222 32 [some (.inr (8, i0)), some (.inl (.long y1)), none] [] s else (if v0 = (nI 1) then ab_at X d 222 37 [some (.inr (8, i0)), some (.inl (.long y1)), none] [] s else (if v0 = (nI 2) then ab_at X d 222 42 [some (.inr (8, i0)), some (.inl (.long y1)), none] [] s else ab_at X d 222 46 [some (.inr (8, i0)), some (.inl (.long y1)), none] [] s))) := by
  refine (ab_tsw (m := 222) (pc := 4) rfl).trans ?_
  by_cases h0 : v0 = (nI 0)
  · subst h0
    rfl
  rw [if_neg h0]
  by_cases h1 : v0 = (nI 1)
  · subst h1
    rfl
  rw [if_neg h1]
  by_cases h2 : v0 = (nI 2)
  · subst h2
    rfl
  rw [if_neg h2]
  have g0 : v0.toInt ≠ 0 := fun e => h0 (Int32.toInt_inj.mp (e.trans (by decide)))
  have g1 : v0.toInt ≠ 1 := fun e => h1 (Int32.toInt_inj.mp (e.trans (by decide)))
  have g2 : v0.toInt ≠ 2 := fun e => h2 (Int32.toInt_inj.mp (e.trans (by decide)))
  exact if_pos (by omega)
theorem b222_32 {X : (Nat → Int32) × Nat} {d : Nat} {s : ab_S} {i0 : Nat} {y1 : Int64} : ab_at X d 222 32 [some (.inr (8, i0)), some (.inl (.long y1)), none] [] s = some (.inl (some (.inl (.long (((y1.toInt32).toInt8.toInt32).toInt64)))), s) := ab_blk [4, 32, 37, 42, 46] 7
theorem b222_37 {X : (Nat → Int32) × Nat} {d : Nat} {s : ab_S} {i0 : Nat} {y1 : Int64} : ab_at X d 222 37 [some (.inr (8, i0)), some (.inl (.long y1)), none] [] s = some (.inl (some (.inl (.long (((y1.toInt32).toInt16.toInt32).toInt64)))), s) := ab_blk [4, 32, 37, 42, 46] 7
theorem b222_42 {X : (Nat → Int32) × Nat} {d : Nat} {s : ab_S} {i0 : Nat} {y1 : Int64} : ab_at X d 222 42 [some (.inr (8, i0)), some (.inl (.long y1)), none] [] s = some (.inl (some (.inl (.long ((y1.toInt32).toInt64)))), s) := ab_blk [4, 32, 37, 42, 46] 6
theorem b222_46 {X : (Nat → Int32) × Nat} {d : Nat} {s : ab_S} {i0 : Nat} {y1 : Int64} : ab_at X d 222 46 [some (.inr (8, i0)), some (.inl (.long y1)), none] [] s = some (.inl (some (.inl (.long y1))), s) := ab_blk [4, 32, 37, 42, 46] 4
/-! 224 MovingNames.copy(I)I -/
theorem b224 {X : (Nat → Int32) × Nat} {d : Nat} {s : ab_S} {x1 : Int32} : ab_ev X (d + 1) 224 [.inr (0, 0), .inl (.int x1)] s = ab_bA (ab_ev X d 150 [.inr (0, 0), .inl (.int x1)] s) (fun kr2 ir3 s1 => ab_at X (d + 1) 224 5 [some (.inr (0, 0)), some (.inl (.int x1)), none, none, none] [.inr (kr2, ir3)] s1) ab_px := ab_blk [5, 24] 5
theorem b224_5 {X : (Nat → Int32) × Nat} {d : Nat} {s : ab_S} {x1 : Int32} {c0 : Nat} : ab_at X (d + 1) 224 5 [some (.inr (0, 0)), some (.inl (.int x1)), none, none, none] [.inr (8, c0)] s = ab_bI (ab_ev X d 19 [.inl (.int ((si s 11) c0)), .inl (.int ((si s 1) 0))] s) (fun r2 s1 => ab_at X (d + 1) 224 24 [some (.inr (0, 0)), some (.inl (.int x1)), some (.inr (8, c0)), some (.inl (.int r2)), some (.inl (.int (nI 0)))] [] s1) ab_px := ab_blk [5, 24] 12
theorem b224_24 {X : (Nat → Int32) × Nat} {d : Nat} {s : ab_S} {x1 : Int32} {i2 : Nat} {x3 : Int32} {x4 : Int32} : ab_at X (d + 1) 224 24 [some (.inr (0, 0)), some (.inl (.int x1)), some (.inr (8, i2)), some (.inl (.int x3)), some (.inl (.int x4))] [] s = (if x3 ≤ x4 then some (.inl (some (.inl (.int x3))), s) else ab_bI (ab_ev X d 9 [.inr (19, 0), .inl (.int x4)] s) (fun r2 s1 => ab_bU (ab_ev X d 221 [.inr (8, i2), .inl (.int x4), .inl (.long (r2.toInt64))] s1) (fun s3 => ab_at X (d + 1) 224 24 [some (.inr (0, 0)), some (.inl (.int x1)), some (.inr (8, i2)), some (.inl (.int x3)), some (.inl (.int (x4 + (nI 1))))] [] s3) ab_px) ab_px) := ab_blk [5, 24] 16
/-! 226 MovingNames.image(I)V -/
set_option maxRecDepth 100000 in
theorem b226 {X : (Nat → Int32) × Nat} {d : Nat} {s : ab_S} {x1 : Int32} : ab_ev X (d + 1) 226 [.inr (0, 0), .inl (.int x1)] s = (if x1 < (nI 0) then some (.inr 1, pn (pn s 0 ((sn s 0) + 1)) 1 ((sn s 1) + 6)) else (if x1 < (nI 3) then (if x1 < (nI 0) ∨ 3 ≤ x1.toNatClampNeg then none else ab_oq ((sq s 1) x1.toNatClampNeg) ((if x1 < (nI 0) ∨ 3 ≤ x1.toNatClampNeg then none else ab_bU (ab_ev X d 80 [.inr (2, (sn s 2)), .inr (2, 0)] (pq (ab_newT s) 1 (va_up (sq (ab_newT s) 1) x1.toNatClampNeg (some (sn s 2))))) (fun s2 => some (.inl none, s2)) ab_px)) (fun t1 => ab_bU (ab_ev X d 80 [.inr (2, t1), .inr (2, 0)] s) (fun s3 => some (.inl none, s3)) ab_px)) else some (.inr 1, pn (pn s 0 ((sn s 0) + 1)) 1 ((sn s 1) + 6)))) := ab_blk [] 28
/-! 228 MovingNames.restore(I)V -/
set_option maxRecDepth 100000 in
theorem b228 {X : (Nat → Int32) × Nat} {d : Nat} {s : ab_S} {x1 : Int32} : ab_ev X (d + 1) 228 [.inr (0, 0), .inl (.int x1)] s = (if x1 < (nI 0) then some (.inr 1, pn (pn s 0 ((sn s 0) + 1)) 1 ((sn s 1) + 6)) else (if x1 < (nI 3) then (if x1 < (nI 0) ∨ 3 ≤ x1.toNatClampNeg then none else ab_oq ((sq s 1) x1.toNatClampNeg) (some (.inr 2, pn (pn s 0 ((sn s 0) + 1)) 1 ((sn s 1) + 6))) (fun t1 => ab_bU (ab_ev X d 80 [.inr (2, 0), .inr (2, t1)] s) (fun s2 => some (.inl none, s2)) ab_px)) else some (.inr 1, pn (pn s 0 ((sn s 0) + 1)) 1 ((sn s 1) + 6)))) := ab_blk [] 21
end
section
/-! Numbers, rows and loops: what all the contracts use. -/
section NUM
theorem n_lt31 {a : Nat} (h : a < 2147483648) : a < 2 ^ 31 := h
theorem n_0le {a : Nat} (h : a < 2 ^ 31) : (nI 0 ≤ nI a) := nI_le (Nat.zero_le a) h
theorem n_nlt0 {a : Nat} (h : a < 2 ^ 31) : ¬ (nI a < nI 0) := nI_nlt (Nat.zero_le a) h
theorem n_m1 (a : Nat) (h : a < 2 ^ 31) : ¬ (nI a = -nI 1) := by
  intro e
  have h1 := congrArg Int32.toInt e
  rw [nI_toInt h] at h1
  have h2 : (-nI 1).toInt = -1 := by decide
  omega
theorem n_m1' (a : Nat) (h : a < 2 ^ 31) : ¬ (-nI 1 = nI a) := fun e => n_m1 a h e.symm
theorem n_m1lt (a : Nat) (h : a < 2 ^ 31) : -nI 1 < nI a := by
  rw [Int32.lt_iff_toInt_lt, nI_toInt h]
  have h2 : (-nI 1).toInt = -1 := by decide
  omega
theorem n_in {j N : Nat} (h : j < N) (hN : N < 2 ^ 31) : ¬ (nI j < nI 0 ∨ N ≤ (nI j).toNatClampNeg) := nI_in h hN
theorem n_or (a b : Nat) : nI a ||| nI b = nI (a ||| b) := by
  apply Int32.toBitVec_inj.1
  show BitVec.ofNat 32 a ||| BitVec.ofNat 32 b = BitVec.ofNat 32 (a ||| b)
  apply BitVec.eq_of_getLsbD_eq
  intro i hi
  simp [hi]
theorem n_and (a b : Nat) : nI a &&& nI b = nI (a &&& b) := by
  apply Int32.toBitVec_inj.1
  show BitVec.ofNat 32 a &&& BitVec.ofNat 32 b = BitVec.ofNat 32 (a &&& b)
  apply BitVec.eq_of_getLsbD_eq
  intro i hi
  simp [hi]
theorem n_xor (a b : Nat) : nI a ^^^ nI b = nI (a ^^^ b) := by
  apply Int32.toBitVec_inj.1
  show BitVec.ofNat 32 a ^^^ BitVec.ofNat 32 b = BitVec.ofNat 32 (a ^^^ b)
  apply BitVec.eq_of_getLsbD_eq
  intro i hi
  simp [hi]
theorem n_sh : ∀ l, l < 32 → nI 1 <<< (nI l &&& 31) = nI (2 ^ l) := by decide +kernel
theorem n_sl : ∀ n, n < 32 → ((nI n &&& 31).toBitVec.smod 32).toNat = n := by decide +kernel
theorem n_shr {m l : Nat} (hm : m < 2 ^ 31) (hl : l < 32) : nI m >>> (nI l &&& 31) = nI (m / 2 ^ l) := pk_shrN hm _ l (n_sl l hl)
theorem n_shr1 {m l : Nat} (hm : m < 2 ^ 31) (hl : l < 32) : (nI m >>> (nI l &&& 31)) &&& nI 1 = nI (bif m.testBit l then 1 else 0) := by
  rw [n_shr hm hl, n_and, Nat.and_one_is_mod, ← Nat.shiftRight_eq_div_pow]
  congr 1
  have h := Nat.testBit_eq_decide_div_mod_eq (x := m) (i := l)
  rw [Nat.shiftRight_eq_div_pow]
  cases e : m.testBit l with
  | true =>
    rw [e] at h
    have := of_decide_eq_true h.symm
    simpa using this
  | false =>
    rw [e] at h
    have := of_decide_eq_false h.symm
    show m / 2 ^ l % 2 = 0
    omega
theorem n_rem {a d : Nat} (ha : a < 2 ^ 31) (h0 : 0 < d) (hd : d < 2 ^ 31) : nI a - nI a / nI d * nI d = nI (a % d) := pk_rem ha h0 hd
theorem n_rep (x : Int32) (h0 : 0 ≤ x.toInt) : x = nI x.toNatClampNeg := by
  apply Int32.toInt_inj.mp
  have h1 : x.toNatClampNeg = x.toInt.toNat := rfl
  have h2 := Int32.toInt_lt x
  rw [nI_toInt (by rw [h1]; omega), h1]
  omega
end NUM
theorem e_bU {s : ab_S} {f : ab_S → ab_R} {h : Nat → ab_S → ab_R} : ab_bU (some (.inl none, s)) f h = f s := rfl
theorem e_bI {s : ab_S} {x : Int32} {f : Int32 → ab_S → ab_R} {h : Nat → ab_S → ab_R} : ab_bI (some (.inl (some (.inl (.int x))), s)) f h = f x s := rfl
theorem e_bJ {s : ab_S} {x : Int64} {f : Int64 → ab_S → ab_R} {h : Nat → ab_S → ab_R} : ab_bJ (some (.inl (some (.inl (.long x))), s)) f h = f x s := rfl
theorem e_bA {s : ab_S} {k i : Nat} {f : Nat → Nat → ab_S → ab_R} {h : Nat → ab_S → ab_R} : ab_bA (some (.inl (some (.inr (k, i))), s)) f h = f k i s := rfl
theorem e_xU {s : ab_S} {E : Nat} {f : ab_S → ab_R} {h : Nat → ab_S → ab_R} : ab_bU (some (.inr E, s)) f h = h E s := rfl
theorem e_xI {s : ab_S} {E : Nat} {f : Int32 → ab_S → ab_R} {h : Nat → ab_S → ab_R} : ab_bI (some (.inr E, s)) f h = h E s := rfl
theorem e_xJ {s : ab_S} {E : Nat} {f : Int64 → ab_S → ab_R} {h : Nat → ab_S → ab_R} : ab_bJ (some (.inr E, s)) f h = h E s := rfl
theorem e_xA {s : ab_S} {E : Nat} {f : Nat → Nat → ab_S → ab_R} {h : Nat → ab_S → ab_R} : ab_bA (some (.inr E, s)) f h = h E s := rfl
theorem e_px {s : ab_S} {E : Nat} : ab_px E s = some (.inr E, s) := rfl
section AT
variable {X : (Nat → Int32) × Nat} {d : Nat} {s s' : ab_S}
/-- a place of a row -/
theorem c_at {k i j n : Nat} {F : Nat → Int32} (hc : ab_isi k = true) (hn : ab_len X k i = some n) (hF : ab_ai X k i s = some F) (hj : j < n) (hN : n < 2 ^ 31) : ab_ev X d 9 [.inr (k, i), .inl (.int (nI j))] s = some (.inl (some (.inl (.int (F j)))), s) := by
  rw [b9, if_neg (n_nlt0 (by omega)), hn]
  show (if nI n ≤ nI j then _ else _) = _
  rw [if_neg (nI_ge hj hN), hc, cond_true]
  unfold ab_rI
  rw [hn, hF]
  show (if _ then _ else _) = _
  rw [if_neg (nI_in hj hN), nI_clamp (by omega)]
theorem c_put {k i j n : Nat} {F : Nat → Int32} {v : Int32} (hc : ab_isi k = true) (hn : ab_len X k i = some n) (hF : ab_ai X k i s = some F) (hw : ab_wi k i (va_up F j v) s = some s') (hj : j < n) (hN : n < 2 ^ 31) : ab_ev X d 3 [.inr (k, i), .inl (.int (nI j)), .inl (.int v)] s = some (.inl none, s') := by
  rw [b3, if_neg (n_nlt0 (by omega)), hn]
  show (if nI n ≤ nI j then _ else _) = _
  rw [if_neg (nI_ge hj hN), hc, cond_true]
  unfold ab_uI
  rw [hn, hF]
  show (if _ then _ else _) = _
  rw [if_neg (nI_in hj hN), nI_clamp (by omega), hw]
theorem c_min (a b : Nat) (ha : a < 2 ^ 31) (hb : b < 2 ^ 31) : ab_ev X d 19 [.inl (.int (nI a)), .inl (.int (nI b))] s = some (.inl (some (.inl (.int (nI (min a b))))), s) := by
  rw [b19]
  by_cases h : b < a
  · rw [if_pos (nI_lt h ha), Nat.min_eq_right (by omega)]
  · rw [if_neg (nI_nlt (by omega) hb), Nat.min_eq_left (by omega)]
theorem c_max (a b : Nat) (ha : a < 2 ^ 31) (hb : b < 2 ^ 31) : ab_ev X d 58 [.inl (.int (nI a)), .inl (.int (nI b))] s = some (.inl (some (.inl (.int (nI (max a b))))), s) := by
  rw [b58]
  by_cases h : a < b
  · rw [if_pos (nI_lt h hb), Nat.max_eq_right (by omega)]
  · rw [if_neg (nI_nlt (by omega) ha), Nat.max_eq_left (by omega)]
theorem c_max' (x y : Int32) : ab_ev X d 58 [.inl (.int x), .inl (.int y)] s = some (.inl (some (.inl (.int (if x < y then y else x)))), s) := by
  rw [b58]
  split <;> rfl
theorem c_min' (x y : Int32) : ab_ev X d 19 [.inl (.int x), .inl (.int y)] s = some (.inl (some (.inl (.int (if y < x then y else x)))), s) := by
  rw [b19]
  split <;> rfl
/-- a row copied from its start -/
theorem c_fill {k i k1 i1 n : Nat} {F G : Nat → Int32} (hc : ab_isi k = true) (hc1 : ab_isi k1 = true) (hn : ab_len X k i = some n) (hn1 : ab_len X k1 i1 = some n) (hF : ab_ai X k i s = some F) (hG : ab_ai X k1 i1 s = some G) (hN : n < 2 ^ 31) (hw : ab_wi k i (va_cpy G F 0 0 n) s = some s') : ab_ev X (d + 1) 18 [.inr (k, i), .inr (k1, i1)] s = some (.inl none, s') := by
  rw [b18, hn, hn1]
  show ab_bI _ _ _ = _
  rw [c_min n n hN hN, Nat.min_self]
  show ab_os _ _ = _
  unfold ab_cpy
  rw [hn, hn1, hF, hG, hc, hc1]
  show ab_os (if _ then _ else _) _ = _
  rw [if_neg, nI_clamp hN, nI_clamp (by decide), hw]
  · rfl
  · rw [nI_clamp hN, nI_clamp (by decide)]
    rintro (h | h | h | h | h)
    · exact absurd h (n_nlt0 (by decide))
    · exact absurd h (n_nlt0 (by decide))
    · exact absurd h (n_nlt0 hN)
    · omega
    · omega
theorem ab_lp {m c : Nat} (I : Nat → ab_L → ab_S → Prop) (N : Nat) (h : ∀ (k : Nat) (L : ab_L) (s : ab_S), k < N → I k L s → ∃ (L' : ab_L) (s' : ab_S), I (k + 1) L' s' ∧ ab_at X d m c L [] s = ab_at X d m c L' [] s') : ∀ (j k : Nat) {L : ab_L} {s : ab_S}, k + j = N → I k L s → ∃ (L' : ab_L) (s' : ab_S), I N L' s' ∧ ab_at X d m c L [] s = ab_at X d m c L' [] s'
  | 0, k, L, s, e, hi => by
    obtain rfl : k = N := by omega
    exact ⟨L, s, hi, rfl⟩
  | j + 1, k, L, s, e, hi => by
    obtain ⟨L1, s1, h1, e1⟩ := h k L s (by omega) hi
    obtain ⟨L2, s2, h2, e2⟩ := ab_lp I N h j (k + 1) (by omega) h1
    exact ⟨L2, s2, h2, e1.trans e2⟩
end AT
/-- what a store holds after a writing -/
theorem E0 :
  (∀ (s : ab_S) (k : Nat) (v : Int32), sy (pz s k v) = sy s) ∧
  (∀ (s : ab_S) (k : Nat) (v : Int32), st (pz s k v) = st s) ∧
  (∀ (s : ab_S) (k : Nat) (v : Int32), si (pz s k v) = si s) ∧
  (∀ (s : ab_S) (k : Nat) (v : Int32), sa (pz s k v) = sa s) ∧
  (∀ (s : ab_S) (k : Nat) (v : Int32), sA (pz s k v) = sA s) ∧
  (∀ (s : ab_S) (k : Nat) (v : Int32), sb (pz s k v) = sb s) ∧
  (∀ (s : ab_S) (k : Nat) (v : Int32), sB (pz s k v) = sB s) ∧
  (∀ (s : ab_S) (k : Nat) (v : Int32), sq (pz s k v) = sq s) ∧
  (∀ (s : ab_S) (k : Nat) (v : Int32), sn (pz s k v) = sn s) ∧
  (∀ (s : ab_S) (k : Nat) (v : Int32), sz (pz s k v) k = v) ∧
  (∀ (s : ab_S) (k j : Nat) (v : Int32), j ≠ k → sz (pz s k v) j = sz s j) ∧
  (∀ (s : ab_S) (k : Nat) (v : Int64), sz (py s k v) = sz s) ∧
  (∀ (s : ab_S) (k : Nat) (v : Int64), st (py s k v) = st s) ∧
  (∀ (s : ab_S) (k : Nat) (v : Int64), si (py s k v) = si s) ∧
  (∀ (s : ab_S) (k : Nat) (v : Int64), sa (py s k v) = sa s) ∧
  (∀ (s : ab_S) (k : Nat) (v : Int64), sA (py s k v) = sA s) ∧
  (∀ (s : ab_S) (k : Nat) (v : Int64), sb (py s k v) = sb s) ∧
  (∀ (s : ab_S) (k : Nat) (v : Int64), sB (py s k v) = sB s) ∧
  (∀ (s : ab_S) (k : Nat) (v : Int64), sq (py s k v) = sq s) ∧
  (∀ (s : ab_S) (k : Nat) (v : Int64), sn (py s k v) = sn s) ∧
  (∀ (s : ab_S) (k : Nat) (v : Int64), sy (py s k v) k = v) ∧
  (∀ (s : ab_S) (k j : Nat) (v : Int64), j ≠ k → sy (py s k v) j = sy s j) ∧
  (∀ (s : ab_S) (k : Nat) (v : Nat), sz (pt s k v) = sz s) ∧
  (∀ (s : ab_S) (k : Nat) (v : Nat), sy (pt s k v) = sy s) ∧
  (∀ (s : ab_S) (k : Nat) (v : Nat), si (pt s k v) = si s) ∧
  (∀ (s : ab_S) (k : Nat) (v : Nat), sa (pt s k v) = sa s) ∧
  (∀ (s : ab_S) (k : Nat) (v : Nat), sA (pt s k v) = sA s) ∧
  (∀ (s : ab_S) (k : Nat) (v : Nat), sb (pt s k v) = sb s) ∧
  (∀ (s : ab_S) (k : Nat) (v : Nat), sB (pt s k v) = sB s) ∧
  (∀ (s : ab_S) (k : Nat) (v : Nat), sq (pt s k v) = sq s) ∧
  (∀ (s : ab_S) (k : Nat) (v : Nat), sn (pt s k v) = sn s) ∧
  (∀ (s : ab_S) (k : Nat) (v : Nat), st (pt s k v) k = v) ∧
  (∀ (s : ab_S) (k j : Nat) (v : Nat), j ≠ k → st (pt s k v) j = st s j) ∧
  (∀ (s : ab_S) (k : Nat) (v : Nat → Int32), sz (pa s k v) = sz s) ∧
  (∀ (s : ab_S) (k : Nat) (v : Nat → Int32), sy (pa s k v) = sy s) ∧
  (∀ (s : ab_S) (k : Nat) (v : Nat → Int32), st (pa s k v) = st s) ∧
  (∀ (s : ab_S) (k : Nat) (v : Nat → Int32), si (pa s k v) = si s) ∧
  (∀ (s : ab_S) (k : Nat) (v : Nat → Int32), sA (pa s k v) = sA s) ∧
  (∀ (s : ab_S) (k : Nat) (v : Nat → Int32), sb (pa s k v) = sb s) ∧
  (∀ (s : ab_S) (k : Nat) (v : Nat → Int32), sB (pa s k v) = sB s) ∧
  (∀ (s : ab_S) (k : Nat) (v : Nat → Int32), sq (pa s k v) = sq s) ∧
  (∀ (s : ab_S) (k : Nat) (v : Nat → Int32), sn (pa s k v) = sn s) ∧
  (∀ (s : ab_S) (k : Nat) (v : Nat → Int32), sa (pa s k v) k = v) ∧
  (∀ (s : ab_S) (k j : Nat) (v : Nat → Int32), j ≠ k → sa (pa s k v) j = sa s j) ∧
  (∀ (s : ab_S) (k : Nat) (v : Nat → Int64), sz (pb s k v) = sz s) ∧
  (∀ (s : ab_S) (k : Nat) (v : Nat → Int64), sy (pb s k v) = sy s) ∧
  (∀ (s : ab_S) (k : Nat) (v : Nat → Int64), st (pb s k v) = st s) ∧
  (∀ (s : ab_S) (k : Nat) (v : Nat → Int64), si (pb s k v) = si s) ∧
  (∀ (s : ab_S) (k : Nat) (v : Nat → Int64), sa (pb s k v) = sa s) ∧
  (∀ (s : ab_S) (k : Nat) (v : Nat → Int64), sA (pb s k v) = sA s) ∧
  (∀ (s : ab_S) (k : Nat) (v : Nat → Int64), sB (pb s k v) = sB s) ∧
  (∀ (s : ab_S) (k : Nat) (v : Nat → Int64), sq (pb s k v) = sq s) ∧
  (∀ (s : ab_S) (k : Nat) (v : Nat → Int64), sn (pb s k v) = sn s) ∧
  (∀ (s : ab_S) (k : Nat) (v : Nat → Int64), sb (pb s k v) k = v) ∧
  (∀ (s : ab_S) (k j : Nat) (v : Nat → Int64), j ≠ k → sb (pb s k v) j = sb s j) ∧
  (∀ (s : ab_S) (k : Nat) (v : Nat → Option Nat), sz (pq s k v) = sz s) ∧
  (∀ (s : ab_S) (k : Nat) (v : Nat → Option Nat), sy (pq s k v) = sy s) ∧
  (∀ (s : ab_S) (k : Nat) (v : Nat → Option Nat), st (pq s k v) = st s) ∧
  (∀ (s : ab_S) (k : Nat) (v : Nat → Option Nat), si (pq s k v) = si s) ∧
  (∀ (s : ab_S) (k : Nat) (v : Nat → Option Nat), sa (pq s k v) = sa s) ∧
  (∀ (s : ab_S) (k : Nat) (v : Nat → Option Nat), sA (pq s k v) = sA s) ∧
  (∀ (s : ab_S) (k : Nat) (v : Nat → Option Nat), sb (pq s k v) = sb s) ∧
  (∀ (s : ab_S) (k : Nat) (v : Nat → Option Nat), sB (pq s k v) = sB s) ∧
  (∀ (s : ab_S) (k : Nat) (v : Nat → Option Nat), sn (pq s k v) = sn s) ∧
  (∀ (s : ab_S) (k : Nat) (v : Nat → Option Nat), sq (pq s k v) k = v) ∧
  (∀ (s : ab_S) (k j : Nat) (v : Nat → Option Nat), j ≠ k → sq (pq s k v) j = sq s j) ∧
  (∀ (s : ab_S) (k : Nat) (v : Nat), sz (pn s k v) = sz s) ∧
  (∀ (s : ab_S) (k : Nat) (v : Nat), sy (pn s k v) = sy s) ∧
  (∀ (s : ab_S) (k : Nat) (v : Nat), st (pn s k v) = st s) ∧
  (∀ (s : ab_S) (k : Nat) (v : Nat), si (pn s k v) = si s) ∧
  (∀ (s : ab_S) (k : Nat) (v : Nat), sa (pn s k v) = sa s) ∧
  (∀ (s : ab_S) (k : Nat) (v : Nat), sA (pn s k v) = sA s) ∧
  (∀ (s : ab_S) (k : Nat) (v : Nat), sb (pn s k v) = sb s) ∧
  (∀ (s : ab_S) (k : Nat) (v : Nat), sB (pn s k v) = sB s) ∧
  (∀ (s : ab_S) (k : Nat) (v : Nat), sq (pn s k v) = sq s) ∧
  (∀ (s : ab_S) (k : Nat) (v : Nat), sn (pn s k v) k = v) ∧
  (∀ (s : ab_S) (k j : Nat) (v : Nat), j ≠ k → sn (pn s k v) j = sn s j) ∧
  (∀ (s : ab_S) (k i : Nat) (v : Int32), sz (wi s k i v) = sz s) ∧
  (∀ (s : ab_S) (k i : Nat) (v : Int32), sy (wi s k i v) = sy s) ∧
  (∀ (s : ab_S) (k i : Nat) (v : Int32), st (wi s k i v) = st s) ∧
  (∀ (s : ab_S) (k i : Nat) (v : Int32), sa (wi s k i v) = sa s) ∧
  (∀ (s : ab_S) (k i : Nat) (v : Int32), sA (wi s k i v) = sA s) ∧
  (∀ (s : ab_S) (k i : Nat) (v : Int32), sb (wi s k i v) = sb s) ∧
  (∀ (s : ab_S) (k i : Nat) (v : Int32), sB (wi s k i v) = sB s) ∧
  (∀ (s : ab_S) (k i : Nat) (v : Int32), sq (wi s k i v) = sq s) ∧
  (∀ (s : ab_S) (k i : Nat) (v : Int32), sn (wi s k i v) = sn s) ∧
  (∀ (s : ab_S) (k i : Nat) (v : Int32), si (wi s k i v) k i = v) ∧
  (∀ (s : ab_S) (k i j : Nat) (v : Int32), j ≠ i → si (wi s k i v) k j = si s k j) ∧
  (∀ (s : ab_S) (k i k1 : Nat) (v : Int32), k1 ≠ k → si (wi s k i v) k1 = si s k1) ∧
  (∀ (s : ab_S) (k i : Nat) (v : Nat → Int32), sz (wA s k i v) = sz s) ∧
  (∀ (s : ab_S) (k i : Nat) (v : Nat → Int32), sy (wA s k i v) = sy s) ∧
  (∀ (s : ab_S) (k i : Nat) (v : Nat → Int32), st (wA s k i v) = st s) ∧
  (∀ (s : ab_S) (k i : Nat) (v : Nat → Int32), si (wA s k i v) = si s) ∧
  (∀ (s : ab_S) (k i : Nat) (v : Nat → Int32), sa (wA s k i v) = sa s) ∧
  (∀ (s : ab_S) (k i : Nat) (v : Nat → Int32), sb (wA s k i v) = sb s) ∧
  (∀ (s : ab_S) (k i : Nat) (v : Nat → Int32), sB (wA s k i v) = sB s) ∧
  (∀ (s : ab_S) (k i : Nat) (v : Nat → Int32), sq (wA s k i v) = sq s) ∧
  (∀ (s : ab_S) (k i : Nat) (v : Nat → Int32), sn (wA s k i v) = sn s) ∧
  (∀ (s : ab_S) (k i : Nat) (v : Nat → Int32), sA (wA s k i v) k i = v) ∧
  (∀ (s : ab_S) (k i j : Nat) (v : Nat → Int32), j ≠ i → sA (wA s k i v) k j = sA s k j) ∧
  (∀ (s : ab_S) (k i k1 : Nat) (v : Nat → Int32), k1 ≠ k → sA (wA s k i v) k1 = sA s k1) ∧
  (∀ (s : ab_S) (k i : Nat) (v : Nat → Int64), sz (wB s k i v) = sz s) ∧
  (∀ (s : ab_S) (k i : Nat) (v : Nat → Int64), sy (wB s k i v) = sy s) ∧
  (∀ (s : ab_S) (k i : Nat) (v : Nat → Int64), st (wB s k i v) = st s) ∧
  (∀ (s : ab_S) (k i : Nat) (v : Nat → Int64), si (wB s k i v) = si s) ∧
  (∀ (s : ab_S) (k i : Nat) (v : Nat → Int64), sa (wB s k i v) = sa s) ∧
  (∀ (s : ab_S) (k i : Nat) (v : Nat → Int64), sA (wB s k i v) = sA s) ∧
  (∀ (s : ab_S) (k i : Nat) (v : Nat → Int64), sb (wB s k i v) = sb s) ∧
  (∀ (s : ab_S) (k i : Nat) (v : Nat → Int64), sq (wB s k i v) = sq s) ∧
  (∀ (s : ab_S) (k i : Nat) (v : Nat → Int64), sn (wB s k i v) = sn s) ∧
  (∀ (s : ab_S) (k i : Nat) (v : Nat → Int64), sB (wB s k i v) k i = v) ∧
  (∀ (s : ab_S) (k i j : Nat) (v : Nat → Int64), j ≠ i → sB (wB s k i v) k j = sB s k j) ∧
  (∀ (s : ab_S) (k i k1 : Nat) (v : Nat → Int64), k1 ≠ k → sB (wB s k i v) k1 = sB s k1) :=
  ⟨fun _ _ _ => rfl,
   fun _ _ _ => rfl,
   fun _ _ _ => rfl,
   fun _ _ _ => rfl,
   fun _ _ _ => rfl,
   fun _ _ _ => rfl,
   fun _ _ _ => rfl,
   fun _ _ _ => rfl,
   fun _ _ _ => rfl,
   fun s k v => va_up_self _ _ _,
   fun s k j v h => va_up_ne _ _ h,
   fun _ _ _ => rfl,
   fun _ _ _ => rfl,
   fun _ _ _ => rfl,
   fun _ _ _ => rfl,
   fun _ _ _ => rfl,
   fun _ _ _ => rfl,
   fun _ _ _ => rfl,
   fun _ _ _ => rfl,
   fun _ _ _ => rfl,
   fun s k v => va_up_self _ _ _,
   fun s k j v h => va_up_ne _ _ h,
   fun _ _ _ => rfl,
   fun _ _ _ => rfl,
   fun _ _ _ => rfl,
   fun _ _ _ => rfl,
   fun _ _ _ => rfl,
   fun _ _ _ => rfl,
   fun _ _ _ => rfl,
   fun _ _ _ => rfl,
   fun _ _ _ => rfl,
   fun s k v => va_up_self _ _ _,
   fun s k j v h => va_up_ne _ _ h,
   fun _ _ _ => rfl,
   fun _ _ _ => rfl,
   fun _ _ _ => rfl,
   fun _ _ _ => rfl,
   fun _ _ _ => rfl,
   fun _ _ _ => rfl,
   fun _ _ _ => rfl,
   fun _ _ _ => rfl,
   fun _ _ _ => rfl,
   fun s k v => va_up_self _ _ _,
   fun s k j v h => va_up_ne _ _ h,
   fun _ _ _ => rfl,
   fun _ _ _ => rfl,
   fun _ _ _ => rfl,
   fun _ _ _ => rfl,
   fun _ _ _ => rfl,
   fun _ _ _ => rfl,
   fun _ _ _ => rfl,
   fun _ _ _ => rfl,
   fun _ _ _ => rfl,
   fun s k v => va_up_self _ _ _,
   fun s k j v h => va_up_ne _ _ h,
   fun _ _ _ => rfl,
   fun _ _ _ => rfl,
   fun _ _ _ => rfl,
   fun _ _ _ => rfl,
   fun _ _ _ => rfl,
   fun _ _ _ => rfl,
   fun _ _ _ => rfl,
   fun _ _ _ => rfl,
   fun _ _ _ => rfl,
   fun s k v => va_up_self _ _ _,
   fun s k j v h => va_up_ne _ _ h,
   fun _ _ _ => rfl,
   fun _ _ _ => rfl,
   fun _ _ _ => rfl,
   fun _ _ _ => rfl,
   fun _ _ _ => rfl,
   fun _ _ _ => rfl,
   fun _ _ _ => rfl,
   fun _ _ _ => rfl,
   fun _ _ _ => rfl,
   fun s k v => va_up_self _ _ _,
   fun s k j v h => va_up_ne _ _ h,
   fun _ _ _ _ => rfl,
   fun _ _ _ _ => rfl,
   fun _ _ _ _ => rfl,
   fun _ _ _ _ => rfl,
   fun _ _ _ _ => rfl,
   fun _ _ _ _ => rfl,
   fun _ _ _ _ => rfl,
   fun _ _ _ _ => rfl,
   fun _ _ _ _ => rfl,
   fun s k i v => (congrFun (va_up_self _ _ _) i).trans (va_up_self _ _ _),
   fun s k i j v h => (congrFun (va_up_self _ _ _) j).trans (va_up_ne _ _ h),
   fun s k i k1 v h => va_up_ne _ _ h,
   fun _ _ _ _ => rfl,
   fun _ _ _ _ => rfl,
   fun _ _ _ _ => rfl,
   fun _ _ _ _ => rfl,
   fun _ _ _ _ => rfl,
   fun _ _ _ _ => rfl,
   fun _ _ _ _ => rfl,
   fun _ _ _ _ => rfl,
   fun _ _ _ _ => rfl,
   fun s k i v => (congrFun (va_up_self _ _ _) i).trans (va_up_self _ _ _),
   fun s k i j v h => (congrFun (va_up_self _ _ _) j).trans (va_up_ne _ _ h),
   fun s k i k1 v h => va_up_ne _ _ h,
   fun _ _ _ _ => rfl,
   fun _ _ _ _ => rfl,
   fun _ _ _ _ => rfl,
   fun _ _ _ _ => rfl,
   fun _ _ _ _ => rfl,
   fun _ _ _ _ => rfl,
   fun _ _ _ _ => rfl,
   fun _ _ _ _ => rfl,
   fun _ _ _ _ => rfl,
   fun s k i v => (congrFun (va_up_self _ _ _) i).trans (va_up_self _ _ _),
   fun s k i j v h => (congrFun (va_up_self _ _ _) j).trans (va_up_ne _ _ h),
   fun s k i k1 v h => va_up_ne _ _ h⟩
theorem va_up2 {α : Type} (f : Nat → α) (k : Nat) (a b : α) : va_up (va_up f k a) k b = va_up f k b := by
  funext j
  unfold va_up
  split <;> rfl
theorem va_up_id {α : Type} (f : Nat → α) (k : Nat) : va_up f k (f k) = f := by
  funext j
  unfold va_up
  split
  · rename_i h
    rw [h]
  · rfl
/-- two writings at one place -/
theorem E1 :
  (∀ (s : ab_S) (k : Nat) (u v : Int32), pz (pz s k u) k v = pz s k v) ∧
  (∀ (s : ab_S) (k : Nat) (u v : Int64), py (py s k u) k v = py s k v) ∧
  (∀ (s : ab_S) (k : Nat) (u v : Nat), pt (pt s k u) k v = pt s k v) ∧
  (∀ (s : ab_S) (k : Nat) (u v : Nat → Int32), pa (pa s k u) k v = pa s k v) ∧
  (∀ (s : ab_S) (k : Nat) (u v : Nat → Int64), pb (pb s k u) k v = pb s k v) ∧
  (∀ (s : ab_S) (k : Nat) (u v : Nat → Option Nat), pq (pq s k u) k v = pq s k v) ∧
  (∀ (s : ab_S) (k : Nat) (u v : Nat), pn (pn s k u) k v = pn s k v) ∧
  (∀ (s : ab_S) (k i : Nat) (u v : Int32), wi (wi s k i u) k i v = wi s k i v) ∧
  (∀ (s : ab_S) (k i : Nat) (u v : Nat → Int32), wA (wA s k i u) k i v = wA s k i v) ∧
  (∀ (s : ab_S) (k i : Nat) (u v : Nat → Int64), wB (wB s k i u) k i v = wB s k i v) :=
  ⟨fun s k u v => by unfold pz; simp only [va_up2],
   fun s k u v => by unfold py; simp only [va_up2],
   fun s k u v => by unfold pt; simp only [va_up2],
   fun s k u v => by unfold pa; simp only [va_up2],
   fun s k u v => by unfold pb; simp only [va_up2],
   fun s k u v => by unfold pq; simp only [va_up2],
   fun s k u v => by unfold pn; simp only [va_up2],
   fun s k i u v => by unfold wi pi si; simp only [va_up_self, va_up2],
   fun s k i u v => by unfold wA pA sA; simp only [va_up_self, va_up2],
   fun s k i u v => by unfold wB pB sB; simp only [va_up_self, va_up2]⟩
theorem wi_id (s : ab_S) (k i : Nat) : wi s k i (si s k i) = s := by
  unfold wi pi si
  rw [va_up_id, va_up_id]
theorem wA_id (s : ab_S) (k i : Nat) : wA s k i (sA s k i) = s := by
  unfold wA pA sA
  rw [va_up_id, va_up_id]
theorem wB_id (s : ab_S) (k i : Nat) : wB s k i (sB s k i) = s := by
  unfold wB pB sB
  rw [va_up_id, va_up_id]
theorem pz_id (s : ab_S) (k : Nat) : pz s k (sz s k) = s := by
  unfold pz sz
  rw [va_up_id]
theorem py_id (s : ab_S) (k : Nat) : py s k (sy s k) = s := by
  unfold py sy
  rw [va_up_id]
theorem pt_id (s : ab_S) (k : Nat) : pt s k (st s k) = s := by
  unfold pt st
  rw [va_up_id]
theorem pa_id (s : ab_S) (k : Nat) : pa s k (sa s k) = s := by
  unfold pa sa
  rw [va_up_id]
theorem pb_id (s : ab_S) (k : Nat) : pb s k (sb s k) = s := by
  unfold pb sb
  rw [va_up_id]
theorem pq_id (s : ab_S) (k : Nat) : pq s k (sq s k) = s := by
  unfold pq sq
  rw [va_up_id]
theorem pn_id (s : ab_S) (k : Nat) : pn s k (sn s k) = s := by
  unfold pn sn
  rw [va_up_id]
theorem va_up_sw {α : Type} (f : Nat → α) {k j : Nat} (h : k ≠ j) (a b : α) : va_up (va_up f k a) j b = va_up (va_up f j b) k a := by
  funext q
  unfold va_up
  by_cases h1 : q = j
  · rw [if_pos h1, if_neg (by omega), if_pos h1]
  · rw [if_neg h1, if_neg h1]
theorem pa_sw {s : ab_S} {k j : Nat} {F G : Nat → Int32} (h : k ≠ j) : pa (pa s k F) j G = pa (pa s j G) k F := by
  unfold pa
  simp only [va_up_sw _ h]
section ATS
variable {X : (Nat → Int32) × Nat} {d i j : Nat} {v : Int32} {s : ab_S}
theorem at18 (hj : j < 900) : ab_ev X d 9 [.inr (18, 0), .inl (.int (nI j))] s = some (.inl (some (.inl (.int (sa s 0 j)))), s) := c_at (n := 900) rfl rfl rfl hj (by decide)
theorem put18 (hj : j < 900) : ab_ev X d 3 [.inr (18, 0), .inl (.int (nI j)), .inl (.int v)] s = some (.inl none, pa s 0 (va_up (sa s 0) j v)) := c_put (n := 900) rfl rfl rfl rfl hj (by decide)
theorem at19 (hj : j < 20) : ab_ev X d 9 [.inr (19, i), .inl (.int (nI j))] s = some (.inl (some (.inl (.int (sA s 0 i j)))), s) := c_at (n := 20) rfl rfl rfl hj (by decide)
theorem put19 (hj : j < 20) : ab_ev X d 3 [.inr (19, i), .inl (.int (nI j)), .inl (.int v)] s = some (.inl none, wA s 0 i (va_up (sA s 0 i) j v)) := c_put (n := 20) rfl rfl rfl rfl hj (by decide)
theorem at20 (hj : j < 8) : ab_ev X d 9 [.inr (20, i), .inl (.int (nI j))] s = some (.inl (some (.inl (.int (sA s 1 i j)))), s) := c_at (n := 8) rfl rfl rfl hj (by decide)
theorem put20 (hj : j < 8) : ab_ev X d 3 [.inr (20, i), .inl (.int (nI j)), .inl (.int v)] s = some (.inl none, wA s 1 i (va_up (sA s 1 i) j v)) := c_put (n := 8) rfl rfl rfl rfl hj (by decide)
theorem at21 (hj : j < 8) : ab_ev X d 9 [.inr (21, i), .inl (.int (nI j))] s = some (.inl (some (.inl (.int (sA s 2 i j)))), s) := c_at (n := 8) rfl rfl rfl hj (by decide)
theorem put21 (hj : j < 8) : ab_ev X d 3 [.inr (21, i), .inl (.int (nI j)), .inl (.int v)] s = some (.inl none, wA s 2 i (va_up (sA s 2 i) j v)) := c_put (n := 8) rfl rfl rfl rfl hj (by decide)
theorem at22 (hj : j < 80) : ab_ev X d 9 [.inr (22, i), .inl (.int (nI j))] s = some (.inl (some (.inl (.int (sA s 3 i j)))), s) := c_at (n := 80) rfl rfl rfl hj (by decide)
theorem put22 (hj : j < 80) : ab_ev X d 3 [.inr (22, i), .inl (.int (nI j)), .inl (.int v)] s = some (.inl none, wA s 3 i (va_up (sA s 3 i) j v)) := c_put (n := 80) rfl rfl rfl rfl hj (by decide)
theorem at23 (hj : j < 4) : ab_ev X d 9 [.inr (23, i), .inl (.int (nI j))] s = some (.inl (some (.inl (.int (sA s 4 i j)))), s) := c_at (n := 4) rfl rfl rfl hj (by decide)
theorem put23 (hj : j < 4) : ab_ev X d 3 [.inr (23, i), .inl (.int (nI j)), .inl (.int v)] s = some (.inl none, wA s 4 i (va_up (sA s 4 i) j v)) := c_put (n := 4) rfl rfl rfl rfl hj (by decide)
theorem at24 (hj : j < 4) : ab_ev X d 9 [.inr (24, i), .inl (.int (nI j))] s = some (.inl (some (.inl (.int (sA s 5 i j)))), s) := c_at (n := 4) rfl rfl rfl hj (by decide)
theorem put24 (hj : j < 4) : ab_ev X d 3 [.inr (24, i), .inl (.int (nI j)), .inl (.int v)] s = some (.inl none, wA s 5 i (va_up (sA s 5 i) j v)) := c_put (n := 4) rfl rfl rfl rfl hj (by decide)
theorem at25 (hj : j < 900) : ab_ev X d 9 [.inr (25, i), .inl (.int (nI j))] s = some (.inl (some (.inl (.int (sA s 6 i j)))), s) := c_at (n := 900) rfl rfl rfl hj (by decide)
theorem put25 (hj : j < 900) : ab_ev X d 3 [.inr (25, i), .inl (.int (nI j)), .inl (.int v)] s = some (.inl none, wA s 6 i (va_up (sA s 6 i) j v)) := c_put (n := 900) rfl rfl rfl rfl hj (by decide)
theorem at26 (hj : j < 40) : ab_ev X d 9 [.inr (26, i), .inl (.int (nI j))] s = some (.inl (some (.inl (.int (sA s 7 i j)))), s) := c_at (n := 40) rfl rfl rfl hj (by decide)
theorem put26 (hj : j < 40) : ab_ev X d 3 [.inr (26, i), .inl (.int (nI j)), .inl (.int v)] s = some (.inl none, wA s 7 i (va_up (sA s 7 i) j v)) := c_put (n := 40) rfl rfl rfl rfl hj (by decide)
theorem at27 (hj : j < 40) : ab_ev X d 9 [.inr (27, i), .inl (.int (nI j))] s = some (.inl (some (.inl (.int (sA s 8 i j)))), s) := c_at (n := 40) rfl rfl rfl hj (by decide)
theorem put27 (hj : j < 40) : ab_ev X d 3 [.inr (27, i), .inl (.int (nI j)), .inl (.int v)] s = some (.inl none, wA s 8 i (va_up (sA s 8 i) j v)) := c_put (n := 40) rfl rfl rfl rfl hj (by decide)
theorem at28 (hj : j < 20) : ab_ev X d 9 [.inr (28, 0), .inl (.int (nI j))] s = some (.inl (some (.inl (.int (sa s 1 j)))), s) := c_at (n := 20) rfl rfl rfl hj (by decide)
theorem put28 (hj : j < 20) : ab_ev X d 3 [.inr (28, 0), .inl (.int (nI j)), .inl (.int v)] s = some (.inl none, pa s 1 (va_up (sa s 1) j v)) := c_put (n := 20) rfl rfl rfl rfl hj (by decide)
theorem at29 (hj : j < 20) : ab_ev X d 9 [.inr (29, 0), .inl (.int (nI j))] s = some (.inl (some (.inl (.int (sa s 2 j)))), s) := c_at (n := 20) rfl rfl rfl hj (by decide)
theorem put29 (hj : j < 20) : ab_ev X d 3 [.inr (29, 0), .inl (.int (nI j)), .inl (.int v)] s = some (.inl none, pa s 2 (va_up (sa s 2) j v)) := c_put (n := 20) rfl rfl rfl rfl hj (by decide)
theorem at30 (hj : j < 20) : ab_ev X d 9 [.inr (30, 0), .inl (.int (nI j))] s = some (.inl (some (.inl (.int (sa s 3 j)))), s) := c_at (n := 20) rfl rfl rfl hj (by decide)
theorem put30 (hj : j < 20) : ab_ev X d 3 [.inr (30, 0), .inl (.int (nI j)), .inl (.int v)] s = some (.inl none, pa s 3 (va_up (sa s 3) j v)) := c_put (n := 20) rfl rfl rfl rfl hj (by decide)
theorem at31 (hj : j < 20) : ab_ev X d 9 [.inr (31, 0), .inl (.int (nI j))] s = some (.inl (some (.inl (.int (sa s 4 j)))), s) := c_at (n := 20) rfl rfl rfl hj (by decide)
theorem put31 (hj : j < 20) : ab_ev X d 3 [.inr (31, 0), .inl (.int (nI j)), .inl (.int v)] s = some (.inl none, pa s 4 (va_up (sa s 4) j v)) := c_put (n := 20) rfl rfl rfl rfl hj (by decide)
theorem at32 (hj : j < 20) : ab_ev X d 9 [.inr (32, 0), .inl (.int (nI j))] s = some (.inl (some (.inl (.int (sa s 5 j)))), s) := c_at (n := 20) rfl rfl rfl hj (by decide)
theorem put32 (hj : j < 20) : ab_ev X d 3 [.inr (32, 0), .inl (.int (nI j)), .inl (.int v)] s = some (.inl none, pa s 5 (va_up (sa s 5) j v)) := c_put (n := 20) rfl rfl rfl rfl hj (by decide)
theorem at33 (hj : j < 20) : ab_ev X d 9 [.inr (33, 0), .inl (.int (nI j))] s = some (.inl (some (.inl (.int (sa s 6 j)))), s) := c_at (n := 20) rfl rfl rfl hj (by decide)
theorem put33 (hj : j < 20) : ab_ev X d 3 [.inr (33, 0), .inl (.int (nI j)), .inl (.int v)] s = some (.inl none, pa s 6 (va_up (sa s 6) j v)) := c_put (n := 20) rfl rfl rfl rfl hj (by decide)
theorem at35 (hj : j < 8) : ab_ev X d 9 [.inr (35, 0), .inl (.int (nI j))] s = some (.inl (some (.inl (.int (sa s 7 j)))), s) := c_at (n := 8) rfl rfl rfl hj (by decide)
theorem put35 (hj : j < 8) : ab_ev X d 3 [.inr (35, 0), .inl (.int (nI j)), .inl (.int v)] s = some (.inl none, pa s 7 (va_up (sa s 7) j v)) := c_put (n := 8) rfl rfl rfl rfl hj (by decide)
end ATS
end
section
/-! The town's streets, as the class reads them. -/
def sh_o (nm : Nat → Nat) : Nat → Nat
  | 0 => 0
  | k + 1 => sh_o nm k ||| 2 ^ nm k
def sh_s (nm : Nat → Nat) : Nat → Nat
  | 0 => 0
  | k + 1 => sh_s nm k ||| (sh_o nm k &&& 2 ^ nm k)
section TWN
variable {X : (Nat → Int32) × Nat} {d i n : Nat} {nm : Nat → Nat} {s : ab_S}
theorem l8 (hn : si s 1 i = nI n) (h20 : n ≤ 20) (hnm : ∀ k, k < n → sA s 0 i k = nI (nm k)) (hlt : ∀ k, k < n → nm k < n) : ∀ (j k : Nat) (u : Option ab_V), k + j = n → ab_at X (d + 1) 8 6 [some (.inr (2, i)), some (.inl (.int (nI (sh_o nm k)))), some (.inl (.int (nI (sh_s nm k)))), some (.inl (.int (nI k))), u] [] s = some (.inl (some (.inl (.int (nI (sh_s nm n))))), s)
  | 0, k, u, e => by
    obtain rfl : k = n := by omega
    rw [b8_6, hn, if_pos (nI_le (Nat.le_refl _) (by omega))]
  | j + 1, k, u, e => by
    have q := hlt k (by omega)
    rw [b8_6]
    simp (disch := omega) only [hn, nI_leI, if_neg, at19, hnm, ab_bI, n_sh, n_or, n_and, nI_add]
    exact l8 hn h20 hnm hlt j (k + 1) _ (by omega)
theorem c_shared (hn : si s 1 i = nI n) (h20 : n ≤ 20) (hnm : ∀ k, k < n → sA s 0 i k = nI (nm k)) (hlt : ∀ k, k < n → nm k < n) : ab_ev X (d + 1) 8 [.inr (2, i)] s = some (.inl (some (.inl (.int (nI (sh_s nm n))))), s) := by
  rw [b8]
  exact l8 hn h20 hnm hlt n 0 _ (by omega)
end TWN
end
section
/-! The rounds, as the class holds them. -/
/-- the first place of a row of n that P takes; n: none -/
def fst (P : Nat → Bool) : Nat → Nat
  | 0 => 0
  | n + 1 => if fst P n < n then fst P n else if P n then n else n + 1
theorem fst_le (P : Nat → Bool) : ∀ n, fst P n ≤ n
  | 0 => Nat.le_refl _
  | n + 1 => by
    rw [fst]
    have := fst_le P n
    split
    · omega
    · split <;> omega
theorem fst_no (P : Nat → Bool) : ∀ n k, k < fst P n → P k = false
  | 0, k, h => by
    rw [fst] at h
    omega
  | n + 1, k, h => by
    rw [fst] at h
    have h1 := fst_le P n
    by_cases h2 : fst P n < n
    · rw [if_pos h2] at h
      exact fst_no P n k h
    · rw [if_neg h2] at h
      have h3 : fst P n = n := by omega
      cases e : P n with
      | true =>
        rw [e, if_pos rfl] at h
        exact fst_no P n k (by omega)
      | false =>
        by_cases h4 : k = n
        · rw [h4, e]
        · rw [e] at h
          have h : k < n + 1 := by simpa using h
          exact fst_no P n k (by omega)
theorem fst_yes (P : Nat → Bool) : ∀ n, fst P n < n → P (fst P n) = true
  | 0, h => by omega
  | n + 1, h => by
    rw [fst] at h ⊢
    have h1 := fst_le P n
    by_cases h2 : fst P n < n
    · rw [if_pos h2]
      exact fst_yes P n h2
    · rw [if_neg h2] at h ⊢
      cases e : P n with
      | true =>
        rw [if_pos rfl]
        exact e
      | false =>
        rw [e] at h
        simp at h
/-- the first place is the one that has no earlier -/
theorem fst_eq {P : Nat → Bool} {n k : Nat} (hk : k < n) (h1 : P k = true) (h2 : ∀ j, j < k → P j = false) : fst P n = k := by
  have a := fst_le P n
  by_cases h : fst P n < k
  · have := fst_yes P n (by omega)
    rw [h2 _ h] at this
    cases this
  · by_cases h3 : k < fst P n
    · have := fst_no P n k h3
      rw [h1] at this
      cases this
    · omega
theorem fst_eqn {P : Nat → Bool} {n : Nat} (h2 : ∀ j, j < n → P j = false) : fst P n = n := by
  have a := fst_le P n
  by_cases h : fst P n < n
  · have := fst_yes P n h
    rw [h2 _ h] at this
    cases this
  · omega
/-- numbers below n that P takes, as bits -/
def bs (P : Nat → Bool) : Nat → Nat
  | 0 => 0
  | n + 1 => if P n then bs P n ||| 2 ^ n else bs P n
theorem bs_lt (P : Nat → Bool) : ∀ n, bs P n < 2 ^ n
  | 0 => Nat.zero_lt_one
  | n + 1 => by
    rw [bs]
    have h := bs_lt P n
    have h2 : 2 ^ n < 2 ^ (n + 1) := Nat.pow_lt_pow_right (by decide) (by omega)
    split
    · exact Nat.or_lt_two_pow (by omega) h2
    · omega
theorem bs_bit (P : Nat → Bool) : ∀ n i, (bs P n).testBit i = (decide (i < n) && P i)
  | 0, i => by simp [bs]
  | n + 1, i => by
    rw [bs]
    have h := bs_bit P n i
    by_cases e : i = n
    · subst e
      cases q : P i <;> simp [q, h, Nat.testBit_two_pow_self]
    · have h2 : decide (i < n + 1) = decide (i < n) := by
        by_cases h3 : i < n
        · simp [h3]
          omega
        · have : ¬ i < n + 1 := by omega
          simp [h3, this]
      have h4 : (2 ^ n).testBit i = false := by
        rw [Nat.testBit_two_pow]
        simp
        omega
      cases q : P n <;> simp [q, h, h2, h4]
theorem bs_cong {P Q : Nat → Bool} : ∀ {n : Nat}, (∀ k, k < n → P k = Q k) → bs P n = bs Q n
  | 0, _ => rfl
  | n + 1, h => by rw [bs, bs, h n (by omega), bs_cong (fun k hk => h k (by omega))]
theorem bs_lt20 (P : Nat → Bool) {n : Nat} (h : n ≤ 30) : bs P n < 2 ^ 31 := Nat.lt_of_lt_of_le (bs_lt P n) (Nat.pow_le_pow_right (by decide) (by omega))
section RND
variable {X : (Nat → Int32) × Nat} {d i n : Nat} {s : ab_S}
theorem c_sizeOf {r : Nat} (hr : r < 4) : ab_ev X (d + 1) 21 [.inr (3, i), .inl (.int (nI r))] s = some (.inl (some (.inl (.int (sA s 4 i r)))), s) := by
  rw [b21, at23 hr]
  rfl
theorem c_byOf {r : Nat} (hr : r < 4) : ab_ev X (d + 1) 24 [.inr (3, i), .inl (.int (nI r))] s = some (.inl (some (.inl (.int (sA s 5 i r)))), s) := by
  rw [b24, at24 hr]
  rfl
theorem c_streetAt {r k z : Nat} (hr : r < 4) (hk : k < 1000) (hz : sA s 4 i r = nI z) (h20 : z ≤ 20) : ab_ev X d 22 [.inr (3, i), .inl (.int (nI r)), .inl (.int (nI k))] s = some (.inl (some (.inl (.int (if k < z then sA s 3 i (20 * r + k) else -nI 1)))), s) := by
  have e : nI r * nI 20 + nI k = nI (20 * r + k) := by rw [pk_mul, nI_add, Nat.mul_comm]
  rw [b22]
  by_cases h : k < z
  · simp (disch := omega) only [e, nI_ltI, nI_leI, if_neg, nI_clamp, hz, if_pos h]
  · simp (disch := omega) only [e, nI_ltI, nI_leI, if_neg, nI_clamp, hz]
    rw [if_pos (by omega)]
    first | done | rw [if_neg h]
/-- the place of x in a row's part from a on, z long; -1: nowhere -/
def pl (F : Nat → Int32) (a z : Nat) (x : Int32) : Nat := fst (fun k => F (a + k) == x) z
theorem l64 {r z : Nat} {x : Int32} (hr : r < 4) (hz : sA s 4 i r = nI z) (h20 : z ≤ 20) : ∀ (j k : Nat), k + j = z → (∀ q, q < k → (sA s 3 i (20 * r + q) == x) = false) → ab_at X (d + 1) 64 9 [some (.inr (3, i)), some (.inl (.int (nI r))), some (.inl (.int x)), some (.inl (.int (nI z))), some (.inl (.int (nI k)))] [] s = some (.inl (some (.inl (.int (if pl (sA s 3 i) (20 * r) z x < z then nI (pl (sA s 3 i) (20 * r) z x) else -nI 1)))), s)
  | 0, k, e, h => by
    obtain rfl : k = z := by omega
    rw [b64_9, if_pos (nI_le (Nat.le_refl _) (by omega)), if_neg]
    unfold pl
    rw [fst_eqn h]
    omega
  | j + 1, k, e, h => by
    rw [b64_9, if_neg (nI_ge (by omega) (by omega)), c_streetAt hr (by omega) hz h20, if_pos (by omega)]
    show (if sA s 3 i (20 * r + k) = x then _ else _) = _
    by_cases hx : sA s 3 i (20 * r + k) = x
    · have hp : pl (sA s 3 i) (20 * r) z x = k := fst_eq (by omega) (by simp [hx]) h
      rw [if_pos hx, hp, if_pos (by omega)]
    · rw [if_neg hx, nI_add]
      refine l64 hr hz h20 j (k + 1) (by omega) (fun q hq => ?_)
      by_cases e2 : q = k
      · rw [e2]
        simpa using hx
      · exact h q (by omega)
theorem c_placeOf {r z : Nat} {x : Int32} (hr : r < 4) (hz : sA s 4 i r = nI z) (h20 : z ≤ 20) : ab_ev X (d + 2) 64 [.inr (3, i), .inl (.int (nI r)), .inl (.int x)] s = some (.inl (some (.inl (.int (if pl (sA s 3 i) (20 * r) z x < z then nI (pl (sA s 3 i) (20 * r) z x) else -nI 1)))), s) := by
  rw [b64, c_sizeOf hr, hz]
  exact l64 hr hz h20 z 0 (by omega) (fun q hq => by omega)
theorem l87 {m : Nat} {x : Int32} {z : Nat → Nat} (hm : si s 7 i = nI m) (h4 : m ≤ 4) (hz : ∀ r, r < m → sA s 4 i r = nI (z r)) (h20 : ∀ r, r < m → z r ≤ 20) : ∀ (j k : Nat), k + j = m → ab_at X (d + 3) 87 4 [some (.inr (3, i)), some (.inl (.int x)), some (.inl (.int (nI (bs (fun r => decide (pl (sA s 3 i) (20 * r) (z r) x < z r)) k)))), some (.inl (.int (nI k)))] [] s = some (.inl (some (.inl (.int (nI (bs (fun r => decide (pl (sA s 3 i) (20 * r) (z r) x < z r)) m))))), s)
  | 0, k, e => by
    obtain rfl : k = m := by omega
    rw [b87_4, hm, if_pos (nI_le (Nat.le_refl _) (by omega))]
  | j + 1, k, e => by
    have hk : k < m := by omega
    rw [b87_4, hm, if_neg (nI_ge hk (by omega)), c_placeOf (by omega) (hz k hk) (h20 k hk)]
    show (if _ = _ then _ else _) = _
    by_cases h : pl (sA s 3 i) (20 * k) (z k) x < z k
    · have := h20 k hk
      rw [if_pos h, if_neg (n_m1 _ (by omega)), n_sh _ (by omega), n_or, nI_add]
      have e2 : bs (fun r => decide (pl (sA s 3 i) (20 * r) (z r) x < z r)) (k + 1) = bs (fun r => decide (pl (sA s 3 i) (20 * r) (z r) x < z r)) k ||| 2 ^ k := by
        rw [bs, if_pos (by simpa using h)]
      rw [← e2]
      exact l87 hm h4 hz h20 j (k + 1) (by omega)
    · rw [if_neg h, if_pos rfl, nI_add]
      have e2 : bs (fun r => decide (pl (sA s 3 i) (20 * r) (z r) x < z r)) (k + 1) = bs (fun r => decide (pl (sA s 3 i) (20 * r) (z r) x < z r)) k := by
        rw [bs, if_neg (by simpa using h)]
      rw [← e2]
      exact l87 hm h4 hz h20 j (k + 1) (by omega)
theorem c_roundsOf {m : Nat} {x : Int32} {z : Nat → Nat} (hm : si s 7 i = nI m) (h4 : m ≤ 4) (hz : ∀ r, r < m → sA s 4 i r = nI (z r)) (h20 : ∀ r, r < m → z r ≤ 20) : ab_ev X (d + 3) 87 [.inr (3, i), .inl (.int x)] s = some (.inl (some (.inl (.int (nI (bs (fun r => decide (pl (sA s 3 i) (20 * r) (z r) x < z r)) m))))), s) := by
  rw [b87]
  exact l87 hm h4 hz h20 m 0 (by omega)
/-- a row with x let in at place p of its part from a on, z long -/
def ins (F : Nat → Int32) (a z p : Nat) (x : Int32) : Nat → Int32 := fun j => if a + p < j ∧ j ≤ a + z then F (j - 1) else if j = a + p then x else F j
def insK (F : Nat → Int32) (a z q : Nat) : Nat → Int32 := fun j => if a + q < j ∧ j ≤ a + z then F (j - 1) else F j
/-- a row without place p of its part from a on, z long -/
def del (F : Nat → Int32) (a z p : Nat) : Nat → Int32 := fun j => if a + p ≤ j ∧ j + 1 < a + z then F (j + 1) else F j
def delK (F : Nat → Int32) (a p q : Nat) : Nat → Int32 := fun j => if a + p ≤ j ∧ j < a + q then F (j + 1) else F j
theorem l65 {F : Nat → Int32} {r z p : Nat} {x : Int32} (hr : r < 4) (hz : sA s 4 i r = nI z) (h20 : z < 20) (hp : p ≤ z) : ∀ (j q : Nat), p + j = q → q ≤ z → ab_at X (d + 1) 65 19 [some (.inr (3, i)), some (.inl (.int (nI r))), some (.inl (.int (nI p))), some (.inl (.int x)), some (.inl (.int (nI z))), some (.inl (.int (nI q)))] [] (wA s 3 i (insK F (20 * r) z q)) = some (.inl none, wA (wA s 3 i (ins F (20 * r) z p x)) 4 i (va_up (sA s 4 i) r (nI (z + 1))))
  | 0, q, e, h => by
    obtain rfl : p = q := by omega
    rw [b65_19, if_pos (nI_le (Nat.le_refl _) (by omega)), pk_mul, nI_add, put22 (by omega), e_bU, nI_add, put23 hr]
    simp (disch := omega) only [E0, E1, e_bU]
    have e2 : va_up (insK F (20 * r) z p) (r * 20 + p) x = ins F (20 * r) z p x := by
      funext k
      unfold va_up insK ins
      by_cases h1 : k = r * 20 + p
      · rw [if_pos h1, if_neg (by omega), if_pos (by omega)]
      · rw [if_neg h1]
        by_cases h2 : 20 * r + p < k ∧ k ≤ 20 * r + z
        · rw [if_pos h2, if_pos h2]
        · rw [if_neg h2, if_neg h2, if_neg (by omega)]
    rw [e2]
  | j + 1, q, e, h => by
    have hz2 : sA (wA s 3 i (insK F (20 * r) z q)) 4 i r = nI z := hz
    have e3 : (nI q + -nI 1) = nI (q - 1) := by
      obtain ⟨q, rfl⟩ : ∃ t, q = t + 1 := ⟨q - 1, by omega⟩
      exact pk_m1 q
    rw [b65_19, if_neg (nI_ge (by omega) (by omega)), pk_sub (by omega), c_streetAt hr (by omega) hz2 (by omega), if_pos (by omega), pk_mul, nI_add]
    show ab_bU _ _ _ = _
    rw [put22 (by omega), e3]
    simp (disch := omega) only [E0, E1, e_bU]
    have e2 : va_up (insK F (20 * r) z q) (r * 20 + q) (insK F (20 * r) z q (20 * r + (q - 1))) = insK F (20 * r) z (q - 1) := by
      funext k
      unfold va_up insK
      by_cases h1 : k = r * 20 + q
      · rw [if_pos h1, if_neg (by omega), if_pos (by omega)]
        congr 1
        omega
      · rw [if_neg h1]
        by_cases h2 : 20 * r + q < k ∧ k ≤ 20 * r + z
        · rw [if_pos h2, if_pos (by omega)]
        · rw [if_neg h2, if_neg (by omega)]
    rw [e2]
    exact l65 hr hz h20 hp j (q - 1) (by omega) (by omega)
theorem c_insert {r z p : Nat} {x : Int32} (hr : r < 4) (hz : sA s 4 i r = nI z) (h20 : z < 20) (hp : p ≤ z) : ab_ev X (d + 2) 65 [.inr (3, i), .inl (.int (nI r)), .inl (.int (nI p)), .inl (.int x)] s = some (.inl none, wA (wA s 3 i (ins (sA s 3 i) (20 * r) z p x)) 4 i (va_up (sA s 4 i) r (nI (z + 1)))) := by
  rw [b65, c_sizeOf hr, hz]
  show (if _ then _ else _) = _
  rw [if_pos (nI_lt h20 (by omega))]
  have h := l65 (X := X) (d := d + 1) (F := sA s 3 i) (x := x) hr hz h20 hp (z - p) z (by omega) (Nat.le_refl _)
  have e : wA s 3 i (insK (sA s 3 i) (20 * r) z z) = s := by
    have e2 : insK (sA s 3 i) (20 * r) z z = sA s 3 i := by
      funext k
      unfold insK
      rw [if_neg (by omega)]
    rw [e2]
    exact wA_id _ _ _
  rw [e] at h
  exact h
theorem l136 {F : Nat → Int32} {r z p : Nat} (hr : r < 4) (hz : sA s 4 i r = nI z) (h20 : z ≤ 20) (hp : p < z) : ∀ (j q : Nat), q + j + 1 = z → p ≤ q → ab_at X (d + 1) 136 14 [some (.inr (3, i)), some (.inl (.int (nI r))), some (.inl (.int (nI p))), some (.inl (.int (nI z))), some (.inl (.int (nI q)))] [] (wA s 3 i (delK F (20 * r) p q)) = some (.inl none, wA (wA s 3 i (del F (20 * r) z p)) 4 i (va_up (sA s 4 i) r (nI (z - 1))))
  | 0, q, e, h => by
    have e2 : delK F (20 * r) p q = del F (20 * r) z p := by
      funext k
      unfold delK del
      by_cases h1 : 20 * r + p ≤ k ∧ k < 20 * r + q
      · rw [if_pos h1, if_pos (by omega)]
      · rw [if_neg h1, if_neg (by omega)]
    rw [b136_14, pk_sub (by omega), if_pos (nI_le (by omega) (by omega)), e2, put23 hr]
    simp (disch := omega) only [E0, E1, e_bU]
  | j + 1, q, e, h => by
    have hz2 : sA (wA s 3 i (delK F (20 * r) p q)) 4 i r = nI z := hz
    rw [b136_14, pk_sub (by omega), if_neg (nI_ge (by omega) (by omega)), nI_add, c_streetAt hr (by omega) hz2 h20, if_pos (by omega), pk_mul, nI_add]
    show ab_bU _ _ _ = _
    rw [put22 (by omega)]
    simp (disch := omega) only [E0, E1, e_bU]
    have e2 : va_up (delK F (20 * r) p q) (r * 20 + q) (delK F (20 * r) p q (20 * r + (q + 1))) = delK F (20 * r) p (q + 1) := by
      funext k
      unfold va_up delK
      by_cases h1 : k = r * 20 + q
      · rw [if_pos h1, if_neg (by omega), if_pos (by omega)]
        congr 1
        omega
      · rw [if_neg h1]
        by_cases h2 : 20 * r + p ≤ k ∧ k < 20 * r + q
        · rw [if_pos h2, if_pos (by omega)]
        · rw [if_neg h2, if_neg (by omega)]
    rw [e2]
    exact l136 hr hz h20 hp j (q + 1) (by omega) (by omega)
theorem c_remove {r z p : Nat} (hr : r < 4) (hz : sA s 4 i r = nI z) (h20 : z ≤ 20) (hp : p < z) : ab_ev X (d + 2) 136 [.inr (3, i), .inl (.int (nI r)), .inl (.int (nI p))] s = some (.inl none, wA (wA s 3 i (del (sA s 3 i) (20 * r) z p)) 4 i (va_up (sA s 4 i) r (nI (z - 1)))) := by
  rw [b136, c_sizeOf hr, hz]
  show (if _ then _ else _) = _
  rw [if_pos (nI_lt (by omega) (by omega))]
  have h := l136 (X := X) (d := d + 1) (F := sA s 3 i) hr hz h20 hp (z - 1 - p) p (by omega) (Nat.le_refl _)
  have e : wA s 3 i (delK (sA s 3 i) (20 * r) p p) = s := by
    have e2 : delK (sA s 3 i) (20 * r) p p = sA s 3 i := by
      funext k
      unfold delK
      rw [if_neg (by omega)]
    rw [e2]
    exact wA_id _ _ _
  rw [e] at h
  exact h
theorem c_begin {m : Nat} {x : Int32} (hm : si s 7 i = nI m) (h4 : m < 4) : ab_ev X (d + 1) 62 [.inr (3, i), .inl (.int x)] s = some (.inl (some (.inl (.int (nI m)))), wi (wA (wA s 4 i (va_up (sA s 4 i) m (nI 0))) 5 i (va_up (sA s 5 i) m x)) 7 i (nI (m + 1))) := by
  rw [b62, hm, put23 h4, e_bU, put24 h4, e_bU, nI_add, c_min _ _ (by omega) (by omega), Nat.min_eq_left (by omega)]
  rfl
end RND
end
section
/-! Counting (from the rows given for pasting). -/
theorem fb_holes : ∀ (m n : Nat) (f : Nat → Nat), (∀ i, i < n → f i < m) → (∀ i j, i < j → j < n → f i ≠ f j) → n ≤ m := by
  intro m
  induction m with
  | zero =>
    intro n f h1 _
    rcases Nat.eq_zero_or_pos n with h | h
    · omega
    · exact absurd (h1 0 h) (Nat.not_lt_zero _)
  | succ m ih =>
    intro n f h1 h2
    by_cases hx : ∃ i, i < n ∧ f i = m
    · obtain ⟨a, ha, hfa⟩ := hx
      have hg := ih (n - 1) (fun i => if i < a then f i else f (i + 1)) (by
        intro i hi
        by_cases q : i < a
        · simp only [if_pos q]
          have b1 := h1 i (by omega)
          have b2 := h2 i a q ha
          omega
        · simp only [if_neg q]
          have b1 := h1 (i + 1) (by omega)
          have b2 := h2 a (i + 1) (by omega) (by omega)
          omega) (by
        intro i j hij hj
        by_cases q : i < a
        · by_cases r : j < a
          · simp only [if_pos q, if_pos r]
            exact h2 i j hij (by omega)
          · simp only [if_pos q, if_neg r]
            exact h2 i (j + 1) (by omega) (by omega)
        · have r : ¬ j < a := by omega
          simp only [if_neg q, if_neg r]
          exact h2 (i + 1) (j + 1) (by omega) (by omega))
      omega
    · have hg := ih n f (fun i hi => by
        have b1 := h1 i hi
        have b2 : f i ≠ m := fun e => hx ⟨i, hi, e⟩
        omega) h2
      omega
/-- two of them in one place -/
theorem fb_twice {m n : Nat} {f : Nat → Nat} (h : ∀ i, i < n → f i < m) (hm : m < n) : ∃ i j, i < j ∧ j < n ∧ f i = f j := by
  refine Classical.byContradiction fun hx => ?_
  have := fb_holes m n f h (fun i j hij hj e => hx ⟨i, j, hij, hj, e⟩)
  omega
/-- as many as places, none twice: each place is taken -/
theorem fb_onto {n : Nat} {f : Nat → Nat} (h : ∀ i, i < n → f i < n) (h2 : ∀ i j, i < j → j < n → f i ≠ f j) {y : Nat} (hy : y < n) : ∃ i, i < n ∧ f i = y := by
  refine Classical.byContradiction fun hx => ?_
  have hne : ∀ i, i < n → f i ≠ y := fun i hi e => hx ⟨i, hi, e⟩
  have := fb_holes (n - 1) n (fun i => if f i < y then f i else f i - 1) (by
    intro i hi
    have b1 := h i hi
    have b2 := hne i hi
    by_cases q : f i < y
    · simp only [if_pos q]; omega
    · simp only [if_neg q]; omega) (by
    intro i j hij hj
    have b1 := hne i (by omega)
    have b2 := hne j hj
    have b3 := h2 i j hij hj
    by_cases q : f i < y
    · by_cases r : f j < y
      · simp only [if_pos q, if_pos r]; exact b3
      · simp only [if_pos q, if_neg r]; omega
    · by_cases r : f j < y
      · simp only [if_neg q, if_pos r]; omega
      · simp only [if_neg q, if_neg r]; omega)
  omega
/-! ===== how many places have a property ===== -/
def fb_ct (p : Nat → Bool) : Nat → Nat
  | 0 => 0
  | n + 1 => fb_ct p n + (if p n then 1 else 0)
theorem fb_ct_succ (p : Nat → Bool) (n : Nat) : fb_ct p (n + 1) = fb_ct p n + (if p n then 1 else 0) := rfl
theorem fb_ct_le (p : Nat → Bool) : ∀ n, fb_ct p n ≤ n
  | 0 => Nat.le_refl _
  | n + 1 => by
    have h := fb_ct_le p n
    rw [fb_ct_succ]
    split <;> omega
theorem fb_ct_step (p : Nat → Bool) (m : Nat) : ∀ n, fb_ct p m ≤ fb_ct p (m + n)
  | 0 => Nat.le_refl _
  | n + 1 => by
    have h := fb_ct_step p m n
    show fb_ct p m ≤ fb_ct p (m + n + 1)
    rw [fb_ct_succ]
    omega
theorem fb_ct_mono (p : Nat → Bool) {m n : Nat} (h : m ≤ n) : fb_ct p m ≤ fb_ct p n := by
  have := fb_ct_step p m (n - m)
  rwa [Nat.add_sub_cancel' h] at this
theorem fb_ct_cong {p q : Nat → Bool} : ∀ {n : Nat}, (∀ k, k < n → p k = q k) → fb_ct p n = fb_ct q n
  | 0, _ => rfl
  | n + 1, h => by
    rw [fb_ct_succ, fb_ct_succ, fb_ct_cong (fun k hk => h k (by omega)), h n (by omega)]
/-- one place changed -/
theorem fb_ct_out (p : Nat → Bool) (b : Bool) {i n : Nat} (h : n ≤ i) : fb_ct (fun k => if k = i then b else p k) n = fb_ct p n :=
  fb_ct_cong fun k hk => if_neg (by omega)
theorem fb_ct_upd (p : Nat → Bool) (b : Bool) {i : Nat} : ∀ {n : Nat}, i < n → fb_ct (fun k => if k = i then b else p k) n + (if p i then 1 else 0) = fb_ct p n + (if b then 1 else 0)
  | 0, h => absurd h (Nat.not_lt_zero i)
  | n + 1, h => by
    rw [fb_ct_succ, fb_ct_succ]
    rcases Nat.lt_or_ge i n with q | q
    · have := fb_ct_upd p b q
      have e : (if n = i then b else p n) = p n := if_neg (by omega)
      rw [e]
      omega
    · have e : i = n := by omega
      subst e
      rw [fb_ct_out p b (Nat.le_refl _)]
      simp only [if_true]
      omega
theorem fb_ct_sub {p q : Nat → Bool} : ∀ {n : Nat}, (∀ k, k < n → p k = true → q k = true) → fb_ct p n ≤ fb_ct q n
  | 0, _ => Nat.le_refl _
  | n + 1, h => by
    have h1 := fb_ct_sub (n := n) (p := p) (q := q) (fun k hk => h k (by omega))
    have h2 := h n (by omega)
    rw [fb_ct_succ, fb_ct_succ]
    cases hp : p n <;> cases hq : q n <;> simp_all <;> omega
theorem fb_ct_or {p q : Nat → Bool} : ∀ {n : Nat}, (∀ k, k < n → ¬ (p k = true ∧ q k = true)) → fb_ct (fun k => p k || q k) n = fb_ct p n + fb_ct q n
  | 0, _ => rfl
  | n + 1, h => by
    have h1 := fb_ct_or (n := n) (p := p) (q := q) (fun k hk => h k (by omega))
    have h2 := h n (by omega)
    rw [fb_ct_succ, fb_ct_succ, fb_ct_succ, h1]
    cases hp : p n <;> cases hq : q n <;> simp_all <;> omega
theorem fb_ct_not (p : Nat → Bool) : ∀ n, fb_ct p n + fb_ct (fun k => !p k) n = n
  | 0 => rfl
  | n + 1 => by
    have h := fb_ct_not p n
    rw [fb_ct_succ, fb_ct_succ]
    cases p n <;> simp <;> omega
theorem fb_ct_split (p : Nat → Bool) (m : Nat) : ∀ n, fb_ct p (m + n) = fb_ct p m + fb_ct (fun k => p (m + k)) n
  | 0 => rfl
  | n + 1 => by
    have h := fb_ct_split p m n
    show fb_ct p (m + n + 1) = _
    rw [fb_ct_succ, fb_ct_succ, h, Nat.add_assoc]
theorem fb_ct_zero {p : Nat → Bool} : ∀ {n : Nat}, fb_ct p n = 0 ↔ ∀ k, k < n → p k = false
  | 0 => ⟨fun _ k hk => absurd hk (Nat.not_lt_zero k), fun _ => rfl⟩
  | n + 1 => by
    have h := fb_ct_zero (p := p) (n := n)
    rw [fb_ct_succ]
    constructor
    · intro e k hk
      have e1 : fb_ct p n = 0 := by omega
      rcases Nat.lt_or_ge k n with q | q
      · exact h.mp e1 k q
      · have ek : k = n := by omega
        subst ek
        cases hp : p k
        · rfl
        · simp [hp] at e
    · intro a
      rw [h.mpr (fun k hk => a k (by omega)), a n (by omega)]
      rfl
theorem fb_ct_pos {p : Nat → Bool} {n : Nat} : 0 < fb_ct p n ↔ ∃ k, k < n ∧ p k = true := by
  constructor
  · intro h
    refine Classical.byContradiction fun hx => ?_
    have := fb_ct_zero.mpr (fun k hk => by
      cases hp : p k
      · rfl
      · exact absurd ⟨k, hk, hp⟩ hx : ∀ k, k < n → p k = false)
    omega
  · rintro ⟨k, hk, hp⟩
    rcases Nat.eq_zero_or_pos (fb_ct p n) with e | e
    · have := fb_ct_zero.mp e k hk
      rw [this] at hp
      cases hp
    · exact e
theorem fb_ct_all {p : Nat → Bool} {n : Nat} : fb_ct p n = n ↔ ∀ k, k < n → p k = true := by
  have h := fb_ct_not p n
  constructor
  · intro e k hk
    have z : fb_ct (fun k => !p k) n = 0 := by omega
    have := fb_ct_zero.mp z k hk
    cases hp : p k
    · simp [hp] at this
    · rfl
  · intro a
    have z : fb_ct (fun k => !p k) n = 0 := fb_ct_zero.mpr (fun k hk => by simp [a k hk])
    omega
/-- the k-th place with the property -/
theorem fb_ct_kth {p : Nat → Bool} {k : Nat} : ∀ {n : Nat}, k < fb_ct p n → ∃ i, i < n ∧ p i = true ∧ fb_ct p i = k
  | 0, h => absurd h (Nat.not_lt_zero k)
  | n + 1, h => by
    rcases Nat.lt_or_ge k (fb_ct p n) with q | q
    · obtain ⟨i, h1, h2⟩ := fb_ct_kth q
      exact ⟨i, by omega, h2⟩
    · rw [fb_ct_succ] at h
      cases hp : p n
      · simp [hp] at h; omega
      · simp [hp] at h
        exact ⟨n, by omega, hp, by omega⟩
theorem fb_ct_kth_one {p : Nat → Bool} {i j : Nat} (hi : p i = true) (hj : p j = true) (e : fb_ct p i = fb_ct p j) : i = j := by
  have key : ∀ a b : Nat, a < b → p a = true → fb_ct p a < fb_ct p b := by
    intro a b hab ha
    have h := fb_ct_mono p (show a + 1 ≤ b from hab)
    rw [fb_ct_succ, ha] at h
    simp at h
    omega
  rcases Nat.lt_trichotomy i j with q | q | q
  · have := key i j q hi; omega
  · exact q
  · have := key j i q hj; omega
/-! Permutations: going on and on. -/
def it (f : Nat → Nat) : Nat → Nat → Nat
  | 0, s => s
  | k + 1, s => f (it f k s)
theorem it_add (f : Nat → Nat) : ∀ a b s, it f (a + b) s = it f a (it f b s)
  | 0, b, s => by rw [Nat.zero_add, it]
  | a + 1, b, s => by rw [show a + 1 + b = a + b + 1 by omega, it, it, it_add f a b s]
theorem it_f (f : Nat → Nat) (k s : Nat) : it f k (f s) = it f (k + 1) s := by
  rw [it_add f k 1 s]
  rfl
theorem it_cong {f g : Nat → Nat} {n : Nat} (hf : ∀ s, s < n → f s < n) (h : ∀ s, s < n → f s = g s) : ∀ k {s : Nat}, s < n → it f k s = it g k s ∧ it f k s < n
  | 0, s, hs => ⟨rfl, hs⟩
  | k + 1, s, hs => by
    obtain ⟨a, b⟩ := it_cong hf h k hs
    rw [it, it, ← a]
    exact ⟨h _ b, hf _ b⟩
section PRM
variable {f g : Nat → Nat} {n : Nat}
theorem it_lt (hf : ∀ s, s < n → f s < n) (k : Nat) {s : Nat} (hs : s < n) : it f k s < n := (it_cong (g := f) hf (fun _ _ => rfl) k hs).2
theorem it_inj (hf : ∀ s, s < n → f s < n) (hi : ∀ s t, s < n → t < n → f s = f t → s = t) : ∀ k {s t : Nat}, s < n → t < n → it f k s = it f k t → s = t
  | 0, s, t, _, _, e => e
  | k + 1, s, t, hs, ht, e => it_inj hf hi k hs ht (hi _ _ (it_lt hf k hs) (it_lt hf k ht) e)
/-- how many steps till a place is reached again -/
def cyc (f : Nat → Nat) (n s : Nat) : Nat := 1 + fst (fun k => it f (k + 1) s == s) n
theorem cyc_pos (f : Nat → Nat) (n s : Nat) : 0 < cyc f n s := by
  unfold cyc
  omega
theorem cyc_fst (hf : ∀ s, s < n → f s < n) (hi : ∀ s t, s < n → t < n → f s = f t → s = t) {s : Nat} (hs : s < n) : fst (fun k => it f (k + 1) s == s) n < n := by
  obtain ⟨i, j, h1, h2, h3⟩ := fb_twice (m := n) (n := n + 1) (f := fun k => it f k s) (fun k _ => it_lt hf k hs) (by omega)
  have h4 : it f (j - i) s = s := by
    have e : it f j s = it f i (it f (j - i) s) := by rw [← it_add]; congr 1; omega
    exact (it_inj hf hi i hs (it_lt hf _ hs) (h3.trans e)).symm
  have a := fst_le (fun k => it f (k + 1) s == s) n
  by_cases h : fst (fun k => it f (k + 1) s == s) n < n
  · exact h
  · have := fst_no (fun k => it f (k + 1) s == s) n (j - i - 1) (by omega)
    rw [show j - i - 1 + 1 = j - i by omega, h4] at this
    simp at this
theorem cyc_le (hf : ∀ s, s < n → f s < n) (hi : ∀ s t, s < n → t < n → f s = f t → s = t) {s : Nat} (hs : s < n) : cyc f n s ≤ n := by
  have := cyc_fst hf hi hs
  unfold cyc
  omega
theorem cyc_it (hf : ∀ s, s < n → f s < n) (hi : ∀ s t, s < n → t < n → f s = f t → s = t) {s : Nat} (hs : s < n) : it f (cyc f n s) s = s := by
  have := fst_yes _ n (cyc_fst hf hi hs)
  rw [cyc, Nat.add_comm]
  simpa using this
theorem cyc_no {s m : Nat} (h0 : 0 < m) (h : m < cyc f n s) : it f m s ≠ s := by
  unfold cyc at h
  have := fst_no (fun k => it f (k + 1) s == s) n (m - 1) (by omega)
  rw [show m - 1 + 1 = m by omega] at this
  simpa using this
/-- what has these two marks is the cycle -/
theorem cyc_eq (hf : ∀ s, s < n → f s < n) (hi : ∀ s t, s < n → t < n → f s = f t → s = t) {s m : Nat} (hs : s < n) (h0 : 0 < m) (h1 : it f m s = s) (h2 : ∀ k, 0 < k → k < m → it f k s ≠ s) : cyc f n s = m := by
  rcases Nat.lt_trichotomy (cyc f n s) m with h | h | h
  · exact absurd (cyc_it hf hi hs) (h2 _ (cyc_pos f n s) h)
  · exact h
  · exact absurd h1 (cyc_no h0 h)
theorem it_mul (hf : ∀ s, s < n → f s < n) (hi : ∀ s t, s < n → t < n → f s = f t → s = t) {s : Nat} (hs : s < n) : ∀ q, it f (cyc f n s * q) s = s
  | 0 => rfl
  | q + 1 => by rw [Nat.mul_succ, it_add, cyc_it hf hi hs, it_mul hf hi hs q]
theorem it_mod (hf : ∀ s, s < n → f s < n) (hi : ∀ s t, s < n → t < n → f s = f t → s = t) {s : Nat} (hs : s < n) (k : Nat) : it f k s = it f (k % cyc f n s) s := by
  have h := Nat.mod_add_div k (cyc f n s)
  have h2 : it f (k % cyc f n s + cyc f n s * (k / cyc f n s)) s = it f (k % cyc f n s) s := by rw [it_add, it_mul hf hi hs]
  rw [h] at h2
  exact h2
theorem it_eq (hf : ∀ s, s < n → f s < n) (hi : ∀ s t, s < n → t < n → f s = f t → s = t) {s : Nat} (hs : s < n) (a b : Nat) : it f a s = it f b s ↔ a % cyc f n s = b % cyc f n s := by
  constructor
  · intro h
    rw [it_mod hf hi hs a, it_mod hf hi hs b] at h
    have ha := Nat.mod_lt a (cyc_pos f n s)
    have hb := Nat.mod_lt b (cyc_pos f n s)
    have key : ∀ x y : Nat, x < cyc f n s → y < cyc f n s → x < y → it f x s ≠ it f y s := by
      intro x y hx hy hxy e
      have e2 : it f y s = it f x (it f (y - x) s) := by rw [← it_add]; congr 1; omega
      have e3 := it_inj hf hi x hs (it_lt hf _ hs) (e.trans e2)
      exact cyc_no (f := f) (n := n) (by omega) (by omega) e3.symm
    rcases Nat.lt_trichotomy (a % cyc f n s) (b % cyc f n s) with q | q | q
    · exact absurd h (key _ _ ha hb q)
    · exact q
    · exact absurd h.symm (key _ _ hb ha q)
  · intro h
    rw [it_mod hf hi hs a, it_mod hf hi hs b, h]
/-- where one comes by so many steps, ahead or back -/
def ah (f : Nat → Nat) (n s : Nat) (z : Int) : Nat := it f (z % (cyc f n s : Int)).toNat s
theorem ah_lt (hf : ∀ s, s < n → f s < n) {s : Nat} (hs : s < n) (z : Int) : ah f n s z < n := it_lt hf _ hs
theorem ah_nat (hf : ∀ s, s < n → f s < n) (hi : ∀ s t, s < n → t < n → f s = f t → s = t) {s : Nat} (hs : s < n) (k : Nat) : ah f n s k = it f k s := by
  unfold ah
  rw [it_mod hf hi hs k]
  congr 1
theorem it_back (hf : ∀ s, s < n → f s < n) (hg : ∀ s, s < n → g (f s) = s) : ∀ k {s : Nat}, s < n → it g k (it f k s) = s
  | 0, s, hs => rfl
  | k + 1, s, hs => by
    rw [← it_f g, it, hg _ (it_lt hf k hs)]
    exact it_back hf hg k hs
theorem ah_neg (hf : ∀ s, s < n → f s < n) (hi : ∀ s t, s < n → t < n → f s = f t → s = t) (hg : ∀ s, s < n → g (f s) = s) {s : Nat} (hs : s < n) (k : Nat) : ah f n s (-(k : Int)) = it g k s := by
  have hc := cyc_pos f n s
  have h1 : it f k (ah f n s (-(k : Int))) = s := by
    unfold ah
    rw [← it_add, it_mod hf hi hs]
    have : (k + (-(k : Int) % (cyc f n s : Int)).toNat) % cyc f n s = 0 := by
      have h2 : 0 ≤ -(k : Int) % (cyc f n s : Int) := Int.emod_nonneg _ (by omega)
      have h3 : ((k + (-(k : Int) % (cyc f n s : Int)).toNat : Nat) : Int) % (cyc f n s : Int) = 0 := by
        rw [Int.natCast_add, Int.toNat_of_nonneg h2, Int.add_emod, Int.emod_emod_of_dvd _ (Int.dvd_refl _), ← Int.add_emod]
        rw [Int.add_right_neg, Int.zero_emod]
      have h4 : (((k + (-(k : Int) % (cyc f n s : Int)).toNat) % cyc f n s : Nat) : Int) = 0 := by rw [Int.natCast_emod]; exact h3
      exact Int.ofNat_eq_zero.mp h4
    rw [this]
    rfl
  have h2 := it_back hf hg k (ah_lt hf hs (-(k : Int)))
  rw [h1] at h2
  exact h2.symm
theorem cyc_same (hf : ∀ s, s < n → f s < n) (hi : ∀ s t, s < n → t < n → f s = f t → s = t) {s : Nat} (hs : s < n) (k : Nat) : cyc f n (it f k s) = cyc f n s := by
  refine cyc_eq hf hi (it_lt hf k hs) (cyc_pos f n s) ?_ (fun m h0 h1 e => ?_)
  · rw [← it_add, Nat.add_comm, it_add, cyc_it hf hi hs]
  · rw [← it_add, Nat.add_comm, it_add] at e
    exact cyc_no h0 h1 (it_inj hf hi k (it_lt hf m hs) hs e)
/-- a permutation takes every value -/
theorem prm_onto (hf : ∀ s, s < n → f s < n) (hi : ∀ s t, s < n → t < n → f s = f t → s = t) {t : Nat} (ht : t < n) : ∃ s, s < n ∧ f s = t :=
  fb_onto hf (fun i j h1 h2 e => by have := hi i j (by omega) h2 e; omega) ht
end PRM
/-- a round's going on: each place of the list to that b further -/
def nx (l : List Nat) (b s : Nat) : Nat := if s ∈ l then l.getD ((l.idxOf s + b) % l.length) 0 else s
theorem nx_at {l : List Nat} (hl : l.Nodup) {k b : Nat} (hk : k < l.length) : nx l b (l.getD k 0) = l.getD ((k + b) % l.length) 0 := by
  have e : l.getD k 0 = l[k] := by simp [List.getD, hk]
  unfold nx
  rw [e, if_pos (List.getElem_mem hk), hl.idxOf_getElem k hk]
theorem nx_out {l : List Nat} {b s : Nat} (h : ¬ s ∈ l) : nx l b s = s := if_neg h
theorem nx_lt {l : List Nat} {n : Nat} (hl : ∀ x, x ∈ l → x < n) {b s : Nat} (hs : s < n) : nx l b s < n := by
  unfold nx
  split
  · rename_i h
    have h1 : 0 < l.length := List.length_pos_of_mem h
    have h2 := Nat.mod_lt (l.idxOf s + b) h1
    have e : l.getD ((l.idxOf s + b) % l.length) 0 = l[(l.idxOf s + b) % l.length] := by simp [List.getD, h2]
    rw [e]
    exact hl _ (List.getElem_mem h2)
  · exact hs
theorem nx_inj {l : List Nat} (hl : l.Nodup) {b s t : Nat} (e : nx l b s = nx l b t) : s = t := by
  have at_ : ∀ x, x ∈ l → ∃ k, k < l.length ∧ l.getD k 0 = x := by
    intro x hx
    obtain ⟨k, hk, e⟩ := List.getElem_of_mem hx
    exact ⟨k, hk, by simp [List.getD, hk, e]⟩
  have mem : ∀ x, x ∈ l → nx l b x ∈ l := by
    intro x hx
    obtain ⟨k, hk, rfl⟩ := at_ x hx
    rw [nx_at hl hk]
    have h2 := Nat.mod_lt (k + b) (by omega : 0 < l.length)
    have e : l.getD ((k + b) % l.length) 0 = l[(k + b) % l.length] := by simp [List.getD, h2]
    rw [e]
    exact List.getElem_mem h2
  by_cases hs : s ∈ l
  · by_cases ht : t ∈ l
    · obtain ⟨j, hj, rfl⟩ := at_ s hs
      obtain ⟨k, hk, rfl⟩ := at_ t ht
      rw [nx_at hl hj, nx_at hl hk] at e
      have hj2 := Nat.mod_lt (j + b) (by omega : 0 < l.length)
      have hk2 := Nat.mod_lt (k + b) (by omega : 0 < l.length)
      have e1 : l[(j + b) % l.length] = l[(k + b) % l.length] := by simpa [List.getD, hj2, hk2] using e
      have e2 : (j + b) % l.length = (k + b) % l.length := (List.getElem_inj hl).mp e1
      have e3 : j = k := by
        have a := Nat.sub_mod_eq_zero_of_mod_eq e2
        have c := Nat.sub_mod_eq_zero_of_mod_eq e2.symm
        rw [Nat.mod_eq_of_lt (by omega)] at a c
        omega
      rw [e3]
    · rw [nx_out ht] at e
      exact absurd (e ▸ mem s hs) ht
  · by_cases ht : t ∈ l
    · rw [nx_out hs] at e
      exact absurd (e ▸ mem t ht) hs
    · rwa [nx_out hs, nx_out ht] at e
/-- the rounds one behind the other -/
def tof (ls : Nat → List Nat) (b : Nat → Nat) : Nat → Nat → Nat
  | 0, s => s
  | r + 1, s => nx (ls r) (b r) (tof ls b r s)
theorem tof_lt {ls : Nat → List Nat} {b : Nat → Nat} {n : Nat} : ∀ {m : Nat}, (∀ r, r < m → ∀ x, x ∈ ls r → x < n) → ∀ {s : Nat}, s < n → tof ls b m s < n
  | 0, _, s, hs => hs
  | m + 1, h, s, hs => nx_lt (h m (by omega)) (tof_lt (fun r hr => h r (by omega)) hs)
theorem tof_inj {ls : Nat → List Nat} {b : Nat → Nat} : ∀ {m : Nat}, (∀ r, r < m → (ls r).Nodup) → ∀ {s t : Nat}, tof ls b m s = tof ls b m t → s = t
  | 0, _, s, t, e => e
  | m + 1, h, s, t, e => tof_inj (fun r hr => h r (by omega)) (nx_inj (h m (by omega)) e)
end
section
/-! The outlook: cycles, what hangs where then. -/
theorem n_rep2 {x : Int32} {k : Nat} (h : x.toInt = k) : x = nI k := by
  have h2 := Int32.toInt_lt x
  exact Int32.toInt_inj.mp (by rw [h, nI_toInt (by omega)])
theorem n_xor0 (x : Int32) {c : Nat} (hc : c < 2 ^ 31) : (nI 0 ≤ x ^^^ nI c) ↔ 0 ≤ x.toInt := by
  have h1 : ∀ y : Int32, nI 0 ≤ y ↔ y.toBitVec.msb = false := by
    intro y
    rw [Int32.le_iff_toInt_le, nI_toInt (by decide)]
    show (0 : Int) ≤ y.toBitVec.toInt ↔ _
    rw [BitVec.msb_eq_toInt]
    simp
  have h2 : (nI c).toBitVec.msb = false := (h1 _).mp (nI_le (Nat.zero_le c) hc)
  have h3 : (0 ≤ x.toInt) ↔ x.toBitVec.msb = false := by
    rw [← h1, Int32.le_iff_toInt_le, nI_toInt (by decide)]
    rfl
  rw [h1, h3, Int32.toBitVec_xor, BitVec.msb_xor, h2]
  simp
section OUT
variable {X : (Nat → Int32) × Nat} {d n : Nat} {s : ab_S} {nm f g src : Nat → Nat} {sh : Nat}
theorem c_floorMod {x : Int32} {c : Nat} (h0 : 0 < c) (hc : c < 2 ^ 31) : ab_ev X d 25 [.inl (.int x), .inl (.int (nI c))] s = some (.inl (some (.inl (.int (nI (x.toInt % (c : Int)).toNat)))), s) := by
  have hm := Int.emod_nonneg x.toInt (show (c : Int) ≠ 0 by omega)
  have hm2 := Int.emod_lt_of_pos x.toInt (show (0 : Int) < c by omega)
  have hr : (x % nI c).toInt = x.toInt % c - (if 0 ≤ x.toInt ∨ (c : Int) ∣ x.toInt then 0 else (c : Int)) := by
    rw [Int32.toInt_mod, nI_toInt hc, Int.tmod_eq_emod]
    split <;> simp
  rw [b25, if_neg (show ¬ nI c = nI 0 from nI_ne0 h0 hc), irem_eq_mod]
  by_cases hx : 0 ≤ x.toInt
  · rw [if_pos ((n_xor0 x hc).mpr hx)]
    rw [if_pos (Or.inl hx)] at hr
    rw [n_rep2 (x := x % nI c) (k := (x.toInt % (c : Int)).toNat) (by omega)]
  · rw [if_neg (fun h => hx ((n_xor0 x hc).mp h))]
    by_cases hd : (c : Int) ∣ x.toInt
    · have hz := Int.emod_eq_zero_of_dvd hd
      rw [if_pos (Or.inr hd)] at hr
      rw [n_rep2 (x := x % nI c) (k := 0) (by omega), if_pos rfl, hz]
      rfl
    · have hz : x.toInt % (c : Int) ≠ 0 := fun e => hd (Int.dvd_of_emod_eq_zero e)
      rw [if_neg (by rintro (h | h); exact hx h; exact hd h)] at hr
      have hne : ¬ x % nI c = nI 0 := fun e => by
        rw [e, nI_toInt (by decide)] at hr
        omega
      rw [if_neg hne]
      have e : (x % nI c + nI c).toInt = ((x.toInt % (c : Int)).toNat : Nat) := by
        rw [Int32.toInt_add, hr, nI_toInt hc]
        exact (Int.bmod_eq_of_le (by omega) (by omega)).trans (by omega)
      rw [n_rep2 e]
theorem l27 (h20 : n ≤ 20) (h2 : ∀ k, k < n → sa s 2 k = nI (f k)) (hf : ∀ k, k < n → f k < n) (hi : ∀ a b, a < n → b < n → f a = f b → a = b) {t : Nat} (ht : t < n) : ∀ (j m : Nat), m + j = 20 → 0 < m → (∀ k, 0 < k → k < m → it f k t ≠ t) → ab_at X (d + 1) 27 11 [some (.inr (6, 0)), some (.inl (.int (nI t))), some (.inl (.int (nI (it f m t)))), some (.inl (.int (nI m)))] [] s = some (.inl (some (.inl (.int (nI (cyc f n t))))), s)
  | 0, m, e, h0, h => by
    have c1 := cyc_le hf hi ht
    have c2 := cyc_it hf hi ht
    have c3 := cyc_pos f n t
    have c4 : ¬ cyc f n t < m := fun q => h _ c3 q c2
    have c5 : cyc f n t = m := by omega
    rw [b27_11, if_pos (nI_le (by omega) (by omega)), c5]
  | j + 1, m, e, h0, h => by
    have c0 := it_lt hf m ht
    rw [b27_11, if_neg (nI_ge (by omega) (by omega))]
    by_cases hm : it f m t = t
    · rw [if_pos ((nI_eq (by omega) (by omega)).mpr hm), cyc_eq hf hi ht h0 hm h]
    · rw [if_neg (fun q => hm ((nI_eq (by omega) (by omega)).mp q)), at29 (by omega), h2 _ c0, nI_add]
      refine l27 h20 h2 hf hi ht j (m + 1) (by omega) (by omega) (fun k k0 k1 => ?_)
      by_cases e2 : k = m
      · rw [e2]
        exact hm
      · exact h k k0 (by omega)
theorem c_cycleOf (h20 : n ≤ 20) (h2 : ∀ k, k < n → sa s 2 k = nI (f k)) (hf : ∀ k, k < n → f k < n) (hi : ∀ a b, a < n → b < n → f a = f b → a = b) {t : Nat} (ht : t < n) : ab_ev X (d + 1) 27 [.inr (6, 0), .inl (.int (nI t))] s = some (.inl (some (.inl (.int (nI (cyc f n t))))), s) := by
  rw [b27, at29 (by omega), h2 _ ht]
  exact l27 h20 h2 hf hi ht 19 1 (by omega) (by omega) (fun k k0 k1 => by omega)
theorem l108 (h20 : n ≤ 20) (h2 : ∀ k, k < n → sa s 2 k = nI (f k)) (hf : ∀ k, k < n → f k < n) {t : Nat} (ht : t < n) {x c : Int32} {m : Nat} (hm : m < 20) : ∀ (j k : Nat), k + j = m → ab_at X (d + 1) 108 27 [some (.inr (6, 0)), some (.inl (.int (nI t))), some (.inl (.int x)), some (.inl (.int c)), some (.inl (.int (nI m))), some (.inl (.int (nI (it f k t)))), some (.inl (.int (nI k)))] [] s = some (.inl (some (.inl (.int (nI (it f m t))))), s)
  | 0, k, e => by
    obtain rfl : k = m := by omega
    rw [b108_27, if_pos (nI_le (Nat.le_refl _) (by omega))]
  | j + 1, k, e => by
    have c0 := it_lt hf k ht
    rw [b108_27, if_neg (nI_ge (by omega) (by omega)), at29 (by omega), h2 _ c0, nI_add]
    exact l108 h20 h2 hf ht hm j (k + 1) (by omega)
theorem c_ahead (h20 : n ≤ 20) (h2 : ∀ k, k < n → sa s 2 k = nI (f k)) (hf : ∀ k, k < n → f k < n) (hi : ∀ a b, a < n → b < n → f a = f b → a = b) {t : Nat} (ht : t < n) {x : Int32} : ab_ev X (d + 2) 108 [.inr (6, 0), .inl (.int (nI t)), .inl (.int x)] s = some (.inl (some (.inl (.int (nI (ah f n t x.toInt))))), s) := by
  have c1 := cyc_le hf hi ht
  have c3 := cyc_pos f n t
  have hm := Int.emod_nonneg x.toInt (show ((cyc f n t : Nat) : Int) ≠ 0 by omega)
  have hm2 := Int.emod_lt_of_pos x.toInt (show (0 : Int) < (cyc f n t : Nat) by omega)
  rw [b108, c_cycleOf h20 h2 hf hi ht]
  show (if _ then _ else _) = _
  rw [if_neg (nI_ge c3 (by omega)), c_floorMod c3 (by omega)]
  exact l108 h20 h2 hf ht (m := (x.toInt % (cyc f n t : Int)).toNat) (by omega) (x.toInt % (cyc f n t : Int)).toNat 0 (by omega)
theorem l115 (h8 : sz s 8 = nI n) (h20 : n ≤ 20) (h2 : ∀ k, k < n → sa s 2 k = nI (f k)) (hf : ∀ k, k < n → f k < n) (hi : ∀ a b, a < n → b < n → f a = f b → a = b) {x : Int32} : ∀ (j k : Nat) (F : Nat → Int32), k + j = n → (∀ q, q < k → F q = nI (ah f n q (-x).toInt)) → ∃ G : Nat → Int32, ab_at X (d + 3) 115 2 [some (.inr (6, 0)), some (.inl (.int x)), some (.inl (.int (nI k)))] [] (pa s 4 F) = some (.inl none, pa s 4 G) ∧ ∀ q, q < n → G q = nI (ah f n q (-x).toInt)
  | 0, k, F, e, h => by
    obtain rfl : k = n := by omega
    refine ⟨F, ?_, h⟩
    rw [b115_2]
    simp (disch := omega) only [E0]
    rw [h8, if_pos (nI_le (Nat.le_refl _) (by omega))]
  | j + 1, k, F, e, h => by
    have hk : k < n := by omega
    have h2' : ∀ k, k < n → sa (pa s 4 F) 2 k = nI (f k) := h2
    obtain ⟨G, h3, h4⟩ := l115 h8 h20 h2 hf hi (x := x) j (k + 1) (va_up F k (nI (ah f n k (-x).toInt))) (by omega) (fun q hq => by
      by_cases e2 : q = k
      · rw [e2, va_up_self]
      · rw [va_up_ne _ _ e2]
        exact h q (by omega))
    refine ⟨G, ?_, h4⟩
    rw [← h3, b115_2, c_ahead h20 h2' hf hi hk]
    show (if sz s 8 ≤ nI k then _ else ab_bU _ _ _) = _
    rw [h8, if_neg (nI_ge hk (by omega)), put31 (by omega), nI_add]
    simp (disch := omega) only [E0, E1, e_bU]
theorem c_leap (h8 : sz s 8 = nI n) (h20 : n ≤ 20) (h2 : ∀ k, k < n → sa s 2 k = nI (f k)) (hf : ∀ k, k < n → f k < n) (hi : ∀ a b, a < n → b < n → f a = f b → a = b) {x : Int32} : ∃ G : Nat → Int32, ab_ev X (d + 3) 115 [.inr (6, 0), .inl (.int x)] s = some (.inl none, pa s 4 G) ∧ ∀ q, q < n → G q = nI (ah f n q (-x).toInt) := by
  obtain ⟨G, h3, h4⟩ := l115 (X := X) (d := d) h8 h20 h2 hf hi (x := x) n 0 (sa s 4) (by omega) (fun q hq => by omega)
  rw [pa_id] at h3
  exact ⟨G, by rw [b115]; exact h3, h4⟩
theorem l30 (h8 : sz s 8 = nI n) (h20 : n ≤ 20) (h3 : ∀ k, k < n → sa s 3 k = nI (g k)) (h4 : ∀ k, k < n → src k < n) : ∀ (j k : Nat) (F : Nat → Int32), k + j = n → (∀ q, q < k → F q = nI (g (src q))) → (∀ q, k ≤ q → q < n → F q = nI (src q)) → ∃ G : Nat → Int32, ab_at X (d + 1) 30 2 [some (.inr (6, 0)), some (.inl (.int (nI k)))] [] (pa s 4 F) = some (.inl none, pa s 4 G) ∧ ∀ q, q < n → G q = nI (g (src q))
  | 0, k, F, e, h, _ => by
    obtain rfl : k = n := by omega
    refine ⟨F, ?_, h⟩
    rw [b30_2]
    simp (disch := omega) only [E0]
    rw [h8, if_pos (nI_le (Nat.le_refl _) (by omega))]
  | j + 1, k, F, e, h, h' => by
    have hk : k < n := by omega
    have hs := h4 k hk
    obtain ⟨G, h5, h6⟩ := l30 h8 h20 h3 h4 j (k + 1) (va_up F k (nI (g (src k)))) (by omega) (fun q hq => by
      by_cases e2 : q = k
      · rw [e2, va_up_self]
      · rw [va_up_ne _ _ e2]
        exact h q (by omega)) (fun q h1 h2 => by
        rw [va_up_ne _ _ (by omega)]
        exact h' q (by omega) h2)
    refine ⟨G, ?_, h6⟩
    rw [← h5, b30_2, at31 (by omega)]
    simp (disch := omega) only [E0, e_bI, h8, nI_leI, if_neg, h' k (Nat.le_refl _) hk, at30, h3 _ hs, put31, e_bU, E1, nI_add]
theorem c_step (h8 : sz s 8 = nI n) (h20 : n ≤ 20) (h3 : ∀ k, k < n → sa s 3 k = nI (g k)) (h4 : ∀ k, k < n → sa s 4 k = nI (src k)) (h5 : ∀ k, k < n → src k < n) : ∃ G : Nat → Int32, ab_ev X (d + 1) 30 [.inr (6, 0)] s = some (.inl none, pa s 4 G) ∧ ∀ q, q < n → G q = nI (g (src q)) := by
  obtain ⟨G, h6, h7⟩ := l30 (X := X) (d := d) h8 h20 h3 h5 n 0 (sa s 4) (by omega) (fun q hq => by omega) (fun q _ hq => h4 q hq)
  rw [pa_id] at h6
  exact ⟨G, by rw [b30]; exact h6, h7⟩
theorem c_nameThen (h20 : n ≤ 20) (h1 : ∀ k, k < n → sa s 1 k = nI (nm k)) (h4 : ∀ k, k < n → sa s 4 k = nI (src k)) (h5 : ∀ k, k < n → src k < n) {k : Nat} (hk : k < n) : ab_ev X (d + 1) 32 [.inr (6, 0), .inl (.int (nI k))] s = some (.inl (some (.inl (.int (nI (nm (src k)))))), s) := by
  have := h5 k hk
  rw [b32, at31 (by omega), h4 k hk, e_bI, at28 (by omega), h1 _ this]
  rfl
theorem l196 (h8 : sz s 8 = nI n) (h20 : n ≤ 20) (h1 : ∀ k, k < n → sa s 1 k = nI (nm k)) (hn : ∀ k, k < n → nm k < n) (h4 : ∀ k, k < n → sa s 4 k = nI (src k)) (h5 : ∀ k, k < n → src k < n) {v : Nat} (hv : v < 2 ^ 31) : ∀ (j k : Nat), k + j = n → ab_at X (d + 2) 196 4 [some (.inr (6, 0)), some (.inl (.int (nI v))), some (.inl (.int (nI (bs (fun q => nm (src q) == v) k)))), some (.inl (.int (nI k)))] [] s = some (.inl (some (.inl (.int (nI (bs (fun q => nm (src q) == v) n))))), s)
  | 0, k, e => by
    obtain rfl : k = n := by omega
    rw [b196_4, h8, if_pos (nI_le (Nat.le_refl _) (by omega))]
  | j + 1, k, e => by
    have hk : k < n := by omega
    have a1 := h5 k hk
    have a2 := hn _ a1
    rw [b196_4, h8, if_neg (nI_ge hk (by omega)), c_nameThen h20 h1 h4 h5 hk]
    show (if _ = _ then _ else _) = _
    by_cases h : nm (src k) = v
    · have e2 : bs (fun q => nm (src q) == v) (k + 1) = bs (fun q => nm (src q) == v) k ||| 2 ^ k := by rw [bs, if_pos (by simpa using h)]
      rw [if_pos (by rw [h]), n_sh _ (by omega), n_or, nI_add, ← e2]
      exact l196 h8 h20 h1 hn h4 h5 hv j (k + 1) (by omega)
    · have e2 : bs (fun q => nm (src q) == v) (k + 1) = bs (fun q => nm (src q) == v) k := by rw [bs, if_neg (by simpa using h)]
      rw [if_neg (fun q => h ((nI_eq (by omega) hv).mp q)), nI_add, ← e2]
      exact l196 h8 h20 h1 hn h4 h5 hv j (k + 1) (by omega)
theorem c_streetsThen (h8 : sz s 8 = nI n) (h20 : n ≤ 20) (h1 : ∀ k, k < n → sa s 1 k = nI (nm k)) (hn : ∀ k, k < n → nm k < n) (h4 : ∀ k, k < n → sa s 4 k = nI (src k)) (h5 : ∀ k, k < n → src k < n) {v : Nat} (hv : v < 2 ^ 31) : ab_ev X (d + 2) 196 [.inr (6, 0), .inl (.int (nI v))] s = some (.inl (some (.inl (.int (nI (bs (fun q => nm (src q) == v) n))))), s) := by
  rw [b196]
  exact l196 h8 h20 h1 hn h4 h5 hv n 0 (by omega)
theorem l31 (h8 : sz s 8 = nI n) (h20 : n ≤ 20) (h1 : ∀ k, k < n → sa s 1 k = nI (nm k)) (hn : ∀ k, k < n → nm k < n) (h4 : ∀ k, k < n → sa s 4 k = nI (src k)) (h5 : ∀ k, k < n → src k < n) : ∀ (j k : Nat), k + j = n → ab_at X (d + 2) 31 4 [some (.inr (6, 0)), some (.inl (.int (nI (fb_ct (fun q => nm (src q) == nm q) k)))), some (.inl (.int (nI k)))] [] s = some (.inl (some (.inl (.int (nI (fb_ct (fun q => nm (src q) == nm q) n))))), s)
  | 0, k, e => by
    obtain rfl : k = n := by omega
    rw [b31_4, h8, if_pos (nI_le (Nat.le_refl _) (by omega))]
  | j + 1, k, e => by
    have hk : k < n := by omega
    have a1 := h5 k hk
    have a2 := hn _ a1
    have a3 := hn _ hk
    rw [b31_4, h8, if_neg (nI_ge hk (by omega)), c_nameThen h20 h1 h4 h5 hk, e_bI, at28 (by omega), h1 k hk]
    show (if _ = _ then _ else _) = _
    have ih := l31 h8 h20 h1 hn h4 h5 j (k + 1) (by omega)
    rw [fb_ct_succ] at ih
    by_cases h : nm (src k) = nm k
    · rw [if_pos (by rw [h]), nI_add, nI_add]
      rw [if_pos (by simpa using h)] at ih
      exact ih
    · rw [if_neg (fun q => h ((nI_eq (by omega) (by omega)).mp q)), nI_add]
      rw [if_neg (by simpa using h)] at ih
      exact ih
theorem c_rightStreets (h8 : sz s 8 = nI n) (h20 : n ≤ 20) (h1 : ∀ k, k < n → sa s 1 k = nI (nm k)) (hn : ∀ k, k < n → nm k < n) (h4 : ∀ k, k < n → sa s 4 k = nI (src k)) (h5 : ∀ k, k < n → src k < n) : ab_ev X (d + 2) 31 [.inr (6, 0)] s = some (.inl (some (.inl (.int (nI (fb_ct (fun q => nm (src q) == nm q) n))))), s) := by
  rw [b31]
  exact l31 h8 h20 h1 hn h4 h5 n 0 (by omega)
end OUT
end
section
/-! The outlook looks. -/
/-- the streets of a round that aren't blind, of its first k -/
def lk (st : Nat → Nat) (bm : Nat) (k : Nat) : List Nat := ((List.range k).map st).filter (fun x => !bm.testBit x)
theorem lk_succ (st : Nat → Nat) (bm k : Nat) : lk st bm (k + 1) = lk st bm k ++ (if bm.testBit (st k) then [] else [st k]) := by
  unfold lk
  rw [List.range_succ, List.map_append, List.filter_append]
  congr 1
  cases h : bm.testBit (st k) <;> simp [h]
theorem lk_len (st : Nat → Nat) (bm k : Nat) : (lk st bm k).length ≤ k := by
  have h := List.length_filter_le (fun x => !bm.testBit x) ((List.range k).map st)
  rw [List.length_map, List.length_range] at h
  exact h
theorem lk_mem {st : Nat → Nat} {bm k x : Nat} (h : x ∈ lk st bm k) : ∃ j, j < k ∧ st j = x := by
  have h1 := (List.mem_filter.mp h).1
  rw [List.mem_map] at h1
  obtain ⟨j, hj, e⟩ := h1
  exact ⟨j, List.mem_range.mp hj, e⟩
theorem lk_lt {st : Nat → Nat} {bm k n : Nat} (h : ∀ j, j < k → st j < n) {x : Nat} (hx : x ∈ lk st bm k) : x < n := by
  obtain ⟨j, hj, rfl⟩ := lk_mem hx
  exact h j hj
theorem lk_nodup {st : Nat → Nat} {bm : Nat} : ∀ {k : Nat}, (∀ a b, a < k → b < k → st a = st b → a = b) → (lk st bm k).Nodup
  | 0, _ => List.nodup_nil
  | k + 1, h => by
    rw [lk_succ]
    have ih := lk_nodup (bm := bm) (k := k) (fun a b ha hb => h a b (by omega) (by omega))
    split
    · simpa using ih
    · rw [List.nodup_append]
      refine ⟨ih, by simp, fun a ha b hb e => ?_⟩
      obtain ⟨j, hj, rfl⟩ := lk_mem ha
      rw [List.mem_singleton] at hb
      have := h j k (by omega) (by omega) (e.trans hb)
      omega
theorem getD_lt {l : List Nat} {k : Nat} (hk : k < l.length) : l.getD k 0 ∈ l := by
  have e : l.getD k 0 = l[k] := by simp [List.getD, hk]
  rw [e]
  exact List.getElem_mem hk
theorem getD_app {l : List Nat} {k x : Nat} (hk : k < l.length) : (l ++ [x]).getD k 0 = l.getD k 0 := by
  simp [List.getD, List.getElem?_append_left hk]
theorem getD_app2 {l : List Nat} {x : Nat} : (l ++ [x]).getD l.length 0 = x := by
  simp [List.getD]
section LOK
variable {X : (Nat → Int32) × Nat} {d i n : Nat} {s : ab_S} {st : Nat → Nat} {bm z r : Nat}
theorem c_isBlind {x : Nat} (hb : si s 6 i = nI bm) (h31 : bm < 2 ^ 31) (hx : x < 32) : ab_ev X d 23 [.inr (2, i), .inl (.int (nI x))] s = some (.inl (some (.inl (.int (if bm.testBit x then nI 1 else nI 0)))), s) := by
  rw [b23, hb, n_shr1 h31 hx]
  cases bm.testBit x
  · rfl
  · rfl
theorem l20a (hr : r < 4) (hz : sA s 4 i r = nI z) (h20 : z ≤ 20) (hst : ∀ k, k < z → sA s 3 i (20 * r + k) = nI (st k)) (hlt : ∀ k, k < z → st k < n) (hn : n ≤ 20) (hb : si s 6 i = nI bm) (h31 : bm < 2 ^ 31) : ∀ (j k : Nat) (O : Nat → Int32) (u : Option ab_V), k + j = z → (∀ q, q < (lk st bm k).length → O q = nI ((lk st bm k).getD q 0)) → ∃ (O' : Nat → Int32) (u' : Option ab_V), ab_at X (d + 2) 20 15 [some (.inr (6, 0)), some (.inr (2, i)), some (.inl (.int (nI r))), some (.inl (.int (nI (lk st bm k).length))), some (.inl (.int (nI z))), some (.inl (.int (nI k))), u] [] (pa s 5 O) = ab_at X (d + 2) 20 65 [some (.inr (6, 0)), some (.inr (2, i)), some (.inl (.int (nI r))), some (.inl (.int (nI (lk st bm z).length))), some (.inl (.int (nI z))), some (.inl (.int (nI 0))), u'] [] (pa s 5 O') ∧ ∀ q, q < (lk st bm z).length → O' q = nI ((lk st bm z).getD q 0)
  | 0, k, O, u, e, h => by
    obtain rfl : k = z := by omega
    exact ⟨O, u, by rw [b20_15, if_pos (nI_le (Nat.le_refl _) (by omega))], h⟩
  | j + 1, k, O, u, e, h => by
    have hk : k < z := by omega
    have hl := hlt k hk
    have hlen := lk_len st bm k
    have e1 : ab_ev X (d + 1) 22 [.inr (3, i), .inl (.int (nI r)), .inl (.int (nI k))] (pa s 5 O) = some (.inl (some (.inl (.int (nI (st k))))), pa s 5 O) := by
      rw [c_streetAt (s := pa s 5 O) hr (by omega) hz h20, if_pos hk, ← hst k hk]
      rfl
    have e2 : ab_ev X (d + 1) 23 [.inr (2, i), .inl (.int (nI (st k)))] (pa s 5 O) = _ := c_isBlind (s := pa s 5 O) hb h31 (by omega)
    have e3 := lk_succ st bm k
    cases hbit : bm.testBit (st k) with
    | true =>
      rw [hbit, if_pos rfl, List.append_nil] at e3
      obtain ⟨O', u', g1, g2⟩ := l20a hr hz h20 hst hlt hn hb h31 j (k + 1) O (some (.inl (.int (nI (st k))))) (by omega) (by rw [e3]; exact h)
      refine ⟨O', u', ?_, g2⟩
      rw [← g1, b20_15, if_neg (nI_ge hk (by omega)), e1, e_bI, e2, e_bI, hbit, if_pos rfl, if_neg (by decide), nI_add, e3]
    | false =>
      rw [hbit, if_neg (by decide)] at e3
      have e4 : (lk st bm (k + 1)).length = (lk st bm k).length + 1 := by rw [e3, List.length_append]; rfl
      obtain ⟨O', u', g1, g2⟩ := l20a hr hz h20 hst hlt hn hb h31 j (k + 1) (va_up O (lk st bm k).length (nI (st k))) (some (.inl (.int (nI (st k))))) (by omega) (fun q hq => by
        rw [e3]
        by_cases h5 : q = (lk st bm k).length
        · rw [h5, va_up_self, getD_app2]
        · rw [va_up_ne _ _ h5, getD_app (by omega)]
          exact h q (by omega))
      refine ⟨O', u', ?_, g2⟩
      rw [← g1, b20_15, if_neg (nI_ge hk (by omega)), e1, e_bI, e2, e_bI, hbit, if_pos (by decide), put32 (by omega), e_bU, nI_add, nI_add, e4]
      simp (disch := omega) only [E0, E1]
theorem l20b {byv : Int32} {L : List Nat} {O : Nat → Int32} (hr : r < 4) (h8 : sz s 8 = nI n) (hn : n ≤ 20) (hby : sA s 5 i r = byv) : ∀ (j k : Nat) (N : Nat → Int32) (u : Option ab_V), k + j = n → (∀ q, q < k → N q = nI q) → ∃ N' : Nat → Int32, ab_at X (d + 2) 20 65 [some (.inr (6, 0)), some (.inr (2, i)), some (.inl (.int (nI r))), some (.inl (.int (nI L.length))), some (.inl (.int (nI z))), some (.inl (.int (nI k))), u] [] (pa (pa s 5 O) 6 N) = ab_at X (d + 2) 20 104 [some (.inr (6, 0)), some (.inr (2, i)), some (.inl (.int (nI r))), some (.inl (.int (nI L.length))), some (.inl (.int (nI z))), some (.inl (.int byv)), some (.inl (.int (nI 0)))] [] (pa (pa s 5 O) 6 N') ∧ ∀ q, q < n → N' q = nI q
  | 0, k, N, u, e, h => by
    obtain rfl : k = n := by omega
    refine ⟨N, ?_, h⟩
    rw [b20_65]
    simp (disch := omega) only [E0]
    rw [h8, if_pos (nI_le (Nat.le_refl _) (by omega)), c_byOf hr, e_bI]
    simp (disch := omega) only [E0, hby]
  | j + 1, k, N, u, e, h => by
    have hk : k < n := by omega
    obtain ⟨N', g1, g2⟩ := l20b hr h8 hn hby (L := L) (O := O) j (k + 1) (va_up N k (nI k)) u (by omega) (fun q hq => by
      by_cases h5 : q = k
      · rw [h5, va_up_self]
      · rw [va_up_ne _ _ h5]
        exact h q (by omega))
    refine ⟨N', ?_, g2⟩
    rw [← g1, b20_65]
    simp (disch := omega) only [E0]
    rw [h8, if_neg (nI_ge hk (by omega)), put33 (by omega), e_bU, nI_add]
    simp (disch := omega) only [E0, E1]
theorem n_fm {k L : Nat} {x : Int32} (hk : k < 100) (hL : 0 < L) (h1 : -100 ≤ x.toInt) (h2 : x.toInt ≤ 100) : ((nI k + x).toInt % (L : Int)).toNat = (k + (x.toInt % (L : Int)).toNat) % L := by
  have e : (nI k + x).toInt = k + x.toInt := by
    rw [Int32.toInt_add, nI_toInt (by omega)]
    exact Int.bmod_eq_of_le (by omega) (by omega)
  have hm := Int.emod_nonneg x.toInt (show (L : Int) ≠ 0 by omega)
  have hm3 := Int.emod_nonneg (k + x.toInt) (show (L : Int) ≠ 0 by omega)
  have e2 : (((k + (x.toInt % (L : Int)).toNat) % L : Nat) : Int) = (k + x.toInt) % (L : Int) := by
    rw [Int.natCast_emod, Int.natCast_add, Int.toNat_of_nonneg hm, Int.add_emod, Int.emod_emod_of_dvd _ (Int.dvd_refl _), ← Int.add_emod]
  rw [e]
  omega
theorem l20c {byv : Int32} {L : List Nat} {O : Nat → Int32} (hL : L.length ≤ 20) (hLn : ∀ x, x ∈ L → x < n) (hn : n ≤ 20) (hnd : L.Nodup) (hO : ∀ q, q < L.length → O q = nI (L.getD q 0)) (h1 : -100 ≤ byv.toInt) (h2 : byv.toInt ≤ 100) : ∀ (j k : Nat) (N : Nat → Int32), k + j = L.length → (∀ q, q < n → N q = nI (if q ∈ L ∧ L.idxOf q < k then nx L (byv.toInt % (L.length : Int)).toNat q else q)) → ∃ N' : Nat → Int32, ab_at X (d + 2) 20 104 [some (.inr (6, 0)), some (.inr (2, i)), some (.inl (.int (nI r))), some (.inl (.int (nI L.length))), some (.inl (.int (nI z))), some (.inl (.int byv)), some (.inl (.int (nI k)))] [] (pa (pa s 5 O) 6 N) = ab_at X (d + 2) 20 151 [some (.inr (6, 0)), some (.inr (2, i)), some (.inl (.int (nI r))), some (.inl (.int (nI L.length))), some (.inl (.int (nI z))), some (.inl (.int byv)), some (.inl (.int (nI 0)))] [] (pa (pa s 5 O) 6 N') ∧ ∀ q, q < n → N' q = nI (nx L (byv.toInt % (L.length : Int)).toNat q)
  | 0, k, N, e, h => by
    obtain rfl : k = L.length := by omega
    refine ⟨N, by rw [b20_104, if_pos (nI_le (Nat.le_refl _) (by omega))], fun q hq => ?_⟩
    rw [h q hq]
    by_cases hm : q ∈ L
    · rw [if_pos ⟨hm, List.idxOf_lt_length_of_mem hm⟩]
    · rw [if_neg (fun z => hm z.1), nx_out hm]
  | j + 1, k, N, e, h => by
    have hk : k < L.length := by omega
    have hx := hLn _ (getD_lt hk)
    have hm := Nat.mod_lt (k + (byv.toInt % (L.length : Int)).toNat) (show 0 < L.length by omega)
    have hy := hLn _ (getD_lt hm)
    have eg : L.getD k 0 = L[k] := by simp [List.getD, hk]
    have ei : L.idxOf (L.getD k 0) = k := by rw [eg]; exact hnd.idxOf_getElem k hk
    obtain ⟨N', g1, g2⟩ := l20c hL hLn hn hnd hO h1 h2 j (k + 1) (va_up N (L.getD k 0) (nI (L.getD ((k + (byv.toInt % (L.length : Int)).toNat) % L.length) 0))) (by omega) (fun q hq => by
      by_cases h5 : q = L.getD k 0
      · rw [h5, va_up_self, if_pos ⟨getD_lt hk, by omega⟩, nx_at hnd hk]
      · rw [va_up_ne _ _ h5, h q hq]
        congr 1
        by_cases h6 : q ∈ L ∧ L.idxOf q < k
        · rw [if_pos h6, if_pos ⟨h6.1, by omega⟩]
        · rw [if_neg h6, if_neg]
          rintro ⟨h7, h8⟩
          have h9 : L.idxOf q = k := by
            by_cases h10 : L.idxOf q < k
            · exact absurd ⟨h7, h10⟩ h6
            · omega
          apply h5
          have h11 := List.getElem_idxOf (List.idxOf_lt_length_of_mem h7)
          rw [eg]
          simp only [h9] at h11
          exact h11.symm)
    refine ⟨N', ?_, g2⟩
    rw [← g1, b20_104, if_neg (nI_ge hk (by omega)), at32 (by omega)]
    simp (disch := omega) only [E0, e_bI]
    rw [hO k hk, c_floorMod (by omega) (by omega), e_bI, n_fm (by omega) (by omega) h1 h2, at32 (by omega)]
    simp (disch := omega) only [E0, e_bI]
    rw [hO _ hm, put33 (by omega), e_bU, nI_add]
    simp (disch := omega) only [E0, E1]
theorem l20d {byv x3 x4 : Int32} {O N : Nat → Int32} {f t : Nat → Nat} (h8 : sz s 8 = nI n) (hn : n ≤ 20) (hN : ∀ q, q < n → N q = nI (f q)) (ht : ∀ q, q < n → t q < n) : ∀ (j k : Nat) (T : Nat → Int32), k + j = n → (∀ q, q < k → T q = nI (f (t q))) → (∀ q, k ≤ q → q < n → T q = nI (t q)) → ∃ T' : Nat → Int32, ab_at X (d + 2) 20 151 [some (.inr (6, 0)), some (.inr (2, i)), some (.inl (.int (nI r))), some (.inl (.int x3)), some (.inl (.int x4)), some (.inl (.int byv)), some (.inl (.int (nI k)))] [] (pa (pa (pa s 5 O) 6 N) 2 T) = some (.inl none, pa (pa (pa s 5 O) 6 N) 2 T') ∧ ∀ q, q < n → T' q = nI (f (t q))
  | 0, k, T, e, h, _ => by
    obtain rfl : k = n := by omega
    refine ⟨T, ?_, h⟩
    rw [b20_151]
    simp (disch := omega) only [E0]
    rw [h8, if_pos (nI_le (Nat.le_refl _) (by omega))]
  | j + 1, k, T, e, h, h' => by
    have hk : k < n := by omega
    have hs := ht k hk
    obtain ⟨T', g1, g2⟩ := l20d h8 hn hN ht (byv := byv) (x3 := x3) (x4 := x4) (O := O) j (k + 1) (va_up T k (nI (f (t k)))) (by omega) (fun q hq => by
      by_cases e2 : q = k
      · rw [e2, va_up_self]
      · rw [va_up_ne _ _ e2]
        exact h q (by omega)) (fun q h1 h2 => by
        rw [va_up_ne _ _ (by omega)]
        exact h' q (by omega) h2)
    refine ⟨T', ?_, g2⟩
    rw [← g1, b20_151]
    simp (disch := omega) only [E0, e_bI, h8, nI_leI, if_neg, at29, h' k (Nat.le_refl _) hk, at33, hN _ hs, put29, e_bU, E1, nI_add]
/-- one round is gone -/
theorem c_goRound {byv : Int32} {t : Nat → Nat} (hr : r < 4) (hz : sA s 4 i r = nI z) (h20 : z ≤ 20) (hst : ∀ k, k < z → sA s 3 i (20 * r + k) = nI (st k)) (hlt : ∀ k, k < z → st k < n) (hsi : ∀ a b, a < z → b < z → st a = st b → a = b) (hn : n ≤ 20) (hb : si s 6 i = nI bm) (h31 : bm < 2 ^ 31) (h8 : sz s 8 = nI n) (hby : sA s 5 i r = byv) (h1 : -100 ≤ byv.toInt) (h2 : byv.toInt ≤ 100) (hT : ∀ q, q < n → sa s 2 q = nI (t q)) (ht : ∀ q, q < n → t q < n) : ∃ O N T : Nat → Int32, ab_ev X (d + 2) 20 [.inr (6, 0), .inr (2, i), .inl (.int (nI r))] s = some (.inl none, pa (pa (pa s 5 O) 6 N) 2 T) ∧ ∀ q, q < n → T q = nI (nx (lk st bm z) (byv.toInt % ((lk st bm z).length : Int)).toNat (t q)) := by
  have hlen := lk_len st bm z
  obtain ⟨O, u, a1, a2⟩ := l20a (X := X) (d := d) hr hz h20 hst hlt hn hb h31 z 0 (sa s 5) none (by omega) (fun q hq => by simp [lk] at hq)
  obtain ⟨N, b1, b2⟩ := l20b (X := X) (d := d) (z := z) (L := lk st bm z) (O := O) hr h8 hn hby n 0 (sa s 6) u (by omega) (fun q hq => by omega)
  obtain ⟨N2, c1, c2⟩ := l20c (X := X) (d := d) (r := r) (i := i) (z := z) (s := s) (byv := byv) (L := lk st bm z) (O := O) (n := n) (by omega) (fun x hx => lk_lt hlt hx) hn (lk_nodup hsi) a2 h1 h2 (lk st bm z).length 0 N (by omega) (fun q hq => by
    rw [if_neg (fun z => by omega)]
    exact b2 q hq)
  obtain ⟨T, d1, d2⟩ := l20d (X := X) (d := d) (r := r) (i := i) (byv := byv) (x3 := nI (lk st bm z).length) (x4 := nI z) (O := O) (N := N2) (t := t) h8 hn c2 ht n 0 (sa s 2) (by omega) (fun q hq => by omega) (fun q _ hq => hT q hq)
  refine ⟨O, N2, T, ?_, d2⟩
  rw [b20, c_sizeOf hr, hz, e_bI]
  have e0 : pa s 5 (sa s 5) = s := pa_id _ _
  have e1 : pa (pa s 5 O) 6 (sa s 6) = pa s 5 O := pa_id (pa s 5 O) 6
  have e2 : pa (pa (pa s 5 O) 6 N2) 2 (sa s 2) = pa (pa s 5 O) 6 N2 := pa_id (pa (pa s 5 O) 6 N2) 2
  rw [e0] at a1
  rw [e1] at b1
  rw [e2] at d1
  have a1' : ab_at X (d + 2) 20 15 [some (.inr (6, 0)), some (.inr (2, i)), some (.inl (.int (nI r))), some (.inl (.int (nI 0))), some (.inl (.int (nI z))), some (.inl (.int (nI 0))), none] [] s = _ := a1
  rw [a1', b1, c1, d1]
end LOK
end
section
/-! What the class' outlook holds when it has looked. -/
/-- but for the outlook two stores are one -/
def sO (s s' : ab_S) : Prop := (∀ k, k ≠ 8 → k ≠ 9 → sz s' k = sz s k) ∧ sy s' = sy s ∧ st s' = st s ∧ si s' = si s ∧ (∀ k, k = 0 ∨ 6 < k → sa s' k = sa s k) ∧ sA s' = sA s ∧ sb s' = sb s ∧ sB s' = sB s ∧ sq s' = sq s ∧ sn s' = sn s
theorem sO_refl (s : ab_S) : sO s s := ⟨fun _ _ _ => rfl, rfl, rfl, rfl, fun _ _ => rfl, rfl, rfl, rfl, rfl, rfl⟩
theorem sO_trans {s t u : ab_S} (h : sO s t) (h' : sO t u) : sO s u := by
  obtain ⟨a1, a2, a3, a4, a5, a6, a7, a8, a9, a10⟩ := h
  obtain ⟨b1, b2, b3, b4, b5, b6, b7, b8, b9, b10⟩ := h'
  exact ⟨fun k h1 h2 => (b1 k h1 h2).trans (a1 k h1 h2), b2.trans a2, b3.trans a3, b4.trans a4, fun k hk => (b5 k hk).trans (a5 k hk), b6.trans a6, b7.trans a7, b8.trans a8, b9.trans a9, b10.trans a10⟩
theorem sO_pa {s : ab_S} {k : Nat} {F : Nat → Int32} (h1 : 1 ≤ k) (h6 : k ≤ 6) : sO s (pa s k F) := ⟨fun _ _ _ => rfl, rfl, rfl, rfl, fun j hj => va_up_ne _ _ (by omega), rfl, rfl, rfl, rfl, rfl⟩
theorem sO_pz {s : ab_S} {k : Nat} {v : Int32} (h : k = 8 ∨ k = 9) : sO s (pz s k v) := ⟨fun j h1 h2 => va_up_ne _ _ (by omega), rfl, rfl, rfl, fun _ _ => rfl, rfl, rfl, rfl, rfl, rfl⟩
/-- a town of the class: its streets, names, rounds -/
def TW (s : ab_S) (i n : Nat) (nm : Nat → Nat) (nr : Nat) (z : Nat → Nat) (st : Nat → Nat → Nat) (bm : Nat) (by' : Nat → Int32) : Prop :=
  si s 1 i = nI n ∧ n ≤ 20 ∧ (∀ k, k < n → sA s 0 i k = nI (nm k)) ∧ (∀ k, k < n → nm k < n) ∧ si s 7 i = nI nr ∧ nr ≤ 4 ∧ (∀ r, r < nr → sA s 4 i r = nI (z r)) ∧ (∀ r, r < nr → z r ≤ 20) ∧ (∀ r, r < nr → ∀ k, k < z r → sA s 3 i (20 * r + k) = nI (st r k)) ∧ (∀ r, r < nr → ∀ k, k < z r → st r k < n) ∧ (∀ r, r < nr → ∀ a b, a < z r → b < z r → st r a = st r b → a = b) ∧ si s 6 i = nI bm ∧ bm < 2 ^ 20 ∧ (∀ r, r < nr → sA s 5 i r = by' r) ∧ (∀ r, r < nr → -100 ≤ (by' r).toInt ∧ (by' r).toInt ≤ 100)
theorem TW.same {s s' : ab_S} {i n : Nat} {nm : Nat → Nat} {nr : Nat} {z : Nat → Nat} {st : Nat → Nat → Nat} {bm : Nat} {by' : Nat → Int32} (h : TW s i n nm nr z st bm by') (h1 : si s' = si s) (h2 : sA s' = sA s) : TW s' i n nm nr z st bm by' := by
  unfold TW at h ⊢
  rw [h1, h2]
  exact h
/-- where a sign goes by a move -/
def to_ (nr : Nat) (z : Nat → Nat) (st : Nat → Nat → Nat) (bm : Nat) (by' : Nat → Int32) : Nat → Nat := tof (fun r => lk (st r) bm (z r)) (fun r => ((by' r).toInt % ((lk (st r) bm (z r)).length : Int)).toNat) nr
/-- from where a sign comes -/
def inv (f : Nat → Nat) (n t : Nat) : Nat := fst (fun q => f q == t) n
theorem inv_f {f : Nat → Nat} {n : Nat} (hi : ∀ a b, a < n → b < n → f a = f b → a = b) {q : Nat} (hq : q < n) : inv f n (f q) = q := by
  refine fst_eq hq (by simp) (fun j hj => ?_)
  have : ¬ f j = f q := fun e => by have := hi j q (by omega) hq e; omega
  simpa using this
theorem inv_lt {f : Nat → Nat} {n : Nat} (hf : ∀ k, k < n → f k < n) (hi : ∀ a b, a < n → b < n → f a = f b → a = b) {t : Nat} (ht : t < n) : inv f n t < n ∧ f (inv f n t) = t := by
  obtain ⟨q, hq, rfl⟩ := prm_onto hf hi ht
  rw [inv_f hi hq]
  exact ⟨hq, rfl⟩
/-- the outlook, of a town and of where signs then hang -/
def OL (s : ab_S) (n : Nat) (nm f src : Nat → Nat) : Prop := sz s 8 = nI n ∧ sz s 9 = nI (sh_s nm n) ∧ (∀ k, k < n → sa s 1 k = nI (nm k)) ∧ (∀ k, k < n → sa s 2 k = nI (f k)) ∧ (∀ k, k < n → sa s 3 k = nI (inv f n k)) ∧ (∀ k, k < n → sa s 4 k = nI (src k))
section LOOK
variable {X : (Nat → Int32) × Nat} {d i n : Nat} {s : ab_S} {nm : Nat → Nat} {nr : Nat} {z : Nat → Nat} {st : Nat → Nat → Nat} {bm : Nat} {by' : Nat → Int32}
theorem TW.to_lt (h : TW s i n nm nr z st bm by') : ∀ k, k < n → to_ nr z st bm by' k < n := fun k hk => tof_lt (fun r hr x hx => lk_lt (h.2.2.2.2.2.2.2.2.2.1 r hr) hx) hk
theorem TW.to_inj (h : TW s i n nm nr z st bm by') : ∀ a b, a < n → b < n → to_ nr z st bm by' a = to_ nr z st bm by' b → a = b := fun a b _ _ e => tof_inj (fun r hr => lk_nodup (h.2.2.2.2.2.2.2.2.2.2.1 r hr)) e
theorem l17a (h8 : sz s 8 = nI n) (hn : n ≤ 20) : ∀ (j k : Nat) (A B : Nat → Int32), k + j = n → (∀ q, q < k → A q = nI q ∧ B q = nI q) → ∃ A' B' : Nat → Int32, ab_at X (d + 1) 17 29 [some (.inr (6, 0)), some (.inr (2, i)), some (.inl (.int (nI k)))] [] (pa (pa s 4 A) 2 B) = ab_at X (d + 1) 17 63 [some (.inr (6, 0)), some (.inr (2, i)), some (.inl (.int (nI 0)))] [] (pa (pa s 4 A') 2 B') ∧ ∀ q, q < n → A' q = nI q ∧ B' q = nI q
  | 0, k, A, B, e, h => by
    obtain rfl : k = n := by omega
    refine ⟨A, B, ?_, h⟩
    rw [b17_29]
    simp (disch := omega) only [E0]
    rw [h8, if_pos (nI_le (Nat.le_refl _) (by omega))]
  | j + 1, k, A, B, e, h => by
    have hk : k < n := by omega
    obtain ⟨A', B', g1, g2⟩ := l17a h8 hn j (k + 1) (va_up A k (nI k)) (va_up B k (nI k)) (by omega) (fun q hq => by
      by_cases h5 : q = k
      · rw [h5, va_up_self, va_up_self]
        exact ⟨rfl, rfl⟩
      · rw [va_up_ne _ _ h5, va_up_ne _ _ h5]
        exact h q (by omega))
    refine ⟨A', B', ?_, g2⟩
    rw [← g1, b17_29]
    simp (disch := omega) only [E0]
    rw [h8, if_neg (nI_ge hk (by omega)), put31 (by omega), e_bU, put29 (by omega), e_bU, nI_add]
    simp (disch := omega) only [E0, E1]
    have e9 : pa (pa (pa (pa s 4 A) 2 B) 4 (va_up A k (nI k))) 2 (va_up B k (nI k)) = pa (pa s 4 (va_up A k (nI k))) 2 (va_up B k (nI k)) := by
      rw [pa_sw (s := pa s 4 A) (k := 2) (j := 4) (by decide)]
      simp only [E1]
    rw [e9]
theorem l17b (h : TW s i n nm nr z st bm by') : ∀ (j k : Nat) (s1 : ab_S), k + j = nr → sO s s1 → sz s1 8 = nI n → (∀ q, q < n → sa s1 2 q = nI (tof (fun r => lk (st r) bm (z r)) (fun r => ((by' r).toInt % ((lk (st r) bm (z r)).length : Int)).toNat) k q)) → ∃ s2 : ab_S, ab_at X (d + 3) 17 63 [some (.inr (6, 0)), some (.inr (2, i)), some (.inl (.int (nI k)))] [] s1 = ab_at X (d + 3) 17 88 [some (.inr (6, 0)), some (.inr (2, i)), some (.inl (.int (nI 0)))] [] s2 ∧ sO s s2 ∧ sz s2 8 = nI n ∧ sz s2 9 = sz s1 9 ∧ sa s2 1 = sa s1 1 ∧ sa s2 4 = sa s1 4 ∧ ∀ q, q < n → sa s2 2 q = nI (to_ nr z st bm by' q)
  | 0, k, s1, e, hs, h8, hT => by
    obtain rfl : k = nr := by omega
    refine ⟨s1, ?_, hs, h8, rfl, rfl, rfl, hT⟩
    have h' := h.same hs.2.2.2.1 hs.2.2.2.2.2.1
    have h4 := h'.2.2.2.2.2.1
    rw [b17_63, h'.2.2.2.2.1, if_pos (nI_le (Nat.le_refl _) (by omega))]
  | j + 1, k, s1, e, hs, h8, hT => by
    have hk : k < nr := by omega
    have h' := h.same hs.2.2.2.1 hs.2.2.2.2.2.1
    obtain ⟨t1, t2, t3, t4, t5, t6, t7, t8, t9, t10, t11, t12, t13, t14, t15⟩ := h'
    obtain ⟨O, N, T, g1, g2⟩ := c_goRound (X := X) (d := d) (s := s1) (byv := by' k) (t := tof (fun r => lk (st r) bm (z r)) (fun r => ((by' r).toInt % ((lk (st r) bm (z r)).length : Int)).toNat) k) (by omega) (t7 k hk) (t8 k hk) (t9 k hk) (t10 k hk) (t11 k hk) t2 t12 (by omega) h8 (t14 k hk) (t15 k hk).1 (t15 k hk).2 hT (fun q hq => tof_lt (fun r hr x hx => lk_lt (t10 r (by omega)) hx) hq)
    have hs1 : sO s1 (pa (pa (pa s1 5 O) 6 N) 2 T) := sO_trans (sO_pa (by omega) (by omega)) (sO_trans (sO_pa (by omega) (by omega)) (sO_pa (by omega) (by omega)))
    obtain ⟨s2, a1, a2, a3, a4, a5, a6, a7⟩ := l17b h j (k + 1) (pa (pa (pa s1 5 O) 6 N) 2 T) (by omega) (sO_trans hs hs1) h8 (fun q hq => by
      show sa (pa (pa (pa s1 5 O) 6 N) 2 T) 2 q = _
      simp (disch := omega) only [E0]
      exact g2 q hq)
    refine ⟨s2, ?_, a2, a3, a4, ?_, ?_, a7⟩
    · rw [← a1, b17_63, t5, if_neg (nI_ge hk (by omega)), g1, e_bU, nI_add]
    · rw [a5]
      simp (disch := omega) only [E0]
    · rw [a6]
      simp (disch := omega) only [E0]
theorem l17c {f : Nat → Nat} (h8 : sz s 8 = nI n) (hn : n ≤ 20) (h2 : ∀ q, q < n → sa s 2 q = nI (f q)) (hf : ∀ k, k < n → f k < n) (hi : ∀ a b, a < n → b < n → f a = f b → a = b) : ∀ (j k : Nat) (A : Nat → Int32), k + j = n → (∀ q, q < k → A (f q) = nI q) → ∃ A' : Nat → Int32, ab_at X (d + 1) 17 88 [some (.inr (6, 0)), some (.inr (2, i)), some (.inl (.int (nI k)))] [] (pa s 3 A) = some (.inl none, pa s 3 A') ∧ ∀ q, q < n → A' (f q) = nI q
  | 0, k, A, e, h => by
    obtain rfl : k = n := by omega
    refine ⟨A, ?_, h⟩
    rw [b17_88]
    simp (disch := omega) only [E0]
    rw [h8, if_pos (nI_le (Nat.le_refl _) (by omega))]
  | j + 1, k, A, e, h => by
    have hk : k < n := by omega
    have hs := hf k hk
    obtain ⟨A', g1, g2⟩ := l17c h8 hn h2 hf hi j (k + 1) (va_up A (f k) (nI k)) (by omega) (fun q hq => by
      by_cases h5 : q = k
      · rw [h5, va_up_self]
      · rw [va_up_ne _ _ (fun e => h5 (hi q k (by omega) hk e))]
        exact h q (by omega))
    refine ⟨A', ?_, g2⟩
    rw [← g1, b17_88]
    simp (disch := omega) only [E0, h8, nI_leI, if_neg, at29, e_bI, h2 k hk, put30, e_bU, nI_add, E1]
/-- the outlook looks at a town -/
theorem c_look (h : TW s i n nm nr z st bm by') : ∃ s' : ab_S, ab_ev X (d + 3) 17 [.inr (6, 0), .inr (2, i)] s = some (.inl none, s') ∧ sO s s' ∧ OL s' n nm (to_ nr z st bm by') (fun q => q) := by
  obtain ⟨t1, t2, t3, t4, t5, t6, t7, t8, t9, t10, t11, t12, t13, t14, t15⟩ := id h
  have e1 : ab_ev X (d + 2) 8 [.inr (2, i)] (pz s 8 (si s 1 i)) = _ := c_shared (s := pz s 8 (si s 1 i)) (n := n) (nm := nm) t1 t2 t3 t4
  have e2 : ab_ev X (d + 2) 18 [.inr (28, 0), .inr (19, i)] (pz (pz s 8 (nI n)) 9 (nI (sh_s nm n))) = _ := c_fill (n := 20) (F := sa s 1) (G := sA s 0 i) (s' := pa (pz (pz s 8 (nI n)) 9 (nI (sh_s nm n))) 1 (va_cpy (sA s 0 i) (sa s 1) 0 0 20)) rfl rfl rfl rfl rfl rfl (by decide) rfl
  obtain ⟨A, B, g1, g2⟩ := l17a (X := X) (d := d + 2) (i := i) (s := pa (pz (pz s 8 (nI n)) 9 (nI (sh_s nm n))) 1 (va_cpy (sA s 0 i) (sa s 1) 0 0 20)) (n := n) rfl t2 n 0 (sa s 4) (sa s 2) (by omega) (fun q hq => by omega)
  have hs0 : sO s (pa (pa (pa (pz (pz s 8 (nI n)) 9 (nI (sh_s nm n))) 1 (va_cpy (sA s 0 i) (sa s 1) 0 0 20)) 4 A) 2 B) := sO_trans (sO_pz (Or.inl rfl)) (sO_trans (sO_pz (Or.inr rfl)) (sO_trans (sO_pa (by omega) (by omega)) (sO_trans (sO_pa (by omega) (by omega)) (sO_pa (by omega) (by omega)))))
  obtain ⟨s2, b1, b2, b3, b4, b5, b6, b7⟩ := l17b (X := X) (d := d) h nr 0 _ (by omega) hs0 rfl (fun q hq => (g2 q hq).2)
  obtain ⟨C, c1, c2⟩ := l17c (X := X) (d := d + 2) (i := i) (s := s2) b3 t2 b7 h.to_lt h.to_inj n 0 (sa s2 3) (by omega) (fun q hq => by omega)
  rw [pa_id] at c1
  refine ⟨pa s2 3 C, ?_, sO_trans b2 (sO_pa (by omega) (by omega)), b3, ?_, ?_, ?_, ?_, ?_⟩
  · rw [b17, e1, e_bI, t1, e2, e_bU]
    have e3 : pa (pa (pa (pz (pz s 8 (nI n)) 9 (nI (sh_s nm n))) 1 (va_cpy (sA s 0 i) (sa s 1) 0 0 20)) 4 (sa s 4)) 2 (sa s 2) = pa (pz (pz s 8 (nI n)) 9 (nI (sh_s nm n))) 1 (va_cpy (sA s 0 i) (sa s 1) 0 0 20) := by
      have q1 : pa (pa (pz (pz s 8 (nI n)) 9 (nI (sh_s nm n))) 1 (va_cpy (sA s 0 i) (sa s 1) 0 0 20)) 4 (sa s 4) = pa (pz (pz s 8 (nI n)) 9 (nI (sh_s nm n))) 1 (va_cpy (sA s 0 i) (sa s 1) 0 0 20) := pa_id _ 4
      rw [q1]
      exact pa_id _ 2
    rw [e3] at g1
    rw [g1, b1, c1]
  · show sz s2 9 = _
    rw [b4]
    rfl
  · intro k hk
    show sa s2 1 k = _
    rw [b5]
    show va_cpy (sA s 0 i) (sa s 1) 0 0 20 k = _
    unfold va_cpy
    rw [if_pos (by omega), Nat.zero_add, Nat.sub_zero]
    exact t3 k hk
  · intro k hk
    exact b7 k hk
  · intro k hk
    show C k = _
    obtain ⟨q, hq, rfl⟩ := prm_onto h.to_lt h.to_inj hk
    rw [inv_f h.to_inj hq]
    exact c2 q hq
  · intro k hk
    show sa s2 4 k = _
    rw [b6]
    exact (g2 k hk).1
end LOOK
end
section
/-! Streets, people, names as bits. -/
/-- on how many of the first k streets a name hangs -/
def ct (nm : Nat → Nat) (k v : Nat) : Nat := fb_ct (fun q => nm q == v) k
theorem ct_succ (nm : Nat → Nat) (k v : Nat) : ct nm (k + 1) v = ct nm k v + (if nm k = v then 1 else 0) := by
  unfold ct
  rw [fb_ct_succ]
  by_cases h : nm k = v
  · rw [if_pos h, if_pos (by simpa using h)]
  · rw [if_neg h, if_neg (by simpa using h)]
theorem ct_out {nm : Nat → Nat} {n v : Nat} (h : ∀ k, k < n → nm k < n) (hv : n ≤ v) : ct nm n v = 0 := by
  refine fb_ct_zero.mpr (fun k hk => ?_)
  have := h k hk
  have : ¬ nm k = v := by omega
  simpa using this
theorem two_bit (a b : Nat) : (2 ^ a).testBit b = decide (a = b) := by
  rw [Nat.testBit_two_pow]
theorem sh_o_bit (nm : Nat → Nat) (v : Nat) : ∀ k, (sh_o nm k).testBit v = decide (0 < ct nm k v)
  | 0 => by simp [sh_o, ct, fb_ct]
  | k + 1 => by
    rw [sh_o, Nat.testBit_or, sh_o_bit nm v k, two_bit, ct_succ]
    by_cases h : nm k = v
    · rw [if_pos h]
      simp [h]
    · rw [if_neg h]
      simp [h]
theorem sh_s_bit (nm : Nat → Nat) (v : Nat) : ∀ k, (sh_s nm k).testBit v = decide (1 < ct nm k v)
  | 0 => by simp [sh_s, ct, fb_ct]
  | k + 1 => by
    rw [sh_s, Nat.testBit_or, Nat.testBit_and, sh_s_bit nm v k, sh_o_bit nm v k, two_bit, ct_succ]
    by_cases h : nm k = v
    · rw [if_pos h]
      have e : decide (1 < ct nm k v + 1) = (decide (1 < ct nm k v) || decide (0 < ct nm k v)) := by
        by_cases h1 : 1 < ct nm k v
        · have h2 : 1 < ct nm k v + 1 := by omega
          simp [h1, h2]
        · by_cases h3 : 0 < ct nm k v
          · have h2 : 1 < ct nm k v + 1 := by omega
            simp [h1, h2, h3]
          · have h2 : ¬ 1 < ct nm k v + 1 := by omega
            simp [h1, h2, h3]
      rw [e]
      simp [h]
    · rw [if_neg h]
      simp [h]
/-- the names that hang on two streets and more -/
def shd (nm : Nat → Nat) (n : Nat) : Nat := bs (fun v => decide (1 < ct nm n v)) n
theorem sh_s_eq {nm : Nat → Nat} {n : Nat} (h : ∀ k, k < n → nm k < n) : sh_s nm n = shd nm n := by
  apply Nat.eq_of_testBit_eq
  intro v
  rw [sh_s_bit, shd, bs_bit]
  by_cases hv : v < n
  · simp [hv]
  · rw [ct_out h (by omega)]
    simp [hv]
theorem n_m1bits : ∀ i, i < 32 → (-nI 1).toBitVec.getLsbD i = true := by decide +kernel
theorem n_clr {M : Nat} {b : Nat} (hb : b < 32) : nI M &&& (nI (2 ^ b) ^^^ -nI 1) = nI (M ^^^ (M &&& 2 ^ b)) := by
  rw [← n_xor, ← n_and]
  apply Int32.toBitVec_inj.1
  apply BitVec.eq_of_getLsbD_eq
  intro i hi
  rw [Int32.toBitVec_and, Int32.toBitVec_xor, Int32.toBitVec_xor, Int32.toBitVec_and, BitVec.getLsbD_and, BitVec.getLsbD_xor, BitVec.getLsbD_xor, BitVec.getLsbD_and, n_m1bits i hi]
  cases (nI M).toBitVec.getLsbD i <;> cases (nI (2 ^ b)).toBitVec.getLsbD i <;> rfl
theorem clr_bit (M b i : Nat) : (M ^^^ (M &&& 2 ^ b)).testBit i = (M.testBit i && !decide (b = i)) := by
  rw [Nat.testBit_xor, Nat.testBit_and, two_bit]
  cases M.testBit i <;> cases decide (b = i) <;> rfl
def ls_ (nm : Nat → Nat) (n : Nat) : Nat → Nat
  | 0 => 2 ^ n - 1
  | k + 1 => ls_ nm n k ^^^ (ls_ nm n k &&& 2 ^ nm k)
/-- the names that hang nowhere -/
def lst (nm : Nat → Nat) (n : Nat) : Nat := bs (fun v => ct nm n v == 0) n
theorem ls_bit (nm : Nat → Nat) (n v : Nat) : ∀ k, (ls_ nm n k).testBit v = (decide (v < n) && (ct nm k v == 0))
  | 0 => by simp [ls_, ct, fb_ct, Nat.testBit_two_pow_sub_one]
  | k + 1 => by
    rw [ls_, clr_bit, ls_bit nm n v k, ct_succ]
    by_cases h : nm k = v
    · simp [h]
    · simp [h]
theorem ls_eq (nm : Nat → Nat) (n : Nat) : ls_ nm n n = lst nm n := by
  apply Nat.eq_of_testBit_eq
  intro v
  rw [ls_bit, lst, bs_bit]
section TWB
variable {X : (Nat → Int32) × Nat} {d i n : Nat} {nm : Nat → Nat} {s : ab_S}
theorem l7 {m : Nat} (hn : si s 1 i = nI n) (h20 : n ≤ 20) (hnm : ∀ k, k < n → sA s 0 i k = nI (nm k)) (hlt : ∀ k, k < n → nm k < n) (hm : m < 2 ^ 31) : ∀ (j k : Nat), k + j = n → ab_at X (d + 1) 7 9 [some (.inr (2, i)), some (.inl (.int (nI m))), some (.inl (.int (nI (fb_ct (fun q => m.testBit (nm q)) k)))), some (.inl (.int (nI k)))] [] s = some (.inl (some (.inl (.int (nI (fb_ct (fun q => m.testBit (nm q)) n))))), s)
  | 0, k, e => by
    obtain rfl : k = n := by omega
    rw [b7_9, hn, if_pos (nI_le (Nat.le_refl _) (by omega))]
  | j + 1, k, e => by
    have hk : k < n := by omega
    have a1 := hlt k hk
    have ih := l7 hn h20 hnm hlt hm j (k + 1) (by omega)
    rw [fb_ct_succ] at ih
    rw [b7_9, hn, if_neg (nI_ge hk (by omega)), at19 (by omega), hnm k hk, e_bI, n_shr1 hm (by omega), nI_add, nI_add]
    have e1 : (bif m.testBit (nm k) then 1 else 0) = (if m.testBit (nm k) = true then 1 else 0 : Nat) := by cases m.testBit (nm k) <;> rfl
    rw [e1]
    exact ih
/-- how many streets bear a name that hangs on another one, too -/
def wrg (nm : Nat → Nat) (n : Nat) : Nat := fb_ct (fun q => decide (1 < ct nm n (nm q))) n
theorem c_wrong (hn : si s 1 i = nI n) (h20 : n ≤ 20) (hnm : ∀ k, k < n → sA s 0 i k = nI (nm k)) (hlt : ∀ k, k < n → nm k < n) : ab_ev X (d + 2) 7 [.inr (2, i)] s = some (.inl (some (.inl (.int (nI (wrg nm n))))), s) := by
  rw [b7, c_shared hn h20 hnm hlt, e_bI, sh_s_eq hlt]
  have h := l7 (X := X) (d := d + 1) (m := shd nm n) hn h20 hnm hlt (bs_lt20 _ (by omega)) n 0 (by omega)
  have e : fb_ct (fun q => (shd nm n).testBit (nm q)) n = wrg nm n := by
    refine fb_ct_cong (fun k hk => ?_)
    rw [shd, bs_bit, decide_eq_true (hlt k hk), Bool.true_and]
  rw [e] at h
  exact h
theorem l35 (hn : si s 1 i = nI n) (h20 : n ≤ 20) (hnm : ∀ k, k < n → sA s 0 i k = nI (nm k)) (hlt : ∀ k, k < n → nm k < n) : ∀ (j k : Nat), k + j = n → ab_at X (d + 1) 35 11 [some (.inr (2, i)), some (.inl (.int (nI (ls_ nm n k)))), some (.inl (.int (nI k)))] [] s = some (.inl (some (.inl (.int (nI (ls_ nm n n))))), s)
  | 0, k, e => by
    obtain rfl : k = n := by omega
    rw [b35_11, hn, if_pos (nI_le (Nat.le_refl _) (by omega))]
  | j + 1, k, e => by
    have hk : k < n := by omega
    have a1 := hlt k hk
    rw [b35_11, hn, if_neg (nI_ge hk (by omega)), at19 (by omega), hnm k hk, e_bI, n_sh _ (by omega), n_clr (by omega), nI_add]
    exact l35 hn h20 hnm hlt j (k + 1) (by omega)
theorem c_lost (hn : si s 1 i = nI n) (h20 : n ≤ 20) (hnm : ∀ k, k < n → sA s 0 i k = nI (nm k)) (hlt : ∀ k, k < n → nm k < n) : ab_ev X (d + 1) 35 [.inr (2, i)] s = some (.inl (some (.inl (.int (nI (lst nm n))))), s) := by
  have h1 : 1 ≤ 2 ^ n := Nat.one_le_two_pow
  rw [b35, hn, n_sh _ (by omega), pk_sub h1, ← ls_eq]
  exact l35 hn h20 hnm hlt n 0 (by omega)
theorem l99 {v : Nat} (hn : si s 1 i = nI n) (h20 : n ≤ 20) (hnm : ∀ k, k < n → sA s 0 i k = nI (nm k)) (hlt : ∀ k, k < n → nm k < n) (hv : v < 2 ^ 31) : ∀ (j k : Nat), k + j = n → ab_at X (d + 1) 99 4 [some (.inr (2, i)), some (.inl (.int (nI v))), some (.inl (.int (nI (bs (fun q => nm q == v) k)))), some (.inl (.int (nI k)))] [] s = some (.inl (some (.inl (.int (nI (bs (fun q => nm q == v) n))))), s)
  | 0, k, e => by
    obtain rfl : k = n := by omega
    rw [b99_4, hn, if_pos (nI_le (Nat.le_refl _) (by omega))]
  | j + 1, k, e => by
    have hk : k < n := by omega
    have a1 := hlt k hk
    have ih := l99 hn h20 hnm hlt hv j (k + 1) (by omega)
    rw [bs] at ih
    rw [b99_4, hn, if_neg (nI_ge hk (by omega)), at19 (by omega), hnm k hk, e_bI]
    by_cases h : nm k = v
    · rw [if_pos (by simpa using h)] at ih
      rw [if_pos (by rw [h]), n_sh _ (by omega), n_or, nI_add]
      exact ih
    · rw [if_neg (by simpa using h)] at ih
      rw [if_neg (fun q => h ((nI_eq (by omega) hv).mp q)), nI_add]
      exact ih
theorem c_streetsOf {v : Nat} (hn : si s 1 i = nI n) (h20 : n ≤ 20) (hnm : ∀ k, k < n → sA s 0 i k = nI (nm k)) (hlt : ∀ k, k < n → nm k < n) (hv : v < 2 ^ 31) : ab_ev X (d + 1) 99 [.inr (2, i), .inl (.int (nI v))] s = some (.inl (some (.inl (.int (nI (bs (fun q => nm q == v) n))))), s) := by
  rw [b99]
  exact l99 hn h20 hnm hlt hv n 0 (by omega)
theorem l88 {v np : Nat} {lo : Nat → Nat} (hp : si s 3 i = nI np) (h8 : np ≤ 8) (hlo : ∀ k, k < np → sA s 1 i k = nI (lo k)) (hlt : ∀ k, k < np → lo k < 20) (hv : v < 2 ^ 31) : ∀ (j k : Nat), k + j = np → ab_at X (d + 1) 88 4 [some (.inr (2, i)), some (.inl (.int (nI v))), some (.inl (.int (nI (bs (fun q => lo q == v) k)))), some (.inl (.int (nI k)))] [] s = some (.inl (some (.inl (.int (nI (bs (fun q => lo q == v) np))))), s)
  | 0, k, e => by
    obtain rfl : k = np := by omega
    rw [b88_4, hp, if_pos (nI_le (Nat.le_refl _) (by omega))]
  | j + 1, k, e => by
    have hk : k < np := by omega
    have a1 := hlt k hk
    have ih := l88 hp h8 hlo hlt hv j (k + 1) (by omega)
    rw [bs] at ih
    rw [b88_4, hp, if_neg (nI_ge hk (by omega)), at20 (by omega), hlo k hk, e_bI]
    by_cases h : lo k = v
    · rw [if_pos (by simpa using h)] at ih
      rw [if_pos (by rw [h]), n_sh _ (by omega), n_or, nI_add]
      exact ih
    · rw [if_neg (by simpa using h)] at ih
      rw [if_neg (fun q => h ((nI_eq (by omega) hv).mp q)), nI_add]
      exact ih
theorem c_peopleOn {v np : Nat} {lo : Nat → Nat} (hp : si s 3 i = nI np) (h8 : np ≤ 8) (hlo : ∀ k, k < np → sA s 1 i k = nI (lo k)) (hlt : ∀ k, k < np → lo k < 20) (hv : v < 2 ^ 31) : ab_ev X (d + 1) 88 [.inr (2, i), .inl (.int (nI v))] s = some (.inl (some (.inl (.int (nI (bs (fun q => lo q == v) np))))), s) := by
  rw [b88]
  exact l88 hp h8 hlo hlt hv np 0 (by omega)
theorem l104 {h m np : Nat} {lo li : Nat → Nat} (hp : si s 3 i = nI np) (h8 : np ≤ 8) (hlo : ∀ k, k < np → sA s 1 i k = nI (lo k)) (hlt : ∀ k, k < np → lo k < 20) (hli : ∀ k, k < np → sA s 2 i k = nI (li k)) (hl2 : ∀ k, k < np → li k < 2 ^ 31) (hv : h < 2 ^ 31) (hm : m < 2 ^ 31) : ∀ (j k : Nat), k + j = np → ab_at X (d + 1) 104 5 [some (.inr (2, i)), some (.inl (.int (nI h))), some (.inl (.int (nI m))), some (.inl (.int (nI (bs (fun q => li q == h && m.testBit (lo q)) k)))), some (.inl (.int (nI k)))] [] s = some (.inl (some (.inl (.int (nI (bs (fun q => li q == h && m.testBit (lo q)) np))))), s)
  | 0, k, e => by
    obtain rfl : k = np := by omega
    rw [b104_5, hp, if_pos (nI_le (Nat.le_refl _) (by omega))]
  | j + 1, k, e => by
    have hk : k < np := by omega
    have a1 := hlt k hk
    have a2 := hl2 k hk
    have ih := l104 hp h8 hlo hlt hli hl2 hv hm j (k + 1) (by omega)
    rw [bs] at ih
    rw [b104_5, hp, if_neg (nI_ge hk (by omega)), at21 (by omega), hli k hk, e_bI]
    by_cases h1 : li k = h
    · rw [if_pos (by rw [h1]), at20 (by omega), hlo k hk, e_bI, n_shr1 hm (by omega)]
      cases hb : m.testBit (lo k) with
      | true =>
        rw [hb] at ih
        rw [if_pos (by simp [h1])] at ih
        rw [cond_true, if_neg (by decide), n_sh _ (by omega), n_or, nI_add]
        exact ih
      | false =>
        rw [hb] at ih
        rw [if_neg (by simp)] at ih
        rw [cond_false, if_pos rfl, nI_add]
        exact ih
    · rw [if_neg (by simp [h1])] at ih
      rw [if_neg (fun q => h1 ((nI_eq a2 hv).mp q)), nI_add]
      exact ih
theorem c_peopleIn {h m np : Nat} {lo li : Nat → Nat} (hp : si s 3 i = nI np) (h8 : np ≤ 8) (hlo : ∀ k, k < np → sA s 1 i k = nI (lo k)) (hlt : ∀ k, k < np → lo k < 20) (hli : ∀ k, k < np → sA s 2 i k = nI (li k)) (hl2 : ∀ k, k < np → li k < 2 ^ 31) (hv : h < 2 ^ 31) (hm : m < 2 ^ 31) : ab_ev X (d + 1) 104 [.inr (2, i), .inl (.int (nI h)), .inl (.int (nI m))] s = some (.inl (some (.inl (.int (nI (bs (fun q => li q == h && m.testBit (lo q)) np))))), s) := by
  rw [b104]
  exact l104 hp h8 hlo hlt hli hl2 hv hm np 0 (by omega)
theorem l215 {v : Nat} (hn : si s 1 i = nI n) (h20 : n ≤ 20) (hnm : ∀ k, k < n → sA s 0 i k = nI (nm k)) (hlt : ∀ k, k < n → nm k < n) (hv : v < 2 ^ 31) : ∀ (j k : Nat), k + j = n → (∀ q, q < k → (nm q == v) = false) → ab_at X (d + 1) 215 2 [some (.inr (2, i)), some (.inl (.int (nI v))), some (.inl (.int (nI k)))] [] s = some (.inl (some (.inl (.int (if inv nm n v < n then nI (inv nm n v) else nI 0)))), s)
  | 0, k, e, h => by
    obtain rfl : k = n := by omega
    rw [b215_2, hn, if_pos (nI_le (Nat.le_refl _) (by omega)), if_neg]
    unfold inv
    rw [fst_eqn h]
    omega
  | j + 1, k, e, h => by
    have hk : k < n := by omega
    have a1 := hlt k hk
    rw [b215_2, hn, if_neg (nI_ge hk (by omega)), at19 (by omega), hnm k hk, e_bI]
    by_cases h1 : nm k = v
    · have e1 : inv nm n v = k := fst_eq hk (by simp [h1]) h
      rw [if_pos (by rw [h1]), e1, if_pos hk]
    · rw [if_neg (fun q => h1 ((nI_eq (by omega) hv).mp q)), nI_add]
      refine l215 hn h20 hnm hlt hv j (k + 1) (by omega) (fun q hq => ?_)
      by_cases e2 : q = k
      · rw [e2]
        simpa using h1
      · exact h q (by omega)
theorem c_streetBearing {v : Nat} (hn : si s 1 i = nI n) (h20 : n ≤ 20) (hnm : ∀ k, k < n → sA s 0 i k = nI (nm k)) (hlt : ∀ k, k < n → nm k < n) (hv : v < 2 ^ 31) : ab_ev X (d + 1) 215 [.inr (2, i), .inl (.int (nI v))] s = some (.inl (some (.inl (.int (if inv nm n v < n then nI (inv nm n v) else nI 0)))), s) := by
  rw [b215]
  exact l215 hn h20 hnm hlt hv n 0 (by omega) (fun q hq => by omega)
end TWB
end
section
/-! The law: a row of signs, numbers from 0 on, readings -1 to -5, what reckons from -6 on. -/
/-- the kinds (true: a truth) on the stack behind a sign -/
def tstep (c : Int) (σ : List Bool) : Option (List Bool) :=
  if -5 ≤ c then some (false :: σ)
  else if c = -12 then match σ with
    | true :: τ => some (true :: τ)
    | _ => none
  else match σ with
    | b :: a :: τ => if -8 ≤ c then (if a = false ∧ b = false then some (false :: τ) else none)
      else if -11 ≤ c then (if a = false ∧ b = false then some (true :: τ) else none)
      else if -14 ≤ c then (if a = true ∧ b = true then some (true :: τ) else none) else none
    | _ => none
def trun (ops : Nat → Int) : Nat → Option (List Bool)
  | 0 => some []
  | k + 1 => (trun ops k).bind (tstep (ops k))
def mnJ (a b : Int64) : Int64 := if nI 0 < lg_cmp a b then b else a
def mxJ (a b : Int64) : Int64 := if lg_cmp a b < nI 0 then b else a
/-- a number kept in bounds -/
def kp (n : Int64) : Int32 := (mxJ (-lN 1000000) (mnJ (lN 1000000) n)).toInt32
/-- two numbers reckoned with -/
def rk (c : Int) (a b : Int32) : Int32 :=
  if c = -6 then kp (a.toInt64 + b.toInt64) else if c = -7 then kp (a.toInt64 - b.toInt64) else if c = -8 then kp (a.toInt64 * b.toInt64)
  else if c = -9 then (if a = b then nI 1 else nI 0) else if c = -10 then (if b ≤ a then nI 0 else nI 1) else if c = -11 then (if a ≤ b then nI 0 else nI 1)
  else if c = -13 then a &&& b else a ||| b
/-- what is read -/
def rd (day moved people wrong : Int32) (c : Int) : Int32 := if c = -1 then day else if c = -2 then day % nI 7 else if c = -3 then moved % nI 1000 else if c = -4 then people else wrong
def vstep (env : Int → Int32) (c : Int) (x : Int32) (σ : List Int32) : List Int32 :=
  if 0 ≤ c then x :: σ
  else if -5 ≤ c then env c :: σ
  else if c = -12 then match σ with
    | v :: τ => (nI 1 - v) :: τ
    | _ => []
  else match σ with
    | b :: a :: τ => rk c a b :: τ
    | _ => []
def vrun (env : Int → Int32) (sg : Nat → Int32) : Nat → List Int32
  | 0 => []
  | k + 1 => vstep env (sg k).toInt (sg k) (vrun env sg k)
/-- a law that is one: so many signs -/
def WL (sg : Nat → Int32) (m : Nat) : Prop := (∀ k, k ≤ m → ∃ σ, trun (fun q => (sg q).toInt) k = some σ ∧ σ.length ≤ 39) ∧ (0 < m → trun (fun q => (sg q).toInt) m = some [true])
/-- truths are 0 or 1 -/
def tv : List Bool → List Int32 → Prop
  | [], [] => True
  | b :: σ, v :: τ => (b = true → v = nI 0 ∨ v = nI 1) ∧ tv σ τ
  | _, _ => False
theorem tv_len : ∀ {σ : List Bool} {τ : List Int32}, tv σ τ → σ.length = τ.length
  | [], [], _ => rfl
  | b :: σ, v :: τ, h => by rw [List.length_cons, List.length_cons, tv_len h.2]
  | [], _ :: _, h => h.elim
  | _ :: _, [], h => h.elim
theorem bit_or {a b : Int32} (ha : a = nI 0 ∨ a = nI 1) (hb : b = nI 0 ∨ b = nI 1) : (a &&& b = nI 0 ∨ a &&& b = nI 1) ∧ (a ||| b = nI 0 ∨ a ||| b = nI 1) ∧ (nI 1 - a = nI 0 ∨ nI 1 - a = nI 1) := by
  rcases ha with rfl | rfl <;> rcases hb with rfl | rfl <;> decide
theorem tv_step {env : Int → Int32} {c : Int} {x : Int32} {σ σ' : List Bool} {τ : List Int32} (h : tv σ τ) (hs : tstep c σ = some σ') : tv σ' (vstep env c x τ) := by
  unfold tstep at hs
  unfold vstep
  by_cases h1 : -5 ≤ c
  · rw [if_pos h1] at hs
    obtain rfl := Option.some.inj hs
    by_cases h0 : 0 ≤ c
    · rw [if_pos h0]
      exact ⟨fun q => (nomatch q), h⟩
    · rw [if_neg h0, if_pos h1]
      exact ⟨fun q => (nomatch q), h⟩
  · rw [if_neg h1] at hs
    rw [if_neg (by omega), if_neg h1]
    by_cases h2 : c = -12
    · rw [if_pos h2] at hs
      rw [if_pos h2]
      rcases σ with _ | ⟨b, σ⟩
      · cases hs
      · cases b with
        | false => cases hs
        | true =>
          obtain rfl := Option.some.inj hs
          rcases τ with _ | ⟨v, τ⟩
          · exact h.elim
          · exact ⟨fun _ => (bit_or (h.1 rfl) (h.1 rfl)).2.2, h.2⟩
    · rw [if_neg h2] at hs
      rw [if_neg h2]
      rcases σ with _ | ⟨b, _ | ⟨a, σ⟩⟩
      · cases hs
      · cases hs
      · rcases τ with _ | ⟨v, _ | ⟨w, τ⟩⟩
        · exact h.elim
        · exact h.2.elim
        · have hs2 : (if -8 ≤ c then (if a = false ∧ b = false then some (false :: σ) else none) else if -11 ≤ c then (if a = false ∧ b = false then some (true :: σ) else none) else if -14 ≤ c then (if a = true ∧ b = true then some (true :: σ) else none) else none) = some σ' := hs
          obtain ⟨t1, t2, t3⟩ := h
          show tv σ' (rk c w v :: τ)
          by_cases h3 : -8 ≤ c
          · rw [if_pos h3] at hs2
            split at hs2
            · obtain rfl := Option.some.inj hs2
              exact ⟨fun q => (nomatch q), t3⟩
            · cases hs2
          · rw [if_neg h3] at hs2
            by_cases h4 : -11 ≤ c
            · rw [if_pos h4] at hs2
              split at hs2
              · obtain rfl := Option.some.inj hs2
                refine ⟨fun _ => ?_, t3⟩
                unfold rk
                rw [if_neg (by omega), if_neg (by omega), if_neg (by omega)]
                split
                · split
                  · exact Or.inr rfl
                  · exact Or.inl rfl
                · split
                  · split
                    · exact Or.inl rfl
                    · exact Or.inr rfl
                  · rw [if_pos (by omega)]
                    split
                    · exact Or.inl rfl
                    · exact Or.inr rfl
              · cases hs2
            · rw [if_neg h4] at hs2
              by_cases h5 : -14 ≤ c
              · rw [if_pos h5] at hs2
                split at hs2
                · rename_i hab
                  obtain rfl := Option.some.inj hs2
                  refine ⟨fun _ => ?_, t3⟩
                  have q := bit_or (t2 hab.1) (t1 hab.2)
                  unfold rk
                  rw [if_neg (by omega), if_neg (by omega), if_neg (by omega), if_neg (by omega), if_neg (by omega), if_neg (by omega)]
                  split
                  · exact q.1
                  · exact q.2.1
                · cases hs2
              · rw [if_neg h5] at hs2
                cases hs2
theorem tv_run {env : Int → Int32} {sg : Nat → Int32} : ∀ {k : Nat} {σ : List Bool}, trun (fun q => (sg q).toInt) k = some σ → tv σ (vrun env sg k)
  | 0, σ, h => by
    obtain rfl := Option.some.inj h
    trivial
  | k + 1, σ, h => by
    rw [trun] at h
    cases h1 : trun (fun q => (sg q).toInt) k with
    | none =>
      rw [h1] at h
      cases h
    | some σ1 =>
      rw [h1] at h
      exact tv_step (tv_run h1) h
/-- whether the law holds -/
def hld (env : Int → Int32) (sg : Nat → Int32) (m : Nat) : Bool := match vrun env sg m with
  | v :: _ => decide (v ≠ nI 0)
  | [] => false
/-- a stack in a row -/
def stk (F : Nat → Int32) : List Int32 → Prop
  | [] => True
  | v :: τ => F τ.length = v ∧ stk F τ
theorem stk_up {F : Nat → Int32} {j : Nat} {x : Int32} : ∀ {τ : List Int32}, τ.length ≤ j → stk F τ → stk (va_up F j x) τ
  | [], _, _ => trivial
  | v :: τ, h, q => by
    rw [List.length_cons] at h
    exact ⟨by rw [va_up_ne _ _ (by omega)]; exact q.1, stk_up (by omega) q.2⟩
section LAW
variable {X : (Nat → Int32) × Nat} {d i : Nat} {s : ab_S}
theorem c_min64 (a b : Int64) : ab_ev X d 14 [.inl (.long a), .inl (.long b)] s = some (.inl (some (.inl (.long (mnJ a b)))), s) := by
  rw [b14]
  unfold mnJ
  split <;> rfl
theorem c_max64 (a b : Int64) : ab_ev X d 15 [.inl (.long a), .inl (.long b)] s = some (.inl (some (.inl (.long (mxJ a b)))), s) := by
  rw [b15]
  unfold mxJ
  split <;> rfl
theorem c_keep (n : Int64) : ab_ev X (d + 1) 13 [.inl (.long n)] s = some (.inl (some (.inl (.int (kp n)))), s) := by
  rw [b13, c_min64, e_bJ, c_max64, e_bJ]
  rfl
theorem c_reckon {x a b : Int32} (hx : x.toInt = -6 ∨ x.toInt = -7 ∨ x.toInt = -8 ∨ x.toInt = -9 ∨ x.toInt = -10 ∨ x.toInt = -11 ∨ x.toInt = -13 ∨ x.toInt = -14) : ab_ev X (d + 2) 12 [.inl (.int x), .inl (.int a), .inl (.int b)] s = some (.inl (some (.inl (.int (rk x.toInt a b)))), s) := by
  rcases hx with h | h | h | h | h | h | h | h
  · obtain rfl : x = -nI 6 := Int32.toInt_inj.mp (h.trans (by decide))
    rw [b12, b12_1, if_neg (by decide), if_neg (by decide), if_neg (by decide), if_neg (by decide), if_neg (by decide), if_neg (by decide), if_pos rfl, b12_48, c_keep, e_bI, h]
    rfl
  · obtain rfl : x = -nI 7 := Int32.toInt_inj.mp (h.trans (by decide))
    rw [b12, b12_1, if_neg (by decide), if_neg (by decide), if_neg (by decide), if_neg (by decide), if_neg (by decide), if_pos rfl, b12_57, c_keep, e_bI, h]
    rfl
  · obtain rfl : x = -nI 8 := Int32.toInt_inj.mp (h.trans (by decide))
    rw [b12, b12_1, if_neg (by decide), if_neg (by decide), if_neg (by decide), if_neg (by decide), if_pos rfl, b12_66, c_keep, e_bI, h]
    rfl
  · obtain rfl : x = -nI 9 := Int32.toInt_inj.mp (h.trans (by decide))
    rw [b12, b12_1, if_neg (by decide), if_neg (by decide), if_neg (by decide), if_pos rfl, b12_75, h]
    have e : rk (-9) a b = if a = b then nI 1 else nI 0 := rfl
    rw [e]
    by_cases q : a = b
    · rw [if_pos q, if_pos q]
    · rw [if_neg q, if_neg q]
  · obtain rfl : x = -nI 10 := Int32.toInt_inj.mp (h.trans (by decide))
    rw [b12, b12_1, if_neg (by decide), if_neg (by decide), if_pos rfl, b12_86, h]
    have e : rk (-10) a b = if b ≤ a then nI 0 else nI 1 := rfl
    rw [e]
    by_cases q : b ≤ a
    · rw [if_pos q, if_pos q]
    · rw [if_neg q, if_neg q]
  · obtain rfl : x = -nI 11 := Int32.toInt_inj.mp (h.trans (by decide))
    rw [b12, b12_1, if_neg (by decide), if_pos rfl, b12_97, h]
    have e : rk (-11) a b = if a ≤ b then nI 0 else nI 1 := rfl
    rw [e]
    by_cases q : a ≤ b
    · rw [if_pos q, if_pos q]
    · rw [if_neg q, if_neg q]
  · obtain rfl : x = -nI 13 := Int32.toInt_inj.mp (h.trans (by decide))
    rw [b12, b12_1, if_pos rfl, b12_108, h]
    rfl
  · obtain rfl : x = -nI 14 := Int32.toInt_inj.mp (h.trans (by decide))
    rw [b12, b12_1, if_neg (by decide), if_neg (by decide), if_neg (by decide), if_neg (by decide), if_neg (by decide), if_neg (by decide), if_neg (by decide), b12_112, h]
    rfl
theorem c_reading {x day moved people wrong : Int32} (h1 : -5 ≤ x.toInt) (h2 : x.toInt < 0) : ab_ev X d 11 [.inl (.int x), .inl (.int day), .inl (.int moved), .inl (.int people), .inl (.int wrong)] s = some (.inl (some (.inl (.int (rd day moved people wrong x.toInt)))), s) := by
  rcases (show x.toInt = -1 ∨ x.toInt = -2 ∨ x.toInt = -3 ∨ x.toInt = -4 ∨ x.toInt = -5 by omega) with h | h | h | h | h
  · obtain rfl : x = -nI 1 := Int32.toInt_inj.mp (h.trans (by decide))
    rw [b11, b11_1, if_neg (by decide), if_neg (by decide), if_neg (by decide), if_pos rfl, b11_32, h]
    rfl
  · obtain rfl : x = -nI 2 := Int32.toInt_inj.mp (h.trans (by decide))
    rw [b11, b11_1, if_neg (by decide), if_neg (by decide), if_pos rfl, b11_34, irem_eq_mod, h]
    rfl
  · obtain rfl : x = -nI 3 := Int32.toInt_inj.mp (h.trans (by decide))
    rw [b11, b11_1, if_neg (by decide), if_pos rfl, b11_39, irem_eq_mod, h]
    rfl
  · obtain rfl : x = -nI 4 := Int32.toInt_inj.mp (h.trans (by decide))
    rw [b11, b11_1, if_pos rfl, b11_45, h]
    rfl
  · obtain rfl : x = -nI 5 := Int32.toInt_inj.mp (h.trans (by decide))
    rw [b11, b11_1, if_neg (by decide), if_neg (by decide), if_neg (by decide), if_neg (by decide), b11_47, h]
    rfl
theorem n_ltc {x : Int32} {c : Nat} (hc : c < 2 ^ 31) : x < -nI c ↔ x.toInt < -(c : Int) := by
  rw [Int32.lt_iff_toInt_lt, sb_negT hc]
theorem l10 {F0 : Nat → Int32} {day moved people wrong : Int32} {m : Nat} (hm : si s 8 i = nI m) (h900 : m ≤ 900) (hw : WL (sA s 6 i) m) : ∀ (j k : Nat) (F : Nat → Int32) (u : Option ab_V), k + j = m → stk F (vrun (rd day moved people wrong) (sA s 6 i) k) → ∃ F' : Nat → Int32, ab_at X (d + 3) 10 6 [some (.inr (4, i)), some (.inl (.int day)), some (.inl (.int moved)), some (.inl (.int people)), some (.inl (.int wrong)), some (.inl (.int (nI (vrun (rd day moved people wrong) (sA s 6 i) k).length))), some (.inl (.int (nI k))), u] [] (wA s 7 i F) = some (.inl (some (.inl (.int (if hld (rd day moved people wrong) (sA s 6 i) m then nI 1 else nI 0)))), wA s 7 i F')
  | 0, k, F, u, e, hF => by
    obtain rfl : k = m := by omega
    refine ⟨F, ?_⟩
    rw [b10_6]
    simp (disch := omega) only [E0]
    rw [hm, if_pos (nI_le (Nat.le_refl _) (by omega))]
    obtain ⟨σ, h1, h2⟩ := hw.1 k (Nat.le_refl _)
    have h3 := tv_run (env := rd day moved people wrong) h1
    have h4 := tv_len h3
    cases hk : vrun (rd day moved people wrong) (sA s 6 i) k with
    | nil =>
      have e1 : hld (rd day moved people wrong) (sA s 6 i) k = false := by
        unfold hld
        rw [hk]
      rw [e1, List.length_nil, if_pos (nI_le (Nat.le_refl _) (by omega))]
      rfl
    | cons v τ =>
      rw [hk] at hF h4
      have h0 : 0 < k := by
        cases k with
        | zero => cases hk
        | succ k => omega
      have h5 := hw.2 h0
      rw [h1] at h5
      obtain rfl := Option.some.inj h5
      rw [List.length_cons] at h4
      have h6 : τ = [] := List.length_eq_zero_iff.mp (by simpa using h4.symm)
      subst h6
      have e1 : hld (rd day moved people wrong) (sA s 6 i) k = decide (v ≠ nI 0) := by
        unfold hld
        rw [hk]
      rw [e1, List.length_cons, List.length_nil, if_neg (nI_ge (by omega) (by omega)), at26 (by omega), e_bI]
      simp (disch := omega) only [E0]
      have h7 : F 0 = v := hF.1
      rw [h7]
      by_cases h8 : v = nI 0
      · rw [if_pos h8]
        simp [h8]
      · rw [if_neg h8]
        simp [h8]
  | j + 1, k, F, u, e, hF => by
    have hk : k < m := by omega
    obtain ⟨σ, h1, h2⟩ := hw.1 k (by omega)
    obtain ⟨σ', h1', h2'⟩ := hw.1 (k + 1) (by omega)
    have hst : tstep (sA s 6 i k).toInt σ = some σ' := by
      rw [trun, h1] at h1'
      exact h1'
    have h3 := tv_run (env := rd day moved people wrong) h1
    have h4 := tv_len h3
    have hb : ab_at X (d + 3) 10 6 [some (.inr (4, i)), some (.inl (.int day)), some (.inl (.int moved)), some (.inl (.int people)), some (.inl (.int wrong)), some (.inl (.int (nI (vrun (rd day moved people wrong) (sA s 6 i) k).length))), some (.inl (.int (nI k))), u] [] (wA s 7 i F) = _ := b10_6
    simp (disch := omega) only [E0] at hb
    rw [hm, if_neg (nI_ge hk (by omega)), if_neg (nI_ge (by omega) (by omega)), if_neg (n_in (by omega) (by omega)), nI_clamp (by omega)] at hb
    have ev : vrun (rd day moved people wrong) (sA s 6 i) (k + 1) = vstep (rd day moved people wrong) (sA s 6 i k).toInt (sA s 6 i k) (vrun (rd day moved people wrong) (sA s 6 i) k) := rfl
    generalize hL : vrun (rd day moved people wrong) (sA s 6 i) k = L at *
    have c0 : (sA s 6 i k < nI 0) ↔ (sA s 6 i k).toInt < 0 := by rw [Int32.lt_iff_toInt_lt, nI_toInt (by decide)]; rfl
    have c5 : (sA s 6 i k < -nI 5) ↔ (sA s 6 i k).toInt < -5 := n_ltc (by decide)
    have c12 : (sA s 6 i k = -nI 12) ↔ (sA s 6 i k).toInt = -12 := by
      rw [← Int32.toInt_inj]
      exact Iff.rfl
    by_cases q5 : (sA s 6 i k).toInt < -5
    · rw [if_pos (c5.mpr q5)] at hb
      unfold tstep at hst
      rw [if_neg (by omega)] at hst
      unfold vstep at ev
      rw [if_neg (by omega), if_neg (by omega)] at ev
      by_cases q12 : (sA s 6 i k).toInt = -12
      · rw [if_pos (c12.mpr q12)] at hb
        rw [if_pos q12] at ev
        rcases L with _ | ⟨v, τ⟩
        · rw [if_pos q12] at hst
          rcases σ with _ | ⟨b, σ⟩
          · cases hst
          · cases h4
        · have ev2 : vrun (rd day moved people wrong) (sA s 6 i) (k + 1) = (nI 1 - v) :: τ := ev
          rw [List.length_cons] at hb h4
          rw [pk_sub (by omega), Nat.add_sub_cancel, at26 (by omega), e_bI, put26 (by omega), e_bU, nI_add] at hb
          simp (disch := omega) only [E0, E1] at hb
          obtain ⟨F', g⟩ := l10 (F0 := F0) hm h900 hw j (k + 1) (va_up F τ.length (nI 1 - v)) (some (.inl (.int (sA s 6 i k)))) (by omega) (by
            rw [ev2]
            exact ⟨va_up_self _ _ _, stk_up (Nat.le_refl _) hF.2⟩)
          refine ⟨F', ?_⟩
          have h7 : F τ.length = v := hF.1
          rw [h7] at hb
          rw [← g, ev2]
          simp only [List.length_cons]
          rw [hb]
      · rw [if_neg (fun q => q12 (c12.mp q))] at hb
        rw [if_neg q12] at ev hst
        rcases L with _ | ⟨v, _ | ⟨w, τ⟩⟩
        · rcases σ with _ | ⟨b, σ⟩
          · cases hst
          · cases h4
        · rcases σ with _ | ⟨b, _ | ⟨a, σ⟩⟩
          · cases hst
          · cases hst
          · cases h4
        · have ev2 : vrun (rd day moved people wrong) (sA s 6 i) (k + 1) = rk (sA s 6 i k).toInt w v :: τ := ev
          have hcc : -14 ≤ (sA s 6 i k).toInt := by
            rcases σ with _ | ⟨b, _ | ⟨a, σ⟩⟩
            · cases hst
            · cases hst
            · have hs2 : (if -8 ≤ (sA s 6 i k).toInt then (if a = false ∧ b = false then some (false :: σ) else none) else if -11 ≤ (sA s 6 i k).toInt then (if a = false ∧ b = false then some (true :: σ) else none) else if -14 ≤ (sA s 6 i k).toInt then (if a = true ∧ b = true then some (true :: σ) else none) else none) = some σ' := hst
              by_cases z1 : -8 ≤ (sA s 6 i k).toInt
              · omega
              · rw [if_neg z1] at hs2
                by_cases z2 : -11 ≤ (sA s 6 i k).toInt
                · omega
                · rw [if_neg z2] at hs2
                  by_cases z3 : -14 ≤ (sA s 6 i k).toInt
                  · exact z3
                  · rw [if_neg z3] at hs2
                    cases hs2
          rw [List.length_cons, List.length_cons] at hb h4
          have e1 : nI (τ.length + 1 + 1) + -nI 1 = nI (τ.length + 1) := pk_m1 _
          rw [e1, pk_sub (by omega), Nat.add_sub_cancel, at26 (by omega), e_bI, at26 (by omega), e_bI, c_reckon (by omega), e_bI, put26 (by omega), e_bU, nI_add] at hb
          simp (disch := omega) only [E0, E1] at hb
          have h7 : F (τ.length + 1) = v := hF.1
          have h8 : F τ.length = w := hF.2.1
          rw [h7, h8] at hb
          obtain ⟨F', g⟩ := l10 (F0 := F0) hm h900 hw j (k + 1) (va_up F τ.length (rk (sA s 6 i k).toInt w v)) (some (.inl (.int (sA s 6 i k)))) (by omega) (by
            rw [ev2]
            exact ⟨va_up_self _ _ _, stk_up (Nat.le_refl _) hF.2.2⟩)
          refine ⟨F', ?_⟩
          rw [← g, ev2]
          simp only [List.length_cons]
          rw [hb]
    · rw [if_neg (fun q => q5 (c5.mp q))] at hb
      unfold vstep at ev
      by_cases q0 : (sA s 6 i k).toInt < 0
      · rw [if_pos (c0.mpr q0), c_reading (by omega) q0, e_bI, put26 (by omega), e_bU, nI_add, nI_add] at hb
        simp (disch := omega) only [E0, E1] at hb
        rw [if_neg (by omega), if_pos (by omega)] at ev
        obtain ⟨F', g⟩ := l10 (F0 := F0) hm h900 hw j (k + 1) (va_up F L.length (rd day moved people wrong (sA s 6 i k).toInt)) (some (.inl (.int (sA s 6 i k)))) (by omega) (by
          rw [ev]
          exact ⟨va_up_self _ _ _, stk_up (Nat.le_refl _) hF⟩)
        refine ⟨F', ?_⟩
        rw [← g, ev, List.length_cons, hb]
      · rw [if_neg (fun q => q0 (c0.mp q)), put26 (by omega), e_bU, nI_add, nI_add] at hb
        simp (disch := omega) only [E0, E1] at hb
        rw [if_pos (by omega)] at ev
        obtain ⟨F', g⟩ := l10 (F0 := F0) hm h900 hw j (k + 1) (va_up F L.length (sA s 6 i k)) (some (.inl (.int (sA s 6 i k)))) (by omega) (by
          rw [ev]
          exact ⟨va_up_self _ _ _, stk_up (Nat.le_refl _) hF⟩)
        refine ⟨F', ?_⟩
        rw [← g, ev, List.length_cons, hb]
theorem c_holds {day moved people wrong : Int32} {m : Nat} (hm : si s 8 i = nI m) (h900 : m ≤ 900) (hw : WL (sA s 6 i) m) : ∃ F' : Nat → Int32, ab_ev X (d + 3) 10 [.inr (4, i), .inl (.int day), .inl (.int moved), .inl (.int people), .inl (.int wrong)] s = some (.inl (some (.inl (.int (if hld (rd day moved people wrong) (sA s 6 i) m then nI 1 else nI 0)))), wA s 7 i F') := by
  obtain ⟨F', g⟩ := l10 (X := X) (d := d) (F0 := fun _ => 0) (day := day) (moved := moved) (people := people) (wrong := wrong) hm h900 hw m 0 (sA s 7 i) none (by omega) trivial
  rw [wA_id] at g
  refine ⟨F', ?_⟩
  rw [b10]
  exact g
end LAW
end
section
/-! Nights to come. -/
/-- how many of the first k nights to come move, by when the law holds -/
def mvf (H : Int32 → Int32 → Bool) (day moved : Int32) : Nat → Nat
  | 0 => 0
  | k + 1 => mvf H day moved k + (if H (day + nI k) (moved + nI (mvf H day moved k)) then 0 else 1)
theorem mvf_le (H : Int32 → Int32 → Bool) (day moved : Int32) : ∀ k, mvf H day moved k ≤ k
  | 0 => Nat.le_refl _
  | k + 1 => by
    have := mvf_le H day moved k
    rw [mvf]
    split <;> omega
/-- the law of a town of the class -/
def lwH (s : ab_S) (i : Nat) (wrong : Int32) (day moved : Int32) : Bool := hld (rd day moved (si s 3 i) wrong) (sA s 6 i) (si s 8 i).toNatClampNeg
section NTS
variable {X : (Nat → Int32) × Nat} {d i n : Nat} {nm : Nat → Nat} {s : ab_S}
theorem lwH_w {w day moved : Int32} {F : Nat → Int32} : lwH (wA s 7 i F) i w day moved = lwH s i w day moved := by
  unfold lwH
  simp (disch := omega) only [E0]
theorem c_holds2 {day moved w : Int32} {m : Nat} (hm : si s 8 i = nI m) (h900 : m ≤ 900) (hw : WL (sA s 6 i) m) : ∃ F' : Nat → Int32, ab_ev X (d + 3) 10 [.inr (4, i), .inl (.int day), .inl (.int moved), .inl (.int (si s 3 i)), .inl (.int w)] s = some (.inl (some (.inl (.int (if lwH s i w day moved then nI 1 else nI 0)))), wA s 7 i F') := by
  obtain ⟨F', g⟩ := c_holds (X := X) (d := d) (day := day) (moved := moved) (people := si s 3 i) (wrong := w) hm h900 hw
  refine ⟨F', ?_⟩
  rw [g]
  unfold lwH
  rw [hm, nI_clamp (by omega)]
theorem l6 {m N : Nat} {w : Int32} (hm : si s 8 i = nI m) (h900 : m ≤ 900) (hw : WL (sA s 6 i) m) (hN : N ≤ 999) : ∀ (j k : Nat) (F : Nat → Int32), k + j = N → ∃ F' : Nat → Int32, ab_at X (d + 4) 6 10 [some (.inr (2, i)), some (.inl (.int (nI N))), some (.inl (.int w)), some (.inl (.int (nI (mvf (lwH s i w) (si s 4 i) (si s 5 i) k)))), some (.inl (.int (nI k)))] [] (wA s 7 i F) = some (.inl (some (.inl (.int (nI (mvf (lwH s i w) (si s 4 i) (si s 5 i) N))))), wA s 7 i F')
  | 0, k, F, e => by
    obtain rfl : k = N := by omega
    exact ⟨F, by rw [b6_10, if_pos (nI_le (Nat.le_refl _) (by omega))]⟩
  | j + 1, k, F, e => by
    have hk : k < N := by omega
    obtain ⟨G, g⟩ := c_holds2 (X := X) (d := d) (s := wA s 7 i F) (i := i) (day := si s 4 i + nI k) (moved := si s 5 i + nI (mvf (lwH s i w) (si s 4 i) (si s 5 i) k)) (w := w) (m := m) hm h900 (by simp (disch := omega) only [E0]; exact hw)
    simp (disch := omega) only [E0, E1, lwH_w] at g
    obtain ⟨F', h⟩ := l6 (w := w) hm h900 hw hN j (k + 1) G (by omega)
    refine ⟨F', ?_⟩
    rw [← h, b6_10, if_neg (nI_ge hk (by omega))]
    simp (disch := omega) only [E0]
    have hs : mvf (lwH s i w) (si s 4 i) (si s 5 i) (k + 1) = mvf (lwH s i w) (si s 4 i) (si s 5 i) k + (if lwH s i w (si s 4 i + nI k) (si s 5 i + nI (mvf (lwH s i w) (si s 4 i) (si s 5 i) k)) then 0 else 1) := rfl
    rw [g, e_bI]
    cases hb : lwH s i w (si s 4 i + nI k) (si s 5 i + nI (mvf (lwH s i w) (si s 4 i) (si s 5 i) k)) with
    | true =>
      rw [hb, if_pos rfl] at hs
      have hs : mvf (lwH s i w) (si s 4 i) (si s 5 i) (k + 1) = mvf (lwH s i w) (si s 4 i) (si s 5 i) k := hs
      rw [if_pos rfl, if_neg (by decide), nI_add, hs]
    | false =>
      rw [hb, if_neg (by decide)] at hs
      rw [if_pos (by decide), nI_add, nI_add, hs]
theorem c_movesAmong {m N : Nat} (hn : si s 1 i = nI n) (h20 : n ≤ 20) (hnm : ∀ k, k < n → sA s 0 i k = nI (nm k)) (hlt : ∀ k, k < n → nm k < n) (hm : si s 8 i = nI m) (h900 : m ≤ 900) (hw : WL (sA s 6 i) m) (hN : N ≤ 999) : ∃ F' : Nat → Int32, ab_ev X (d + 4) 6 [.inr (2, i), .inl (.int (nI N))] s = some (.inl (some (.inl (.int (nI (mvf (lwH s i (nI (wrg nm n))) (si s 4 i) (si s 5 i) N))))), wA s 7 i F') := by
  obtain ⟨F', h⟩ := l6 (X := X) (d := d) (s := s) (i := i) (w := nI (wrg nm n)) hm h900 hw hN N 0 (sA s 7 i) (by omega)
  rw [wA_id] at h
  refine ⟨F', ?_⟩
  rw [b6, c_wrong hn h20 hnm hlt, e_bI]
  exact h
theorem l121 {m E : Nat} {w : Int32} (hm : si s 8 i = nI m) (h900 : m ≤ 900) (hw : WL (sA s 6 i) m) (hE : E ≤ 999) (hE0 : 0 < E) : ∀ (j k : Nat) (F : Nat → Int32), k + j = 999 → (∀ q, q ≤ k → mvf (lwH s i w) (si s 4 i) (si s 5 i) q < E) → ∃ F' : Nat → Int32, ab_at X (d + 4) 121 10 [some (.inr (2, i)), some (.inl (.int (nI E))), some (.inl (.int w)), some (.inl (.int (nI (mvf (lwH s i w) (si s 4 i) (si s 5 i) k)))), some (.inl (.int (nI k)))] [] (wA s 7 i F) = some (.inl (some (.inl (.int (if fst (fun q => mvf (lwH s i w) (si s 4 i) (si s 5 i) q == E) 1000 < 1000 then nI (fst (fun q => mvf (lwH s i w) (si s 4 i) (si s 5 i) q == E) 1000) else -nI 1)))), wA s 7 i F')
  | 0, k, F, e, h => by
    obtain rfl : k = 999 := by omega
    have e1 : fst (fun q => mvf (lwH s i w) (si s 4 i) (si s 5 i) q == E) 1000 = 1000 := fst_eqn (fun q hq => by
      have := h q (by omega)
      have : ¬ mvf (lwH s i w) (si s 4 i) (si s 5 i) q = E := by omega
      simpa using this)
    refine ⟨F, ?_⟩
    rw [b121_10, if_pos (nI_le (Nat.le_refl _) (by omega)), if_neg (show ¬ nI E = nI 0 from nI_ne0 hE0 (by omega)), e1, if_neg (by omega)]
  | j + 1, k, F, e, h => by
    have hk := h k (Nat.le_refl _)
    obtain ⟨G, g⟩ := c_holds2 (X := X) (d := d) (s := wA s 7 i F) (i := i) (day := si s 4 i + nI k) (moved := si s 5 i + nI (mvf (lwH s i w) (si s 4 i) (si s 5 i) k)) (w := w) (m := m) hm h900 (by simp (disch := omega) only [E0]; exact hw)
    simp (disch := omega) only [E0, E1, lwH_w] at g
    have hs : mvf (lwH s i w) (si s 4 i) (si s 5 i) (k + 1) = mvf (lwH s i w) (si s 4 i) (si s 5 i) k + (if lwH s i w (si s 4 i + nI k) (si s 5 i + nI (mvf (lwH s i w) (si s 4 i) (si s 5 i) k)) then 0 else 1) := rfl
    have hb : ab_at X (d + 4) 121 10 [some (.inr (2, i)), some (.inl (.int (nI E))), some (.inl (.int w)), some (.inl (.int (nI (mvf (lwH s i w) (si s 4 i) (si s 5 i) k)))), some (.inl (.int (nI k)))] [] (wA s 7 i F) = _ := b121_10
    simp (disch := omega) only [E0] at hb
    rw [if_neg (nI_ge (by omega) (by omega)), if_neg (nI_ge hk (by omega)), g, e_bI] at hb
    cases hx : lwH s i w (si s 4 i + nI k) (si s 5 i + nI (mvf (lwH s i w) (si s 4 i) (si s 5 i) k)) with
    | true =>
      rw [hx, if_pos rfl] at hs
      have hs : mvf (lwH s i w) (si s 4 i) (si s 5 i) (k + 1) = mvf (lwH s i w) (si s 4 i) (si s 5 i) k := hs
      obtain ⟨F', g2⟩ := l121 (w := w) hm h900 hw hE hE0 j (k + 1) G (by omega) (fun q hq => by
        by_cases q1 : q = k + 1
        · rw [q1, hs]
          exact hk
        · exact h q (by omega))
      refine ⟨F', ?_⟩
      rw [hx, if_pos rfl, if_neg (by decide), nI_add] at hb
      rw [hb, ← g2, hs]
    | false =>
      rw [hx, if_neg (by decide)] at hs
      rw [hx, if_pos (by decide), nI_add, nI_add] at hb
      by_cases q2 : mvf (lwH s i w) (si s 4 i) (si s 5 i) k + 1 = E
      · have e1 : fst (fun q => mvf (lwH s i w) (si s 4 i) (si s 5 i) q == E) 1000 = k + 1 := fst_eq (by omega) (by simp [hs, q2]) (fun q hq => by
          have := h q (by omega)
          have : ¬ mvf (lwH s i w) (si s 4 i) (si s 5 i) q = E := by omega
          simpa using this)
        refine ⟨G, ?_⟩
        rw [hb, if_pos (by rw [q2]), e1, if_pos (by omega)]
      · obtain ⟨F', g2⟩ := l121 (w := w) hm h900 hw hE hE0 j (k + 1) G (by omega) (fun q hq => by
          by_cases q1 : q = k + 1
          · rw [q1, hs]
            omega
          · exact h q (by omega))
        refine ⟨F', ?_⟩
        rw [hb, if_neg (fun z => q2 ((nI_eq (by omega) (by omega)).mp z)), ← g2, hs]
theorem c_nightsTill {m E : Nat} (hn : si s 1 i = nI n) (h20 : n ≤ 20) (hnm : ∀ k, k < n → sA s 0 i k = nI (nm k)) (hlt : ∀ k, k < n → nm k < n) (hm : si s 8 i = nI m) (h900 : m ≤ 900) (hw : WL (sA s 6 i) m) (hE : E ≤ 999) : ∃ F' : Nat → Int32, ab_ev X (d + 4) 121 [.inr (2, i), .inl (.int (nI E))] s = some (.inl (some (.inl (.int (if fst (fun q => mvf (lwH s i (nI (wrg nm n))) (si s 4 i) (si s 5 i) q == E) 1000 < 1000 then nI (fst (fun q => mvf (lwH s i (nI (wrg nm n))) (si s 4 i) (si s 5 i) q == E) 1000) else -nI 1)))), wA s 7 i F') := by
  by_cases h0 : E = 0
  · subst h0
    have e1 : fst (fun q => mvf (lwH s i (nI (wrg nm n))) (si s 4 i) (si s 5 i) q == 0) 1000 = 0 := fst_eq (by omega) (by simp [mvf]) (fun q hq => by omega)
    refine ⟨sA s 7 i, ?_⟩
    rw [b121, c_wrong hn h20 hnm hlt, e_bI, b121_10, if_neg (by decide), if_pos (by decide), if_pos rfl, e1, if_pos (by omega), wA_id]
  · obtain ⟨F', h⟩ := l121 (X := X) (d := d) (s := s) (i := i) (w := nI (wrg nm n)) hm h900 hw hE (by omega) 999 0 (sA s 7 i) (by omega) (fun q hq => by
      have : q = 0 := by omega
      rw [this]
      show 0 < E
      omega)
    rw [wA_id] at h
    refine ⟨F', ?_⟩
    rw [b121, c_wrong hn h20 hnm hlt, e_bI]
    exact h
end NTS
end
section
/-! Deeds of the class. -/
def d4 (P : Nat → Int32) (q : Nat) (a b c e : Int32) : Nat → Int32 := va_up (va_up (va_up (va_up P q a) (q + 1) b) (q + 2) c) (q + 3) e
/-- the deeds' row with one more; the eldest goes when there are ten -/
def dn (P : Nat → Int32) (m : Nat) (a b c e : Int32) : Nat → Int32 := if m < 10 then d4 P (4 * m) a b c e else d4 (va_cpy P P 4 0 36) 36 a b c e
def nt (s : ab_S) (i m : Nat) (a b c e : Int32) : ab_S := wi (wA s 8 i (dn (sA s 8 i) m a b c e)) 9 i (nI (min (m + 1) 10))
theorem E1w (s : ab_S) (k i : Nat) (u v : Int32) : wi (wi s k i u) k i v = wi s k i v := by simp only [E1]
theorem E1a (s : ab_S) (k i : Nat) (u v : Nat → Int32) : wA (wA s k i u) k i v = wA s k i v := by simp only [E1]
theorem wA_wi (s : ab_S) (k i : Nat) (v : Int32) (k2 i2 : Nat) (G : Nat → Int32) : wA (wi s k i v) k2 i2 G = wi (wA s k2 i2 G) k i v := rfl
section DED
variable {X : (Nat → Int32) × Nat} {d i n : Nat} {nm : Nat → Nat} {s : ab_S} {m : Nat}
theorem c_note {a b c e : Int32} (hm : si s 9 i = nI m) (h10 : m ≤ 10) : ab_ev X (d + 1) 116 [.inr (5, i), .inl (.int a), .inl (.int b), .inl (.int c), .inl (.int e)] s = some (.inl none, nt s i m a b c e) := by
  rw [b116, hm]
  by_cases h : m < 10
  · rw [if_pos (nI_lt h (by omega)), pk_mul, put27 (by omega), e_bU]
    simp (disch := omega) only [E0, hm, pk_mul, nI_add, put27, e_bU, E1]
    unfold nt dn d4
    rw [if_pos h, Nat.min_eq_left (by omega), Nat.mul_comm m 4]
  · obtain rfl : m = 10 := by omega
    rw [if_neg (by decide), pk_sub (by omega)]
    have e1 : ab_cpy X 27 i (nI 4) 27 i (nI 0) (nI (40 - 4)) s = some (wA s 8 i (va_cpy (sA s 8 i) (sA s 8 i) 4 0 36)) := rfl
    rw [e1]
    show ab_bU _ _ _ = _
    simp (disch := omega) only [E0, hm, pk_mul, nI_add, put27, e_bU, E1]
    unfold nt dn d4
    rw [if_neg h, wA_wi, E1w, E1a]
    rfl
theorem c_ofLatest {p : Nat} (hm : si s 9 i = nI m) (h10 : m ≤ 10) (h0 : 0 < m) (hp : p < 4) : ab_ev X (d + 1) 146 [.inr (5, i), .inl (.int (nI p))] s = some (.inl (some (.inl (.int (sA s 8 i (4 * (m - 1) + p))))), s) := by
  rw [b146, hm, pk_sub (by omega), pk_mul, nI_add, at27 (by omega), e_bI, Nat.mul_comm]
theorem c_dropLatest (hm : si s 9 i = nI m) (h10 : m ≤ 10) (h0 : 0 < m) : ab_ev X (d + 1) 147 [.inr (5, i)] s = some (.inl none, wi s 9 i (nI (m - 1))) := by
  rw [b147, hm, pk_sub (by omega), c_max _ _ (by omega) (by omega), e_bI, Nat.max_eq_right (by omega)]
theorem c_hangSign {a : Nat} {v : Int32} (hm : si s 9 i = nI m) (h10 : m ≤ 10) (ha : a < 20) : ab_ev X (d + 2) 124 [.inr (2, i), .inl (.int (nI a)), .inl (.int v)] s = some (.inl (some (.inl (.int (sA s 0 i a)))), nt (wA s 0 i (va_up (sA s 0 i) a v)) i m (nI 2) (nI a) (sA s 0 i a) (nI 0)) := by
  rw [b124, at19 ha, e_bI, put19 ha, e_bU, c_note (s := wA s 0 i (va_up (sA s 0 i) a v)) hm h10, e_bU]
theorem c_swapNames {a b : Nat} (ha : a < 20) (hb : b < 20) : ab_ev X (d + 1) 129 [.inr (2, i), .inl (.int (nI a)), .inl (.int (nI b))] s = some (.inl none, wA s 0 i (va_up (va_up (sA s 0 i) a (sA s 0 i b)) b (sA s 0 i a))) := by
  rw [b129, at19 ha, e_bI, at19 hb, e_bI, put19 ha, e_bU, put19 hb, e_bU]
  simp (disch := omega) only [E0, E1]
theorem c_exchange {a b : Nat} (hm : si s 9 i = nI m) (h10 : m ≤ 10) (ha : a < 20) (hb : b < 20) : ab_ev X (d + 2) 128 [.inr (2, i), .inl (.int (nI a)), .inl (.int (nI b))] s = some (.inl none, nt (wA s 0 i (va_up (va_up (sA s 0 i) a (sA s 0 i b)) b (sA s 0 i a))) i m (nI 3) (nI a) (nI b) (nI 0)) := by
  rw [b128, c_swapNames ha hb, e_bU, c_note (s := wA s 0 i (va_up (va_up (sA s 0 i) a (sA s 0 i b)) b (sA s 0 i a))) hm h10, e_bU]
theorem c_join {r z p : Nat} {x : Int32} (hm : si s 9 i = nI m) (h10 : m ≤ 10) (hr : r < 4) (hz : sA s 4 i r = nI z) (h20 : z < 20) (hp : p ≤ z) : ab_ev X (d + 3) 132 [.inr (2, i), .inl (.int x), .inl (.int (nI r)), .inl (.int (nI p))] s = some (.inl (some (.inl (.int (nI (z + 1))))), nt (wA (wA s 3 i (ins (sA s 3 i) (20 * r) z p x)) 4 i (va_up (sA s 4 i) r (nI (z + 1)))) i m (nI 4) x (nI r) (nI p)) := by
  rw [b132, c_insert hr hz h20 hp, e_bU, c_note (s := wA (wA s 3 i (ins (sA s 3 i) (20 * r) z p x)) 4 i (va_up (sA s 4 i) r (nI (z + 1)))) hm h10, e_bU, c_sizeOf hr, e_bI]
  unfold nt
  simp (disch := omega) only [E0, va_up_self]
theorem c_leave {r z : Nat} {x : Int32} (hm : si s 9 i = nI m) (h10 : m ≤ 10) (hr : r < 4) (hz : sA s 4 i r = nI z) (h20 : z ≤ 20) (hp : pl (sA s 3 i) (20 * r) z x < z) : ab_ev X (d + 3) 135 [.inr (2, i), .inl (.int x), .inl (.int (nI r))] s = some (.inl (some (.inl (.int (nI (z - 1))))), nt (wA (wA s 3 i (del (sA s 3 i) (20 * r) z (pl (sA s 3 i) (20 * r) z x))) 4 i (va_up (sA s 4 i) r (nI (z - 1)))) i m (nI 5) x (nI r) (nI (pl (sA s 3 i) (20 * r) z x))) := by
  rw [b135, c_placeOf hr hz h20, if_pos hp, e_bI, c_remove hr hz h20 hp, e_bU, c_note (s := wA (wA s 3 i (del (sA s 3 i) (20 * r) z (pl (sA s 3 i) (20 * r) z x))) 4 i (va_up (sA s 4 i) r (nI (z - 1)))) hm h10, e_bU, c_sizeOf hr, e_bI]
  unfold nt
  simp (disch := omega) only [E0, va_up_self]
theorem c_turnBlind {a bm : Nat} (hm : si s 9 i = nI m) (h10 : m ≤ 10) (ha : a < 20) (hb : si s 6 i = nI bm) (h31 : bm < 2 ^ 20) : ab_ev X (d + 2) 139 [.inr (2, i), .inl (.int (nI a))] s = some (.inl (some (.inl (.int (if (bm ^^^ 2 ^ a).testBit a then nI 1 else nI 0)))), nt (wi s 6 i (nI (bm ^^^ 2 ^ a))) i m (nI 6) (nI a) (nI 0) (nI 0)) := by
  have h2 : bm ^^^ 2 ^ a < 2 ^ 20 := Nat.xor_lt_two_pow h31 (Nat.pow_lt_pow_right (by decide) ha)
  have e1 : si (nt (wi s 6 i (nI (bm ^^^ 2 ^ a))) i m (nI 6) (nI a) (nI 0) (nI 0)) 6 i = nI (bm ^^^ 2 ^ a) := by
    unfold nt
    simp (disch := omega) only [E0]
  rw [b139, hb, n_sh _ (by omega), n_xor, c_note (s := wi s 6 i (nI (bm ^^^ 2 ^ a))) (m := m) (by simp (disch := omega) only [E0]; exact hm) h10, e_bU, c_isBlind e1 (by omega) (by omega), e_bI]
  cases (bm ^^^ 2 ^ a).testBit a with
  | true => rw [if_pos rfl, if_neg (by decide)]
  | false => rw [if_pos (by decide)]; rfl
theorem c_moveHouse {p a : Nat} {h : Int32} (hm : si s 9 i = nI m) (h10 : m ≤ 10) (hp : p < 8) (ha : a < 20) : ab_ev X (d + 2) 142 [.inr (2, i), .inl (.int (nI p)), .inl (.int (nI a)), .inl (.int h)] s = some (.inl (some (.inl (.int (sA s 0 i a)))), wA (wA (nt s i m (nI 7) (nI p) (sA s 1 i p) (sA s 2 i p)) 1 i (va_up (sA s 1 i) p (nI a))) 2 i (va_up (sA s 2 i) p h)) := by
  rw [b142, at20 hp, e_bI, at21 hp, e_bI, c_note hm h10, e_bU, put20 hp, e_bU, put21 hp, e_bU, at19 ha, e_bI]
  rfl
theorem l114 {f src : Nat → Nat} {x : Int32} (hn : si s 1 i = nI n) (h20 : n ≤ 20) (h1 : ∀ k, k < n → sa s 1 k = nI (nm k)) (h4 : ∀ k, k < n → sa s 4 k = nI (src k)) (h5 : ∀ k, k < n → src k < n) : ∀ (j k : Nat) (G : Nat → Int32), k + j = n → (∀ q, q < k → G q = nI (nm (src q))) → (∀ q, n ≤ q → G q = sA s 0 i q) → ∃ G' : Nat → Int32, ab_at X (d + 2) 114 12 [some (.inr (2, i)), some (.inl (.int x)), some (.inr (6, 0)), some (.inl (.int (nI k)))] [] (wA s 0 i G) = some (.inl none, wA s 0 i G') ∧ (∀ q, q < n → G' q = nI (nm (src q))) ∧ (∀ q, n ≤ q → G' q = sA s 0 i q)
  | 0, k, G, e, h, h' => by
    obtain rfl : k = n := by omega
    refine ⟨G, ?_, h, h'⟩
    rw [b114_12]
    simp (disch := omega) only [E0]
    rw [hn, if_pos (nI_le (Nat.le_refl _) (by omega))]
  | j + 1, k, G, e, h, h' => by
    have hk : k < n := by omega
    have e1 : ab_ev X (d + 1) 32 [.inr (6, 0), .inl (.int (nI k))] (wA s 0 i G) = _ := c_nameThen (s := wA s 0 i G) h20 h1 h4 h5 hk
    obtain ⟨G', g1, g2, g3⟩ := l114 (f := f) (x := x) hn h20 h1 h4 h5 j (k + 1) (va_up G k (nI (nm (src k)))) (by omega) (fun q hq => by
      by_cases h6 : q = k
      · rw [h6, va_up_self]
      · rw [va_up_ne _ _ h6]
        exact h q (by omega)) (fun q hq => by
      rw [va_up_ne _ _ (by omega)]
      exact h' q hq)
    refine ⟨G', ?_, g2, g3⟩
    rw [← g1, b114_12]
    simp (disch := omega) only [E0]
    rw [hn, if_neg (nI_ge hk (by omega)), e1, e_bI, put19 (by omega), e_bU, nI_add]
    simp (disch := omega) only [E0, E1]
/-- the signs go on by so many moves -/
theorem c_goOn {nr : Nat} {z : Nat → Nat} {st : Nat → Nat → Nat} {bm : Nat} {by' : Nat → Int32} {x : Int32} (h : TW s i n nm nr z st bm by') : ∃ (s1 : ab_S) (G : Nat → Int32), ab_ev X (d + 4) 114 [.inr (2, i), .inl (.int x), .inr (6, 0)] s = some (.inl none, wA s1 0 i G) ∧ sO s s1 ∧ (∀ q, q < n → G q = nI (nm (ah (to_ nr z st bm by') n q (-x).toInt))) ∧ (∀ q, n ≤ q → G q = sA s 0 i q) := by
  obtain ⟨s', a1, a2, a3⟩ := c_look (X := X) (d := d) h
  obtain ⟨b1, b2, b3, b4, b5, b6⟩ := a3
  have hn' : si s' 1 i = nI n := by rw [a2.2.2.2.1]; exact h.1
  obtain ⟨G, c1, c2⟩ := c_leap (X := X) (d := d) (s := s') (x := x) b1 h.2.1 b4 h.to_lt h.to_inj
  obtain ⟨G2, e1, e2, e3⟩ := l114 (X := X) (d := d + 2) (s := pa s' 4 G) (i := i) (f := to_ nr z st bm by') (x := x) (src := fun q => ah (to_ nr z st bm by') n q (-x).toInt) hn' h.2.1 (nm := nm) b3 (fun k hk => by
    simp (disch := omega) only [E0]
    exact c2 k hk) (fun k hk => ah_lt h.to_lt hk _) n 0 (sA s' 0 i) (by omega) (fun q hq => by omega) (fun q hq => rfl)
  have e4 : wA (pa s' 4 G) 0 i (sA s' 0 i) = pa s' 4 G := wA_id (pa s' 4 G) 0 i
  rw [e4] at e1
  refine ⟨pa s' 4 G, G2, ?_, sO_trans a2 (sO_pa (by omega) (by omega)), e2, fun q hq => ?_⟩
  · rw [b114, a1, e_bU, c1, e_bU]
    exact e1
  · rw [e3 q hq]
    show sA s' 0 i q = _
    rw [a2.2.2.2.2.2.1]
theorem c_passNights {nr : Nat} {z : Nat → Nat} {st : Nat → Nat → Nat} {bm : Nat} {by' : Nat → Int32} {N ml : Nat} (h : TW s i n nm nr z st bm by') (hm : si s 9 i = nI m) (h10 : m ≤ 10) (hl : si s 8 i = nI ml) (h900 : ml ≤ 900) (hw : WL (sA s 6 i) ml) (hN : N ≤ 999) : ∃ (F G : Nat → Int32) (s1 : ab_S), ab_ev X (d + 5) 113 [.inr (2, i), .inl (.int (nI N)), .inr (6, 0)] s = some (.inl (some (.inl (.int (nI (mvf (lwH s i (nI (wrg nm n))) (si s 4 i) (si s 5 i) N))))), nt (wi (wi (wA s1 0 i G) 4 i (si s 4 i + nI N)) 5 i (si s 5 i + nI (mvf (lwH s i (nI (wrg nm n))) (si s 4 i) (si s 5 i) N))) i m (nI 1) (nI N) (nI (mvf (lwH s i (nI (wrg nm n))) (si s 4 i) (si s 5 i) N)) (nI 0)) ∧ sO (wA s 7 i F) s1 ∧ (∀ q, q < n → G q = nI (nm (ah (to_ nr z st bm by') n q (-(nI (mvf (lwH s i (nI (wrg nm n))) (si s 4 i) (si s 5 i) N))).toInt))) ∧ (∀ q, n ≤ q → G q = sA s 0 i q) := by
  obtain ⟨F, a1⟩ := c_movesAmong (X := X) (d := d) h.1 h.2.1 h.2.2.1 h.2.2.2.1 hl h900 hw hN
  have h' : TW (wA s 7 i F) i n nm nr z st bm by' := by
    unfold TW at h ⊢
    simp (disch := omega) only [E0]
    exact h
  obtain ⟨s1, G, b1, b2, b3, b4⟩ := c_goOn (X := X) (d := d) (x := nI (mvf (lwH s i (nI (wrg nm n))) (si s 4 i) (si s 5 i) N)) h'
  refine ⟨F, G, s1, ?_, b2, b3, fun q hq => ?_⟩
  · have q1 : si s1 = si s := b2.2.2.2.1
    have q2 : si (wi (wi (wA s1 0 i G) 4 i (si s1 4 i + nI N)) 5 i (si s1 5 i + nI (mvf (lwH s i (nI (wrg nm n))) (si s 4 i) (si s 5 i) N))) 9 i = nI m := by
      simp (disch := omega) only [E0]
      rw [q1]
      exact hm
    rw [b113, a1, e_bI, b1, e_bU]
    simp (disch := omega) only [E0]
    simp (disch := omega) only [E0] at q2
    rw [c_note (m := m) (by simp (disch := omega) only [E0]; exact q2) h10, e_bU, q1]
  · rw [b4 q hq]
    simp (disch := omega) only [E0]
end DED
end
section
/-! Trays; towns taken over; told deeds; deeds undone. -/
theorem j_eq (x y : Int64) : lg_cmp x y = nI 0 ↔ x.toInt = y.toInt := (lg_cmp_eq x y).trans Int64.toInt_inj.symm
theorem j_lt (x y : Int64) : lg_cmp x y < nI 0 ↔ x.toInt < y.toInt := (lg_cmp_lt x y).trans Int64.lt_iff_toInt_lt
theorem j_ge (x y : Int64) : nI 0 ≤ lg_cmp x y ↔ y.toInt ≤ x.toInt := (lg_cmp_ge x y).trans Int64.le_iff_toInt_le
theorem j_gt (x y : Int64) : nI 0 < lg_cmp x y ↔ y.toInt < x.toInt := (lg_cmp_gt x y).trans Int64.lt_iff_toInt_lt
theorem j_le (x y : Int64) : lg_cmp x y ≤ nI 0 ↔ x.toInt ≤ y.toInt := (lg_cmp_le x y).trans Int64.le_iff_toInt_le
theorem lN_int {n : Nat} (h : n < 2 ^ 63) : (lN n).toInt = n := by
  show (Int64.ofNat n).toInt = n
  exact Int64.toInt_ofNat_of_lt h
theorem lN_rep {y : Int64} (h : 0 ≤ y.toInt) : y = lN y.toInt.toNat := by
  have h2 := Int64.toInt_lt y
  exact Int64.toInt_inj.mp (by rw [lN_int (by omega)]; omega)
/-- why a told deed can't be -/
def trb (n : Nat) (y : Int64) : Nat :=
  if y.toInt = -1 then 0 else if y.toInt < 0 ∨ 800 ≤ y.toInt then 1
  else if n ≤ y.toInt.toNat % 400 % 20 ∨ n ≤ y.toInt.toNat % 400 / 20 then 1
  else if 400 ≤ y.toInt.toNat ∧ y.toInt.toNat % 400 % 20 = y.toInt.toNat % 400 / 20 then 2 else 0
/-- a number cut to a sort -/
def ctv (sort : Int32) (v : Int64) : Int64 := if sort = nI 0 then v.toInt32.toInt8.toInt32.toInt64 else if sort = nI 1 then v.toInt32.toInt16.toInt32.toInt64 else if sort = nI 2 then v.toInt32.toInt64 else v
section TRY
variable {X : (Nat → Int32) × Nat} {d i n : Nat} {s : ab_S}
theorem c_get {k z : Nat} (hz : si s 11 i = nI z) (h30 : z ≤ 30) (hk : k < z) : ab_ev X d 152 [.inr (8, i), .inl (.int (nI k))] s = some (.inl (some (.inl (.long (sB s 0 i k)))), s) := by
  rw [b152, hz, if_neg (n_nlt0 (by omega)), if_neg (nI_ge hk (by omega)), if_neg (nI_ge (by omega) (by omega)), if_neg (n_in (by omega) (by omega)), nI_clamp (by omega)]
theorem c_cut {v : Int64} : ab_ev X d 222 [.inr (8, i), .inl (.long v)] s = some (.inl (some (.inl (.long (ctv (si s 10 i) v)))), s) := by
  rw [b222, b222_4, b222_32, b222_37, b222_42, b222_46]
  unfold ctv
  split
  · rfl
  · split
    · rfl
    · split <;> rfl
theorem c_set {k z : Nat} {v : Int64} (hz : si s 11 i = nI z) (h30 : z ≤ 30) (hk : k < z) : ab_ev X (d + 1) 221 [.inr (8, i), .inl (.int (nI k)), .inl (.long v)] s = some (.inl none, wB s 0 i (va_up (sB s 0 i) k (ctv (si s 10 i) v))) := by
  rw [b221, hz, if_neg (n_nlt0 (by omega)), if_neg (nI_ge hk (by omega)), if_neg (nI_ge (by omega) (by omega)), c_cut, e_bJ, if_neg (n_in (by omega) (by omega)), nI_clamp (by omega)]
theorem l218 {x1 x2 : Int32} : ∀ (j k : Nat) (F : Nat → Int64), k + j = 30 → (∀ q, q < k → F q = lN 0) → ∃ F' : Nat → Int64, ab_at X (d + 1) 218 20 [some (.inr (8, i)), some (.inl (.int x1)), some (.inl (.int x2)), some (.inl (.int (nI k)))] [] (wB s 0 i F) = some (.inl none, wB s 0 i F') ∧ ∀ q, q < 30 → F' q = lN 0
  | 0, k, F, e, h => by
    obtain rfl : k = 30 := by omega
    exact ⟨F, by rw [b218_20, if_pos (nI_le (Nat.le_refl _) (by omega))], h⟩
  | j + 1, k, F, e, h => by
    obtain ⟨F', g1, g2⟩ := l218 (x1 := x1) (x2 := x2) j (k + 1) (va_up F k (lN 0)) (by omega) (fun q hq => by
      by_cases h5 : q = k
      · rw [h5, va_up_self]
      · rw [va_up_ne _ _ h5]
        exact h q (by omega))
    refine ⟨F', ?_, g2⟩
    rw [← g1, b218_20, if_neg (nI_ge (by omega) (by omega)), if_neg (n_in (by omega) (by omega)), nI_clamp (by omega), nI_add]
    simp (disch := omega) only [E0, E1]
theorem c_empty {so : Int32} {z : Nat} (h30 : z ≤ 30) : ∃ F' : Nat → Int64, ab_ev X (d + 1) 218 [.inr (8, i), .inl (.int so), .inl (.int (nI z))] s = some (.inl none, wB (wi (wi s 10 i so) 11 i (nI z)) 0 i F') ∧ ∀ q, q < 30 → F' q = lN 0 := by
  obtain ⟨F', g1, g2⟩ := l218 (X := X) (d := d) (i := i) (s := wi (wi s 10 i so) 11 i (nI z)) (x1 := so) (x2 := nI z) 30 0 (sB s 0 i) (by omega) (fun q hq => by omega)
  refine ⟨F', ?_, g2⟩
  have e : wB (wi (wi s 10 i so) 11 i (nI z)) 0 i (sB s 0 i) = wi (wi s 10 i so) 11 i (nI z) := wB_id _ _ _
  rw [e] at g1
  rw [b218, c_min _ _ (by omega) (by omega), e_bI, Nat.min_eq_left h30, g1]
theorem c_trouble {y : Int64} (hn : si s 1 i = nI n) (h20 : n ≤ 20) : ab_ev X d 153 [.inr (2, i), .inl (.long y)] s = some (.inl (some (.inl (.int (nI (trb n y))))), s) := by
  have m1 : (-lN 1).toInt = -1 := by decide
  rw [b153, hn]
  unfold trb
  by_cases h1 : y.toInt = -1
  · rw [if_pos ((j_eq _ _).mpr (h1.trans m1.symm)), if_pos h1]
  · rw [if_neg (fun q => h1 (((j_eq _ _).mp q).trans m1)), if_neg h1]
    by_cases h2 : y.toInt < 0
    · rw [if_pos ((j_lt _ _).mpr (by rw [lN_int (by omega)]; exact h2)), if_pos (Or.inl h2)]
    · rw [if_neg (fun q => h2 (by have := (j_lt _ _).mp q; rw [lN_int (by omega)] at this; exact this))]
      by_cases h3 : y.toInt < 800
      · have hy := lN_rep (y := y) (by omega)
        rw [if_pos ((j_lt _ _).mpr (by rw [lN_int (by omega)]; exact h3)), if_neg (show ¬ (y.toInt < 0 ∨ 800 ≤ y.toInt) by omega)]
        generalize hv : y.toInt.toNat = v at *
        have hv8 : v < 800 := by omega
        rw [hy, pk_lRem (by omega) (by omega) (by omega), pk_lRem (by omega) (by omega) (by omega), pk_lDiv (by omega) (by omega) (by omega), nI_l (by omega)]
        have c1 : nI 0 ≤ lg_cmp (lN (v % 400 % 20)) (lN n) ↔ n ≤ v % 400 % 20 := by
          rw [j_ge, lN_int (by omega), lN_int (by omega)]
          omega
        have c2 : lg_cmp (lN (v % 400 / 20)) (lN n) < nI 0 ↔ v % 400 / 20 < n := by
          rw [j_lt, lN_int (by omega), lN_int (by omega)]
          omega
        have c3 : lg_cmp (lN v) (lN 400) < nI 0 ↔ v < 400 := by
          rw [j_lt, lN_int (by omega), lN_int (by omega)]
          omega
        have c4 : lg_cmp (lN (v % 400 % 20)) (lN (v % 400 / 20)) = nI 0 ↔ v % 400 % 20 = v % 400 / 20 := by
          rw [j_eq, lN_int (by omega), lN_int (by omega)]
          omega
        by_cases q1 : n ≤ v % 400 % 20
        · rw [if_pos (c1.mpr q1), if_pos (Or.inl q1)]
        · rw [if_neg (fun z => q1 (c1.mp z))]
          by_cases q2 : v % 400 / 20 < n
          · rw [if_pos (c2.mpr q2), if_neg (show ¬ (n ≤ v % 400 % 20 ∨ n ≤ v % 400 / 20) by omega)]
            by_cases q3 : v < 400
            · rw [if_pos (c3.mpr q3), if_neg (show ¬ (400 ≤ v ∧ v % 400 % 20 = v % 400 / 20) by omega)]
            · rw [if_neg (fun z => q3 (c3.mp z))]
              by_cases q4 : v % 400 % 20 = v % 400 / 20
              · rw [if_pos (c4.mpr q4), if_pos ⟨by omega, q4⟩]
              · rw [if_neg (fun z => q4 (c4.mp z)), if_neg (fun z => q4 z.2)]
          · rw [if_neg (fun z => q2 (c2.mp z)), if_pos (Or.inr (by omega))]
      · rw [if_neg (fun q => h3 (by have := (j_lt _ _).mp q; rw [lN_int (by omega)] at this; exact this)), if_pos (Or.inr (by omega))]
theorem cpy0 {F G : Nat → Int32} {n q : Nat} (h : q < n) : va_cpy F G 0 0 n q = F q := by
  unfold va_cpy
  rw [if_pos (by omega), Nat.zero_add, Nat.sub_zero]
def tk1 (s : ab_S) (i j : Nat) : ab_S := wi (wi (wi (wi (wi (wi (wi s 0 i (si s 0 j)) 1 i (si s 1 j)) 2 i (si s 2 j)) 3 i (si s 3 j)) 4 i (si s 4 j)) 5 i (si s 5 j)) 6 i (si s 6 j)
def tk2 (s : ab_S) (i j : Nat) : ab_S := wA (wA (wA s 0 i (va_cpy (sA s 0 j) (sA s 0 i) 0 0 20)) 1 i (va_cpy (sA s 1 j) (sA s 1 i) 0 0 8)) 2 i (va_cpy (sA s 2 j) (sA s 2 i) 0 0 8)
def tk3 (s : ab_S) (i j : Nat) : ab_S := wi (wA (wA (wA s 3 i (va_cpy (sA s 3 j) (sA s 3 i) 0 0 80)) 4 i (va_cpy (sA s 4 j) (sA s 4 i) 0 0 4)) 5 i (va_cpy (sA s 5 j) (sA s 5 i) 0 0 4)) 7 i (si s 7 j)
def tk4 (s : ab_S) (i j ml : Nat) : ab_S := wi (wA s 6 i (va_cpy (sA s 6 j) (sA s 6 i) 0 0 ml)) 8 i (si s 8 j)
def tk5 (s : ab_S) (i j : Nat) : ab_S := wi (wA s 8 i (va_cpy (sA s 8 j) (sA s 8 i) 0 0 40)) 9 i (si s 9 j)
theorem c_tkRounds {j : Nat} (h : i ≠ j) : ab_ev X (d + 2) 81 [.inr (3, i), .inr (3, j)] s = some (.inl none, tk3 s i j) := by
  have h' : j ≠ i := fun e => h e.symm
  have e1 : ∀ s : ab_S, ab_ev X (d + 1) 18 [.inr (22, i), .inr (22, j)] s = some (.inl none, wA s 3 i (va_cpy (sA s 3 j) (sA s 3 i) 0 0 80)) := fun s => c_fill (n := 80) rfl rfl rfl rfl rfl rfl (by decide) rfl
  have e2 : ∀ s : ab_S, ab_ev X (d + 1) 18 [.inr (23, i), .inr (23, j)] s = some (.inl none, wA s 4 i (va_cpy (sA s 4 j) (sA s 4 i) 0 0 4)) := fun s => c_fill (n := 4) rfl rfl rfl rfl rfl rfl (by decide) rfl
  have e3 : ∀ s : ab_S, ab_ev X (d + 1) 18 [.inr (24, i), .inr (24, j)] s = some (.inl none, wA s 5 i (va_cpy (sA s 5 j) (sA s 5 i) 0 0 4)) := fun s => c_fill (n := 4) rfl rfl rfl rfl rfl rfl (by decide) rfl
  rw [b81, e1, e_bU, e2, e_bU, e3, e_bU]
  rfl
theorem c_tkLaw {j ml : Nat} (h : i ≠ j) (hl : si s 8 j = nI ml) (h900 : ml ≤ 900) : ab_ev X (d + 1) 82 [.inr (4, i), .inr (4, j)] s = some (.inl none, tk4 s i j ml) := by
  rw [b82, hl, c_min _ _ (by omega) (by omega), e_bI, Nat.min_eq_left h900]
  unfold ab_cpy
  show ab_os (if _ then none else some (wA s 6 i (va_cpy (sA s 6 j) (sA s 6 i) (nI 0).toNatClampNeg (nI 0).toNatClampNeg (nI ml).toNatClampNeg))) _ = _
  rw [if_neg, nI_clamp (by omega), nI_clamp (by omega)]
  · rfl
  · rw [nI_clamp (by omega), nI_clamp (by omega)]
    rintro (h | h | h | h | h)
    · exact absurd h (n_nlt0 (by decide))
    · exact absurd h (n_nlt0 (by decide))
    · exact absurd h (n_nlt0 (by omega))
    · omega
    · omega
theorem c_tkDeeds {j : Nat} : ab_ev X (d + 2) 83 [.inr (5, i), .inr (5, j)] s = some (.inl none, tk5 s i j) := by
  have e1 : ∀ s : ab_S, ab_ev X (d + 1) 18 [.inr (27, i), .inr (27, j)] s = some (.inl none, wA s 8 i (va_cpy (sA s 8 j) (sA s 8 i) 0 0 40)) := fun s => c_fill (n := 40) rfl rfl rfl rfl rfl rfl (by decide) rfl
  rw [b83, e1, e_bU]
  rfl
/-- but for the town i two stores are one -/
def FR (s s' : ab_S) (i : Nat) : Prop := sz s' = sz s ∧ sy s' = sy s ∧ st s' = st s ∧ sa s' = sa s ∧ sb s' = sb s ∧ sB s' = sB s ∧ sq s' = sq s ∧ sn s' = sn s ∧ (∀ k q, q ≠ i → si s' k q = si s k q) ∧ (∀ k, 10 ≤ k → si s' k = si s k) ∧ (∀ k q, q ≠ i → sA s' k q = sA s k q)
theorem FR_refl (s : ab_S) (i : Nat) : FR s s i := ⟨rfl, rfl, rfl, rfl, rfl, rfl, rfl, rfl, fun _ _ _ => rfl, fun _ _ => rfl, fun _ _ _ => rfl⟩
theorem FR_trans {s t u : ab_S} (h : FR s t i) (h' : FR t u i) : FR s u i := by
  obtain ⟨a1, a2, a3, a4, a5, a6, a7, a8, a9, a10, a11⟩ := h
  obtain ⟨b1, b2, b3, b4, b5, b6, b7, b8, b9, b10, b11⟩ := h'
  exact ⟨b1.trans a1, b2.trans a2, b3.trans a3, b4.trans a4, b5.trans a5, b6.trans a6, b7.trans a7, b8.trans a8, fun k q hq => (b9 k q hq).trans (a9 k q hq), fun k hk => (b10 k hk).trans (a10 k hk), fun k q hq => (b11 k q hq).trans (a11 k q hq)⟩
theorem FR_wi {k : Nat} {v : Int32} (hk : k < 10) : FR s (wi s k i v) i := ⟨rfl, rfl, rfl, rfl, rfl, rfl, rfl, rfl, fun q r hr => by
    by_cases h : q = k
    · subst h
      simp (disch := omega) only [E0]
    · simp (disch := omega) only [E0], fun q hq => by simp (disch := omega) only [E0], fun _ _ _ => rfl⟩
theorem FR_wA {k : Nat} {G : Nat → Int32} : FR s (wA s k i G) i := ⟨rfl, rfl, rfl, rfl, rfl, rfl, rfl, rfl, fun _ _ _ => rfl, fun _ _ => rfl, fun q r hr => by
    by_cases h : q = k
    · subst h
      simp (disch := omega) only [E0]
    · simp (disch := omega) only [E0]⟩
theorem tk1_fr {j : Nat} : FR s (tk1 s i j) i := FR_trans (FR_wi (by omega)) (FR_trans (FR_wi (by omega)) (FR_trans (FR_wi (by omega)) (FR_trans (FR_wi (by omega)) (FR_trans (FR_wi (by omega)) (FR_trans (FR_wi (by omega)) (FR_wi (by omega)))))))
theorem tk2_fr {j : Nat} : FR s (tk2 s i j) i := FR_trans FR_wA (FR_trans FR_wA FR_wA)
theorem tk3_fr {j : Nat} : FR s (tk3 s i j) i := FR_trans FR_wA (FR_trans FR_wA (FR_trans FR_wA (FR_wi (by omega))))
theorem tk4_fr {j ml : Nat} : FR s (tk4 s i j ml) i := FR_trans FR_wA (FR_wi (by omega))
theorem tk5_fr {j : Nat} : FR s (tk5 s i j) i := FR_trans FR_wA (FR_wi (by omega))
theorem tk1_si {j k : Nat} : si (tk1 s i j) k i = if k < 7 then si s k j else si s k i := by
  unfold tk1
  by_cases h : k < 7
  · rw [if_pos h]
    rcases (show k = 0 ∨ k = 1 ∨ k = 2 ∨ k = 3 ∨ k = 4 ∨ k = 5 ∨ k = 6 by omega) with rfl | rfl | rfl | rfl | rfl | rfl | rfl <;> simp (disch := omega) only [E0]
  · rw [if_neg h]
    simp (disch := omega) only [E0]
theorem tk3_si {j k : Nat} : si (tk3 s i j) k i = if k = 7 then si s k j else si s k i := by
  unfold tk3
  by_cases h : k = 7
  · rw [if_pos h, h]
    simp (disch := omega) only [E0]
  · rw [if_neg h]
    simp (disch := omega) only [E0]
theorem tk4_si {j ml k : Nat} : si (tk4 s i j ml) k i = if k = 8 then si s k j else si s k i := by
  unfold tk4
  by_cases h : k = 8
  · rw [if_pos h, h]
    simp (disch := omega) only [E0]
  · rw [if_neg h]
    simp (disch := omega) only [E0]
theorem tk5_si {j k : Nat} : si (tk5 s i j) k i = if k = 9 then si s k j else si s k i := by
  unfold tk5
  by_cases h : k = 9
  · rw [if_pos h, h]
    simp (disch := omega) only [E0]
  · rw [if_neg h]
    simp (disch := omega) only [E0]
theorem tk2_sA {j k : Nat} (h : 2 < k) : sA (tk2 s i j) k = sA s k := by
  unfold tk2
  simp (disch := omega) only [E0]
theorem tk3_sA {j k : Nat} (h : k < 3 ∨ 5 < k) : sA (tk3 s i j) k = sA s k := by
  unfold tk3
  simp (disch := omega) only [E0]
theorem tk4_sA {j ml k : Nat} (h : k ≠ 6) : sA (tk4 s i j ml) k = sA s k := by
  unfold tk4
  simp (disch := omega) only [E0]
theorem tk5_sA {j k : Nat} (h : k ≠ 8) : sA (tk5 s i j) k = sA s k := by
  unfold tk5
  simp (disch := omega) only [E0]
theorem c_takeOver {j ml : Nat} (h : i ≠ j) (hl : si s 8 j = nI ml) (h900 : ml ≤ 900) : ∃ s' : ab_S, ab_ev X (d + 3) 80 [.inr (2, i), .inr (2, j)] s = some (.inl none, s') ∧ FR s s' i ∧ (∀ k, k < 10 → si s' k i = si s k j) ∧ (∀ q, q < 20 → sA s' 0 i q = sA s 0 j q) ∧ (∀ q, q < 8 → sA s' 1 i q = sA s 1 j q) ∧ (∀ q, q < 8 → sA s' 2 i q = sA s 2 j q) ∧ (∀ q, q < 80 → sA s' 3 i q = sA s 3 j q) ∧ (∀ q, q < 4 → sA s' 4 i q = sA s 4 j q) ∧ (∀ q, q < 4 → sA s' 5 i q = sA s 5 j q) ∧ (∀ q, q < ml → sA s' 6 i q = sA s 6 j q) ∧ (∀ q, q < 40 → sA s' 8 i q = sA s 8 j q) := by
  have h' : j ≠ i := fun e => h e.symm
  have e1 : ∀ s : ab_S, ab_ev X (d + 2) 18 [.inr (19, i), .inr (19, j)] s = some (.inl none, wA s 0 i (va_cpy (sA s 0 j) (sA s 0 i) 0 0 20)) := fun s => c_fill (n := 20) rfl rfl rfl rfl rfl rfl (by decide) rfl
  have e2 : ∀ s : ab_S, ab_ev X (d + 2) 18 [.inr (20, i), .inr (20, j)] s = some (.inl none, wA s 1 i (va_cpy (sA s 1 j) (sA s 1 i) 0 0 8)) := fun s => c_fill (n := 8) rfl rfl rfl rfl rfl rfl (by decide) rfl
  have e3 : ∀ s : ab_S, ab_ev X (d + 2) 18 [.inr (21, i), .inr (21, j)] s = some (.inl none, wA s 2 i (va_cpy (sA s 2 j) (sA s 2 i) 0 0 8)) := fun s => c_fill (n := 8) rfl rfl rfl rfl rfl rfl (by decide) rfl
  have b1 : ab_ev X (d + 3) 80 [.inr (2, i), .inr (2, j)] s = ab_bU (ab_ev X (d + 2) 18 [.inr (19, i), .inr (19, j)] (tk1 s i j)) (fun s1 => ab_bU (ab_ev X (d + 2) 18 [.inr (20, i), .inr (20, j)] s1) (fun s2 => ab_bU (ab_ev X (d + 2) 18 [.inr (21, i), .inr (21, j)] s2) (fun s3 => ab_bU (ab_ev X (d + 2) 81 [.inr (3, i), .inr (3, j)] s3) (fun s4 => ab_bU (ab_ev X (d + 2) 82 [.inr (4, i), .inr (4, j)] s4) (fun s5 => ab_bU (ab_ev X (d + 2) 83 [.inr (5, i), .inr (5, j)] s5) (fun s6 => some (.inl none, s6)) ab_px) ab_px) ab_px) ab_px) ab_px) ab_px := b80
  have f1 : FR s (tk1 s i j) i := tk1_fr
  have f2 : FR (tk1 s i j) (tk2 (tk1 s i j) i j) i := tk2_fr
  have f12 := FR_trans f1 f2
  have f3 : FR (tk2 (tk1 s i j) i j) (tk3 (tk2 (tk1 s i j) i j) i j) i := tk3_fr
  have f123 := FR_trans f12 f3
  have c2 : wA (wA (wA (tk1 s i j) 0 i (va_cpy (sA (tk1 s i j) 0 j) (sA (tk1 s i j) 0 i) 0 0 20)) 1 i (va_cpy (sA (wA (tk1 s i j) 0 i (va_cpy (sA (tk1 s i j) 0 j) (sA (tk1 s i j) 0 i) 0 0 20)) 1 j) (sA (wA (tk1 s i j) 0 i (va_cpy (sA (tk1 s i j) 0 j) (sA (tk1 s i j) 0 i) 0 0 20)) 1 i) 0 0 8)) 2 i (va_cpy (sA (wA (wA (tk1 s i j) 0 i (va_cpy (sA (tk1 s i j) 0 j) (sA (tk1 s i j) 0 i) 0 0 20)) 1 i (va_cpy (sA (wA (tk1 s i j) 0 i (va_cpy (sA (tk1 s i j) 0 j) (sA (tk1 s i j) 0 i) 0 0 20)) 1 j) (sA (wA (tk1 s i j) 0 i (va_cpy (sA (tk1 s i j) 0 j) (sA (tk1 s i j) 0 i) 0 0 20)) 1 i) 0 0 8)) 2 j) (sA (wA (wA (tk1 s i j) 0 i (va_cpy (sA (tk1 s i j) 0 j) (sA (tk1 s i j) 0 i) 0 0 20)) 1 i (va_cpy (sA (wA (tk1 s i j) 0 i (va_cpy (sA (tk1 s i j) 0 j) (sA (tk1 s i j) 0 i) 0 0 20)) 1 j) (sA (wA (tk1 s i j) 0 i (va_cpy (sA (tk1 s i j) 0 j) (sA (tk1 s i j) 0 i) 0 0 20)) 1 i) 0 0 8)) 2 i) 0 0 8) = tk2 (tk1 s i j) i j := by
    unfold tk2
    generalize tk1 s i j = u
    simp (disch := omega) only [E0]
  generalize hu1 : tk1 s i j = u1 at *
  have hl3 : si (tk3 (tk2 u1 i j) i j) 8 j = nI ml := by
    rw [f123.2.2.2.2.2.2.2.2.1 8 j h']
    exact hl
  have f4 : FR (tk3 (tk2 u1 i j) i j) (tk4 (tk3 (tk2 u1 i j) i j) i j ml) i := tk4_fr
  have f1234 := FR_trans f123 f4
  have f5 : FR (tk4 (tk3 (tk2 u1 i j) i j) i j ml) (tk5 (tk4 (tk3 (tk2 u1 i j) i j) i j ml) i j) i := tk5_fr
  refine ⟨tk5 (tk4 (tk3 (tk2 u1 i j) i j) i j ml) i j, ?_, FR_trans f1234 f5, fun k hk => ?_, fun q hq => ?_, fun q hq => ?_, fun q hq => ?_, fun q hq => ?_, fun q hq => ?_, fun q hq => ?_, fun q hq => ?_, fun q hq => ?_⟩
  · rw [b1, e1, e_bU, e2, e_bU, e3, e_bU, c2, c_tkRounds h, e_bU, c_tkLaw h hl3 h900, e_bU, c_tkDeeds, e_bU]
  · have e2s : ∀ k, si (tk2 u1 i j) k = si u1 k := fun k => rfl
    rw [tk5_si, tk4_si, tk3_si, e2s, f1234.2.2.2.2.2.2.2.2.1 k j h', f123.2.2.2.2.2.2.2.2.1 k j h', f1.2.2.2.2.2.2.2.2.1 k j h', ← hu1, tk1_si]
    split
    · rfl
    · split
      · rfl
      · split
        · rfl
        · rw [if_pos (by omega)]
  · rw [tk5_sA (by omega), tk4_sA (by omega), tk3_sA (by omega)]
    unfold tk2
    simp (disch := omega) only [E0]
    rw [cpy0 hq, ← hu1]
    rfl
  · rw [tk5_sA (by omega), tk4_sA (by omega), tk3_sA (by omega)]
    unfold tk2
    simp (disch := omega) only [E0]
    rw [cpy0 hq, ← hu1]
    rfl
  · rw [tk5_sA (by omega), tk4_sA (by omega), tk3_sA (by omega)]
    unfold tk2
    simp (disch := omega) only [E0]
    rw [cpy0 hq, ← hu1]
    rfl
  · rw [tk5_sA (by omega), tk4_sA (by omega)]
    unfold tk3
    simp (disch := omega) only [E0]
    rw [cpy0 hq, tk2_sA (by omega), ← hu1]
    rfl
  · rw [tk5_sA (by omega), tk4_sA (by omega)]
    unfold tk3
    simp (disch := omega) only [E0]
    rw [cpy0 hq, tk2_sA (by omega), ← hu1]
    rfl
  · rw [tk5_sA (by omega), tk4_sA (by omega)]
    unfold tk3
    simp (disch := omega) only [E0]
    rw [cpy0 hq, tk2_sA (by omega), ← hu1]
    rfl
  · rw [tk5_sA (by omega)]
    unfold tk4
    simp (disch := omega) only [E0]
    rw [cpy0 hq, tk3_sA (by omega), tk2_sA (by omega), ← hu1]
    rfl
  · unfold tk5
    simp (disch := omega) only [E0]
    rw [cpy0 hq, tk4_sA (by omega), tk3_sA (by omega), tk2_sA (by omega), ← hu1]
    rfl
end TRY
end
section
/-! More that the outlook answers. -/
theorem n_l2i : ∀ k, k < 64 → lN 1 <<< ((nI k).toInt64 &&& 63) = lN (2 ^ k) := by decide +kernel
theorem n_orJ (a b : Nat) : lN a ||| lN b = lN (a ||| b) := by
  apply Int64.toBitVec_inj.1
  show BitVec.ofNat 64 a ||| BitVec.ofNat 64 b = BitVec.ofNat 64 (a ||| b)
  apply BitVec.eq_of_getLsbD_eq
  intro i hi
  simp [hi]
/-- the first k values of h, as bits -/
def vb (h : Nat → Nat) : Nat → Nat
  | 0 => 0
  | k + 1 => vb h k ||| 2 ^ h k
theorem vb_bit (h : Nat → Nat) (v : Nat) : ∀ k, (vb h k).testBit v = decide (∃ j, j < k ∧ h j = v)
  | 0 => by simp [vb]
  | k + 1 => by
    rw [vb, Nat.testBit_or, vb_bit h v k, two_bit]
    by_cases h1 : ∃ j, j < k ∧ h j = v
    · obtain ⟨j, hj, e⟩ := h1
      have h2 : ∃ j, j < k + 1 ∧ h j = v := ⟨j, by omega, e⟩
      have h1 : ∃ j, j < k ∧ h j = v := ⟨j, hj, e⟩
      simp [h1, h2]
    · by_cases h3 : h k = v
      · have h2 : ∃ j, j < k + 1 ∧ h j = v := ⟨k, by omega, h3⟩
        simp [h3, h2]
      · have h2 : ¬ ∃ j, j < k + 1 ∧ h j = v := by
          rintro ⟨j, hj, e⟩
          by_cases h4 : j = k
          · rw [h4] at e
            exact h3 e
          · exact h1 ⟨j, by omega, e⟩
        simp [h1, h2, h3]
/-- the smallest that all cycles of the first k streets divide -/
def pr (f : Nat → Nat) (n : Nat) : Nat → Nat
  | 0 => 1
  | k + 1 => Nat.lcm (pr f n k) (cyc f n k)
theorem dvd_L : ∀ c, c < 21 → 0 < c → c ∣ 232792560 := by decide +kernel
section OU2
variable {X : (Nat → Int32) × Nat} {d i n : Nat} {s : ab_S} {nm f g src : Nat → Nat}
theorem l173 {t N : Nat} (hn20 : n ≤ 20) (h2 : ∀ k, k < n → sa s 2 k = nI (f k)) (hf : ∀ k, k < n → f k < n) (ht : t < n) (hN : N < 2 ^ 30) : ∀ (j k : Nat), k + j = min (N + 1) 20 → ab_at X (d + 1) 173 8 [some (.inr (6, 0)), some (.inl (.int (nI t))), some (.inl (.int (nI N))), some (.inl (.int (nI (vb (fun q => it f q t) k)))), some (.inl (.int (nI (it f k t)))), some (.inl (.int (nI k)))] [] s = some (.inl (some (.inl (.int (nI (vb (fun q => it f q t) (min (N + 1) 20)))))), s)
  | 0, k, e => by
    rw [b173_8]
    by_cases h : N < k
    · rw [if_pos (nI_lt h (by omega)), ← e]
      rfl
    · rw [if_neg (nI_nlt (by omega) (by omega)), if_pos (nI_le (by omega) (by omega)), ← e]
      rfl
  | j + 1, k, e => by
    have a1 := it_lt hf k ht
    rw [b173_8, if_neg (nI_nlt (by omega) (by omega)), if_neg (nI_ge (by omega) (by omega)), at29 (by omega), h2 _ a1, e_bI, n_sh _ (by omega), n_or, nI_add]
    exact l173 hn20 h2 hf ht hN j (k + 1) (by omega)
theorem c_visitedBy {t N : Nat} (hn20 : n ≤ 20) (h2 : ∀ k, k < n → sa s 2 k = nI (f k)) (hf : ∀ k, k < n → f k < n) (ht : t < n) (hN : N < 2 ^ 30) : ab_ev X (d + 1) 173 [.inr (6, 0), .inl (.int (nI t)), .inl (.int (nI N))] s = some (.inl (some (.inl (.int (nI (vb (fun q => it f q t) (min (N + 1) 20)))))), s) := by
  rw [b173]
  exact l173 hn20 h2 hf ht hN (min (N + 1) 20) 0 (by omega)
theorem l176 {t N : Nat} (hn20 : n ≤ 20) (h1 : ∀ k, k < n → sa s 1 k = nI (nm k)) (hnm : ∀ k, k < n → nm k < n) (h3 : ∀ k, k < n → sa s 3 k = nI (g k)) (hg : ∀ k, k < n → g k < n) (ht : t < n) (hN : N < 2 ^ 30) : ∀ (j k : Nat), k + j = min (N + 1) 20 → ab_at X (d + 1) 176 8 [some (.inr (6, 0)), some (.inl (.int (nI t))), some (.inl (.int (nI N))), some (.inl (.int (nI (vb (fun q => nm (it g q t)) k)))), some (.inl (.int (nI (it g k t)))), some (.inl (.int (nI k)))] [] s = some (.inl (some (.inl (.int (nI (vb (fun q => nm (it g q t)) (min (N + 1) 20)))))), s)
  | 0, k, e => by
    rw [b176_8]
    by_cases h : N < k
    · rw [if_pos (nI_lt h (by omega)), ← e]
      rfl
    · rw [if_neg (nI_nlt (by omega) (by omega)), if_pos (nI_le (by omega) (by omega)), ← e]
      rfl
  | j + 1, k, e => by
    have a1 := it_lt hg k ht
    have a2 := hnm _ a1
    rw [b176_8, if_neg (nI_nlt (by omega) (by omega)), if_neg (nI_ge (by omega) (by omega)), at28 (by omega), h1 _ a1, e_bI, at30 (by omega), h3 _ a1, e_bI, n_sh _ (by omega), n_or, nI_add]
    exact l176 hn20 h1 hnm h3 hg ht hN j (k + 1) (by omega)
theorem c_namesOn {t N : Nat} (hn20 : n ≤ 20) (h1 : ∀ k, k < n → sa s 1 k = nI (nm k)) (hnm : ∀ k, k < n → nm k < n) (h3 : ∀ k, k < n → sa s 3 k = nI (g k)) (hg : ∀ k, k < n → g k < n) (ht : t < n) (hN : N < 2 ^ 30) : ab_ev X (d + 1) 176 [.inr (6, 0), .inl (.int (nI t)), .inl (.int (nI N))] s = some (.inl (some (.inl (.int (nI (vb (fun q => nm (it g q t)) (min (N + 1) 20)))))), s) := by
  rw [b176]
  exact l176 hn20 h1 hnm h3 hg ht hN (min (N + 1) 20) 0 (by omega)
theorem l180 {v t N : Nat} (hn20 : n ≤ 20) (h1 : ∀ k, k < n → sa s 1 k = nI (nm k)) (hnm : ∀ k, k < n → nm k < n) (h3 : ∀ k, k < n → sa s 3 k = nI (g k)) (hg : ∀ k, k < n → g k < n) (ht : t < n) (hv : v < 2 ^ 31) (hN : N < 62) : ∀ (j k : Nat), k + j = N + 1 → ab_at X (d + 1) 180 9 [some (.inr (6, 0)), some (.inl (.int (nI v))), some (.inl (.int (nI t))), some (.inl (.int (nI N))), some (.inl (.long (lN (bs (fun q => nm (it g q t) == v) k)))), none, some (.inl (.int (nI (it g k t)))), some (.inl (.int (nI k)))] [] s = some (.inl (some (.inl (.long (lN (bs (fun q => nm (it g q t) == v) (N + 1)))))), s)
  | 0, k, e => by
    obtain rfl : k = N + 1 := by omega
    rw [b180_9, if_pos (nI_lt (by omega) (by omega))]
  | j + 1, k, e => by
    have a1 := it_lt hg k ht
    have a2 := hnm _ a1
    have ih := l180 hn20 h1 hnm h3 hg ht hv hN j (k + 1) (by omega)
    rw [bs] at ih
    rw [b180_9, if_neg (nI_nlt (by omega) (by omega)), at28 (by omega), h1 _ a1, e_bI]
    by_cases h : nm (it g k t) = v
    · rw [if_pos (by simpa using h)] at ih
      rw [if_pos (by rw [h]), at30 (by omega), h3 _ a1, e_bI, n_l2i _ (by omega), n_orJ, nI_add]
      exact ih
    · rw [if_neg (by simpa using h)] at ih
      rw [if_neg (fun q => h ((nI_eq (by omega) hv).mp q)), at30 (by omega), h3 _ a1, e_bI, nI_add]
      exact ih
theorem c_nightsOf {v t N : Nat} (hn20 : n ≤ 20) (h1 : ∀ k, k < n → sa s 1 k = nI (nm k)) (hnm : ∀ k, k < n → nm k < n) (h3 : ∀ k, k < n → sa s 3 k = nI (g k)) (hg : ∀ k, k < n → g k < n) (ht : t < n) (hv : v < 2 ^ 31) (hN : N < 62) : ab_ev X (d + 1) 180 [.inr (6, 0), .inl (.int (nI v)), .inl (.int (nI t)), .inl (.int (nI N))] s = some (.inl (some (.inl (.long (lN (bs (fun q => nm (it g q t) == v) (N + 1)))))), s) := by
  rw [b180]
  exact l180 hn20 h1 hnm h3 hg ht hv hN (N + 1) 0 (by omega)
/-- whether a number told is another one than v -/
def unl (y : Int64) (v : Nat) : Bool := decide (y.toInt ≠ -1) && decide (y.toInt ≠ v)
theorem l209 {t : Nat} (h8 : sz s 8 = nI n) (hn20 : n ≤ 20) (h1 : ∀ k, k < n → sa s 1 k = nI (nm k)) (hnm : ∀ k, k < n → nm k < n) (h4 : ∀ k, k < n → sa s 4 k = nI (src k)) (h5 : ∀ k, k < n → src k < n) (hz : si s 11 t = nI n) : ∀ (j k : Nat) (u : Option ab_V), k + j = n → ab_at X (d + 2) 209 4 [some (.inr (6, 0)), some (.inr (8, t)), some (.inl (.int (nI (bs (fun q => unl (sB s 0 t q) (nm (src q))) k)))), some (.inl (.int (nI k))), u, none] [] s = some (.inl (some (.inl (.int (nI (bs (fun q => unl (sB s 0 t q) (nm (src q))) n))))), s)
  | 0, k, u, e => by
    obtain rfl : k = n := by omega
    rw [b209_4, h8, if_pos (nI_le (Nat.le_refl _) (by omega))]
  | j + 1, k, u, e => by
    have hk : k < n := by omega
    have a1 := h5 k hk
    have a2 := hnm _ a1
    have m1 : (-lN 1).toInt = -1 := by decide
    have ih := fun u => l209 h8 hn20 h1 hnm h4 h5 hz j (k + 1) u (by omega)
    rw [bs] at ih
    rw [b209_4, h8, if_neg (nI_ge hk (by omega)), c_get hz (by omega) hk, e_bJ]
    by_cases q1 : (sB s 0 t k).toInt = -1
    · rw [if_neg (by unfold unl; simp [q1])] at ih
      rw [if_pos ((j_eq _ _).mpr (q1.trans m1.symm)), nI_add]
      exact ih _
    · rw [if_neg (fun z => q1 (((j_eq _ _).mp z).trans m1)), c_nameThen hn20 h1 h4 h5 hk, e_bI, nI_l (by omega)]
      by_cases q2 : (sB s 0 t k).toInt = (nm (src k) : Int)
      · rw [if_neg (by unfold unl; simp [q2])] at ih
        rw [if_pos ((j_eq _ _).mpr (by rw [lN_int (by omega)]; exact q2)), nI_add]
        exact ih _
      · rw [if_pos (by unfold unl; simp [q1, q2])] at ih
        rw [if_neg (fun z => q2 (by have := (j_eq _ _).mp z; rw [lN_int (by omega)] at this; exact this)), n_sh _ (by omega), n_or, nI_add]
        exact ih _
theorem c_unlike {t : Nat} (h8 : sz s 8 = nI n) (hn20 : n ≤ 20) (h1 : ∀ k, k < n → sa s 1 k = nI (nm k)) (hnm : ∀ k, k < n → nm k < n) (h4 : ∀ k, k < n → sa s 4 k = nI (src k)) (h5 : ∀ k, k < n → src k < n) (hz : si s 11 t = nI n) : ab_ev X (d + 2) 209 [.inr (6, 0), .inr (8, t)] s = some (.inl (some (.inl (.int (nI (bs (fun q => unl (sB s 0 t q) (nm (src q))) n))))), s) := by
  rw [b209]
  exact l209 h8 hn20 h1 hnm h4 h5 hz n 0 _ (by omega)
theorem l164 {t z : Nat} {w : Nat → Nat} (hn20 : n ≤ 20) (h1 : ∀ k, k < n → sa s 1 k = nI (nm k)) (hnm : ∀ k, k < n → nm k < n) (h4 : ∀ k, k < n → sa s 4 k = nI (src k)) (h5 : ∀ k, k < n → src k < n) (hz : si s 11 t = nI z) (h30 : z ≤ 30) (hw : ∀ k, k < z → sB s 0 t k = lN (w k)) (hw2 : ∀ k, k < z → w k < 400 ∧ w k % 20 < n) : ∀ (j k : Nat) (u : Option ab_V), k + j = z → (∀ q, q < k → nm (src (w q % 20)) = w q / 20) → ab_at X (d + 2) 164 2 [some (.inr (6, 0)), some (.inr (8, t)), some (.inl (.int (nI k))), u] [] s = some (.inl (some (.inl (.int (if ∀ q, q < z → nm (src (w q % 20)) = w q / 20 then nI 1 else nI 0)))), s)
  | 0, k, u, e, h => by
    obtain rfl : k = z := by omega
    rw [b164_2, hz, if_pos (nI_le (Nat.le_refl _) (by omega)), if_pos h]
  | j + 1, k, u, e, h => by
    have hk : k < z := by omega
    obtain ⟨b1, b2⟩ := hw2 k hk
    have a1 := h5 _ b2
    have a2 := hnm _ a1
    rw [b164_2, hz, if_neg (nI_ge hk (by omega)), c_get hz h30 hk, e_bJ, hw k hk, lN_i, n_rem (by omega) (by omega) (by omega), c_nameThen hn20 h1 h4 h5 b2, e_bI, pk_div (by omega) (by omega) (by omega)]
    by_cases q : nm (src (w k % 20)) = w k / 20
    · rw [if_pos (by rw [q]), nI_add]
      refine l164 hn20 h1 hnm h4 h5 hz h30 hw hw2 j (k + 1) _ (by omega) (fun r hr => ?_)
      by_cases e2 : r = k
      · rw [e2]
        exact q
      · exact h r (by omega)
    · rw [if_neg (fun z => q ((nI_eq (by omega) (by omega)).mp z)), if_neg (fun z => q (z k hk))]
theorem c_allHang {t z : Nat} {w : Nat → Nat} (hn20 : n ≤ 20) (h1 : ∀ k, k < n → sa s 1 k = nI (nm k)) (hnm : ∀ k, k < n → nm k < n) (h4 : ∀ k, k < n → sa s 4 k = nI (src k)) (h5 : ∀ k, k < n → src k < n) (hz : si s 11 t = nI z) (h30 : z ≤ 30) (hw : ∀ k, k < z → sB s 0 t k = lN (w k)) (hw2 : ∀ k, k < z → w k < 400 ∧ w k % 20 < n) : ab_ev X (d + 2) 164 [.inr (6, 0), .inr (8, t)] s = some (.inl (some (.inl (.int (if ∀ q, q < z → nm (src (w q % 20)) = w q / 20 then nI 1 else nI 0)))), s) := by
  rw [b164]
  exact l164 hn20 h1 hnm h4 h5 hz h30 hw hw2 z 0 _ (by omega) (fun q hq => by omega)
/-- far from one another by their numbers -/
def adf (a b : Nat) : Nat := (a - b) + (b - a)
theorem c_abs {a b : Nat} (ha : a < 2 ^ 30) (hb : b < 2 ^ 30) : ab_ev X d 92 [.inl (.int (nI a - nI b))] s = some (.inl (some (.inl (.int (nI (adf a b))))), s) := by
  rw [b92]
  have h1 : (nI a - nI b).toInt = (a : Int) - b := pk_sub_toInt ha hb
  have h0 : nI 0 ≤ nI a - nI b ↔ b ≤ a := by
    rw [Int32.le_iff_toInt_le, h1, nI_toInt (by omega)]
    omega
  unfold adf
  by_cases h : b ≤ a
  · rw [if_pos (h0.mpr h), pk_sub h, show a - b + (b - a) = a - b by omega]
  · rw [if_neg (fun z => h (h0.mp z))]
    have e : -(nI a - nI b) = nI (a - b + (b - a)) := by
      rw [Int32.neg_sub, pk_sub (by omega)]
      congr 1
      omega
    rw [e]
/-- the harm -/
def hrm (nm src : Nat → Nat) (n : Nat) : Nat → Nat
  | 0 => 0
  | k + 1 => hrm nm src n k + (if (shd nm n).testBit (nm (src k)) then 0 else adf k (src k))
theorem hrm_le (nm : Nat → Nat) {src : Nat → Nat} {n : Nat} (h5 : ∀ k, k < n → src k < n) : ∀ k, k ≤ n → hrm nm src n k ≤ k * n
  | 0, _ => by rw [hrm]; omega
  | k + 1, h => by
    have ih := hrm_le nm h5 k (by omega)
    have := h5 k (by omega)
    rw [hrm, Nat.succ_mul]
    unfold adf
    split <;> omega
theorem l203 (h8 : sz s 8 = nI n) (h9 : sz s 9 = nI (sh_s nm n)) (hn20 : n ≤ 20) (h1 : ∀ k, k < n → sa s 1 k = nI (nm k)) (hnm : ∀ k, k < n → nm k < n) (h4 : ∀ k, k < n → sa s 4 k = nI (src k)) (h5 : ∀ k, k < n → src k < n) : ∀ (j k : Nat), k + j = n → ab_at X (d + 2) 203 4 [some (.inr (6, 0)), some (.inl (.int (nI (hrm nm src n k)))), some (.inl (.int (nI k)))] [] s = some (.inl (some (.inl (.int (nI (hrm nm src n n))))), s)
  | 0, k, e => by
    obtain rfl : k = n := by omega
    rw [b203_4, h8, if_pos (nI_le (Nat.le_refl _) (by omega))]
  | j + 1, k, e => by
    have hk : k < n := by omega
    have a1 := h5 k hk
    have a2 := hnm _ a1
    have ih := l203 h8 h9 hn20 h1 hnm h4 h5 j (k + 1) (by omega)
    rw [hrm] at ih
    rw [b203_4, h8, if_neg (nI_ge hk (by omega)), c_nameThen hn20 h1 h4 h5 hk, e_bI, h9, sh_s_eq hnm, n_shr1 (show shd nm n < 2 ^ 31 from bs_lt20 _ (by omega)) (by omega)]
    cases hb : (shd nm n).testBit (nm (src k)) with
    | true =>
      rw [hb, if_pos rfl] at ih
      rw [cond_true, if_neg (by decide), nI_add]
      exact ih
    | false =>
      rw [hb, if_neg (by decide)] at ih
      rw [cond_false, if_pos rfl, at31 (by omega), h4 k hk, e_bI, c_abs (by omega) (by omega), e_bI, nI_add, nI_add]
      exact ih
theorem c_harmThen (h8 : sz s 8 = nI n) (h9 : sz s 9 = nI (sh_s nm n)) (hn20 : n ≤ 20) (h1 : ∀ k, k < n → sa s 1 k = nI (nm k)) (hnm : ∀ k, k < n → nm k < n) (h4 : ∀ k, k < n → sa s 4 k = nI (src k)) (h5 : ∀ k, k < n → src k < n) : ab_ev X (d + 2) 203 [.inr (6, 0)] s = some (.inl (some (.inl (.int (nI (hrm nm src n n))))), s) := by
  rw [b203]
  exact l203 h8 h9 hn20 h1 hnm h4 h5 n 0 (by omega)
theorem l28 {a b : Nat} (ha : 0 < a) (hb : 0 < b) (hb2 : b < 2 ^ 31) (hL : Nat.lcm a b < 2 ^ 31) : ∀ (j k : Nat), k + j = b → 0 < k → (∀ q, 0 < q → q < k → ¬ b ∣ a * q) → ab_at X d 28 2 [some (.inl (.int (nI a))), some (.inl (.int (nI b))), some (.inl (.int (nI k)))] [] s = some (.inl (some (.inl (.int (nI (Nat.lcm a b))))), s)
  | 0, k, e, h0, h => by
    obtain rfl : k = b := by omega
    have e1 : Nat.lcm a k = a * k := by
      have h1 : k / Nat.gcd a k = k := by
        have hg := Nat.gcd_pos_of_pos_left k ha
        have hd : Nat.gcd a k ∣ k := Nat.gcd_dvd_right a k
        obtain ⟨q, hq⟩ := hd
        have hqk : k / Nat.gcd a k = q := Nat.div_eq_of_eq_mul_right hg hq
        rw [hqk]
        have hq0 : 0 < q := by
          rcases Nat.eq_zero_or_pos q with z | z
          · rw [z] at hq
            omega
          · exact z
        rcases Nat.lt_or_ge q k with hlt | hge
        · refine absurd ?_ (h q hq0 hlt)
          obtain ⟨p, hp⟩ := Nat.gcd_dvd_left a k
          refine ⟨p, ?_⟩
          calc a * q = Nat.gcd a k * p * q := by rw [← hp]
            _ = Nat.gcd a k * q * p := by rw [Nat.mul_assoc, Nat.mul_comm p q, ← Nat.mul_assoc]
            _ = k * p := by rw [← hq]
        · have : q ≤ k := by
            rw [hq]
            exact Nat.le_mul_of_pos_left q hg
          omega
      rw [Nat.lcm, Nat.mul_div_assoc _ (Nat.gcd_dvd_right a k), h1]
    rw [b28_2, if_pos (nI_le (Nat.le_refl _) (by omega)), pk_mul, e1]
  | j + 1, k, e, h0, h => by
    have hk : k < b := by omega
    have hle : a * k ≤ Nat.lcm a b ∨ b ∣ a * k := by
      rcases Nat.lt_or_ge (Nat.lcm a b) (a * k) with q | q
      · exfalso
        have hd := Nat.dvd_lcm_left a b
        obtain ⟨c, hc⟩ := hd
        have hck : c < k := by
          rw [hc] at q
          exact Nat.lt_of_mul_lt_mul_left q
        have hc0 : 0 < c := by
          rcases Nat.eq_zero_or_pos c with z | z
          · rw [z, Nat.mul_zero] at hc
            have := Nat.lcm_pos ha hb
            omega
          · exact z
        exact h c hc0 hck (hc ▸ Nat.dvd_lcm_right a b)
      · exact Or.inl q
    have hak : a * k < 2 ^ 31 := by
      rcases hle with q | q
      · omega
      · have h1 : Nat.lcm a b ≤ a * k := Nat.le_of_dvd (Nat.mul_pos ha h0) (Nat.lcm_dvd (Nat.dvd_mul_right a k) q)
        rcases Nat.lt_or_ge (Nat.lcm a b) (a * k) with q2 | q2
        · exfalso
          obtain ⟨c, hc⟩ := Nat.dvd_lcm_left a b
          have hck : c < k := by
            rw [hc] at q2
            exact Nat.lt_of_mul_lt_mul_left q2
          have hc0 : 0 < c := by
            rcases Nat.eq_zero_or_pos c with z | z
            · rw [z, Nat.mul_zero] at hc
              have := Nat.lcm_pos ha hb
              omega
            · exact z
          exact h c hc0 hck (hc ▸ Nat.dvd_lcm_right a b)
        · omega
    rw [b28_2, if_neg (nI_ge hk (by omega)), if_neg (show ¬ nI b = nI 0 from nI_ne0 hb hb2), pk_mul, n_rem hak hb hb2]
    have hm := Nat.mod_lt (a * k) hb
    by_cases q : a * k % b = 0
    · have hdv := Nat.dvd_of_mod_eq_zero q
      have h1 : Nat.lcm a b ≤ a * k := Nat.le_of_dvd (Nat.mul_pos ha h0) (Nat.lcm_dvd (Nat.dvd_mul_right a k) hdv)
      have h2 : a * k ≤ Nat.lcm a b := by
        rcases Nat.lt_or_ge (Nat.lcm a b) (a * k) with q2 | q2
        · exfalso
          obtain ⟨c, hc⟩ := Nat.dvd_lcm_left a b
          have hck : c < k := by
            rw [hc] at q2
            exact Nat.lt_of_mul_lt_mul_left q2
          have hc0 : 0 < c := by
            rcases Nat.eq_zero_or_pos c with z | z
            · rw [z, Nat.mul_zero] at hc
              have := Nat.lcm_pos ha hb
              omega
            · exact z
          exact h c hc0 hck (hc ▸ Nat.dvd_lcm_right a b)
        · exact q2
      rw [if_pos (by rw [q]), show Nat.lcm a b = a * k by omega]
    · rw [if_neg (fun z => q ((nI_eq (by omega) (by omega)).mp z)), nI_add]
      refine l28 ha hb hb2 hL j (k + 1) (by omega) (by omega) (fun r h3 h4 => ?_)
      by_cases e2 : r = k
      · rw [e2]
        exact fun z => q (Nat.mod_eq_zero_of_dvd z)
      · exact h r h3 (by omega)
theorem c_lcm {a b : Nat} (ha : 0 < a) (hb : 0 < b) (hb2 : b < 2 ^ 31) (hL : Nat.lcm a b < 2 ^ 31) : ab_ev X d 28 [.inl (.int (nI a)), .inl (.int (nI b))] s = some (.inl (some (.inl (.int (nI (Nat.lcm a b))))), s) := by
  rw [b28]
  exact l28 ha hb hb2 hL (b - 1) 1 (by omega) (by omega) (fun q h1 h2 => by omega)
theorem pr_L (hn20 : n ≤ 20) (hf : ∀ k, k < n → f k < n) (hi : ∀ a b, a < n → b < n → f a = f b → a = b) : ∀ k, k ≤ n → pr f n k ∣ 232792560 ∧ 0 < pr f n k
  | 0, _ => ⟨Nat.one_dvd _, Nat.one_pos⟩
  | k + 1, h => by
    obtain ⟨a, b⟩ := pr_L hn20 hf hi k (by omega)
    have c1 := cyc_le hf hi (s := k) (by omega)
    have c2 := cyc_pos f n k
    exact ⟨Nat.lcm_dvd a (dvd_L _ (by omega) c2), Nat.lcm_pos b c2⟩
theorem l26 (h8 : sz s 8 = nI n) (hn20 : n ≤ 20) (h2 : ∀ k, k < n → sa s 2 k = nI (f k)) (hf : ∀ k, k < n → f k < n) (hi : ∀ a b, a < n → b < n → f a = f b → a = b) : ∀ (j k : Nat), k + j = n → ab_at X (d + 2) 26 4 [some (.inr (6, 0)), some (.inl (.int (nI (pr f n k)))), some (.inl (.int (nI k)))] [] s = some (.inl (some (.inl (.int (nI (pr f n n))))), s)
  | 0, k, e => by
    obtain rfl : k = n := by omega
    rw [b26_4, h8, if_pos (nI_le (Nat.le_refl _) (by omega))]
  | j + 1, k, e => by
    have hk : k < n := by omega
    obtain ⟨a1, a2⟩ := pr_L hn20 hf hi k (by omega)
    obtain ⟨b1, b2⟩ := pr_L hn20 hf hi (k + 1) (by omega)
    have c1 := cyc_le hf hi hk
    have b3 := Nat.le_of_dvd (by omega) b1
    rw [b26_4, h8, if_neg (nI_ge hk (by omega)), c_cycleOf hn20 h2 hf hi hk, e_bI, c_lcm a2 (cyc_pos f n k) (by omega) (by rw [pr] at b3; omega), e_bI, nI_add]
    exact l26 h8 hn20 h2 hf hi j (k + 1) (by omega)
theorem c_period (h8 : sz s 8 = nI n) (hn20 : n ≤ 20) (h2 : ∀ k, k < n → sa s 2 k = nI (f k)) (hf : ∀ k, k < n → f k < n) (hi : ∀ a b, a < n → b < n → f a = f b → a = b) : ab_ev X (d + 2) 26 [.inr (6, 0)] s = some (.inl (some (.inl (.int (nI (pr f n n))))), s) := by
  rw [b26]
  exact l26 h8 hn20 h2 hf hi n 0 (by omega)
end OU2
end
section
/-! How many bits. -/
/-- digits of w bits, the lowest first -/
def dg (w : Nat) : (Nat → Nat) → Nat → Nat
  | _, 0 => 0
  | d, k + 1 => d 0 + 2 ^ w * dg w (fun j => d (j + 1)) k
theorem dg_cong {w : Nat} : ∀ {k : Nat} {d e : Nat → Nat}, (∀ j, j < k → d j = e j) → dg w d k = dg w e k
  | 0, _, _, _ => rfl
  | k + 1, d, e, h => by rw [dg, dg, h 0 (by omega), dg_cong (fun j hj => h (j + 1) (by omega))]
theorem dg_lt {w : Nat} : ∀ {k : Nat} {d : Nat → Nat}, (∀ j, j < k → d j < 2 ^ w) → dg w d k < 2 ^ (w * k)
  | 0, d, _ => by rw [dg, Nat.mul_zero]; decide
  | k + 1, d, h => by
    have ih := dg_lt (w := w) (k := k) (d := fun j => d (j + 1)) (fun j hj => h (j + 1) (by omega))
    have h0 := h 0 (by omega)
    rw [dg, Nat.mul_succ, Nat.add_comm (w * k) w, Nat.pow_add]
    calc d 0 + 2 ^ w * dg w (fun j => d (j + 1)) k < 2 ^ w + 2 ^ w * dg w (fun j => d (j + 1)) k := by omega
      _ = 2 ^ w * (dg w (fun j => d (j + 1)) k + 1) := by rw [Nat.mul_add, Nat.mul_one, Nat.add_comm]
      _ ≤ 2 ^ w * 2 ^ (w * k) := Nat.mul_le_mul_left _ ih
theorem and_split {w a b q r : Nat} (ha : a < 2 ^ w) (hb : b < 2 ^ w) : (a + 2 ^ w * q) &&& (b + 2 ^ w * r) = (a &&& b) + 2 ^ w * (q &&& r) := by
  have hab : a &&& b < 2 ^ w := Nat.and_lt_two_pow a hb
  apply Nat.eq_of_testBit_eq
  intro i
  rw [Nat.testBit_and, Nat.add_comm a, Nat.add_comm b, Nat.add_comm (a &&& b), Nat.testBit_two_pow_mul_add q ha, Nat.testBit_two_pow_mul_add r hb, Nat.testBit_two_pow_mul_add (q &&& r) hab]
  split
  · rw [Nat.testBit_and]
  · rw [Nat.testBit_and]
theorem dg_and {w : Nat} : ∀ {k : Nat} {d e : Nat → Nat}, (∀ j, j < k → d j < 2 ^ w) → (∀ j, j < k → e j < 2 ^ w) → dg w d k &&& dg w e k = dg w (fun j => d j &&& e j) k
  | 0, _, _, _, _ => by
    show (0 : Nat) &&& 0 = 0
    rfl
  | k + 1, d, e, hd, he => by
    rw [dg, dg, dg, and_split (hd 0 (by omega)) (he 0 (by omega)), dg_and (fun j hj => hd (j + 1) (by omega)) (fun j hj => he (j + 1) (by omega))]
theorem dg_add {w : Nat} : ∀ {k : Nat} {d e : Nat → Nat}, dg w d k + dg w e k = dg w (fun j => d j + e j) k
  | 0, _, _ => rfl
  | k + 1, d, e => by
    rw [dg, dg, dg, ← dg_add, Nat.mul_add]
    omega
theorem dg_sub {w : Nat} : ∀ {k : Nat} {d e : Nat → Nat}, (∀ j, j < k → e j ≤ d j) → dg w e k ≤ dg w d k ∧ dg w d k - dg w e k = dg w (fun j => d j - e j) k := by
  intro k d e h
  have h1 : dg w e k + dg w (fun j => d j - e j) k = dg w d k := by
    rw [dg_add]
    exact dg_cong (fun j hj => by have := h j hj; omega)
  omega
theorem dg_shr {w k : Nat} {d : Nat → Nat} (h : d 0 < 2 ^ w) : dg w d (k + 1) / 2 ^ w = dg w (fun j => d (j + 1)) k := by
  rw [dg, Nat.add_mul_div_left _ _ (Nat.two_pow_pos w), Nat.div_eq_of_lt h, Nat.zero_add]
theorem dg_ext {w : Nat} : ∀ {k : Nat} {d : Nat → Nat}, d k = 0 → dg w d (k + 1) = dg w d k
  | 0, d, h => by
    show d 0 + 2 ^ w * 0 = 0
    rw [h]
    rfl
  | k + 1, d, h => by
    show d 0 + 2 ^ w * dg w (fun j => d (j + 1)) (k + 1) = d 0 + 2 ^ w * dg w (fun j => d (j + 1)) k
    rw [dg_ext (d := fun j => d (j + 1)) h]
theorem dg_pair {w : Nat} : ∀ {k : Nat} {d : Nat → Nat}, dg w d (2 * k) = dg (w + w) (fun j => d (2 * j) + 2 ^ w * d (2 * j + 1)) k
  | 0, _ => rfl
  | k + 1, d => by
    rw [show 2 * (k + 1) = 2 * k + 1 + 1 by omega, dg, dg, dg, dg_pair, Nat.pow_add, Nat.mul_add, ← Nat.mul_assoc, ← Nat.add_assoc]
    rfl
theorem dg_bits (M : Nat) : ∀ k, dg 1 (fun j => (M.testBit j).toNat) k = M % 2 ^ k
  | 0 => by rw [dg, Nat.pow_zero, Nat.mod_one]
  | k + 1 => by
    have h := dg_bits (M / 2) k
    have e : ∀ j, (M / 2).testBit j = M.testBit (j + 1) := fun j => (Nat.testBit_succ M j).symm
    simp only [e] at h
    have h2 : (decide (M % 2 = 1)).toNat = M % 2 := by
      rcases Nat.mod_two_eq_zero_or_one M with q | q <;> rw [q] <;> rfl
    show (M.testBit 0).toNat + 2 ^ 1 * dg 1 (fun j => (M.testBit (j + 1)).toNat) k = _
    have h3 : (2 : Nat) ^ (k + 1) = 2 * 2 ^ k := Nat.pow_succ'
    rw [h, Nat.testBit_zero, h2, h3, Nat.mod_mul]
/-- every second digit, and half as many, twice as wide -/
theorem dg_half {w k : Nat} {d : Nat → Nat} : dg w (fun j => if j % 2 = 0 then d j else 0) (2 * k) = dg (w + w) (fun j => d (2 * j)) k := by
  rw [dg_pair]
  refine dg_cong (fun j hj => ?_)
  rw [if_pos (by omega), if_neg (by omega), Nat.mul_zero, Nat.add_zero]
theorem and_all {w x : Nat} (h : x < 2 ^ w) : x &&& (2 ^ w - 1) = x := by rw [Nat.and_two_pow_sub_one_eq_mod, Nat.mod_eq_of_lt h]
theorem dg_mask {w k : Nat} {d : Nat → Nat} (h : ∀ j, j < 2 * k → d j < 2 ^ w) : dg w d (2 * k) &&& dg w (fun j => if j % 2 = 0 then 2 ^ w - 1 else 0) (2 * k) = dg (w + w) (fun j => d (2 * j)) k := by
  have hp := Nat.two_pow_pos w
  rw [dg_and h (fun j hj => by split <;> omega), ← dg_half (w := w) (k := k) (d := d)]
  refine dg_cong (fun j hj => ?_)
  split
  · exact and_all (h j hj)
  · exact Nat.and_zero _
/-- half of the counting: fields of w bits to fields of 2w bits -/
theorem dg_fold {w k : Nat} {d : Nat → Nat} (h : ∀ j, j < 2 * k → d j < 2 ^ w) (hz : d (2 * k) = 0) : (dg w d (2 * k) &&& dg w (fun j => if j % 2 = 0 then 2 ^ w - 1 else 0) (2 * k)) + (dg w d (2 * k) / 2 ^ w &&& dg w (fun j => if j % 2 = 0 then 2 ^ w - 1 else 0) (2 * k)) = dg (w + w) (fun j => d (2 * j) + d (2 * j + 1)) k := by
  have e : dg w d (2 * k) / 2 ^ w = dg w (fun j => d (j + 1)) (2 * k) := by
    rw [← dg_ext hz, dg_shr]
    rcases Nat.eq_zero_or_pos k with q | q
    · subst q
      rw [show d 0 = 0 from hz]
      exact Nat.two_pow_pos w
    · exact h 0 (by omega)
  rw [e, dg_mask h, dg_mask (d := fun j => d (j + 1)) (fun j hj => by
    by_cases q : j + 1 < 2 * k
    · exact h _ q
    · have : j + 1 = 2 * k := by omega
      rw [this, hz]
      exact Nat.two_pow_pos w), dg_add]
/-- the sum of digits -/
def ds (d : Nat → Nat) : Nat → Nat
  | 0 => 0
  | k + 1 => ds d k + d k
theorem ds_pair {d : Nat → Nat} : ∀ k, ds (fun j => d (2 * j) + d (2 * j + 1)) k = ds d (2 * k)
  | 0 => rfl
  | k + 1 => by
    rw [ds, ds_pair k, show 2 * (k + 1) = 2 * k + 1 + 1 by omega, ds, ds]
    omega
theorem ds_ct (p : Nat → Bool) : ∀ k, ds (fun j => (p j).toNat) k = fb_ct p k
  | 0 => rfl
  | k + 1 => by
    rw [ds, ds_ct p k, fb_ct_succ]
    cases p k <;> rfl
end
section
/-! The latest deed undone. -/
section UND
variable {X : (Nat → Int32) × Nat} {d i n : Nat} {nm : Nat → Nat} {s : ab_S} {m : Nat}
theorem c_und1_ {a b c : Int32} (hm : si s 9 i = nI m) (h10 : m ≤ 10) (h0 : 0 < m) (hk : sA s 8 i (4 * (m - 1)) = nI 1) (ha : sA s 8 i (4 * (m - 1) + 1) = a) (hb : sA s 8 i (4 * (m - 1) + 2) = b) (hc : sA s 8 i (4 * (m - 1) + 3) = c) : ab_ev X (d + 6) 145 [.inr (2, i), .inr (6, 0)] s = ab_at X (d + 6) 145 80 [some (.inr (2, i)), some (.inr (6, 0)), some (.inl (.int a)), some (.inl (.int b)), some (.inl (.int c))] [] s := by
  have hk : sA s 8 i (4 * (m - 1) + 0) = nI 1 := hk
  rw [b145, c_ofLatest hm h10 h0 (by omega), e_bI, c_ofLatest hm h10 h0 (by omega), e_bI, c_ofLatest hm h10 h0 (by omega), e_bI, c_ofLatest hm h10 h0 (by omega), e_bI, hk, ha, hb, hc, b145_36, if_pos rfl]
theorem c_und2_ {a b c : Int32} (hm : si s 9 i = nI m) (h10 : m ≤ 10) (h0 : 0 < m) (hk : sA s 8 i (4 * (m - 1)) = nI 2) (ha : sA s 8 i (4 * (m - 1) + 1) = a) (hb : sA s 8 i (4 * (m - 1) + 2) = b) (hc : sA s 8 i (4 * (m - 1) + 3) = c) : ab_ev X (d + 6) 145 [.inr (2, i), .inr (6, 0)] s = ab_at X (d + 6) 145 110 [some (.inr (2, i)), some (.inr (6, 0)), some (.inl (.int a)), some (.inl (.int b)), some (.inl (.int c))] [] s := by
  have hk : sA s 8 i (4 * (m - 1) + 0) = nI 2 := hk
  rw [b145, c_ofLatest hm h10 h0 (by omega), e_bI, c_ofLatest hm h10 h0 (by omega), e_bI, c_ofLatest hm h10 h0 (by omega), e_bI, c_ofLatest hm h10 h0 (by omega), e_bI, hk, ha, hb, hc, b145_36, if_neg (by decide), if_pos rfl]
theorem c_und3_ {a b c : Int32} (hm : si s 9 i = nI m) (h10 : m ≤ 10) (h0 : 0 < m) (hk : sA s 8 i (4 * (m - 1)) = nI 3) (ha : sA s 8 i (4 * (m - 1) + 1) = a) (hb : sA s 8 i (4 * (m - 1) + 2) = b) (hc : sA s 8 i (4 * (m - 1) + 3) = c) : ab_ev X (d + 6) 145 [.inr (2, i), .inr (6, 0)] s = ab_at X (d + 6) 145 122 [some (.inr (2, i)), some (.inr (6, 0)), some (.inl (.int a)), some (.inl (.int b)), some (.inl (.int c))] [] s := by
  have hk : sA s 8 i (4 * (m - 1) + 0) = nI 3 := hk
  rw [b145, c_ofLatest hm h10 h0 (by omega), e_bI, c_ofLatest hm h10 h0 (by omega), e_bI, c_ofLatest hm h10 h0 (by omega), e_bI, c_ofLatest hm h10 h0 (by omega), e_bI, hk, ha, hb, hc, b145_36, if_neg (by decide), if_neg (by decide), if_pos rfl]
theorem c_und4_ {a b c : Int32} (hm : si s 9 i = nI m) (h10 : m ≤ 10) (h0 : 0 < m) (hk : sA s 8 i (4 * (m - 1)) = nI 4) (ha : sA s 8 i (4 * (m - 1) + 1) = a) (hb : sA s 8 i (4 * (m - 1) + 2) = b) (hc : sA s 8 i (4 * (m - 1) + 3) = c) : ab_ev X (d + 6) 145 [.inr (2, i), .inr (6, 0)] s = ab_at X (d + 6) 145 131 [some (.inr (2, i)), some (.inr (6, 0)), some (.inl (.int a)), some (.inl (.int b)), some (.inl (.int c))] [] s := by
  have hk : sA s 8 i (4 * (m - 1) + 0) = nI 4 := hk
  rw [b145, c_ofLatest hm h10 h0 (by omega), e_bI, c_ofLatest hm h10 h0 (by omega), e_bI, c_ofLatest hm h10 h0 (by omega), e_bI, c_ofLatest hm h10 h0 (by omega), e_bI, hk, ha, hb, hc, b145_36, if_neg (by decide), if_neg (by decide), if_neg (by decide), if_pos rfl]
theorem c_und5_ {a b c : Int32} (hm : si s 9 i = nI m) (h10 : m ≤ 10) (h0 : 0 < m) (hk : sA s 8 i (4 * (m - 1)) = nI 5) (ha : sA s 8 i (4 * (m - 1) + 1) = a) (hb : sA s 8 i (4 * (m - 1) + 2) = b) (hc : sA s 8 i (4 * (m - 1) + 3) = c) : ab_ev X (d + 6) 145 [.inr (2, i), .inr (6, 0)] s = ab_at X (d + 6) 145 144 [some (.inr (2, i)), some (.inr (6, 0)), some (.inl (.int a)), some (.inl (.int b)), some (.inl (.int c))] [] s := by
  have hk : sA s 8 i (4 * (m - 1) + 0) = nI 5 := hk
  rw [b145, c_ofLatest hm h10 h0 (by omega), e_bI, c_ofLatest hm h10 h0 (by omega), e_bI, c_ofLatest hm h10 h0 (by omega), e_bI, c_ofLatest hm h10 h0 (by omega), e_bI, hk, ha, hb, hc, b145_36, if_neg (by decide), if_neg (by decide), if_neg (by decide), if_neg (by decide), if_pos rfl]
theorem c_und6_ {a b c : Int32} (hm : si s 9 i = nI m) (h10 : m ≤ 10) (h0 : 0 < m) (hk : sA s 8 i (4 * (m - 1)) = nI 6) (ha : sA s 8 i (4 * (m - 1) + 1) = a) (hb : sA s 8 i (4 * (m - 1) + 2) = b) (hc : sA s 8 i (4 * (m - 1) + 3) = c) : ab_ev X (d + 6) 145 [.inr (2, i), .inr (6, 0)] s = ab_at X (d + 6) 145 158 [some (.inr (2, i)), some (.inr (6, 0)), some (.inl (.int a)), some (.inl (.int b)), some (.inl (.int c))] [] s := by
  have hk : sA s 8 i (4 * (m - 1) + 0) = nI 6 := hk
  rw [b145, c_ofLatest hm h10 h0 (by omega), e_bI, c_ofLatest hm h10 h0 (by omega), e_bI, c_ofLatest hm h10 h0 (by omega), e_bI, c_ofLatest hm h10 h0 (by omega), e_bI, hk, ha, hb, hc, b145_36, if_neg (by decide), if_neg (by decide), if_neg (by decide), if_neg (by decide), if_neg (by decide), if_pos rfl]
theorem c_und7_ {a b c : Int32} (hm : si s 9 i = nI m) (h10 : m ≤ 10) (h0 : 0 < m) (hk : sA s 8 i (4 * (m - 1)) = nI 7) (ha : sA s 8 i (4 * (m - 1) + 1) = a) (hb : sA s 8 i (4 * (m - 1) + 2) = b) (hc : sA s 8 i (4 * (m - 1) + 3) = c) : ab_ev X (d + 6) 145 [.inr (2, i), .inr (6, 0)] s = ab_at X (d + 6) 145 173 [some (.inr (2, i)), some (.inr (6, 0)), some (.inl (.int a)), some (.inl (.int b)), some (.inl (.int c))] [] s := by
  have hk : sA s 8 i (4 * (m - 1) + 0) = nI 7 := hk
  rw [b145, c_ofLatest hm h10 h0 (by omega), e_bI, c_ofLatest hm h10 h0 (by omega), e_bI, c_ofLatest hm h10 h0 (by omega), e_bI, c_ofLatest hm h10 h0 (by omega), e_bI, hk, ha, hb, hc, b145_36, if_neg (by decide), if_neg (by decide), if_neg (by decide), if_neg (by decide), if_neg (by decide), if_neg (by decide), if_pos rfl]
theorem c_und1 {nr : Nat} {z : Nat → Nat} {st : Nat → Nat → Nat} {bm : Nat} {by' : Nat → Int32} {a b c : Int32} (h : TW s i n nm nr z st bm by') (hm : si s 9 i = nI m) (h10 : m ≤ 10) (h0 : 0 < m) (hk : sA s 8 i (4 * (m - 1)) = nI 1) (ha : sA s 8 i (4 * (m - 1) + 1) = a) (hb : sA s 8 i (4 * (m - 1) + 2) = b) (hc : sA s 8 i (4 * (m - 1) + 3) = c) : ∃ (s1 : ab_S) (G : Nat → Int32), ab_ev X (d + 6) 145 [.inr (2, i), .inr (6, 0)] s = some (.inl none, wi (wi (wi (wA s1 0 i G) 4 i (si s 4 i - a)) 5 i (si s 5 i - b)) 9 i (nI (m - 1))) ∧ sO s s1 ∧ (∀ q, q < n → G q = nI (nm (ah (to_ nr z st bm by') n q (- -b).toInt))) ∧ (∀ q, n ≤ q → G q = sA s 0 i q) := by
  obtain ⟨s1, G, g1, g2, g3, g4⟩ := c_goOn (X := X) (d := d + 1) (x := -b) h
  refine ⟨s1, G, ?_, g2, g3, g4⟩
  have q1 : si s1 = si s := g2.2.2.2.1
  rw [c_und1_ hm h10 h0 hk ha hb hc, b145_80, g1, e_bU, b145_195]
  simp (disch := omega) only [E0]
  rw [c_dropLatest (m := m) (by simp (disch := omega) only [E0]; rw [q1]; exact hm) h10 h0, e_bU, q1]
theorem c_und2 {a : Nat} {b c : Int32} (hm : si s 9 i = nI m) (h10 : m ≤ 10) (h0 : 0 < m) (hk : sA s 8 i (4 * (m - 1)) = nI 2) (ha : sA s 8 i (4 * (m - 1) + 1) = nI a) (hb : sA s 8 i (4 * (m - 1) + 2) = b) (hc : sA s 8 i (4 * (m - 1) + 3) = c) (h20 : a < 20) : ab_ev X (d + 6) 145 [.inr (2, i), .inr (6, 0)] s = some (.inl none, wi (wA s 0 i (va_up (sA s 0 i) a b)) 9 i (nI (m - 1))) := by
  rw [c_und2_ hm h10 h0 hk ha hb hc, b145_110, put19 h20, e_bU, b145_195, c_dropLatest (s := wA s 0 i (va_up (sA s 0 i) a b)) (m := m) hm h10 h0, e_bU]
theorem c_und3 {a b : Nat} {c : Int32} (hm : si s 9 i = nI m) (h10 : m ≤ 10) (h0 : 0 < m) (hk : sA s 8 i (4 * (m - 1)) = nI 3) (ha : sA s 8 i (4 * (m - 1) + 1) = nI a) (hb : sA s 8 i (4 * (m - 1) + 2) = nI b) (hc : sA s 8 i (4 * (m - 1) + 3) = c) (h20 : a < 20) (h21 : b < 20) : ab_ev X (d + 6) 145 [.inr (2, i), .inr (6, 0)] s = some (.inl none, wi (wA s 0 i (va_up (va_up (sA s 0 i) a (sA s 0 i b)) b (sA s 0 i a))) 9 i (nI (m - 1))) := by
  rw [c_und3_ hm h10 h0 hk ha hb hc, b145_122, c_swapNames h20 h21, e_bU, b145_195, c_dropLatest (s := wA s 0 i (va_up (va_up (sA s 0 i) a (sA s 0 i b)) b (sA s 0 i a))) (m := m) hm h10 h0, e_bU]
theorem c_und4 {a : Int32} {r p z : Nat} (hm : si s 9 i = nI m) (h10 : m ≤ 10) (h0 : 0 < m) (hk : sA s 8 i (4 * (m - 1)) = nI 4) (ha : sA s 8 i (4 * (m - 1) + 1) = a) (hb : sA s 8 i (4 * (m - 1) + 2) = nI r) (hc : sA s 8 i (4 * (m - 1) + 3) = nI p) (hr : r < 4) (hz : sA s 4 i r = nI z) (h20 : z ≤ 20) (hp : p < z) : ab_ev X (d + 6) 145 [.inr (2, i), .inr (6, 0)] s = some (.inl none, wi (wA (wA s 3 i (del (sA s 3 i) (20 * r) z p)) 4 i (va_up (sA s 4 i) r (nI (z - 1)))) 9 i (nI (m - 1))) := by
  rw [c_und4_ hm h10 h0 hk ha hb hc, b145_131, c_remove hr hz h20 hp, e_bU, b145_195, c_dropLatest (s := wA (wA s 3 i (del (sA s 3 i) (20 * r) z p)) 4 i (va_up (sA s 4 i) r (nI (z - 1)))) (m := m) hm h10 h0, e_bU]
theorem c_und5 {a : Int32} {r p z : Nat} (hm : si s 9 i = nI m) (h10 : m ≤ 10) (h0 : 0 < m) (hk : sA s 8 i (4 * (m - 1)) = nI 5) (ha : sA s 8 i (4 * (m - 1) + 1) = a) (hb : sA s 8 i (4 * (m - 1) + 2) = nI r) (hc : sA s 8 i (4 * (m - 1) + 3) = nI p) (hr : r < 4) (hz : sA s 4 i r = nI z) (h20 : z < 20) (hp : p ≤ z) : ab_ev X (d + 6) 145 [.inr (2, i), .inr (6, 0)] s = some (.inl none, wi (wA (wA s 3 i (ins (sA s 3 i) (20 * r) z p a)) 4 i (va_up (sA s 4 i) r (nI (z + 1)))) 9 i (nI (m - 1))) := by
  rw [c_und5_ hm h10 h0 hk ha hb hc, b145_144, c_insert hr hz h20 hp, e_bU, b145_195, c_dropLatest (s := wA (wA s 3 i (ins (sA s 3 i) (20 * r) z p a)) 4 i (va_up (sA s 4 i) r (nI (z + 1)))) (m := m) hm h10 h0, e_bU]
theorem c_und6 {a bm : Nat} {b c : Int32} (hm : si s 9 i = nI m) (h10 : m ≤ 10) (h0 : 0 < m) (hk : sA s 8 i (4 * (m - 1)) = nI 6) (ha : sA s 8 i (4 * (m - 1) + 1) = nI a) (hb : sA s 8 i (4 * (m - 1) + 2) = b) (hc : sA s 8 i (4 * (m - 1) + 3) = c) (h20 : a < 20) (hbm : si s 6 i = nI bm) : ab_ev X (d + 6) 145 [.inr (2, i), .inr (6, 0)] s = some (.inl none, wi (wi s 6 i (nI (bm ^^^ 2 ^ a))) 9 i (nI (m - 1))) := by
  rw [c_und6_ hm h10 h0 hk ha hb hc, b145_158, b145_195, hbm, n_sh _ (by omega), n_xor, c_dropLatest (s := wi s 6 i (nI (bm ^^^ 2 ^ a))) (m := m) (by simp (disch := omega) only [E0]; exact hm) h10 h0, e_bU]
theorem c_und7 {a : Nat} {b c : Int32} (hm : si s 9 i = nI m) (h10 : m ≤ 10) (h0 : 0 < m) (hk : sA s 8 i (4 * (m - 1)) = nI 7) (ha : sA s 8 i (4 * (m - 1) + 1) = nI a) (hb : sA s 8 i (4 * (m - 1) + 2) = b) (hc : sA s 8 i (4 * (m - 1) + 3) = c) (h20 : a < 8) : ab_ev X (d + 6) 145 [.inr (2, i), .inr (6, 0)] s = some (.inl none, wi (wA (wA s 1 i (va_up (sA s 1 i) a b)) 2 i (va_up (sA s 2 i) a c)) 9 i (nI (m - 1))) := by
  rw [c_und7_ hm h10 h0 hk ha hb hc, b145_173, put20 h20, e_bU, put21 h20, e_bU, b145_195, c_dropLatest (s := wA (wA s 1 i (va_up (sA s 1 i) a b)) 2 i (va_up (sA (wA s 1 i (va_up (sA s 1 i) a b)) 2 i) a c)) (m := m) hm h10 h0, e_bU]
  rfl
end UND
end
section
section BC32
variable {M : Nat}
def bc32_c (M j : Nat) : Nat := (M.testBit j).toNat
def bc32_p (M j : Nat) : Nat := bc32_c M (2 * j) + bc32_c M (2 * j + 1)
def bc32_q (M j : Nat) : Nat := bc32_p M (2 * j) + bc32_p M (2 * j + 1)
def bc32_r (M j : Nat) : Nat := bc32_q M (2 * j) + bc32_q M (2 * j + 1)
theorem bc32_c1 (M j : Nat) : bc32_c M j ≤ 1 := by
  unfold bc32_c
  cases M.testBit j <;> decide
theorem bc32_p2 (M j : Nat) : bc32_p M j ≤ 2 := by
  have a := bc32_c1 M (2 * j)
  have b := bc32_c1 M (2 * j + 1)
  unfold bc32_p
  omega
theorem bc32_q4 (M j : Nat) : bc32_q M j ≤ 4 := by
  have a := bc32_p2 M (2 * j)
  have b := bc32_p2 M (2 * j + 1)
  unfold bc32_q
  omega
theorem bc32_r8 (M j : Nat) : bc32_r M j ≤ 8 := by
  have a := bc32_q4 M (2 * j)
  have b := bc32_q4 M (2 * j + 1)
  unfold bc32_r
  omega
theorem bc32_c0 (h : M < 2 ^ 32) {j : Nat} (hj : 32 ≤ j) : bc32_c M j = 0 := by
  unfold bc32_c
  rw [Nat.testBit_lt_two_pow (Nat.lt_of_lt_of_le h (Nat.pow_le_pow_right (by decide) hj))]
  rfl
theorem bc32_1 (h : M < 2 ^ 32) : (M / 2 &&& 1431655765) ≤ M ∧ M - (M / 2 &&& 1431655765) = dg 2 (bc32_p M) 16 := by
  have e : M = dg 1 (bc32_c M) (2 * 16) := by
    have q := dg_bits M 32
    rw [Nat.mod_eq_of_lt h] at q
    exact q.symm
  have hc : ∀ j, bc32_c M j < 2 ^ 1 := fun j => by have := bc32_c1 M j; omega
  have e2 : dg 1 (bc32_c M) (2 * 16) / 2 ^ 1 = dg 1 (fun j => bc32_c M (j + 1)) (2 * 16) := by
    rw [← dg_ext (d := bc32_c M) (bc32_c0 h (by omega)), dg_shr (hc 0)]
  have em : (1431655765 : Nat) = dg 1 (fun j => if j % 2 = 0 then 2 ^ 1 - 1 else 0) (2 * 16) := by decide +kernel
  have e3 : M / 2 &&& 1431655765 = dg 2 (fun j => bc32_c M (2 * j + 1)) 16 := by
    have q := dg_mask (w := 1) (k := 16) (d := fun j => bc32_c M (j + 1)) (fun j _ => hc _)
    rw [← em, ← e2, ← e] at q
    exact q
  have e4 : M = dg 2 (fun j => bc32_c M (2 * j) + 2 ^ 1 * bc32_c M (2 * j + 1)) 16 := e.trans dg_pair
  have q := dg_sub (w := 2) (k := 16) (d := fun j => bc32_c M (2 * j) + 2 ^ 1 * bc32_c M (2 * j + 1)) (e := fun j => bc32_c M (2 * j + 1)) (fun j _ => by omega)
  rw [← e4, ← e3] at q
  refine ⟨q.1, q.2.trans (dg_cong (fun j _ => ?_))⟩
  unfold bc32_p
  omega
theorem bc32_2 (h : M < 2 ^ 32) : (dg 2 (bc32_p M) 16 &&& 858993459) + (dg 2 (bc32_p M) 16 / 4 &&& 858993459) = dg 4 (bc32_q M) 8 := by
  have em : (858993459 : Nat) = dg 2 (fun j => if j % 2 = 0 then 2 ^ 2 - 1 else 0) (2 * 8) := by decide +kernel
  rw [em]
  refine dg_fold (w := 2) (k := 8) (d := bc32_p M) (fun j _ => by have := bc32_p2 M j; omega) ?_
  unfold bc32_p
  rw [bc32_c0 h (by omega), bc32_c0 h (by omega)]
theorem bc32_3 (h : M < 2 ^ 32) : (dg 4 (bc32_q M) 8 + dg 4 (bc32_q M) 8 / 16) &&& 252645135 = dg 8 (bc32_r M) 4 := by
  have em : (252645135 : Nat) = dg 4 (fun j => if j % 2 = 0 then 2 ^ 4 - 1 else 0) (2 * 4) := by decide +kernel
  have hz : bc32_q M 8 = 0 := by
    unfold bc32_q bc32_p
    rw [bc32_c0 h (by omega), bc32_c0 h (by omega), bc32_c0 h (by omega), bc32_c0 h (by omega)]
  have e2 : dg 4 (bc32_q M) 8 / 16 = dg 4 (fun j => bc32_q M (j + 1)) 8 := by
    rw [← dg_ext (d := bc32_q M) hz]
    exact dg_shr (w := 4) (by have := bc32_q4 M 0; omega)
  rw [e2, dg_add, em]
  exact dg_mask (w := 4) (k := 4) (d := fun j => bc32_q M j + bc32_q M (j + 1)) (fun j _ => by have := bc32_q4 M j; have := bc32_q4 M (j + 1); omega)
theorem bc32_r0 (h : M < 2 ^ 32) {j : Nat} (hj : 4 ≤ j) : bc32_r M j = 0 := by
  unfold bc32_r bc32_q bc32_p
  rw [bc32_c0 h (by omega), bc32_c0 h (by omega), bc32_c0 h (by omega), bc32_c0 h (by omega), bc32_c0 h (by omega), bc32_c0 h (by omega), bc32_c0 h (by omega), bc32_c0 h (by omega)]
theorem bc32_ds (M : Nat) : ds (bc32_r M) 4 = fb_ct (fun j => M.testBit j) 32 := by
  have a : ds (bc32_r M) 4 = ds (bc32_q M) (2 * 4) := ds_pair 4
  have b : ds (bc32_q M) 8 = ds (bc32_p M) (2 * 8) := ds_pair 8
  have c : ds (bc32_p M) 16 = ds (bc32_c M) (2 * 16) := ds_pair 16
  exact a.trans (b.trans (c.trans (ds_ct (fun j => M.testBit j) 32)))
theorem bc32_lt {d : Nat → Nat} {w k : Nat} (h : ∀ j, d j < 2 ^ w) (hk : w * k = 32) : dg w d k < 2 ^ 32 := by
  have := dg_lt (w := w) (k := k) (d := d) (fun j _ => h j)
  rwa [hk] at this
theorem bc32_sh (h : M < 2 ^ 32) {d : Nat → Nat} (hd : ∀ j, d j < 2 ^ 8) (hz : ∀ j, 4 ≤ j → d j = 0) : dg 8 d 4 / 256 = dg 8 (fun j => d (j + 1)) 4 := by
  rw [← dg_ext (d := d) (hz 4 (by omega))]
  exact dg_shr (w := 8) (hd 0)
end BC32
section BC64
variable {M : Nat}
def bc64_c (M j : Nat) : Nat := (M.testBit j).toNat
def bc64_p (M j : Nat) : Nat := bc64_c M (2 * j) + bc64_c M (2 * j + 1)
def bc64_q (M j : Nat) : Nat := bc64_p M (2 * j) + bc64_p M (2 * j + 1)
def bc64_r (M j : Nat) : Nat := bc64_q M (2 * j) + bc64_q M (2 * j + 1)
theorem bc64_c1 (M j : Nat) : bc64_c M j ≤ 1 := by
  unfold bc64_c
  cases M.testBit j <;> decide
theorem bc64_p2 (M j : Nat) : bc64_p M j ≤ 2 := by
  have a := bc64_c1 M (2 * j)
  have b := bc64_c1 M (2 * j + 1)
  unfold bc64_p
  omega
theorem bc64_q4 (M j : Nat) : bc64_q M j ≤ 4 := by
  have a := bc64_p2 M (2 * j)
  have b := bc64_p2 M (2 * j + 1)
  unfold bc64_q
  omega
theorem bc64_r8 (M j : Nat) : bc64_r M j ≤ 8 := by
  have a := bc64_q4 M (2 * j)
  have b := bc64_q4 M (2 * j + 1)
  unfold bc64_r
  omega
theorem bc64_c0 (h : M < 2 ^ 64) {j : Nat} (hj : 64 ≤ j) : bc64_c M j = 0 := by
  unfold bc64_c
  rw [Nat.testBit_lt_two_pow (Nat.lt_of_lt_of_le h (Nat.pow_le_pow_right (by decide) hj))]
  rfl
theorem bc64_1 (h : M < 2 ^ 64) : (M / 2 &&& 6148914691236517205) ≤ M ∧ M - (M / 2 &&& 6148914691236517205) = dg 2 (bc64_p M) 32 := by
  have e : M = dg 1 (bc64_c M) (2 * 32) := by
    have q := dg_bits M 64
    rw [Nat.mod_eq_of_lt h] at q
    exact q.symm
  have hc : ∀ j, bc64_c M j < 2 ^ 1 := fun j => by have := bc64_c1 M j; omega
  have e2 : dg 1 (bc64_c M) (2 * 32) / 2 ^ 1 = dg 1 (fun j => bc64_c M (j + 1)) (2 * 32) := by
    rw [← dg_ext (d := bc64_c M) (bc64_c0 h (by omega)), dg_shr (hc 0)]
  have em : (6148914691236517205 : Nat) = dg 1 (fun j => if j % 2 = 0 then 2 ^ 1 - 1 else 0) (2 * 32) := by decide +kernel
  have e3 : M / 2 &&& 6148914691236517205 = dg 2 (fun j => bc64_c M (2 * j + 1)) 32 := by
    have q := dg_mask (w := 1) (k := 32) (d := fun j => bc64_c M (j + 1)) (fun j _ => hc _)
    rw [← em, ← e2, ← e] at q
    exact q
  have e4 : M = dg 2 (fun j => bc64_c M (2 * j) + 2 ^ 1 * bc64_c M (2 * j + 1)) 32 := e.trans dg_pair
  have q := dg_sub (w := 2) (k := 32) (d := fun j => bc64_c M (2 * j) + 2 ^ 1 * bc64_c M (2 * j + 1)) (e := fun j => bc64_c M (2 * j + 1)) (fun j _ => by omega)
  rw [← e4, ← e3] at q
  refine ⟨q.1, q.2.trans (dg_cong (fun j _ => ?_))⟩
  unfold bc64_p
  omega
theorem bc64_2 (h : M < 2 ^ 64) : (dg 2 (bc64_p M) 32 &&& 3689348814741910323) + (dg 2 (bc64_p M) 32 / 4 &&& 3689348814741910323) = dg 4 (bc64_q M) 16 := by
  have em : (3689348814741910323 : Nat) = dg 2 (fun j => if j % 2 = 0 then 2 ^ 2 - 1 else 0) (2 * 16) := by decide +kernel
  rw [em]
  refine dg_fold (w := 2) (k := 16) (d := bc64_p M) (fun j _ => by have := bc64_p2 M j; omega) ?_
  unfold bc64_p
  rw [bc64_c0 h (by omega), bc64_c0 h (by omega)]
theorem bc64_3 (h : M < 2 ^ 64) : (dg 4 (bc64_q M) 16 + dg 4 (bc64_q M) 16 / 16) &&& 1085102592571150095 = dg 8 (bc64_r M) 8 := by
  have em : (1085102592571150095 : Nat) = dg 4 (fun j => if j % 2 = 0 then 2 ^ 4 - 1 else 0) (2 * 8) := by decide +kernel
  have hz : bc64_q M 16 = 0 := by
    unfold bc64_q bc64_p
    rw [bc64_c0 h (by omega), bc64_c0 h (by omega), bc64_c0 h (by omega), bc64_c0 h (by omega)]
  have e2 : dg 4 (bc64_q M) 16 / 16 = dg 4 (fun j => bc64_q M (j + 1)) 16 := by
    rw [← dg_ext (d := bc64_q M) hz]
    exact dg_shr (w := 4) (by have := bc64_q4 M 0; omega)
  rw [e2, dg_add, em]
  exact dg_mask (w := 4) (k := 8) (d := fun j => bc64_q M j + bc64_q M (j + 1)) (fun j _ => by have := bc64_q4 M j; have := bc64_q4 M (j + 1); omega)
theorem bc64_r0 (h : M < 2 ^ 64) {j : Nat} (hj : 8 ≤ j) : bc64_r M j = 0 := by
  unfold bc64_r bc64_q bc64_p
  rw [bc64_c0 h (by omega), bc64_c0 h (by omega), bc64_c0 h (by omega), bc64_c0 h (by omega), bc64_c0 h (by omega), bc64_c0 h (by omega), bc64_c0 h (by omega), bc64_c0 h (by omega)]
theorem bc64_ds (M : Nat) : ds (bc64_r M) 8 = fb_ct (fun j => M.testBit j) 64 := by
  have a : ds (bc64_r M) 8 = ds (bc64_q M) (2 * 8) := ds_pair 8
  have b : ds (bc64_q M) 16 = ds (bc64_p M) (2 * 16) := ds_pair 16
  have c : ds (bc64_p M) 32 = ds (bc64_c M) (2 * 32) := ds_pair 32
  exact a.trans (b.trans (c.trans (ds_ct (fun j => M.testBit j) 64)))
theorem bc64_lt {d : Nat → Nat} {w k : Nat} (h : ∀ j, d j < 2 ^ w) (hk : w * k = 64) : dg w d k < 2 ^ 64 := by
  have := dg_lt (w := w) (k := k) (d := d) (fun j _ => h j)
  rwa [hk] at this
theorem bc64_sh (h : M < 2 ^ 64) {d : Nat → Nat} (hd : ∀ j, d j < 2 ^ 8) (hz : ∀ j, 8 ≤ j → d j = 0) : dg 8 d 8 / 256 = dg 8 (fun j => d (j + 1)) 8 := by
  rw [← dg_ext (d := d) (hz 8 (by omega))]
  exact dg_shr (w := 8) (hd 0)
end BC64
end
section
/-! Counts of bits: the contracts. -/
theorem n_ush {M l : Nat} (h : M < 2 ^ 32) (hl : l < 32) : ((nI M).toUInt32 >>> ((nI l).toUInt32 &&& Int32.toUInt32 31)).toInt32 = nI (M / 2 ^ l) := by
  have e : ∀ l, l < 32 → (nI l).toUInt32 &&& Int32.toUInt32 31 = UInt32.ofNat l := by decide +kernel
  rw [e l hl]
  apply Int32.toBitVec_inj.1
  apply BitVec.eq_of_toNat_eq
  show (UInt32.ofNat M >>> UInt32.ofNat l).toNat = (BitVec.ofNat 32 (M / 2 ^ l)).toNat
  have hd : M / 2 ^ l ≤ M := Nat.div_le_self _ _
  rw [UInt32.toNat_shiftRight, UInt32.toNat_ofNat', UInt32.toNat_ofNat', BitVec.toNat_ofNat, Nat.shiftRight_eq_div_pow, Nat.mod_eq_of_lt h, Nat.mod_eq_of_lt (show l < 2 ^ 32 by omega), Nat.mod_eq_of_lt hl, Nat.mod_eq_of_lt (show M / 2 ^ l < 2 ^ 32 by omega)]
theorem l_ush {M l : Nat} (h : M < 2 ^ 64) (hl : l < 64) : ((lN M).toUInt64 >>> ((nI l).toInt64.toUInt64 &&& Int64.toUInt64 63)).toInt64 = lN (M / 2 ^ l) := by
  have e : ∀ l, l < 64 → (nI l).toInt64.toUInt64 &&& Int64.toUInt64 63 = UInt64.ofNat l := by decide +kernel
  rw [e l hl]
  apply Int64.toBitVec_inj.1
  apply BitVec.eq_of_toNat_eq
  show (UInt64.ofNat M >>> UInt64.ofNat l).toNat = (BitVec.ofNat 64 (M / 2 ^ l)).toNat
  have hd : M / 2 ^ l ≤ M := Nat.div_le_self _ _
  rw [UInt64.toNat_shiftRight, UInt64.toNat_ofNat', UInt64.toNat_ofNat', BitVec.toNat_ofNat, Nat.shiftRight_eq_div_pow, Nat.mod_eq_of_lt h, Nat.mod_eq_of_lt (show l < 2 ^ 64 by omega), Nat.mod_eq_of_lt hl, Nat.mod_eq_of_lt (show M / 2 ^ l < 2 ^ 64 by omega)]
theorem l_and (a b : Nat) : lN a &&& lN b = lN (a &&& b) := by
  apply Int64.toBitVec_inj.1
  show BitVec.ofNat 64 a &&& BitVec.ofNat 64 b = BitVec.ofNat 64 (a &&& b)
  apply BitVec.eq_of_getLsbD_eq
  intro i hi
  simp [hi]
theorem l_or (a b : Nat) : lN a ||| lN b = lN (a ||| b) := by
  apply Int64.toBitVec_inj.1
  show BitVec.ofNat 64 a ||| BitVec.ofNat 64 b = BitVec.ofNat 64 (a ||| b)
  apply BitVec.eq_of_getLsbD_eq
  intro i hi
  simp [hi]
theorem l_add (a b : Nat) : lN a + lN b = lN (a + b) := by
  apply Int64.toBitVec_inj.1
  show BitVec.ofNat 64 a + BitVec.ofNat 64 b = BitVec.ofNat 64 (a + b)
  exact (BitVec.ofNat_add a b).symm
theorem n_sub {a b : Nat} (h : b ≤ a) : nI a - nI b = nI (a - b) := by
  apply Int32.toBitVec_inj.1
  show BitVec.ofNat 32 a - BitVec.ofNat 32 b = BitVec.ofNat 32 (a - b)
  have e : BitVec.ofNat 32 a = BitVec.ofNat 32 (a - b) + BitVec.ofNat 32 b := by rw [← BitVec.ofNat_add, Nat.sub_add_cancel h]
  rw [e, BitVec.add_sub_cancel]
theorem l_sub {a b : Nat} (h : b ≤ a) : lN a - lN b = lN (a - b) := by
  apply Int64.toBitVec_inj.1
  show BitVec.ofNat 64 a - BitVec.ofNat 64 b = BitVec.ofNat 64 (a - b)
  have e : BitVec.ofNat 64 a = BitVec.ofNat 64 (a - b) + BitVec.ofNat 64 b := by rw [← BitVec.ofNat_add, Nat.sub_add_cancel h]
  rw [e, BitVec.add_sub_cancel]
theorem l_i (a : Nat) : (lN a).toInt32 = nI a := by
  apply Int32.toBitVec_inj.1
  show (BitVec.ofNat 64 a).signExtend 32 = BitVec.ofNat 32 a
  rw [BitVec.signExtend_eq_setWidth_of_le _ (by decide)]
  apply BitVec.eq_of_getLsbD_eq
  intro i hi
  simp [hi]
theorem c_ct32 {X : (Nat → Int32) × Nat} {d M : Nat} {s : ab_S} (h : M < 2 ^ 32) : ab_ev X d 37 [.inl (.int (nI M))] s = some (.inl (some (.inl (.int (nI (fb_ct (fun j => M.testBit j) 32))))), s) := by
  obtain ⟨a1, a2⟩ := bc32_1 h
  have g2 : dg 2 (bc32_p M) 16 < 2 ^ 32 := bc32_lt (fun j => by have := bc32_p2 M j; omega) (by decide)
  have g3 : dg 4 (bc32_q M) 8 < 2 ^ 32 := bc32_lt (fun j => by have := bc32_q4 M j; omega) (by decide)
  have r8 := bc32_r8 M
  have r0 : ∀ j, 4 ≤ j → bc32_r M j = 0 := fun j hj => bc32_r0 h hj
  have g4 : dg 8 (bc32_r M) 4 < 2 ^ 32 := bc32_lt (fun j => by have := r8 j; omega) (by decide)
  obtain ⟨u1, hu1⟩ : ∃ u : Nat → Nat, u = fun j => bc32_r M j + bc32_r M (j + 1) := ⟨_, rfl⟩
  have v1 : ∀ j, u1 j ≤ 16 := fun j => by
    have a := r8 j
    have b := r8 (j + 1)
    rw [hu1]
    show _ + _ ≤ _
    omega
  have z1 : ∀ j, 4 ≤ j → u1 j = 0 := fun j hj => by
    rw [hu1]
    show _ + _ = 0
    rw [r0 j hj, r0 (j + 1) (by omega)]
  have s1 : dg 8 (bc32_r M) 4 + dg 8 (bc32_r M) 4 / 2 ^ 8 = dg 8 u1 4 := by
    have y : ∀ t, dg 8 (bc32_r M) 4 / 256 ^ t = dg 8 (fun j => bc32_r M (j + t)) 4 := by
      intro t
      induction t with
      | zero => exact Nat.div_one _
      | succ t ih =>
        rw [Nat.pow_succ, ← Nat.div_div_eq_div_mul, ih]
        refine (bc32_sh (d := fun j => bc32_r M (j + t)) h (fun j => by have := r8 (j + t); show bc32_r M (j + t) < 2 ^ 8; omega) (fun j hj => r0 (j + t) (by omega))).trans (dg_cong (fun j _ => ?_))
        show bc32_r M (j + 1 + t) = bc32_r M (j + (t + 1))
        rw [show j + 1 + t = j + (t + 1) by omega]
    rw [show (2 : Nat) ^ 8 = 256 ^ 1 by decide, y, dg_add, hu1]
  have g5 : dg 8 u1 4 < 2 ^ 32 := bc32_lt (fun j => by have := v1 j; omega) (by decide)
  obtain ⟨u2, hu2⟩ : ∃ u : Nat → Nat, u = fun j => u1 j + u1 (j + 2) := ⟨_, rfl⟩
  have v2 : ∀ j, u2 j ≤ 32 := fun j => by
    have a := v1 j
    have b := v1 (j + 2)
    rw [hu2]
    show _ + _ ≤ _
    omega
  have z2 : ∀ j, 4 ≤ j → u2 j = 0 := fun j hj => by
    rw [hu2]
    show _ + _ = 0
    rw [z1 j hj, z1 (j + 2) (by omega)]
  have s2 : dg 8 (u1) 4 + dg 8 (u1) 4 / 2 ^ 16 = dg 8 u2 4 := by
    have y : ∀ t, dg 8 (u1) 4 / 256 ^ t = dg 8 (fun j => u1 (j + t)) 4 := by
      intro t
      induction t with
      | zero => exact Nat.div_one _
      | succ t ih =>
        rw [Nat.pow_succ, ← Nat.div_div_eq_div_mul, ih]
        refine (bc32_sh (d := fun j => u1 (j + t)) h (fun j => by have := v1 (j + t); show u1 (j + t) < 2 ^ 8; omega) (fun j hj => z1 (j + t) (by omega))).trans (dg_cong (fun j _ => ?_))
        show u1 (j + 1 + t) = u1 (j + (t + 1))
        rw [show j + 1 + t = j + (t + 1) by omega]
    rw [show (2 : Nat) ^ 16 = 256 ^ 2 by decide, y, dg_add, hu2]
  have g6 : dg 8 u2 4 < 2 ^ 32 := bc32_lt (fun j => by have := v2 j; omega) (by decide)
  have fin : dg 8 u2 4 % 64 = ds (bc32_r M) 4 := by
    have e : dg 8 u2 4 = u2 0 + 2 ^ 8 * dg 8 (fun j => u2 (j + 1)) 3 := rfl
    have w : u2 0 = ds (bc32_r M) 4 := by
      simp only [hu1, hu2, ds, Nat.reduceAdd]
      omega
    have := v2 0
    rw [e, ← w]
    omega
  rw [b37, n_ush h (by decide), n_and, Nat.pow_one, n_sub a1, a2]
  rw [b37_10, n_ush g2 (by decide), n_and, n_and, nI_add, show (2 : Nat) ^ 2 = 4 from rfl, bc32_2 h]
  rw [b37_24, n_ush g3 (by decide), nI_add, n_and, show (2 : Nat) ^ 4 = 16 from rfl, bc32_3 h]
  rw [b37_34, n_ush g4 (by decide), nI_add, s1]
  rw [b37_41, n_ush g5 (by decide), nI_add, s2]
  rw [b37_48, n_and, show (63 : Nat) = 2 ^ 6 - 1 from rfl, Nat.and_two_pow_sub_one_eq_mod, show (2 : Nat) ^ 6 = 64 from rfl, fin, bc32_ds]
theorem c_ct64 {X : (Nat → Int32) × Nat} {d M : Nat} {s : ab_S} (h : M < 2 ^ 64) : ab_ev X d 186 [.inl (.long (lN M))] s = some (.inl (some (.inl (.int (nI (fb_ct (fun j => M.testBit j) 64))))), s) := by
  obtain ⟨a1, a2⟩ := bc64_1 h
  have g2 : dg 2 (bc64_p M) 32 < 2 ^ 64 := bc64_lt (fun j => by have := bc64_p2 M j; omega) (by decide)
  have g3 : dg 4 (bc64_q M) 16 < 2 ^ 64 := bc64_lt (fun j => by have := bc64_q4 M j; omega) (by decide)
  have r8 := bc64_r8 M
  have r0 : ∀ j, 8 ≤ j → bc64_r M j = 0 := fun j hj => bc64_r0 h hj
  have g4 : dg 8 (bc64_r M) 8 < 2 ^ 64 := bc64_lt (fun j => by have := r8 j; omega) (by decide)
  obtain ⟨u1, hu1⟩ : ∃ u : Nat → Nat, u = fun j => bc64_r M j + bc64_r M (j + 1) := ⟨_, rfl⟩
  have v1 : ∀ j, u1 j ≤ 16 := fun j => by
    have a := r8 j
    have b := r8 (j + 1)
    rw [hu1]
    show _ + _ ≤ _
    omega
  have z1 : ∀ j, 8 ≤ j → u1 j = 0 := fun j hj => by
    rw [hu1]
    show _ + _ = 0
    rw [r0 j hj, r0 (j + 1) (by omega)]
  have s1 : dg 8 (bc64_r M) 8 + dg 8 (bc64_r M) 8 / 2 ^ 8 = dg 8 u1 8 := by
    have y : ∀ t, dg 8 (bc64_r M) 8 / 256 ^ t = dg 8 (fun j => bc64_r M (j + t)) 8 := by
      intro t
      induction t with
      | zero => exact Nat.div_one _
      | succ t ih =>
        rw [Nat.pow_succ, ← Nat.div_div_eq_div_mul, ih]
        refine (bc64_sh (d := fun j => bc64_r M (j + t)) h (fun j => by have := r8 (j + t); show bc64_r M (j + t) < 2 ^ 8; omega) (fun j hj => r0 (j + t) (by omega))).trans (dg_cong (fun j _ => ?_))
        show bc64_r M (j + 1 + t) = bc64_r M (j + (t + 1))
        rw [show j + 1 + t = j + (t + 1) by omega]
    rw [show (2 : Nat) ^ 8 = 256 ^ 1 by decide, y, dg_add, hu1]
  have g5 : dg 8 u1 8 < 2 ^ 64 := bc64_lt (fun j => by have := v1 j; omega) (by decide)
  obtain ⟨u2, hu2⟩ : ∃ u : Nat → Nat, u = fun j => u1 j + u1 (j + 2) := ⟨_, rfl⟩
  have v2 : ∀ j, u2 j ≤ 32 := fun j => by
    have a := v1 j
    have b := v1 (j + 2)
    rw [hu2]
    show _ + _ ≤ _
    omega
  have z2 : ∀ j, 8 ≤ j → u2 j = 0 := fun j hj => by
    rw [hu2]
    show _ + _ = 0
    rw [z1 j hj, z1 (j + 2) (by omega)]
  have s2 : dg 8 (u1) 8 + dg 8 (u1) 8 / 2 ^ 16 = dg 8 u2 8 := by
    have y : ∀ t, dg 8 (u1) 8 / 256 ^ t = dg 8 (fun j => u1 (j + t)) 8 := by
      intro t
      induction t with
      | zero => exact Nat.div_one _
      | succ t ih =>
        rw [Nat.pow_succ, ← Nat.div_div_eq_div_mul, ih]
        refine (bc64_sh (d := fun j => u1 (j + t)) h (fun j => by have := v1 (j + t); show u1 (j + t) < 2 ^ 8; omega) (fun j hj => z1 (j + t) (by omega))).trans (dg_cong (fun j _ => ?_))
        show u1 (j + 1 + t) = u1 (j + (t + 1))
        rw [show j + 1 + t = j + (t + 1) by omega]
    rw [show (2 : Nat) ^ 16 = 256 ^ 2 by decide, y, dg_add, hu2]
  have g6 : dg 8 u2 8 < 2 ^ 64 := bc64_lt (fun j => by have := v2 j; omega) (by decide)
  obtain ⟨u3, hu3⟩ : ∃ u : Nat → Nat, u = fun j => u2 j + u2 (j + 4) := ⟨_, rfl⟩
  have v3 : ∀ j, u3 j ≤ 64 := fun j => by
    have a := v2 j
    have b := v2 (j + 4)
    rw [hu3]
    show _ + _ ≤ _
    omega
  have z3 : ∀ j, 8 ≤ j → u3 j = 0 := fun j hj => by
    rw [hu3]
    show _ + _ = 0
    rw [z2 j hj, z2 (j + 4) (by omega)]
  have s3 : dg 8 (u2) 8 + dg 8 (u2) 8 / 2 ^ 32 = dg 8 u3 8 := by
    have y : ∀ t, dg 8 (u2) 8 / 256 ^ t = dg 8 (fun j => u2 (j + t)) 8 := by
      intro t
      induction t with
      | zero => exact Nat.div_one _
      | succ t ih =>
        rw [Nat.pow_succ, ← Nat.div_div_eq_div_mul, ih]
        refine (bc64_sh (d := fun j => u2 (j + t)) h (fun j => by have := v2 (j + t); show u2 (j + t) < 2 ^ 8; omega) (fun j hj => z2 (j + t) (by omega))).trans (dg_cong (fun j _ => ?_))
        show u2 (j + 1 + t) = u2 (j + (t + 1))
        rw [show j + 1 + t = j + (t + 1) by omega]
    rw [show (2 : Nat) ^ 32 = 256 ^ 4 by decide, y, dg_add, hu3]
  have g7 : dg 8 u3 8 < 2 ^ 64 := bc64_lt (fun j => by have := v3 j; omega) (by decide)
  have fin : dg 8 u3 8 % 128 = ds (bc64_r M) 8 := by
    have e : dg 8 u3 8 = u3 0 + 2 ^ 8 * dg 8 (fun j => u3 (j + 1)) 7 := rfl
    have w : u3 0 = ds (bc64_r M) 8 := by
      simp only [hu1, hu2, hu3, ds, Nat.reduceAdd]
      omega
    have := v3 0
    rw [e, ← w]
    omega
  rw [b186, l_ush h (by decide), l_and, Nat.pow_one, l_sub a1, a2]
  rw [b186_10, l_ush g2 (by decide), l_and, l_and, l_add, show (2 : Nat) ^ 2 = 4 from rfl, bc64_2 h]
  rw [b186_24, l_ush g3 (by decide), l_add, l_and, show (2 : Nat) ^ 4 = 16 from rfl, bc64_3 h]
  rw [b186_34, l_ush g4 (by decide), l_add, s1]
  rw [b186_41, l_ush g5 (by decide), l_add, s2]
  rw [b186_48, l_ush g6 (by decide), l_add, s3]
  rw [b186_55, l_i, n_and, show (127 : Nat) = 2 ^ 7 - 1 from rfl, Nat.and_two_pow_sub_one_eq_mod, show (2 : Nat) ^ 7 = 128 from rfl, fin, bc64_ds]
end
