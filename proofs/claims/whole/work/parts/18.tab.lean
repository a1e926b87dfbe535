/-! What a method's table does with what was thrown. -/
noncomputable def ab_zOK (o : Nat) : List (Nat × Nat × Nat × Nat) → List (Nat × Nat × Nat × Nat) → Bool
  | [], [] => true
  | (a, b, h, E) :: hs, (a', b', h', t) :: hw => Nat.beq a a' && Nat.beq b b' && Nat.beq h h' && !Nat.beq t 0 && Nat.blt E 4 && lw_tbl.any (fun w => decide (w = Cond.classLink (ab_cnm o) t (ab_exn E))) && ab_zOK o hs hw
  | _, _ => false
theorem ab_hwT : (List.range 361).all (fun m => ab_zOK (ab_ow m) (ab_hs m) (ab_hw m)) = true := by decide +kernel
theorem ab_castE : (List.range 4).all (fun E => lw_tbl.any (fun w => decide (w = Cond.castable (ab_exn E) (ab_exn E)))) = true := by decide +kernel
theorem ab_ncsT : (List.range 4).all (fun E => (List.range 4).all (fun e => Nat.beq E e || ab_ncs.any (fun z => decide (z = (E, e))))) = true := by decide +kernel
