/-! What is refused where nothing is. -/
theorem inS_0 (x : Int32) : inS x 0 = false := by
  rw [Bool.eq_false_iff]
  intro h
  have := inS_def.mp h
  omega
section THX
variable {X : (Nat → Int32) × Nat} {d : Nat} {s : ab_S}
theorem n0_86 {x : Int32} (h0 : si s 1 0 = nI 0) : ab_ev X d 86 [.inr (0, 0), .inl (.int x)] s = some (.inr 1, ths s) := by
  rw [c_n86 (n := 0) h0 (by decide), inS_0, if_neg (by decide)]
theorem n0_91 {x : Int32} (h0 : si s 7 0 = nI 0) : ab_ev X d 91 [.inr (0, 0), .inl (.int x)] s = some (.inr 1, ths s) := by
  rw [c_n91 (n := 0) h0 (by decide), inS_0, if_neg (by decide)]
theorem n0_95 {x : Int32} (h0 : si s 3 0 = nI 0) : ab_ev X d 95 [.inr (0, 0), .inl (.int x)] s = some (.inr 1, ths s) := by
  rw [c_n95 (n := 0) h0 (by decide), inS_0, if_neg (by decide)]
theorem n0_98 {x : Int32} (h0 : si s 1 0 = nI 0) : ab_ev X d 98 [.inr (0, 0), .inl (.int x)] s = some (.inr 1, ths s) := by
  rw [c_n98 (n := 0) h0 (by decide), inS_0, if_neg (by decide)]
theorem n0_127 {x y : Int32} (h0 : si s 1 0 = nI 0) : ab_ev X (d + 1) 127 [.inr (0, 0), .inl (.int x), .inl (.int y)] s = some (.inr 1, ths s) := by
  rw [b127, n0_86 h0, e_xU, e_px]
theorem n0_150 {x : Int32} (h0 : sq s 0 = fun _ => none) : ab_ev X d 150 [.inr (0, 0), .inl (.int x)] s = some (.inr (if inS x 4 = true then 2 else 1), ths s) := by
  rw [c_n150, h0]
  by_cases h : inS x 4 = true
  · rw [if_pos h, if_pos h]
  · rw [if_neg h, if_neg h]
theorem t84 {X : (Nat → Int32) × Nat} {d : Nat} {s : ab_S} {x1 x2 : Int32} (h0 : si s 1 0 = nI 0) : ab_ev X (d + 2) 84 [.inr (0, 0), .inl (.int x1), .inl (.int x2), .inr (15, 0)] s = some (.inl (some (.inl (.int (nI 1)))), ths s) := by
  rw [b84, b85, n0_86 h0, e_xU, e_px, e_xI]
  rfl
theorem t89 {X : (Nat → Int32) × Nat} {d : Nat} {s : ab_S} {x1 x2 : Int32} (h0 : si s 7 0 = nI 0) : ab_ev X (d + 2) 89 [.inr (0, 0), .inl (.int x1), .inl (.int x2), .inr (15, 0)] s = some (.inl (some (.inl (.int (nI 1)))), ths s) := by
  rw [b89, b90, n0_91 h0, e_xU, e_px, e_xI]
  rfl
theorem t93 {X : (Nat → Int32) × Nat} {d : Nat} {s : ab_S} {x1 x2 : Int32} (h0 : si s 3 0 = nI 0) : ab_ev X (d + 2) 93 [.inr (0, 0), .inl (.int x1), .inl (.int x2), .inr (15, 0)] s = some (.inl (some (.inl (.int (nI 1)))), ths s) := by
  rw [b93, b94, n0_95 h0, e_xU, e_px, e_xI]
  rfl
theorem t96 {X : (Nat → Int32) × Nat} {d : Nat} {s : ab_S} {x1 : Int32} (h0 : si s 1 0 = nI 0) : ab_ev X (d + 2) 96 [.inr (0, 0), .inl (.int x1), .inr (15, 0)] s = some (.inl (some (.inl (.int (nI 1)))), ths s) := by
  rw [b96, b97, n0_98 h0, e_xU, e_px, e_xI]
  rfl
theorem t100 {X : (Nat → Int32) × Nat} {d : Nat} {s : ab_S} {x1 x2 : Int32} (h0 : si s 1 0 = nI 0) : ab_ev X (d + 2) 100 [.inr (0, 0), .inl (.int x1), .inl (.int x2), .inr (15, 0)] s = some (.inl (some (.inl (.int (nI 1)))), ths s) := by
  rw [b100, b101, n0_98 h0, e_xU, e_px, e_xI]
  rfl
theorem t105 {X : (Nat → Int32) × Nat} {d : Nat} {s : ab_S} {x1 x2 : Int32} (h0 : si s 1 0 = nI 0) : ab_ev X (d + 2) 105 [.inr (0, 0), .inl (.int x1), .inl (.int x2), .inr (15, 0)] s = some (.inl (some (.inl (.int (nI 1)))), ths s) := by
  rw [b105, b106, n0_86 h0, e_xU, e_px, e_xI]
  rfl
theorem t109 {X : (Nat → Int32) × Nat} {d : Nat} {s : ab_S} {x1 x2 : Int32} (h0 : si s 1 0 = nI 0) : ab_ev X (d + 2) 109 [.inr (0, 0), .inl (.int x1), .inl (.int x2), .inr (15, 0)] s = some (.inl (some (.inl (.int (nI 1)))), ths s) := by
  rw [b109, b110, n0_86 h0, e_xU, e_px, e_xI]
  rfl
theorem t122 {X : (Nat → Int32) × Nat} {d : Nat} {s : ab_S} {x1 x2 : Int32} (h0 : si s 1 0 = nI 0) : ab_ev X (d + 2) 122 [.inr (0, 0), .inl (.int x1), .inl (.int x2), .inr (15, 0)] s = some (.inl (some (.inl (.int (nI 1)))), ths s) := by
  rw [b122, b123, n0_86 h0, e_xU, e_px, e_xI]
  rfl
theorem t125 {X : (Nat → Int32) × Nat} {d : Nat} {s : ab_S} {x1 x2 : Int32} (h0 : si s 1 0 = nI 0) : ab_ev X (d + 3) 125 [.inr (0, 0), .inl (.int x1), .inl (.int x2), .inr (15, 0)] s = some (.inl (some (.inl (.int (nI 1)))), ths s) := by
  rw [b125, b126, n0_127 h0, e_xU, e_px, e_xI]
  rfl
theorem t130 {X : (Nat → Int32) × Nat} {d : Nat} {s : ab_S} {x1 x2 x3 : Int32} (h0 : si s 1 0 = nI 0) : ab_ev X (d + 2) 130 [.inr (0, 0), .inl (.int x1), .inl (.int x2), .inl (.int x3), .inr (15, 0)] s = some (.inl (some (.inl (.int (nI 1)))), ths s) := by
  rw [b130, b131, n0_86 h0, e_xU, e_px, e_xI]
  rfl
theorem t133 {X : (Nat → Int32) × Nat} {d : Nat} {s : ab_S} {x1 x2 : Int32} (h0 : si s 1 0 = nI 0) : ab_ev X (d + 2) 133 [.inr (0, 0), .inl (.int x1), .inl (.int x2), .inr (15, 0)] s = some (.inl (some (.inl (.int (nI 1)))), ths s) := by
  rw [b133, b134, n0_86 h0, e_xU, e_px, e_xI]
  rfl
theorem t137 {X : (Nat → Int32) × Nat} {d : Nat} {s : ab_S} {x1 : Int32} (h0 : si s 1 0 = nI 0) : ab_ev X (d + 2) 137 [.inr (0, 0), .inl (.int x1), .inr (15, 0)] s = some (.inl (some (.inl (.int (nI 1)))), ths s) := by
  rw [b137, b138, n0_86 h0, e_xU, e_px, e_xI]
  rfl
theorem t140 {X : (Nat → Int32) × Nat} {d : Nat} {s : ab_S} {x1 x2 x3 : Int32} (h0 : si s 3 0 = nI 0) : ab_ev X (d + 2) 140 [.inr (0, 0), .inl (.int x1), .inl (.int x2), .inl (.int x3), .inr (15, 0)] s = some (.inl (some (.inl (.int (nI 1)))), ths s) := by
  rw [b140, b141, n0_95 h0, e_xU, e_px, e_xI]
  rfl
theorem t148 {X : (Nat → Int32) × Nat} {d : Nat} {s : ab_S} {x1 x2 : Int32} (h0 : sq s 0 = fun _ => none) (h1 : inS x1 4 = true) : ab_ev X (d + 2) 148 [.inr (0, 0), .inl (.int x1), .inl (.int x2), .inr (15, 0)] s = some (.inl (some (.inl (.int (nI 2)))), ths s) := by
  rw [b148, b149, n0_150 h0, if_pos h1, e_xA, e_px, e_xI]
  rfl
theorem t148_ {X : (Nat → Int32) × Nat} {d : Nat} {s : ab_S} {x1 x2 : Int32} (h0 : sq s 0 = fun _ => none) (h1 : ¬ inS x1 4 = true) : ab_ev X (d + 2) 148 [.inr (0, 0), .inl (.int x1), .inl (.int x2), .inr (15, 0)] s = some (.inl (some (.inl (.int (nI 1)))), ths s) := by
  rw [b148, b149, n0_150 h0, if_neg h1, e_xA, e_px, e_xI]
  rfl
theorem t155 {X : (Nat → Int32) × Nat} {d : Nat} {s : ab_S} {x1 : Int32} (h0 : sq s 0 = fun _ => none) (h1 : inS x1 4 = true) : ab_ev X (d + 2) 155 [.inr (0, 0), .inl (.int x1), .inr (15, 0)] s = some (.inl (some (.inl (.int (nI 2)))), ths s) := by
  rw [b155, b156, n0_150 h0, if_pos h1, e_xA, e_px, e_xI]
  rfl
theorem t155_ {X : (Nat → Int32) × Nat} {d : Nat} {s : ab_S} {x1 : Int32} (h0 : sq s 0 = fun _ => none) (h1 : ¬ inS x1 4 = true) : ab_ev X (d + 2) 155 [.inr (0, 0), .inl (.int x1), .inr (15, 0)] s = some (.inl (some (.inl (.int (nI 1)))), ths s) := by
  rw [b155, b156, n0_150 h0, if_neg h1, e_xA, e_px, e_xI]
  rfl
theorem t161 {X : (Nat → Int32) × Nat} {d : Nat} {s : ab_S} {x1 : Int32} (h0 : sq s 0 = fun _ => none) (h1 : inS x1 4 = true) : ab_ev X (d + 2) 161 [.inr (0, 0), .inl (.int x1), .inr (15, 0)] s = some (.inl (some (.inl (.int (nI 2)))), ths s) := by
  rw [b161, b162, n0_150 h0, if_pos h1, e_xA, e_px, e_xJ]
  rfl
theorem t161_ {X : (Nat → Int32) × Nat} {d : Nat} {s : ab_S} {x1 : Int32} (h0 : sq s 0 = fun _ => none) (h1 : ¬ inS x1 4 = true) : ab_ev X (d + 2) 161 [.inr (0, 0), .inl (.int x1), .inr (15, 0)] s = some (.inl (some (.inl (.int (nI 1)))), ths s) := by
  rw [b161, b162, n0_150 h0, if_neg h1, e_xA, e_px, e_xJ]
  rfl
theorem t165 {X : (Nat → Int32) × Nat} {d : Nat} {s : ab_S} {x1 x2 : Int32} (h0 : si s 1 0 = nI 0) : ab_ev X (d + 3) 165 [.inr (0, 0), .inl (.int x1), .inl (.int x2), .inr (15, 0)] s = some (.inl (some (.inl (.int (nI 1)))), ths s) := by
  rw [b165, b166, n0_127 h0, e_xU, e_px, e_xJ]
  rfl
theorem t167 {X : (Nat → Int32) × Nat} {d : Nat} {s : ab_S} {x1 : Int32} (h0 : si s 1 0 = nI 0) : ab_ev X (d + 2) 167 [.inr (0, 0), .inl (.int x1), .inr (15, 0)] s = some (.inl (some (.inl (.int (nI 1)))), ths s) := by
  rw [b167, b168, n0_86 h0, e_xU, e_px, e_xI]
  rfl
theorem t169 {X : (Nat → Int32) × Nat} {d : Nat} {s : ab_S} {x1 x2 : Int32} (h0 : si s 1 0 = nI 0) : ab_ev X (d + 3) 169 [.inr (0, 0), .inl (.int x1), .inl (.int x2), .inr (15, 0)] s = some (.inl (some (.inl (.int (nI 1)))), ths s) := by
  rw [b169, b170, n0_127 h0, e_xU, e_px, e_xI]
  rfl
theorem t171 {X : (Nat → Int32) × Nat} {d : Nat} {s : ab_S} {x1 x2 : Int32} (h0 : si s 1 0 = nI 0) : ab_ev X (d + 2) 171 [.inr (0, 0), .inl (.int x1), .inl (.int x2), .inr (15, 0)] s = some (.inl (some (.inl (.int (nI 1)))), ths s) := by
  rw [b171, b172, n0_98 h0, e_xU, e_px, e_xI]
  rfl
theorem t174 {X : (Nat → Int32) × Nat} {d : Nat} {s : ab_S} {x1 x2 : Int32} (h0 : si s 3 0 = nI 0) : ab_ev X (d + 2) 174 [.inr (0, 0), .inl (.int x1), .inl (.int x2), .inr (15, 0)] s = some (.inl (some (.inl (.int (nI 1)))), ths s) := by
  rw [b174, b175, n0_95 h0, e_xU, e_px, e_xI]
  rfl
theorem t177 {X : (Nat → Int32) × Nat} {d : Nat} {s : ab_S} {x1 x2 : Int32} (h0 : sq s 0 = fun _ => none) (h1 : inS x1 4 = true) : ab_ev X (d + 2) 177 [.inr (0, 0), .inl (.int x1), .inl (.int x2), .inr (15, 0)] s = some (.inl (some (.inl (.int (nI 2)))), ths s) := by
  rw [b177, b178, n0_150 h0, if_pos h1, e_xA, e_px, e_xI]
  rfl
theorem t177_ {X : (Nat → Int32) × Nat} {d : Nat} {s : ab_S} {x1 x2 : Int32} (h0 : sq s 0 = fun _ => none) (h1 : ¬ inS x1 4 = true) : ab_ev X (d + 2) 177 [.inr (0, 0), .inl (.int x1), .inl (.int x2), .inr (15, 0)] s = some (.inl (some (.inl (.int (nI 1)))), ths s) := by
  rw [b177, b178, n0_150 h0, if_neg h1, e_xA, e_px, e_xI]
  rfl
theorem t190 {X : (Nat → Int32) × Nat} {d : Nat} {s : ab_S} {x1 x2 x3 : Int32} (h0 : si s 1 0 = nI 0) : ab_ev X (d + 2) 190 [.inr (0, 0), .inl (.int x1), .inl (.int x2), .inl (.int x3), .inr (15, 0)] s = some (.inl (some (.inl (.int (nI 1)))), ths s) := by
  rw [b190, b191, n0_98 h0, e_xU, e_px, e_xI]
  rfl
theorem t192 {X : (Nat → Int32) × Nat} {d : Nat} {s : ab_S} {x1 x2 x3 : Int32} (h0 : si s 3 0 = nI 0) : ab_ev X (d + 2) 192 [.inr (0, 0), .inl (.int x1), .inl (.int x2), .inl (.int x3), .inr (15, 0)] s = some (.inl (some (.inl (.int (nI 1)))), ths s) := by
  rw [b192, b193, n0_95 h0, e_xU, e_px, e_xI]
  rfl
theorem t194 {X : (Nat → Int32) × Nat} {d : Nat} {s : ab_S} {x1 x2 x3 : Int32} (h0 : si s 1 0 = nI 0) : ab_ev X (d + 2) 194 [.inr (0, 0), .inl (.int x1), .inl (.int x2), .inl (.int x3), .inr (15, 0)] s = some (.inl (some (.inl (.int (nI 1)))), ths s) := by
  rw [b194, b195, n0_98 h0, e_xU, e_px, e_xI]
  rfl
theorem t206 {X : (Nat → Int32) × Nat} {d : Nat} {s : ab_S} {x1 x2 : Int32} (h0 : sq s 0 = fun _ => none) (h1 : inS x1 4 = true) : ab_ev X (d + 2) 206 [.inr (0, 0), .inl (.int x1), .inl (.int x2), .inr (15, 0)] s = some (.inl (some (.inl (.int (nI 2)))), ths s) := by
  rw [b206, b207, n0_150 h0, if_pos h1, e_xA, e_px, e_xI]
  rfl
theorem t206_ {X : (Nat → Int32) × Nat} {d : Nat} {s : ab_S} {x1 x2 : Int32} (h0 : sq s 0 = fun _ => none) (h1 : ¬ inS x1 4 = true) : ab_ev X (d + 2) 206 [.inr (0, 0), .inl (.int x1), .inl (.int x2), .inr (15, 0)] s = some (.inl (some (.inl (.int (nI 1)))), ths s) := by
  rw [b206, b207, n0_150 h0, if_neg h1, e_xA, e_px, e_xI]
  rfl
theorem t210 {X : (Nat → Int32) × Nat} {d : Nat} {s : ab_S} {x1 : Int32} (h0 : sq s 0 = fun _ => none) (h1 : inS x1 4 = true) : ab_ev X (d + 2) 210 [.inr (0, 0), .inl (.int x1), .inr (15, 0)] s = some (.inl (some (.inl (.int (nI 2)))), ths s) := by
  rw [b210, b211, n0_150 h0, if_pos h1, e_xA, e_px, e_xI]
  rfl
theorem t210_ {X : (Nat → Int32) × Nat} {d : Nat} {s : ab_S} {x1 : Int32} (h0 : sq s 0 = fun _ => none) (h1 : ¬ inS x1 4 = true) : ab_ev X (d + 2) 210 [.inr (0, 0), .inl (.int x1), .inr (15, 0)] s = some (.inl (some (.inl (.int (nI 1)))), ths s) := by
  rw [b210, b211, n0_150 h0, if_neg h1, e_xA, e_px, e_xI]
  rfl
theorem t212 {X : (Nat → Int32) × Nat} {d : Nat} {s : ab_S} {x1 : Int32} (h0 : sq s 0 = fun _ => none) (h1 : inS x1 4 = true) : ab_ev X (d + 2) 212 [.inr (0, 0), .inl (.int x1), .inr (15, 0)] s = some (.inl (some (.inl (.int (nI 2)))), ths s) := by
  rw [b212, b213, n0_150 h0, if_pos h1, e_xA, e_px, e_xI]
  rfl
theorem t212_ {X : (Nat → Int32) × Nat} {d : Nat} {s : ab_S} {x1 : Int32} (h0 : sq s 0 = fun _ => none) (h1 : ¬ inS x1 4 = true) : ab_ev X (d + 2) 212 [.inr (0, 0), .inl (.int x1), .inr (15, 0)] s = some (.inl (some (.inl (.int (nI 1)))), ths s) := by
  rw [b212, b213, n0_150 h0, if_neg h1, e_xA, e_px, e_xI]
  rfl
theorem t219 {X : (Nat → Int32) × Nat} {d : Nat} {s : ab_S} {x1 x2 : Int32} {y3 : Int64} (h0 : sq s 0 = fun _ => none) (h1 : inS x1 4 = true) : ab_ev X (d + 2) 219 [.inr (0, 0), .inl (.int x1), .inl (.int x2), .inl (.long y3), .inr (15, 0)] s = some (.inl (some (.inl (.int (nI 2)))), ths s) := by
  rw [b219, b220, n0_150 h0, if_pos h1, e_xA, e_px, e_xJ]
  rfl
theorem t219_ {X : (Nat → Int32) × Nat} {d : Nat} {s : ab_S} {x1 x2 : Int32} {y3 : Int64} (h0 : sq s 0 = fun _ => none) (h1 : ¬ inS x1 4 = true) : ab_ev X (d + 2) 219 [.inr (0, 0), .inl (.int x1), .inl (.int x2), .inl (.long y3), .inr (15, 0)] s = some (.inl (some (.inl (.int (nI 1)))), ths s) := by
  rw [b219, b220, n0_150 h0, if_neg h1, e_xA, e_px, e_xJ]
  rfl
theorem t223 {X : (Nat → Int32) × Nat} {d : Nat} {s : ab_S} {x1 : Int32} (h0 : sq s 0 = fun _ => none) (h1 : inS x1 4 = true) : ab_ev X (d + 2) 223 [.inr (0, 0), .inl (.int x1), .inr (15, 0)] s = some (.inl (some (.inl (.int (nI 2)))), ths s) := by
  rw [b223, b224, n0_150 h0, if_pos h1, e_xA, e_px, e_xI]
  rfl
theorem t223_ {X : (Nat → Int32) × Nat} {d : Nat} {s : ab_S} {x1 : Int32} (h0 : sq s 0 = fun _ => none) (h1 : ¬ inS x1 4 = true) : ab_ev X (d + 2) 223 [.inr (0, 0), .inl (.int x1), .inr (15, 0)] s = some (.inl (some (.inl (.int (nI 1)))), ths s) := by
  rw [b223, b224, n0_150 h0, if_neg h1, e_xA, e_px, e_xI]
  rfl
end THX
