/-! What the model refuses where nothing is. -/
section THM
variable {X : (Nat → Int32) × Nat} {d : Nat} {s : ab_S}
theorem pz2 {k : Nat} {a b : Int32} : pz (pz s k a) k b = pz s k b := by
  unfold pz
  rw [va_up2]
theorem m0_266 {x : Int32} (h : sa s 8 1 = nI 0) : ab_ev X (d + 1) 266 [.inr (9, 0), .inl (.long x.toInt64)] s = some (.inl (some (.inl (.int (nI 0)))), s) := by
  rw [r266 (n := 0) h (by decide), inS_0, if_neg (by decide)]
theorem m0_274 {x : Int32} (h : sa s 8 2 = nI 0) : ab_ev X (d + 1) 274 [.inr (9, 0), .inl (.int x)] s = some (.inl (some (.inl (.int (nI 0)))), s) := by
  rw [r274 (n := 0) h (by decide), inS_0, if_neg (by decide)]
theorem m0_276 {x : Int32} (h : sa s 8 3 = nI 0) : ab_ev X (d + 1) 276 [.inr (9, 0), .inl (.int x)] s = some (.inl (some (.inl (.int (nI 0)))), s) := by
  rw [r276 (n := 0) h (by decide), inS_0, if_neg (by decide)]
theorem r311 {x : Int32} : ab_ev X (d + 1) 311 [.inl (.int x)] s = some (.inl (some (.inl (.int (if inS x 4 = true then nI 1 else nI 0)))), s) := by
  rw [b311, r232, e_bI, j_of, show (lN 0).toInt = 0 by decide, show (lN 3).toInt = ((4 : Nat) : Int) - 1 by decide, inR_S]
  exact r_bit
theorem m0_310 {x : Int32} (h : ∀ j, j < 4 → sa s 22 j = -nI 1) : ab_ev X (d + 2) 310 [.inr (9, 0), .inl (.int x)] s = some (.inl (some (.inl (.int (if inS x 4 = true then nI 2 else nI 1)))), s) := by
  rw [b310, r311, e_bI]
  by_cases h1 : inS x 4 = true
  · obtain ⟨v, h4, e⟩ := inS_rep h1
    rw [if_pos h1, if_pos h1, if_neg (show ¬ nI 1 = nI 0 by decide), e, r_in (by omega) (by decide), nI_clamp (by omega), h v h4, if_pos rfl]
  · rw [if_neg h1, if_neg h1, if_pos rfl]
theorem m265 {x1 x2 : Int32} (h : sa s 8 1 = nI 0) : ab_ev X (d + 2) 265 [.inr (9, 0), .inl (.int x1), .inl (.int x2)] s = some (.inl (some (.inl (.int (nI 0)))), pz s 11 (nI 1)) := by
  first
  | rw [b265, m0_266 h, e_bI, if_pos rfl]
  | rw [b265, m0_266 (s := pz s 11 (nI 0)) h, e_bI, if_pos rfl, b233, e_bI, pz2]
theorem m280 {x1 x2 x3 : Int32} (h : sa s 8 1 = nI 0) : ab_ev X (d + 2) 280 [.inr (9, 0), .inl (.int x1), .inl (.int x2), .inl (.int x3)] s = some (.inl (some (.inl (.int (nI 0)))), pz s 11 (nI 1)) := by
  first
  | rw [b280, m0_266 h, e_bI, if_pos rfl]
  | rw [b280, m0_266 (s := pz s 11 (nI 0)) h, e_bI, if_pos rfl, b233, e_bI, pz2]
theorem m279 {x1 x2 : Int32} (h : sa s 8 1 = nI 0) : ab_ev X (d + 3) 279 [.inr (9, 0), .inl (.int x1), .inl (.int x2)] s = some (.inl (some (.inl (.int (nI 0)))), pz s 11 (nI 1)) := by
  rw [b279, m280 h, e_bI]
theorem m286 {x1 x2 : Int32} (h : sa s 8 1 = nI 0) : ab_ev X (d + 2) 286 [.inr (9, 0), .inl (.int x1), .inl (.int x2)] s = some (.inl (some (.inl (.int (nI 0)))), pz s 11 (nI 1)) := by
  first
  | rw [b286, m0_266 h, e_bI, if_pos rfl]
  | rw [b286, m0_266 (s := pz s 11 (nI 0)) h, e_bI, if_pos rfl, b233, e_bI, pz2]
theorem m287 {x1 x2 : Int32} (h : sa s 8 1 = nI 0) : ab_ev X (d + 2) 287 [.inr (9, 0), .inl (.int x1), .inl (.int x2)] s = some (.inl (some (.inl (.int (nI 0)))), pz s 11 (nI 1)) := by
  first
  | rw [b287, m0_266 h, e_bI, if_pos rfl]
  | rw [b287, m0_266 (s := pz s 11 (nI 0)) h, e_bI, if_pos rfl, b233, e_bI, pz2]
theorem m301 {x1 x2 : Int32} (h : sa s 8 1 = nI 0) : ab_ev X (d + 2) 301 [.inr (9, 0), .inl (.int x1), .inl (.int x2)] s = some (.inl (some (.inl (.int (nI 0)))), pz s 11 (nI 1)) := by
  first
  | rw [b301, m0_266 h, e_bI, if_pos rfl]
  | rw [b301, m0_266 (s := pz s 11 (nI 0)) h, e_bI, if_pos rfl, b233, e_bI, pz2]
theorem m302 {x1 x2 : Int32} (h : sa s 8 1 = nI 0) : ab_ev X (d + 2) 302 [.inr (9, 0), .inl (.int x1), .inl (.int x2)] s = some (.inl (some (.inl (.int (nI 0)))), pz s 11 (nI 1)) := by
  first
  | rw [b302, m0_266 h, e_bI, if_pos rfl]
  | rw [b302, m0_266 (s := pz s 11 (nI 0)) h, e_bI, if_pos rfl, b233, e_bI, pz2]
theorem m304 {x1 x2 x3 : Int32} (h : sa s 8 1 = nI 0) : ab_ev X (d + 2) 304 [.inr (9, 0), .inl (.int x1), .inl (.int x2), .inl (.int x3)] s = some (.inl (some (.inl (.int (nI 0)))), pz s 11 (nI 1)) := by
  first
  | rw [b304, m0_266 h, e_bI, if_pos rfl]
  | rw [b304, m0_266 (s := pz s 11 (nI 0)) h, e_bI, if_pos rfl, b233, e_bI, pz2]
theorem m305 {x1 x2 : Int32} (h : sa s 8 1 = nI 0) : ab_ev X (d + 2) 305 [.inr (9, 0), .inl (.int x1), .inl (.int x2)] s = some (.inl (some (.inl (.int (nI 0)))), pz s 11 (nI 1)) := by
  first
  | rw [b305, m0_266 h, e_bI, if_pos rfl]
  | rw [b305, m0_266 (s := pz s 11 (nI 0)) h, e_bI, if_pos rfl, b233, e_bI, pz2]
theorem m306 {x1 : Int32} (h : sa s 8 1 = nI 0) : ab_ev X (d + 2) 306 [.inr (9, 0), .inl (.int x1)] s = some (.inl (some (.inl (.int (nI 0)))), pz s 11 (nI 1)) := by
  first
  | rw [b306, m0_266 h, e_bI, if_pos rfl]
  | rw [b306, m0_266 (s := pz s 11 (nI 0)) h, e_bI, if_pos rfl, b233, e_bI, pz2]
theorem m277 {x1 : Int32} (h : sa s 8 1 = nI 0) : ab_ev X (d + 2) 277 [.inr (9, 0), .inl (.int x1)] s = some (.inl (some (.inl (.int (nI 0)))), pz s 11 (nI 1)) := by
  first
  | rw [b277, m0_266 h, e_bI, if_pos rfl]
  | rw [b277, m0_266 (s := pz s 11 (nI 0)) h, e_bI, if_pos rfl, b233, e_bI, pz2]
theorem m327 {x1 x2 : Int32} (h : sa s 8 1 = nI 0) : ab_ev X (d + 2) 327 [.inr (9, 0), .inl (.int x1), .inl (.int x2)] s = some (.inl (some (.inl (.long (lN 0)))), pz s 11 (nI 1)) := by
  first
  | rw [b327, m0_266 h, e_bI, if_pos rfl]
  | rw [b327, m0_266 (s := pz s 11 (nI 0)) h, e_bI, if_pos rfl, b233, e_bI, pz2]
theorem m328 {x1 : Int32} (h : sa s 8 1 = nI 0) : ab_ev X (d + 2) 328 [.inr (9, 0), .inl (.int x1)] s = some (.inl (some (.inl (.int (nI 0)))), pz s 11 (nI 1)) := by
  first
  | rw [b328, m0_266 h, e_bI, if_pos rfl]
  | rw [b328, m0_266 (s := pz s 11 (nI 0)) h, e_bI, if_pos rfl, b233, e_bI, pz2]
theorem m329 {x1 x2 : Int32} (h : sa s 8 1 = nI 0) : ab_ev X (d + 2) 329 [.inr (9, 0), .inl (.int x1), .inl (.int x2)] s = some (.inl (some (.inl (.int (nI 0)))), pz s 11 (nI 1)) := by
  first
  | rw [b329, m0_266 h, e_bI, if_pos rfl]
  | rw [b329, m0_266 (s := pz s 11 (nI 0)) h, e_bI, if_pos rfl, b233, e_bI, pz2]
theorem m330 {x1 x2 : Int32} (h : sa s 8 1 = nI 0) : ab_ev X (d + 2) 330 [.inr (9, 0), .inl (.int x1), .inl (.int x2)] s = some (.inl (some (.inl (.int (nI 0)))), pz s 11 (nI 1)) := by
  first
  | rw [b330, m0_266 h, e_bI, if_pos rfl]
  | rw [b330, m0_266 (s := pz s 11 (nI 0)) h, e_bI, if_pos rfl, b233, e_bI, pz2]
theorem m336 {x1 x2 x3 : Int32} (h : sa s 8 1 = nI 0) : ab_ev X (d + 2) 336 [.inr (9, 0), .inl (.int x1), .inl (.int x2), .inl (.int x3)] s = some (.inl (some (.inl (.int (nI 0)))), pz s 11 (nI 1)) := by
  first
  | rw [b336, m0_266 h, e_bI, if_pos rfl]
  | rw [b336, m0_266 (s := pz s 11 (nI 0)) h, e_bI, if_pos rfl, b233, e_bI, pz2]
theorem m273 {x1 x2 : Int32} (h : sa s 8 2 = nI 0) : ab_ev X (d + 2) 273 [.inr (9, 0), .inl (.int x1), .inl (.int x2)] s = some (.inl (some (.inl (.int (nI 0)))), pz s 11 (nI 1)) := by
  rw [b273, m0_274 h, e_bI, if_pos rfl, b273_44, if_neg (show ¬ nI 1 ≤ nI 0 by decide)]
theorem m275 {x1 x2 : Int32} (h : sa s 8 3 = nI 0) : ab_ev X (d + 2) 275 [.inr (9, 0), .inl (.int x1), .inl (.int x2)] s = some (.inl (some (.inl (.int (nI 0)))), pz s 11 (nI 1)) := by
  first
  | rw [b275, m0_276 h, e_bI, if_pos rfl]
  | rw [b275, m0_276 (s := pz s 11 (nI 0)) h, e_bI, if_pos rfl, b233, e_bI, pz2]
theorem m307 {x1 x2 x3 : Int32} (h : sa s 8 3 = nI 0) : ab_ev X (d + 2) 307 [.inr (9, 0), .inl (.int x1), .inl (.int x2), .inl (.int x3)] s = some (.inl (some (.inl (.int (nI 0)))), pz s 11 (nI 1)) := by
  first
  | rw [b307, m0_276 h, e_bI, if_pos rfl]
  | rw [b307, m0_276 (s := pz s 11 (nI 0)) h, e_bI, if_pos rfl, b233, e_bI, pz2]
theorem m331 {x1 x2 : Int32} (h : sa s 8 3 = nI 0) : ab_ev X (d + 2) 331 [.inr (9, 0), .inl (.int x1), .inl (.int x2)] s = some (.inl (some (.inl (.int (nI 0)))), pz s 11 (nI 1)) := by
  first
  | rw [b331, m0_276 h, e_bI, if_pos rfl]
  | rw [b331, m0_276 (s := pz s 11 (nI 0)) h, e_bI, if_pos rfl, b233, e_bI, pz2]
theorem m337 {x1 x2 x3 : Int32} (h : sa s 8 3 = nI 0) : ab_ev X (d + 2) 337 [.inr (9, 0), .inl (.int x1), .inl (.int x2), .inl (.int x3)] s = some (.inl (some (.inl (.int (nI 0)))), pz s 11 (nI 1)) := by
  first
  | rw [b337, m0_276 h, e_bI, if_pos rfl]
  | rw [b337, m0_276 (s := pz s 11 (nI 0)) h, e_bI, if_pos rfl, b233, e_bI, pz2]
theorem m0_325 {x1 x2 : Int32} (h : ∀ j, j < 4 → sa s 22 j = -nI 1) (h1 : inS x1 4 = true) : ab_ev X (d + 3) 325 [.inr (9, 0), .inl (.int x1), .inl (.int x2)] s = some (.inl (some (.inl (.int (nI 2)))), s) := by
  rw [b325, m0_310 h, if_pos h1, e_bI, if_neg (show ¬ nI 2 = nI 0 by decide)]
theorem m0_345 {x1 x2 : Int32} (h : ∀ j, j < 4 → sa s 22 j = -nI 1) (h1 : inS x1 4 = true) : ab_ev X (d + 3) 345 [.inr (9, 0), .inl (.int x1), .inl (.int x2)] s = some (.inl (some (.inl (.int (nI 2)))), s) := by
  rw [b345, m0_310 h, if_pos h1, e_bI, if_neg (show ¬ nI 2 = nI 0 by decide)]
theorem m309 {x1 x2 : Int32} (h : ∀ j, j < 4 → sa s 22 j = -nI 1) (h1 : inS x1 4 = true) : ab_ev X (d + 3) 309 [.inr (9, 0), .inl (.int x1), .inl (.int x2)] s = some (.inl (some (.inl (.int (nI 0)))), pz s 11 (nI 2)) := by
  rw [b309, m0_310 h, if_pos h1, e_bI, if_neg (show ¬ nI 2 = nI 0 by decide), if_neg (show ¬ nI 2 ≤ nI 0 by decide)]
theorem m316 {x1 : Int32} (h : ∀ j, j < 4 → sa s 22 j = -nI 1) (h1 : inS x1 4 = true) : ab_ev X (d + 3) 316 [.inr (9, 0), .inl (.int x1)] s = some (.inl (some (.inl (.int (nI 0)))), pz s 11 (nI 2)) := by
  rw [b316, m0_310 h, if_pos h1, e_bI, if_neg (show ¬ nI 2 ≤ nI 0 by decide)]
theorem m354 {x1 x2 : Int32} {y3 : Int64} (h : ∀ j, j < 4 → sa s 22 j = -nI 1) (h1 : inS x1 4 = true) : ab_ev X (d + 3) 354 [.inr (9, 0), .inl (.int x1), .inl (.int x2), .inl (.long y3)] s = some (.inl (some (.inl (.long (lN 0)))), pz s 11 (nI 2)) := by
  rw [b354, m0_310 h, if_pos h1, e_bI, if_neg (show ¬ nI 2 ≤ nI 0 by decide)]
theorem m356 {x1 : Int32} (h : ∀ j, j < 4 → sa s 22 j = -nI 1) (h1 : inS x1 4 = true) : ab_ev X (d + 3) 356 [.inr (9, 0), .inl (.int x1)] s = some (.inl (some (.inl (.int (nI 0)))), pz s 11 (nI 2)) := by
  rw [b356, m0_310 h, if_pos h1, e_bI, if_neg (show ¬ nI 2 ≤ nI 0 by decide)]
theorem m324 {x1 : Int32} (h : ∀ j, j < 4 → sa s 22 j = -nI 1) (h1 : inS x1 4 = true) : ab_ev X (d + 4) 324 [.inr (9, 0), .inl (.int x1)] s = some (.inl (some (.inl (.long (lN 0)))), pz s 11 (nI 2)) := by
  rw [b324, m0_325 h h1, e_bI, if_neg (show ¬ nI 2 ≤ nI 0 by decide)]
theorem m332 {x1 x2 : Int32} (h : ∀ j, j < 4 → sa s 22 j = -nI 1) (h1 : inS x1 4 = true) : ab_ev X (d + 4) 332 [.inr (9, 0), .inl (.int x1), .inl (.int x2)] s = some (.inl (some (.inl (.int (nI 0)))), pz s 11 (nI 2)) := by
  rw [b332, m0_325 h h1, e_bI, if_neg (show ¬ nI 2 = nI 0 by decide), b332_48]
  exact if_neg (show ¬ nI 2 ≤ nI 0 by decide)
theorem m344 {x1 x2 : Int32} (h : ∀ j, j < 4 → sa s 22 j = -nI 1) (h1 : inS x1 4 = true) : ab_ev X (d + 4) 344 [.inr (9, 0), .inl (.int x1), .inl (.int x2)] s = some (.inl (some (.inl (.int (nI 0)))), pz s 11 (nI 2)) := by
  rw [b344, m0_345 h h1, e_bI, if_neg (show ¬ nI 2 = nI 0 by decide), if_neg (show ¬ nI 2 ≤ nI 0 by decide)]
theorem m347 {x1 : Int32} (h : ∀ j, j < 4 → sa s 22 j = -nI 1) (h1 : inS x1 4 = true) : ab_ev X (d + 4) 347 [.inr (9, 0), .inl (.int x1)] s = some (.inl (some (.inl (.int (nI 0)))), pz s 11 (nI 2)) := by
  rw [b347, m0_345 h h1, e_bI, if_neg (show ¬ nI 2 ≤ nI 0 by decide)]
theorem m348 {x1 : Int32} (h : ∀ j, j < 4 → sa s 22 j = -nI 1) (h1 : inS x1 4 = true) : ab_ev X (d + 4) 348 [.inr (9, 0), .inl (.int x1)] s = some (.inl (some (.inl (.int (nI 0)))), pz s 11 (nI 2)) := by
  rw [b348, m0_345 h h1, e_bI, if_neg (show ¬ nI 2 ≤ nI 0 by decide)]
theorem m0_325_ {x1 x2 : Int32} (h : ∀ j, j < 4 → sa s 22 j = -nI 1) (h1 : ¬ inS x1 4 = true) : ab_ev X (d + 3) 325 [.inr (9, 0), .inl (.int x1), .inl (.int x2)] s = some (.inl (some (.inl (.int (nI 1)))), s) := by
  rw [b325, m0_310 h, if_neg h1, e_bI, if_neg (show ¬ nI 1 = nI 0 by decide)]
theorem m0_345_ {x1 x2 : Int32} (h : ∀ j, j < 4 → sa s 22 j = -nI 1) (h1 : ¬ inS x1 4 = true) : ab_ev X (d + 3) 345 [.inr (9, 0), .inl (.int x1), .inl (.int x2)] s = some (.inl (some (.inl (.int (nI 1)))), s) := by
  rw [b345, m0_310 h, if_neg h1, e_bI, if_neg (show ¬ nI 1 = nI 0 by decide)]
theorem m309_ {x1 x2 : Int32} (h : ∀ j, j < 4 → sa s 22 j = -nI 1) (h1 : ¬ inS x1 4 = true) : ab_ev X (d + 3) 309 [.inr (9, 0), .inl (.int x1), .inl (.int x2)] s = some (.inl (some (.inl (.int (nI 0)))), pz s 11 (nI 1)) := by
  rw [b309, m0_310 h, if_neg h1, e_bI, if_neg (show ¬ nI 1 = nI 0 by decide), if_neg (show ¬ nI 1 ≤ nI 0 by decide)]
theorem m316_ {x1 : Int32} (h : ∀ j, j < 4 → sa s 22 j = -nI 1) (h1 : ¬ inS x1 4 = true) : ab_ev X (d + 3) 316 [.inr (9, 0), .inl (.int x1)] s = some (.inl (some (.inl (.int (nI 0)))), pz s 11 (nI 1)) := by
  rw [b316, m0_310 h, if_neg h1, e_bI, if_neg (show ¬ nI 1 ≤ nI 0 by decide)]
theorem m354_ {x1 x2 : Int32} {y3 : Int64} (h : ∀ j, j < 4 → sa s 22 j = -nI 1) (h1 : ¬ inS x1 4 = true) : ab_ev X (d + 3) 354 [.inr (9, 0), .inl (.int x1), .inl (.int x2), .inl (.long y3)] s = some (.inl (some (.inl (.long (lN 0)))), pz s 11 (nI 1)) := by
  rw [b354, m0_310 h, if_neg h1, e_bI, if_neg (show ¬ nI 1 ≤ nI 0 by decide)]
theorem m356_ {x1 : Int32} (h : ∀ j, j < 4 → sa s 22 j = -nI 1) (h1 : ¬ inS x1 4 = true) : ab_ev X (d + 3) 356 [.inr (9, 0), .inl (.int x1)] s = some (.inl (some (.inl (.int (nI 0)))), pz s 11 (nI 1)) := by
  rw [b356, m0_310 h, if_neg h1, e_bI, if_neg (show ¬ nI 1 ≤ nI 0 by decide)]
theorem m324_ {x1 : Int32} (h : ∀ j, j < 4 → sa s 22 j = -nI 1) (h1 : ¬ inS x1 4 = true) : ab_ev X (d + 4) 324 [.inr (9, 0), .inl (.int x1)] s = some (.inl (some (.inl (.long (lN 0)))), pz s 11 (nI 1)) := by
  rw [b324, m0_325_ h h1, e_bI, if_neg (show ¬ nI 1 ≤ nI 0 by decide)]
theorem m332_ {x1 x2 : Int32} (h : ∀ j, j < 4 → sa s 22 j = -nI 1) (h1 : ¬ inS x1 4 = true) : ab_ev X (d + 4) 332 [.inr (9, 0), .inl (.int x1), .inl (.int x2)] s = some (.inl (some (.inl (.int (nI 0)))), pz s 11 (nI 1)) := by
  rw [b332, m0_325_ h h1, e_bI, if_neg (show ¬ nI 1 = nI 0 by decide), b332_48]
  exact if_neg (show ¬ nI 1 ≤ nI 0 by decide)
theorem m344_ {x1 x2 : Int32} (h : ∀ j, j < 4 → sa s 22 j = -nI 1) (h1 : ¬ inS x1 4 = true) : ab_ev X (d + 4) 344 [.inr (9, 0), .inl (.int x1), .inl (.int x2)] s = some (.inl (some (.inl (.int (nI 0)))), pz s 11 (nI 1)) := by
  rw [b344, m0_345_ h h1, e_bI, if_neg (show ¬ nI 1 = nI 0 by decide), if_neg (show ¬ nI 1 ≤ nI 0 by decide)]
theorem m347_ {x1 : Int32} (h : ∀ j, j < 4 → sa s 22 j = -nI 1) (h1 : ¬ inS x1 4 = true) : ab_ev X (d + 4) 347 [.inr (9, 0), .inl (.int x1)] s = some (.inl (some (.inl (.int (nI 0)))), pz s 11 (nI 1)) := by
  rw [b347, m0_345_ h h1, e_bI, if_neg (show ¬ nI 1 ≤ nI 0 by decide)]
theorem m348_ {x1 : Int32} (h : ∀ j, j < 4 → sa s 22 j = -nI 1) (h1 : ¬ inS x1 4 = true) : ab_ev X (d + 4) 348 [.inr (9, 0), .inl (.int x1)] s = some (.inl (some (.inl (.int (nI 0)))), pz s 11 (nI 1)) := by
  rw [b348, m0_345_ h h1, e_bI, if_neg (show ¬ nI 1 ≤ nI 0 by decide)]
end THM
