/-! A whole call: a street. -/
theorem fst_cong {P Q : Nat → Bool} : ∀ {n : Nat}, (∀ k, k < n → P k = Q k) → fst P n = fst Q n
  | 0, _ => rfl
  | n + 1, h => by rw [fst, fst, fst_cong (fun k hk => h k (by omega)), h n (by omega)]
/-- a town with its people, held by both -/
def PW (s : ab_S) (n : Nat) (nm : Nat → Nat) (nr : Nat) (z : Nat → Nat) (st : Nat → Nat → Nat) (bm : Nat) (by' : Nat → Int32) (np hs : Nat) (lo li : Nat → Nat) : Prop :=
  BW s n nm nr z st bm by' ∧ si s 3 0 = nI np ∧ sa s 8 3 = nI np ∧ np ≤ 8 ∧ si s 2 0 = nI hs ∧ sa s 8 4 = nI hs ∧ hs < 2 ^ 20 ∧ ∀ q, q < np → sA s 1 0 q = nI (lo q) ∧ sa s 8 (116 + q) = nI (lo q) ∧ lo q < n ∧ sA s 2 0 q = nI (li q) ∧ sa s 8 (124 + q) = nI (li q) ∧ li q ≤ hs
theorem PW.same {s s' : ab_S} {n : Nat} {nm : Nat → Nat} {nr : Nat} {z : Nat → Nat} {st : Nat → Nat → Nat} {bm : Nat} {by' : Nat → Int32} {np hs : Nat} {lo li : Nat → Nat} (h : PW s n nm nr z st bm by' np hs lo li) (h1 : sV s s') : PW s' n nm nr z st bm by' np hs lo li := by
  obtain ⟨a, b⟩ := h
  refine ⟨a.same h1, ?_⟩
  rw [h1.2.2.2.1, h1.2.2.2.2.2.1, h1.2.2.2.2.1 8 (by omega)]
  exact b
section OP7
variable {X : (Nat → Int32) × Nat} {d k n nr bm np hs : Nat} {u5 u6 : Option ab_V} {s : ab_S} {nm z lo li : Nat → Nat} {st : Nat → Nat → Nat} {by' : Nat → Int32}
/-- what the model says of a street's rounds -/
theorem l265 {v : Nat} {x2 : Int32} (h : RW s n nm nr z st bm by') : ∀ (j i : Nat), i + j = nr → ab_at X (d + 1) 265 52 [some (.inr (9, 0)), some (.inl (.int (nI v))), some (.inl (.int x2)), some (.inl (.int (nI (bs (fun r => decide (fst (fun q => sa s 8 (36 + 20 * r + q) == nI v) (z r) < z r)) i)))), some (.inl (.int (nI i)))] [] s = ab_at X (d + 1) 265 95 [some (.inr (9, 0)), some (.inl (.int (nI v))), some (.inl (.int x2)), some (.inl (.int (nI (bs (fun r => decide (fst (fun q => sa s 8 (36 + 20 * r + q) == nI v) (z r) < z r)) nr)))), some (.inl (.int (nI nr)))] [.inl (.int x2)] s
  | 0, i, e => by
    have h4 := h.2.2.2.2.2.1
    obtain rfl : i = nr := by omega
    rw [b265_52, h.2.2.2.2.1, if_pos (nI_le (Nat.le_refl _) (by omega))]
  | j + 1, i, e => by
    have h4 := h.2.2.2.2.2.1
    have hi : i < nr := by omega
    have g := l265 (v := v) (x2 := x2) h j (i + 1) (by omega)
    have h20 := h.2.2.2.2.2.2.2.1 i hi
    rw [bs] at g
    rw [b265_52, h.2.2.2.2.1, if_neg (nI_ge hi (by omega)), r249 (by omega) (h.2.2.2.2.2.2.1 i hi) h20, e_bI, n_sh _ (by omega), n_or, n_or, nI_add, Nat.or_zero, ← g]
    by_cases q : fst (fun q => sa s 8 (36 + 20 * i + q) == nI v) (z i) < z i
    · rw [if_pos q, if_neg (n_m1 _ (by omega)), decide_eq_true q, if_pos rfl]
    · rw [if_neg q, if_pos rfl, decide_eq_false q, if_neg (show ¬ false = true by decide)]
theorem rnds_eq (h : BW s n nm nr z st bm by') (x : Int32) : bs (fun r => decide (fst (fun q => sa s 8 (36 + 20 * r + q) == x) (z r) < z r)) nr = bs (fun r => decide (pl (sA s 3 0) (20 * r) (z r) x < z r)) nr := bs_cong (fun r hr => by
  have e : fst (fun q => sa s 8 (36 + 20 * r + q) == x) (z r) = pl (sA s 3 0) (20 * r) (z r) x := fst_cong (fun q hq => by
    show (sa s 8 (36 + 20 * r + q) == x) = (sA s 3 0 (20 * r + q) == x)
    rw [h.2.2.2.2.2.2.2.2.2.1 r hr q hq, h.1.2.2.2.2.2.2.2.2.1 r hr q hq])
  rw [e])
/-- what a street tells -/
def stv (nm : Nat → Nat) (bm nr : Nat) (z : Nat → Nat) (st : Nat → Nat → Nat) (f : Nat → Nat) (n np : Nat) (lo : Nat → Nat) (v : Nat) : Nat → Int32
  | 0 => nI (nm v)
  | 1 => if bm.testBit v = true then nI 1 else nI 0
  | 2 => nI (bs (fun r => decide (fst (fun q => nI (st r q) == nI v) (z r) < z r)) nr)
  | 3 => nI (cyc f n v)
  | _ => nI (bs (fun q => lo q == v) np)
theorem c85 {v : Nat} (h : PW s n nm nr z st bm by' np hs lo li) (hv : v < n) : ∀ c, c < 5 → ∃ s1 : ab_S, sV s s1 ∧ ab_ev X (d + 5) 85 [.inr (0, 0), .inl (.int (nI v)), .inl (.int (nI c))] s = some (.inl (some (.inl (.int (stv nm bm nr z st (to_ nr z st bm by') n np lo v c)))), s1) := by
  intro c hc
  obtain ⟨⟨hT, hR⟩, p1, p2, p3, p4, p5, p6, p7⟩ := id h
  obtain ⟨t1, t2, t3, t4, t5, t6, t7, t8, t9, t10, t11, t12, t13, t14, t15⟩ := id hT
  have hin : inS (nI v) n = true := inS_nI hv (by omega)
  match c, hc with
  | 0, _ => exact ⟨s, sV_refl s, by rw [b85, c_n86 t1 (by omega), if_pos hin, e_bU, b85_6, if_pos rfl, b85_40, at19 (by omega), t3 v hv, e_bI]; rfl⟩
  | 1, _ =>
    refine ⟨s, sV_refl s, ?_⟩
    rw [b85, c_n86 t1 (by omega), if_pos hin, e_bU, b85_6, if_neg (show ¬ nI 1 = nI 0 by decide), if_pos rfl, b85_52, c_isBlind t12 (by omega) (by omega), e_bI]
    show (_ : ab_R) = some (.inl (some (.inl (.int (if bm.testBit v = true then nI 1 else nI 0)))), s)
    cases bm.testBit v
    · rfl
    · rfl
  | 2, _ =>
    refine ⟨s, sV_refl s, ?_⟩
    rw [b85, c_n86 t1 (by omega), if_pos hin, e_bU, b85_6, if_neg (show ¬ nI 2 = nI 0 by decide), if_neg (show ¬ nI 2 = nI 1 by decide), if_pos rfl, b85_69, c_roundsOf t5 t6 t7 t8, e_bI]
    show (_ : ab_R) = some (.inl (some (.inl (.int (nI (bs (fun r => decide (fst (fun q => nI (st r q) == nI v) (z r) < z r)) nr))))), s)
    congr 6
    refine congrArg nI (bs_cong (fun r hr => ?_))
    have e : pl (sA s 3 0) (20 * r) (z r) (nI v) = fst (fun q => nI (st r q) == nI v) (z r) := fst_cong (fun q hq => by
      show (sA s 3 0 (20 * r + q) == nI v) = _
      rw [t9 r hr q hq])
    rw [e]
  | 3, _ =>
    obtain ⟨s1, a1, a2, a3⟩ := c_look (X := X) (d := d + 1) hT
    refine ⟨s1, a2.V, ?_⟩
    rw [b85, c_n86 t1 (by omega), if_pos hin, e_bU, b85_6, if_neg (show ¬ nI 3 = nI 0 by decide), if_neg (show ¬ nI 3 = nI 1 by decide), if_neg (show ¬ nI 3 = nI 2 by decide), if_pos rfl, b85_81, a1, e_bU, c_cycleOf (s := s1) t2 a3.2.2.2.1 hT.to_lt hT.to_inj hv, e_bI]
    rfl
  | 4, _ =>
    refine ⟨s, sV_refl s, ?_⟩
    rw [b85, c_n86 t1 (by omega), if_pos hin, e_bU, b85_6, if_neg (show ¬ nI 4 = nI 0 by decide), if_neg (show ¬ nI 4 = nI 1 by decide), if_neg (show ¬ nI 4 = nI 2 by decide), if_neg (show ¬ nI 4 = nI 3 by decide), if_pos rfl, b85_101, c_peopleOn p1 p3 (fun q hq => (p7 q hq).1) (fun q hq => by have := (p7 q hq).2.2.1; omega) (by omega), e_bI]
    rfl

end OP7
