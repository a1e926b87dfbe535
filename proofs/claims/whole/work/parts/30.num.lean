/-! Numbers, rows and loops: what all the contracts use. -/
section NUM
theorem n_lt31 {a : Nat} (h : a < 2147483648) : a < 2 ^ 31 := h
theorem n_0le {a : Nat} (h : a < 2 ^ 31) : (nI 0 ≤ nI a) := nI_le (Nat.zero_le a) h
theorem n_nlt0 {a : Nat} (h : a < 2 ^ 31) : ¬ (nI a < nI 0) := nI_nlt (Nat.zero_le a) h
theorem n_m1 (a : Nat) (h : a < 2 ^ 31) : ¬ (nI a = -nI 1) := by
  intro e
  have h1 := congrArg Int32.toInt e
  rw [nI_toInt h] at h1
  have h2 : (-nI 1).toInt = -1 := by decide
  omega
theorem n_m1' (a : Nat) (h : a < 2 ^ 31) : ¬ (-nI 1 = nI a) := fun e => n_m1 a h e.symm
theorem n_m1lt (a : Nat) (h : a < 2 ^ 31) : -nI 1 < nI a := by
  rw [Int32.lt_iff_toInt_lt, nI_toInt h]
  have h2 : (-nI 1).toInt = -1 := by decide
  omega
theorem n_in {j N : Nat} (h : j < N) (hN : N < 2 ^ 31) : ¬ (nI j < nI 0 ∨ N ≤ (nI j).toNatClampNeg) := nI_in h hN
theorem n_or (a b : Nat) : nI a ||| nI b = nI (a ||| b) := by
  apply Int32.toBitVec_inj.1
  show BitVec.ofNat 32 a ||| BitVec.ofNat 32 b = BitVec.ofNat 32 (a ||| b)
  apply BitVec.eq_of_getLsbD_eq
  intro i hi
  simp [hi]
theorem n_and (a b : Nat) : nI a &&& nI b = nI (a &&& b) := by
  apply Int32.toBitVec_inj.1
  show BitVec.ofNat 32 a &&& BitVec.ofNat 32 b = BitVec.ofNat 32 (a &&& b)
  apply BitVec.eq_of_getLsbD_eq
  intro i hi
  simp [hi]
theorem n_xor (a b : Nat) : nI a ^^^ nI b = nI (a ^^^ b) := by
  apply Int32.toBitVec_inj.1
  show BitVec.ofNat 32 a ^^^ BitVec.ofNat 32 b = BitVec.ofNat 32 (a ^^^ b)
  apply BitVec.eq_of_getLsbD_eq
  intro i hi
  simp [hi]
theorem n_sh : ∀ l, l < 32 → nI 1 <<< (nI l &&& 31) = nI (2 ^ l) := by decide +kernel
theorem n_sl : ∀ n, n < 32 → ((nI n &&& 31).toBitVec.smod 32).toNat = n := by decide +kernel
theorem n_shr {m l : Nat} (hm : m < 2 ^ 31) (hl : l < 32) : nI m >>> (nI l &&& 31) = nI (m / 2 ^ l) := pk_shrN hm _ l (n_sl l hl)
theorem n_shr1 {m l : Nat} (hm : m < 2 ^ 31) (hl : l < 32) : (nI m >>> (nI l &&& 31)) &&& nI 1 = nI (bif m.testBit l then 1 else 0) := by
  rw [n_shr hm hl, n_and, Nat.and_one_is_mod, ← Nat.shiftRight_eq_div_pow]
  congr 1
  have h := Nat.testBit_eq_decide_div_mod_eq (x := m) (i := l)
  rw [Nat.shiftRight_eq_div_pow]
  cases e : m.testBit l with
  | true =>
    rw [e] at h
    have := of_decide_eq_true h.symm
    simpa using this
  | false =>
    rw [e] at h
    have := of_decide_eq_false h.symm
    show m / 2 ^ l % 2 = 0
    omega
theorem n_rem {a d : Nat} (ha : a < 2 ^ 31) (h0 : 0 < d) (hd : d < 2 ^ 31) : nI a - nI a / nI d * nI d = nI (a % d) := pk_rem ha h0 hd
theorem n_rep (x : Int32) (h0 : 0 ≤ x.toInt) : x = nI x.toNatClampNeg := by
  apply Int32.toInt_inj.mp
  have h1 : x.toNatClampNeg = x.toInt.toNat := rfl
  have h2 := Int32.toInt_lt x
  rw [nI_toInt (by rw [h1]; omega), h1]
  omega
end NUM
theorem e_bU {s : ab_S} {f : ab_S → ab_R} {h : Nat → ab_S → ab_R} : ab_bU (some (.inl none, s)) f h = f s := rfl
theorem e_bI {s : ab_S} {x : Int32} {f : Int32 → ab_S → ab_R} {h : Nat → ab_S → ab_R} : ab_bI (some (.inl (some (.inl (.int x))), s)) f h = f x s := rfl
theorem e_bJ {s : ab_S} {x : Int64} {f : Int64 → ab_S → ab_R} {h : Nat → ab_S → ab_R} : ab_bJ (some (.inl (some (.inl (.long x))), s)) f h = f x s := rfl
theorem e_bA {s : ab_S} {k i : Nat} {f : Nat → Nat → ab_S → ab_R} {h : Nat → ab_S → ab_R} : ab_bA (some (.inl (some (.inr (k, i))), s)) f h = f k i s := rfl
theorem e_xU {s : ab_S} {E : Nat} {f : ab_S → ab_R} {h : Nat → ab_S → ab_R} : ab_bU (some (.inr E, s)) f h = h E s := rfl
theorem e_xI {s : ab_S} {E : Nat} {f : Int32 → ab_S → ab_R} {h : Nat → ab_S → ab_R} : ab_bI (some (.inr E, s)) f h = h E s := rfl
theorem e_xJ {s : ab_S} {E : Nat} {f : Int64 → ab_S → ab_R} {h : Nat → ab_S → ab_R} : ab_bJ (some (.inr E, s)) f h = h E s := rfl
theorem e_xA {s : ab_S} {E : Nat} {f : Nat → Nat → ab_S → ab_R} {h : Nat → ab_S → ab_R} : ab_bA (some (.inr E, s)) f h = h E s := rfl
theorem e_px {s : ab_S} {E : Nat} : ab_px E s = some (.inr E, s) := rfl
section AT
variable {X : (Nat → Int32) × Nat} {d : Nat} {s s' : ab_S}
/-- a place of a row -/
theorem c_at {k i j n : Nat} {F : Nat → Int32} (hc : ab_isi k = true) (hn : ab_len X k i = some n) (hF : ab_ai X k i s = some F) (hj : j < n) (hN : n < 2 ^ 31) : ab_ev X d 9 [.inr (k, i), .inl (.int (nI j))] s = some (.inl (some (.inl (.int (F j)))), s) := by
  rw [b9, if_neg (n_nlt0 (by omega)), hn]
  show (if nI n ≤ nI j then _ else _) = _
  rw [if_neg (nI_ge hj hN), hc, cond_true]
  unfold ab_rI
  rw [hn, hF]
  show (if _ then _ else _) = _
  rw [if_neg (nI_in hj hN), nI_clamp (by omega)]
theorem c_put {k i j n : Nat} {F : Nat → Int32} {v : Int32} (hc : ab_isi k = true) (hn : ab_len X k i = some n) (hF : ab_ai X k i s = some F) (hw : ab_wi k i (va_up F j v) s = some s') (hj : j < n) (hN : n < 2 ^ 31) : ab_ev X d 3 [.inr (k, i), .inl (.int (nI j)), .inl (.int v)] s = some (.inl none, s') := by
  rw [b3, if_neg (n_nlt0 (by omega)), hn]
  show (if nI n ≤ nI j then _ else _) = _
  rw [if_neg (nI_ge hj hN), hc, cond_true]
  unfold ab_uI
  rw [hn, hF]
  show (if _ then _ else _) = _
  rw [if_neg (nI_in hj hN), nI_clamp (by omega), hw]
theorem c_min (a b : Nat) (ha : a < 2 ^ 31) (hb : b < 2 ^ 31) : ab_ev X d 19 [.inl (.int (nI a)), .inl (.int (nI b))] s = some (.inl (some (.inl (.int (nI (min a b))))), s) := by
  rw [b19]
  by_cases h : b < a
  · rw [if_pos (nI_lt h ha), Nat.min_eq_right (by omega)]
  · rw [if_neg (nI_nlt (by omega) hb), Nat.min_eq_left (by omega)]
theorem c_max (a b : Nat) (ha : a < 2 ^ 31) (hb : b < 2 ^ 31) : ab_ev X d 58 [.inl (.int (nI a)), .inl (.int (nI b))] s = some (.inl (some (.inl (.int (nI (max a b))))), s) := by
  rw [b58]
  by_cases h : a < b
  · rw [if_pos (nI_lt h hb), Nat.max_eq_right (by omega)]
  · rw [if_neg (nI_nlt (by omega) ha), Nat.max_eq_left (by omega)]
theorem c_max' (x y : Int32) : ab_ev X d 58 [.inl (.int x), .inl (.int y)] s = some (.inl (some (.inl (.int (if x < y then y else x)))), s) := by
  rw [b58]
  split <;> rfl
theorem c_min' (x y : Int32) : ab_ev X d 19 [.inl (.int x), .inl (.int y)] s = some (.inl (some (.inl (.int (if y < x then y else x)))), s) := by
  rw [b19]
  split <;> rfl
/-- a row copied from its start -/
theorem c_fill {k i k1 i1 n : Nat} {F G : Nat → Int32} (hc : ab_isi k = true) (hc1 : ab_isi k1 = true) (hn : ab_len X k i = some n) (hn1 : ab_len X k1 i1 = some n) (hF : ab_ai X k i s = some F) (hG : ab_ai X k1 i1 s = some G) (hN : n < 2 ^ 31) (hw : ab_wi k i (va_cpy G F 0 0 n) s = some s') : ab_ev X (d + 1) 18 [.inr (k, i), .inr (k1, i1)] s = some (.inl none, s') := by
  rw [b18, hn, hn1]
  show ab_bI _ _ _ = _
  rw [c_min n n hN hN, Nat.min_self]
  show ab_os _ _ = _
  unfold ab_cpy
  rw [hn, hn1, hF, hG, hc, hc1]
  show ab_os (if _ then _ else _) _ = _
  rw [if_neg, nI_clamp hN, nI_clamp (by decide), hw]
  · rfl
  · rw [nI_clamp hN, nI_clamp (by decide)]
    rintro (h | h | h | h | h)
    · exact absurd h (n_nlt0 (by decide))
    · exact absurd h (n_nlt0 (by decide))
    · exact absurd h (n_nlt0 hN)
    · omega
    · omega
theorem ab_lp {m c : Nat} (I : Nat → ab_L → ab_S → Prop) (N : Nat) (h : ∀ (k : Nat) (L : ab_L) (s : ab_S), k < N → I k L s → ∃ (L' : ab_L) (s' : ab_S), I (k + 1) L' s' ∧ ab_at X d m c L [] s = ab_at X d m c L' [] s') : ∀ (j k : Nat) {L : ab_L} {s : ab_S}, k + j = N → I k L s → ∃ (L' : ab_L) (s' : ab_S), I N L' s' ∧ ab_at X d m c L [] s = ab_at X d m c L' [] s'
  | 0, k, L, s, e, hi => by
    obtain rfl : k = N := by omega
    exact ⟨L, s, hi, rfl⟩
  | j + 1, k, L, s, e, hi => by
    obtain ⟨L1, s1, h1, e1⟩ := h k L s (by omega) hi
    obtain ⟨L2, s2, h2, e2⟩ := ab_lp I N h j (k + 1) (by omega) h1
    exact ⟨L2, s2, h2, e1.trans e2⟩
end AT
/-- what a store holds after a writing -/
theorem E0 :
  (∀ (s : ab_S) (k : Nat) (v : Int32), sy (pz s k v) = sy s) ∧
  (∀ (s : ab_S) (k : Nat) (v : Int32), st (pz s k v) = st s) ∧
  (∀ (s : ab_S) (k : Nat) (v : Int32), si (pz s k v) = si s) ∧
  (∀ (s : ab_S) (k : Nat) (v : Int32), sa (pz s k v) = sa s) ∧
  (∀ (s : ab_S) (k : Nat) (v : Int32), sA (pz s k v) = sA s) ∧
  (∀ (s : ab_S) (k : Nat) (v : Int32), sb (pz s k v) = sb s) ∧
  (∀ (s : ab_S) (k : Nat) (v : Int32), sB (pz s k v) = sB s) ∧
  (∀ (s : ab_S) (k : Nat) (v : Int32), sq (pz s k v) = sq s) ∧
  (∀ (s : ab_S) (k : Nat) (v : Int32), sn (pz s k v) = sn s) ∧
  (∀ (s : ab_S) (k : Nat) (v : Int32), sz (pz s k v) k = v) ∧
  (∀ (s : ab_S) (k j : Nat) (v : Int32), j ≠ k → sz (pz s k v) j = sz s j) ∧
  (∀ (s : ab_S) (k : Nat) (v : Int64), sz (py s k v) = sz s) ∧
  (∀ (s : ab_S) (k : Nat) (v : Int64), st (py s k v) = st s) ∧
  (∀ (s : ab_S) (k : Nat) (v : Int64), si (py s k v) = si s) ∧
  (∀ (s : ab_S) (k : Nat) (v : Int64), sa (py s k v) = sa s) ∧
  (∀ (s : ab_S) (k : Nat) (v : Int64), sA (py s k v) = sA s) ∧
  (∀ (s : ab_S) (k : Nat) (v : Int64), sb (py s k v) = sb s) ∧
  (∀ (s : ab_S) (k : Nat) (v : Int64), sB (py s k v) = sB s) ∧
  (∀ (s : ab_S) (k : Nat) (v : Int64), sq (py s k v) = sq s) ∧
  (∀ (s : ab_S) (k : Nat) (v : Int64), sn (py s k v) = sn s) ∧
  (∀ (s : ab_S) (k : Nat) (v : Int64), sy (py s k v) k = v) ∧
  (∀ (s : ab_S) (k j : Nat) (v : Int64), j ≠ k → sy (py s k v) j = sy s j) ∧
  (∀ (s : ab_S) (k : Nat) (v : Nat), sz (pt s k v) = sz s) ∧
  (∀ (s : ab_S) (k : Nat) (v : Nat), sy (pt s k v) = sy s) ∧
  (∀ (s : ab_S) (k : Nat) (v : Nat), si (pt s k v) = si s) ∧
  (∀ (s : ab_S) (k : Nat) (v : Nat), sa (pt s k v) = sa s) ∧
  (∀ (s : ab_S) (k : Nat) (v : Nat), sA (pt s k v) = sA s) ∧
  (∀ (s : ab_S) (k : Nat) (v : Nat), sb (pt s k v) = sb s) ∧
  (∀ (s : ab_S) (k : Nat) (v : Nat), sB (pt s k v) = sB s) ∧
  (∀ (s : ab_S) (k : Nat) (v : Nat), sq (pt s k v) = sq s) ∧
  (∀ (s : ab_S) (k : Nat) (v : Nat), sn (pt s k v) = sn s) ∧
  (∀ (s : ab_S) (k : Nat) (v : Nat), st (pt s k v) k = v) ∧
  (∀ (s : ab_S) (k j : Nat) (v : Nat), j ≠ k → st (pt s k v) j = st s j) ∧
  (∀ (s : ab_S) (k : Nat) (v : Nat → Int32), sz (pa s k v) = sz s) ∧
  (∀ (s : ab_S) (k : Nat) (v : Nat → Int32), sy (pa s k v) = sy s) ∧
  (∀ (s : ab_S) (k : Nat) (v : Nat → Int32), st (pa s k v) = st s) ∧
  (∀ (s : ab_S) (k : Nat) (v : Nat → Int32), si (pa s k v) = si s) ∧
  (∀ (s : ab_S) (k : Nat) (v : Nat → Int32), sA (pa s k v) = sA s) ∧
  (∀ (s : ab_S) (k : Nat) (v : Nat → Int32), sb (pa s k v) = sb s) ∧
  (∀ (s : ab_S) (k : Nat) (v : Nat → Int32), sB (pa s k v) = sB s) ∧
  (∀ (s : ab_S) (k : Nat) (v : Nat → Int32), sq (pa s k v) = sq s) ∧
  (∀ (s : ab_S) (k : Nat) (v : Nat → Int32), sn (pa s k v) = sn s) ∧
  (∀ (s : ab_S) (k : Nat) (v : Nat → Int32), sa (pa s k v) k = v) ∧
  (∀ (s : ab_S) (k j : Nat) (v : Nat → Int32), j ≠ k → sa (pa s k v) j = sa s j) ∧
  (∀ (s : ab_S) (k : Nat) (v : Nat → Int64), sz (pb s k v) = sz s) ∧
  (∀ (s : ab_S) (k : Nat) (v : Nat → Int64), sy (pb s k v) = sy s) ∧
  (∀ (s : ab_S) (k : Nat) (v : Nat → Int64), st (pb s k v) = st s) ∧
  (∀ (s : ab_S) (k : Nat) (v : Nat → Int64), si (pb s k v) = si s) ∧
  (∀ (s : ab_S) (k : Nat) (v : Nat → Int64), sa (pb s k v) = sa s) ∧
  (∀ (s : ab_S) (k : Nat) (v : Nat → Int64), sA (pb s k v) = sA s) ∧
  (∀ (s : ab_S) (k : Nat) (v : Nat → Int64), sB (pb s k v) = sB s) ∧
  (∀ (s : ab_S) (k : Nat) (v : Nat → Int64), sq (pb s k v) = sq s) ∧
  (∀ (s : ab_S) (k : Nat) (v : Nat → Int64), sn (pb s k v) = sn s) ∧
  (∀ (s : ab_S) (k : Nat) (v : Nat → Int64), sb (pb s k v) k = v) ∧
  (∀ (s : ab_S) (k j : Nat) (v : Nat → Int64), j ≠ k → sb (pb s k v) j = sb s j) ∧
  (∀ (s : ab_S) (k : Nat) (v : Nat → Option Nat), sz (pq s k v) = sz s) ∧
  (∀ (s : ab_S) (k : Nat) (v : Nat → Option Nat), sy (pq s k v) = sy s) ∧
  (∀ (s : ab_S) (k : Nat) (v : Nat → Option Nat), st (pq s k v) = st s) ∧
  (∀ (s : ab_S) (k : Nat) (v : Nat → Option Nat), si (pq s k v) = si s) ∧
  (∀ (s : ab_S) (k : Nat) (v : Nat → Option Nat), sa (pq s k v) = sa s) ∧
  (∀ (s : ab_S) (k : Nat) (v : Nat → Option Nat), sA (pq s k v) = sA s) ∧
  (∀ (s : ab_S) (k : Nat) (v : Nat → Option Nat), sb (pq s k v) = sb s) ∧
  (∀ (s : ab_S) (k : Nat) (v : Nat → Option Nat), sB (pq s k v) = sB s) ∧
  (∀ (s : ab_S) (k : Nat) (v : Nat → Option Nat), sn (pq s k v) = sn s) ∧
  (∀ (s : ab_S) (k : Nat) (v : Nat → Option Nat), sq (pq s k v) k = v) ∧
  (∀ (s : ab_S) (k j : Nat) (v : Nat → Option Nat), j ≠ k → sq (pq s k v) j = sq s j) ∧
  (∀ (s : ab_S) (k : Nat) (v : Nat), sz (pn s k v) = sz s) ∧
  (∀ (s : ab_S) (k : Nat) (v : Nat), sy (pn s k v) = sy s) ∧
  (∀ (s : ab_S) (k : Nat) (v : Nat), st (pn s k v) = st s) ∧
  (∀ (s : ab_S) (k : Nat) (v : Nat), si (pn s k v) = si s) ∧
  (∀ (s : ab_S) (k : Nat) (v : Nat), sa (pn s k v) = sa s) ∧
  (∀ (s : ab_S) (k : Nat) (v : Nat), sA (pn s k v) = sA s) ∧
  (∀ (s : ab_S) (k : Nat) (v : Nat), sb (pn s k v) = sb s) ∧
  (∀ (s : ab_S) (k : Nat) (v : Nat), sB (pn s k v) = sB s) ∧
  (∀ (s : ab_S) (k : Nat) (v : Nat), sq (pn s k v) = sq s) ∧
  (∀ (s : ab_S) (k : Nat) (v : Nat), sn (pn s k v) k = v) ∧
  (∀ (s : ab_S) (k j : Nat) (v : Nat), j ≠ k → sn (pn s k v) j = sn s j) ∧
  (∀ (s : ab_S) (k i : Nat) (v : Int32), sz (wi s k i v) = sz s) ∧
  (∀ (s : ab_S) (k i : Nat) (v : Int32), sy (wi s k i v) = sy s) ∧
  (∀ (s : ab_S) (k i : Nat) (v : Int32), st (wi s k i v) = st s) ∧
  (∀ (s : ab_S) (k i : Nat) (v : Int32), sa (wi s k i v) = sa s) ∧
  (∀ (s : ab_S) (k i : Nat) (v : Int32), sA (wi s k i v) = sA s) ∧
  (∀ (s : ab_S) (k i : Nat) (v : Int32), sb (wi s k i v) = sb s) ∧
  (∀ (s : ab_S) (k i : Nat) (v : Int32), sB (wi s k i v) = sB s) ∧
  (∀ (s : ab_S) (k i : Nat) (v : Int32), sq (wi s k i v) = sq s) ∧
  (∀ (s : ab_S) (k i : Nat) (v : Int32), sn (wi s k i v) = sn s) ∧
  (∀ (s : ab_S) (k i : Nat) (v : Int32), si (wi s k i v) k i = v) ∧
  (∀ (s : ab_S) (k i j : Nat) (v : Int32), j ≠ i → si (wi s k i v) k j = si s k j) ∧
  (∀ (s : ab_S) (k i k1 : Nat) (v : Int32), k1 ≠ k → si (wi s k i v) k1 = si s k1) ∧
  (∀ (s : ab_S) (k i : Nat) (v : Nat → Int32), sz (wA s k i v) = sz s) ∧
  (∀ (s : ab_S) (k i : Nat) (v : Nat → Int32), sy (wA s k i v) = sy s) ∧
  (∀ (s : ab_S) (k i : Nat) (v : Nat → Int32), st (wA s k i v) = st s) ∧
  (∀ (s : ab_S) (k i : Nat) (v : Nat → Int32), si (wA s k i v) = si s) ∧
  (∀ (s : ab_S) (k i : Nat) (v : Nat → Int32), sa (wA s k i v) = sa s) ∧
  (∀ (s : ab_S) (k i : Nat) (v : Nat → Int32), sb (wA s k i v) = sb s) ∧
  (∀ (s : ab_S) (k i : Nat) (v : Nat → Int32), sB (wA s k i v) = sB s) ∧
  (∀ (s : ab_S) (k i : Nat) (v : Nat → Int32), sq (wA s k i v) = sq s) ∧
  (∀ (s : ab_S) (k i : Nat) (v : Nat → Int32), sn (wA s k i v) = sn s) ∧
  (∀ (s : ab_S) (k i : Nat) (v : Nat → Int32), sA (wA s k i v) k i = v) ∧
  (∀ (s : ab_S) (k i j : Nat) (v : Nat → Int32), j ≠ i → sA (wA s k i v) k j = sA s k j) ∧
  (∀ (s : ab_S) (k i k1 : Nat) (v : Nat → Int32), k1 ≠ k → sA (wA s k i v) k1 = sA s k1) ∧
  (∀ (s : ab_S) (k i : Nat) (v : Nat → Int64), sz (wB s k i v) = sz s) ∧
  (∀ (s : ab_S) (k i : Nat) (v : Nat → Int64), sy (wB s k i v) = sy s) ∧
  (∀ (s : ab_S) (k i : Nat) (v : Nat → Int64), st (wB s k i v) = st s) ∧
  (∀ (s : ab_S) (k i : Nat) (v : Nat → Int64), si (wB s k i v) = si s) ∧
  (∀ (s : ab_S) (k i : Nat) (v : Nat → Int64), sa (wB s k i v) = sa s) ∧
  (∀ (s : ab_S) (k i : Nat) (v : Nat → Int64), sA (wB s k i v) = sA s) ∧
  (∀ (s : ab_S) (k i : Nat) (v : Nat → Int64), sb (wB s k i v) = sb s) ∧
  (∀ (s : ab_S) (k i : Nat) (v : Nat → Int64), sq (wB s k i v) = sq s) ∧
  (∀ (s : ab_S) (k i : Nat) (v : Nat → Int64), sn (wB s k i v) = sn s) ∧
  (∀ (s : ab_S) (k i : Nat) (v : Nat → Int64), sB (wB s k i v) k i = v) ∧
  (∀ (s : ab_S) (k i j : Nat) (v : Nat → Int64), j ≠ i → sB (wB s k i v) k j = sB s k j) ∧
  (∀ (s : ab_S) (k i k1 : Nat) (v : Nat → Int64), k1 ≠ k → sB (wB s k i v) k1 = sB s k1) :=
  ⟨fun _ _ _ => rfl,
   fun _ _ _ => rfl,
   fun _ _ _ => rfl,
   fun _ _ _ => rfl,
   fun _ _ _ => rfl,
   fun _ _ _ => rfl,
   fun _ _ _ => rfl,
   fun _ _ _ => rfl,
   fun _ _ _ => rfl,
   fun s k v => va_up_self _ _ _,
   fun s k j v h => va_up_ne _ _ h,
   fun _ _ _ => rfl,
   fun _ _ _ => rfl,
   fun _ _ _ => rfl,
   fun _ _ _ => rfl,
   fun _ _ _ => rfl,
   fun _ _ _ => rfl,
   fun _ _ _ => rfl,
   fun _ _ _ => rfl,
   fun _ _ _ => rfl,
   fun s k v => va_up_self _ _ _,
   fun s k j v h => va_up_ne _ _ h,
   fun _ _ _ => rfl,
   fun _ _ _ => rfl,
   fun _ _ _ => rfl,
   fun _ _ _ => rfl,
   fun _ _ _ => rfl,
   fun _ _ _ => rfl,
   fun _ _ _ => rfl,
   fun _ _ _ => rfl,
   fun _ _ _ => rfl,
   fun s k v => va_up_self _ _ _,
   fun s k j v h => va_up_ne _ _ h,
   fun _ _ _ => rfl,
   fun _ _ _ => rfl,
   fun _ _ _ => rfl,
   fun _ _ _ => rfl,
   fun _ _ _ => rfl,
   fun _ _ _ => rfl,
   fun _ _ _ => rfl,
   fun _ _ _ => rfl,
   fun _ _ _ => rfl,
   fun s k v => va_up_self _ _ _,
   fun s k j v h => va_up_ne _ _ h,
   fun _ _ _ => rfl,
   fun _ _ _ => rfl,
   fun _ _ _ => rfl,
   fun _ _ _ => rfl,
   fun _ _ _ => rfl,
   fun _ _ _ => rfl,
   fun _ _ _ => rfl,
   fun _ _ _ => rfl,
   fun _ _ _ => rfl,
   fun s k v => va_up_self _ _ _,
   fun s k j v h => va_up_ne _ _ h,
   fun _ _ _ => rfl,
   fun _ _ _ => rfl,
   fun _ _ _ => rfl,
   fun _ _ _ => rfl,
   fun _ _ _ => rfl,
   fun _ _ _ => rfl,
   fun _ _ _ => rfl,
   fun _ _ _ => rfl,
   fun _ _ _ => rfl,
   fun s k v => va_up_self _ _ _,
   fun s k j v h => va_up_ne _ _ h,
   fun _ _ _ => rfl,
   fun _ _ _ => rfl,
   fun _ _ _ => rfl,
   fun _ _ _ => rfl,
   fun _ _ _ => rfl,
   fun _ _ _ => rfl,
   fun _ _ _ => rfl,
   fun _ _ _ => rfl,
   fun _ _ _ => rfl,
   fun s k v => va_up_self _ _ _,
   fun s k j v h => va_up_ne _ _ h,
   fun _ _ _ _ => rfl,
   fun _ _ _ _ => rfl,
   fun _ _ _ _ => rfl,
   fun _ _ _ _ => rfl,
   fun _ _ _ _ => rfl,
   fun _ _ _ _ => rfl,
   fun _ _ _ _ => rfl,
   fun _ _ _ _ => rfl,
   fun _ _ _ _ => rfl,
   fun s k i v => (congrFun (va_up_self _ _ _) i).trans (va_up_self _ _ _),
   fun s k i j v h => (congrFun (va_up_self _ _ _) j).trans (va_up_ne _ _ h),
   fun s k i k1 v h => va_up_ne _ _ h,
   fun _ _ _ _ => rfl,
   fun _ _ _ _ => rfl,
   fun _ _ _ _ => rfl,
   fun _ _ _ _ => rfl,
   fun _ _ _ _ => rfl,
   fun _ _ _ _ => rfl,
   fun _ _ _ _ => rfl,
   fun _ _ _ _ => rfl,
   fun _ _ _ _ => rfl,
   fun s k i v => (congrFun (va_up_self _ _ _) i).trans (va_up_self _ _ _),
   fun s k i j v h => (congrFun (va_up_self _ _ _) j).trans (va_up_ne _ _ h),
   fun s k i k1 v h => va_up_ne _ _ h,
   fun _ _ _ _ => rfl,
   fun _ _ _ _ => rfl,
   fun _ _ _ _ => rfl,
   fun _ _ _ _ => rfl,
   fun _ _ _ _ => rfl,
   fun _ _ _ _ => rfl,
   fun _ _ _ _ => rfl,
   fun _ _ _ _ => rfl,
   fun _ _ _ _ => rfl,
   fun s k i v => (congrFun (va_up_self _ _ _) i).trans (va_up_self _ _ _),
   fun s k i j v h => (congrFun (va_up_self _ _ _) j).trans (va_up_ne _ _ h),
   fun s k i k1 v h => va_up_ne _ _ h⟩
theorem va_up2 {α : Type} (f : Nat → α) (k : Nat) (a b : α) : va_up (va_up f k a) k b = va_up f k b := by
  funext j
  unfold va_up
  split <;> rfl
theorem va_up_id {α : Type} (f : Nat → α) (k : Nat) : va_up f k (f k) = f := by
  funext j
  unfold va_up
  split
  · rename_i h
    rw [h]
  · rfl
/-- two writings at one place -/
theorem E1 :
  (∀ (s : ab_S) (k : Nat) (u v : Int32), pz (pz s k u) k v = pz s k v) ∧
  (∀ (s : ab_S) (k : Nat) (u v : Int64), py (py s k u) k v = py s k v) ∧
  (∀ (s : ab_S) (k : Nat) (u v : Nat), pt (pt s k u) k v = pt s k v) ∧
  (∀ (s : ab_S) (k : Nat) (u v : Nat → Int32), pa (pa s k u) k v = pa s k v) ∧
  (∀ (s : ab_S) (k : Nat) (u v : Nat → Int64), pb (pb s k u) k v = pb s k v) ∧
  (∀ (s : ab_S) (k : Nat) (u v : Nat → Option Nat), pq (pq s k u) k v = pq s k v) ∧
  (∀ (s : ab_S) (k : Nat) (u v : Nat), pn (pn s k u) k v = pn s k v) ∧
  (∀ (s : ab_S) (k i : Nat) (u v : Int32), wi (wi s k i u) k i v = wi s k i v) ∧
  (∀ (s : ab_S) (k i : Nat) (u v : Nat → Int32), wA (wA s k i u) k i v = wA s k i v) ∧
  (∀ (s : ab_S) (k i : Nat) (u v : Nat → Int64), wB (wB s k i u) k i v = wB s k i v) :=
  ⟨fun s k u v => by unfold pz; simp only [va_up2],
   fun s k u v => by unfold py; simp only [va_up2],
   fun s k u v => by unfold pt; simp only [va_up2],
   fun s k u v => by unfold pa; simp only [va_up2],
   fun s k u v => by unfold pb; simp only [va_up2],
   fun s k u v => by unfold pq; simp only [va_up2],
   fun s k u v => by unfold pn; simp only [va_up2],
   fun s k i u v => by unfold wi pi si; simp only [va_up_self, va_up2],
   fun s k i u v => by unfold wA pA sA; simp only [va_up_self, va_up2],
   fun s k i u v => by unfold wB pB sB; simp only [va_up_self, va_up2]⟩
theorem wi_id (s : ab_S) (k i : Nat) : wi s k i (si s k i) = s := by
  unfold wi pi si
  rw [va_up_id, va_up_id]
theorem wA_id (s : ab_S) (k i : Nat) : wA s k i (sA s k i) = s := by
  unfold wA pA sA
  rw [va_up_id, va_up_id]
theorem wB_id (s : ab_S) (k i : Nat) : wB s k i (sB s k i) = s := by
  unfold wB pB sB
  rw [va_up_id, va_up_id]
theorem pz_id (s : ab_S) (k : Nat) : pz s k (sz s k) = s := by
  unfold pz sz
  rw [va_up_id]
theorem py_id (s : ab_S) (k : Nat) : py s k (sy s k) = s := by
  unfold py sy
  rw [va_up_id]
theorem pt_id (s : ab_S) (k : Nat) : pt s k (st s k) = s := by
  unfold pt st
  rw [va_up_id]
theorem pa_id (s : ab_S) (k : Nat) : pa s k (sa s k) = s := by
  unfold pa sa
  rw [va_up_id]
theorem pb_id (s : ab_S) (k : Nat) : pb s k (sb s k) = s := by
  unfold pb sb
  rw [va_up_id]
theorem pq_id (s : ab_S) (k : Nat) : pq s k (sq s k) = s := by
  unfold pq sq
  rw [va_up_id]
theorem pn_id (s : ab_S) (k : Nat) : pn s k (sn s k) = s := by
  unfold pn sn
  rw [va_up_id]
theorem va_up_sw {α : Type} (f : Nat → α) {k j : Nat} (h : k ≠ j) (a b : α) : va_up (va_up f k a) j b = va_up (va_up f j b) k a := by
  funext q
  unfold va_up
  by_cases h1 : q = j
  · rw [if_pos h1, if_neg (by omega), if_pos h1]
  · rw [if_neg h1, if_neg h1]
theorem pa_sw {s : ab_S} {k j : Nat} {F G : Nat → Int32} (h : k ≠ j) : pa (pa s k F) j G = pa (pa s j G) k F := by
  unfold pa
  simp only [va_up_sw _ h]
section ATS
variable {X : (Nat → Int32) × Nat} {d i j : Nat} {v : Int32} {s : ab_S}
theorem at18 (hj : j < 900) : ab_ev X d 9 [.inr (18, 0), .inl (.int (nI j))] s = some (.inl (some (.inl (.int (sa s 0 j)))), s) := c_at (n := 900) rfl rfl rfl hj (by decide)
theorem put18 (hj : j < 900) : ab_ev X d 3 [.inr (18, 0), .inl (.int (nI j)), .inl (.int v)] s = some (.inl none, pa s 0 (va_up (sa s 0) j v)) := c_put (n := 900) rfl rfl rfl rfl hj (by decide)
theorem at19 (hj : j < 20) : ab_ev X d 9 [.inr (19, i), .inl (.int (nI j))] s = some (.inl (some (.inl (.int (sA s 0 i j)))), s) := c_at (n := 20) rfl rfl rfl hj (by decide)
theorem put19 (hj : j < 20) : ab_ev X d 3 [.inr (19, i), .inl (.int (nI j)), .inl (.int v)] s = some (.inl none, wA s 0 i (va_up (sA s 0 i) j v)) := c_put (n := 20) rfl rfl rfl rfl hj (by decide)
theorem at20 (hj : j < 8) : ab_ev X d 9 [.inr (20, i), .inl (.int (nI j))] s = some (.inl (some (.inl (.int (sA s 1 i j)))), s) := c_at (n := 8) rfl rfl rfl hj (by decide)
theorem put20 (hj : j < 8) : ab_ev X d 3 [.inr (20, i), .inl (.int (nI j)), .inl (.int v)] s = some (.inl none, wA s 1 i (va_up (sA s 1 i) j v)) := c_put (n := 8) rfl rfl rfl rfl hj (by decide)
theorem at21 (hj : j < 8) : ab_ev X d 9 [.inr (21, i), .inl (.int (nI j))] s = some (.inl (some (.inl (.int (sA s 2 i j)))), s) := c_at (n := 8) rfl rfl rfl hj (by decide)
theorem put21 (hj : j < 8) : ab_ev X d 3 [.inr (21, i), .inl (.int (nI j)), .inl (.int v)] s = some (.inl none, wA s 2 i (va_up (sA s 2 i) j v)) := c_put (n := 8) rfl rfl rfl rfl hj (by decide)
theorem at22 (hj : j < 80) : ab_ev X d 9 [.inr (22, i), .inl (.int (nI j))] s = some (.inl (some (.inl (.int (sA s 3 i j)))), s) := c_at (n := 80) rfl rfl rfl hj (by decide)
theorem put22 (hj : j < 80) : ab_ev X d 3 [.inr (22, i), .inl (.int (nI j)), .inl (.int v)] s = some (.inl none, wA s 3 i (va_up (sA s 3 i) j v)) := c_put (n := 80) rfl rfl rfl rfl hj (by decide)
theorem at23 (hj : j < 4) : ab_ev X d 9 [.inr (23, i), .inl (.int (nI j))] s = some (.inl (some (.inl (.int (sA s 4 i j)))), s) := c_at (n := 4) rfl rfl rfl hj (by decide)
theorem put23 (hj : j < 4) : ab_ev X d 3 [.inr (23, i), .inl (.int (nI j)), .inl (.int v)] s = some (.inl none, wA s 4 i (va_up (sA s 4 i) j v)) := c_put (n := 4) rfl rfl rfl rfl hj (by decide)
theorem at24 (hj : j < 4) : ab_ev X d 9 [.inr (24, i), .inl (.int (nI j))] s = some (.inl (some (.inl (.int (sA s 5 i j)))), s) := c_at (n := 4) rfl rfl rfl hj (by decide)
theorem put24 (hj : j < 4) : ab_ev X d 3 [.inr (24, i), .inl (.int (nI j)), .inl (.int v)] s = some (.inl none, wA s 5 i (va_up (sA s 5 i) j v)) := c_put (n := 4) rfl rfl rfl rfl hj (by decide)
theorem at25 (hj : j < 900) : ab_ev X d 9 [.inr (25, i), .inl (.int (nI j))] s = some (.inl (some (.inl (.int (sA s 6 i j)))), s) := c_at (n := 900) rfl rfl rfl hj (by decide)
theorem put25 (hj : j < 900) : ab_ev X d 3 [.inr (25, i), .inl (.int (nI j)), .inl (.int v)] s = some (.inl none, wA s 6 i (va_up (sA s 6 i) j v)) := c_put (n := 900) rfl rfl rfl rfl hj (by decide)
theorem at26 (hj : j < 40) : ab_ev X d 9 [.inr (26, i), .inl (.int (nI j))] s = some (.inl (some (.inl (.int (sA s 7 i j)))), s) := c_at (n := 40) rfl rfl rfl hj (by decide)
theorem put26 (hj : j < 40) : ab_ev X d 3 [.inr (26, i), .inl (.int (nI j)), .inl (.int v)] s = some (.inl none, wA s 7 i (va_up (sA s 7 i) j v)) := c_put (n := 40) rfl rfl rfl rfl hj (by decide)
theorem at27 (hj : j < 40) : ab_ev X d 9 [.inr (27, i), .inl (.int (nI j))] s = some (.inl (some (.inl (.int (sA s 8 i j)))), s) := c_at (n := 40) rfl rfl rfl hj (by decide)
theorem put27 (hj : j < 40) : ab_ev X d 3 [.inr (27, i), .inl (.int (nI j)), .inl (.int v)] s = some (.inl none, wA s 8 i (va_up (sA s 8 i) j v)) := c_put (n := 40) rfl rfl rfl rfl hj (by decide)
theorem at28 (hj : j < 20) : ab_ev X d 9 [.inr (28, 0), .inl (.int (nI j))] s = some (.inl (some (.inl (.int (sa s 1 j)))), s) := c_at (n := 20) rfl rfl rfl hj (by decide)
theorem put28 (hj : j < 20) : ab_ev X d 3 [.inr (28, 0), .inl (.int (nI j)), .inl (.int v)] s = some (.inl none, pa s 1 (va_up (sa s 1) j v)) := c_put (n := 20) rfl rfl rfl rfl hj (by decide)
theorem at29 (hj : j < 20) : ab_ev X d 9 [.inr (29, 0), .inl (.int (nI j))] s = some (.inl (some (.inl (.int (sa s 2 j)))), s) := c_at (n := 20) rfl rfl rfl hj (by decide)
theorem put29 (hj : j < 20) : ab_ev X d 3 [.inr (29, 0), .inl (.int (nI j)), .inl (.int v)] s = some (.inl none, pa s 2 (va_up (sa s 2) j v)) := c_put (n := 20) rfl rfl rfl rfl hj (by decide)
theorem at30 (hj : j < 20) : ab_ev X d 9 [.inr (30, 0), .inl (.int (nI j))] s = some (.inl (some (.inl (.int (sa s 3 j)))), s) := c_at (n := 20) rfl rfl rfl hj (by decide)
theorem put30 (hj : j < 20) : ab_ev X d 3 [.inr (30, 0), .inl (.int (nI j)), .inl (.int v)] s = some (.inl none, pa s 3 (va_up (sa s 3) j v)) := c_put (n := 20) rfl rfl rfl rfl hj (by decide)
theorem at31 (hj : j < 20) : ab_ev X d 9 [.inr (31, 0), .inl (.int (nI j))] s = some (.inl (some (.inl (.int (sa s 4 j)))), s) := c_at (n := 20) rfl rfl rfl hj (by decide)
theorem put31 (hj : j < 20) : ab_ev X d 3 [.inr (31, 0), .inl (.int (nI j)), .inl (.int v)] s = some (.inl none, pa s 4 (va_up (sa s 4) j v)) := c_put (n := 20) rfl rfl rfl rfl hj (by decide)
theorem at32 (hj : j < 20) : ab_ev X d 9 [.inr (32, 0), .inl (.int (nI j))] s = some (.inl (some (.inl (.int (sa s 5 j)))), s) := c_at (n := 20) rfl rfl rfl hj (by decide)
theorem put32 (hj : j < 20) : ab_ev X d 3 [.inr (32, 0), .inl (.int (nI j)), .inl (.int v)] s = some (.inl none, pa s 5 (va_up (sa s 5) j v)) := c_put (n := 20) rfl rfl rfl rfl hj (by decide)
theorem at33 (hj : j < 20) : ab_ev X d 9 [.inr (33, 0), .inl (.int (nI j))] s = some (.inl (some (.inl (.int (sa s 6 j)))), s) := c_at (n := 20) rfl rfl rfl hj (by decide)
theorem put33 (hj : j < 20) : ab_ev X d 3 [.inr (33, 0), .inl (.int (nI j)), .inl (.int v)] s = some (.inl none, pa s 6 (va_up (sa s 6) j v)) := c_put (n := 20) rfl rfl rfl rfl hj (by decide)
theorem at35 (hj : j < 8) : ab_ev X d 9 [.inr (35, 0), .inl (.int (nI j))] s = some (.inl (some (.inl (.int (sa s 7 j)))), s) := c_at (n := 8) rfl rfl rfl hj (by decide)
theorem put35 (hj : j < 8) : ab_ev X d 3 [.inr (35, 0), .inl (.int (nI j)), .inl (.int v)] s = some (.inl none, pa s 7 (va_up (sa s 7) j v)) := c_put (n := 8) rfl rfl rfl rfl hj (by decide)
end ATS
