/-! Deeds of the class. -/
def d4 (P : Nat → Int32) (q : Nat) (a b c e : Int32) : Nat → Int32 := va_up (va_up (va_up (va_up P q a) (q + 1) b) (q + 2) c) (q + 3) e
/-- the deeds' row with one more; the eldest goes when there are ten -/
def dn (P : Nat → Int32) (m : Nat) (a b c e : Int32) : Nat → Int32 := if m < 10 then d4 P (4 * m) a b c e else d4 (va_cpy P P 4 0 36) 36 a b c e
def nt (s : ab_S) (i m : Nat) (a b c e : Int32) : ab_S := wi (wA s 8 i (dn (sA s 8 i) m a b c e)) 9 i (nI (min (m + 1) 10))
theorem E1w (s : ab_S) (k i : Nat) (u v : Int32) : wi (wi s k i u) k i v = wi s k i v := by simp only [E1]
theorem E1a (s : ab_S) (k i : Nat) (u v : Nat → Int32) : wA (wA s k i u) k i v = wA s k i v := by simp only [E1]
theorem wA_wi (s : ab_S) (k i : Nat) (v : Int32) (k2 i2 : Nat) (G : Nat → Int32) : wA (wi s k i v) k2 i2 G = wi (wA s k2 i2 G) k i v := rfl
section DED
variable {X : (Nat → Int32) × Nat} {d i n : Nat} {nm : Nat → Nat} {s : ab_S} {m : Nat}
theorem c_note {a b c e : Int32} (hm : si s 9 i = nI m) (h10 : m ≤ 10) : ab_ev X (d + 1) 116 [.inr (5, i), .inl (.int a), .inl (.int b), .inl (.int c), .inl (.int e)] s = some (.inl none, nt s i m a b c e) := by
  rw [b116, hm]
  by_cases h : m < 10
  · rw [if_pos (nI_lt h (by omega)), pk_mul, put27 (by omega), e_bU]
    simp (disch := omega) only [E0, hm, pk_mul, nI_add, put27, e_bU, E1]
    unfold nt dn d4
    rw [if_pos h, Nat.min_eq_left (by omega), Nat.mul_comm m 4]
  · obtain rfl : m = 10 := by omega
    rw [if_neg (by decide), pk_sub (by omega)]
    have e1 : ab_cpy X 27 i (nI 4) 27 i (nI 0) (nI (40 - 4)) s = some (wA s 8 i (va_cpy (sA s 8 i) (sA s 8 i) 4 0 36)) := rfl
    rw [e1]
    show ab_bU _ _ _ = _
    simp (disch := omega) only [E0, hm, pk_mul, nI_add, put27, e_bU, E1]
    unfold nt dn d4
    rw [if_neg h, wA_wi, E1w, E1a]
    rfl
theorem c_ofLatest {p : Nat} (hm : si s 9 i = nI m) (h10 : m ≤ 10) (h0 : 0 < m) (hp : p < 4) : ab_ev X (d + 1) 146 [.inr (5, i), .inl (.int (nI p))] s = some (.inl (some (.inl (.int (sA s 8 i (4 * (m - 1) + p))))), s) := by
  rw [b146, hm, pk_sub (by omega), pk_mul, nI_add, at27 (by omega), e_bI, Nat.mul_comm]
theorem c_dropLatest (hm : si s 9 i = nI m) (h10 : m ≤ 10) (h0 : 0 < m) : ab_ev X (d + 1) 147 [.inr (5, i)] s = some (.inl none, wi s 9 i (nI (m - 1))) := by
  rw [b147, hm, pk_sub (by omega), c_max _ _ (by omega) (by omega), e_bI, Nat.max_eq_right (by omega)]
theorem c_hangSign {a : Nat} {v : Int32} (hm : si s 9 i = nI m) (h10 : m ≤ 10) (ha : a < 20) : ab_ev X (d + 2) 124 [.inr (2, i), .inl (.int (nI a)), .inl (.int v)] s = some (.inl (some (.inl (.int (sA s 0 i a)))), nt (wA s 0 i (va_up (sA s 0 i) a v)) i m (nI 2) (nI a) (sA s 0 i a) (nI 0)) := by
  rw [b124, at19 ha, e_bI, put19 ha, e_bU, c_note (s := wA s 0 i (va_up (sA s 0 i) a v)) hm h10, e_bU]
theorem c_swapNames {a b : Nat} (ha : a < 20) (hb : b < 20) : ab_ev X (d + 1) 129 [.inr (2, i), .inl (.int (nI a)), .inl (.int (nI b))] s = some (.inl none, wA s 0 i (va_up (va_up (sA s 0 i) a (sA s 0 i b)) b (sA s 0 i a))) := by
  rw [b129, at19 ha, e_bI, at19 hb, e_bI, put19 ha, e_bU, put19 hb, e_bU]
  simp (disch := omega) only [E0, E1]
theorem c_exchange {a b : Nat} (hm : si s 9 i = nI m) (h10 : m ≤ 10) (ha : a < 20) (hb : b < 20) : ab_ev X (d + 2) 128 [.inr (2, i), .inl (.int (nI a)), .inl (.int (nI b))] s = some (.inl none, nt (wA s 0 i (va_up (va_up (sA s 0 i) a (sA s 0 i b)) b (sA s 0 i a))) i m (nI 3) (nI a) (nI b) (nI 0)) := by
  rw [b128, c_swapNames ha hb, e_bU, c_note (s := wA s 0 i (va_up (va_up (sA s 0 i) a (sA s 0 i b)) b (sA s 0 i a))) hm h10, e_bU]
theorem c_join {r z p : Nat} {x : Int32} (hm : si s 9 i = nI m) (h10 : m ≤ 10) (hr : r < 4) (hz : sA s 4 i r = nI z) (h20 : z < 20) (hp : p ≤ z) : ab_ev X (d + 3) 132 [.inr (2, i), .inl (.int x), .inl (.int (nI r)), .inl (.int (nI p))] s = some (.inl (some (.inl (.int (nI (z + 1))))), nt (wA (wA s 3 i (ins (sA s 3 i) (20 * r) z p x)) 4 i (va_up (sA s 4 i) r (nI (z + 1)))) i m (nI 4) x (nI r) (nI p)) := by
  rw [b132, c_insert hr hz h20 hp, e_bU, c_note (s := wA (wA s 3 i (ins (sA s 3 i) (20 * r) z p x)) 4 i (va_up (sA s 4 i) r (nI (z + 1)))) hm h10, e_bU, c_sizeOf hr, e_bI]
  unfold nt
  simp (disch := omega) only [E0, va_up_self]
theorem c_leave {r z : Nat} {x : Int32} (hm : si s 9 i = nI m) (h10 : m ≤ 10) (hr : r < 4) (hz : sA s 4 i r = nI z) (h20 : z ≤ 20) (hp : pl (sA s 3 i) (20 * r) z x < z) : ab_ev X (d + 3) 135 [.inr (2, i), .inl (.int x), .inl (.int (nI r))] s = some (.inl (some (.inl (.int (nI (z - 1))))), nt (wA (wA s 3 i (del (sA s 3 i) (20 * r) z (pl (sA s 3 i) (20 * r) z x))) 4 i (va_up (sA s 4 i) r (nI (z - 1)))) i m (nI 5) x (nI r) (nI (pl (sA s 3 i) (20 * r) z x))) := by
  rw [b135, c_placeOf hr hz h20, if_pos hp, e_bI, c_remove hr hz h20 hp, e_bU, c_note (s := wA (wA s 3 i (del (sA s 3 i) (20 * r) z (pl (sA s 3 i) (20 * r) z x))) 4 i (va_up (sA s 4 i) r (nI (z - 1)))) hm h10, e_bU, c_sizeOf hr, e_bI]
  unfold nt
  simp (disch := omega) only [E0, va_up_self]
theorem c_turnBlind {a bm : Nat} (hm : si s 9 i = nI m) (h10 : m ≤ 10) (ha : a < 20) (hb : si s 6 i = nI bm) (h31 : bm < 2 ^ 20) : ab_ev X (d + 2) 139 [.inr (2, i), .inl (.int (nI a))] s = some (.inl (some (.inl (.int (if (bm ^^^ 2 ^ a).testBit a then nI 1 else nI 0)))), nt (wi s 6 i (nI (bm ^^^ 2 ^ a))) i m (nI 6) (nI a) (nI 0) (nI 0)) := by
  have h2 : bm ^^^ 2 ^ a < 2 ^ 20 := Nat.xor_lt_two_pow h31 (Nat.pow_lt_pow_right (by decide) ha)
  have e1 : si (nt (wi s 6 i (nI (bm ^^^ 2 ^ a))) i m (nI 6) (nI a) (nI 0) (nI 0)) 6 i = nI (bm ^^^ 2 ^ a) := by
    unfold nt
    simp (disch := omega) only [E0]
  rw [b139, hb, n_sh _ (by omega), n_xor, c_note (s := wi s 6 i (nI (bm ^^^ 2 ^ a))) (m := m) (by simp (disch := omega) only [E0]; exact hm) h10, e_bU, c_isBlind e1 (by omega) (by omega), e_bI]
  cases (bm ^^^ 2 ^ a).testBit a with
  | true => rw [if_pos rfl, if_neg (by decide)]
  | false => rw [if_pos (by decide)]; rfl
theorem c_moveHouse {p a : Nat} {h : Int32} (hm : si s 9 i = nI m) (h10 : m ≤ 10) (hp : p < 8) (ha : a < 20) : ab_ev X (d + 2) 142 [.inr (2, i), .inl (.int (nI p)), .inl (.int (nI a)), .inl (.int h)] s = some (.inl (some (.inl (.int (sA s 0 i a)))), wA (wA (nt s i m (nI 7) (nI p) (sA s 1 i p) (sA s 2 i p)) 1 i (va_up (sA s 1 i) p (nI a))) 2 i (va_up (sA s 2 i) p h)) := by
  rw [b142, at20 hp, e_bI, at21 hp, e_bI, c_note hm h10, e_bU, put20 hp, e_bU, put21 hp, e_bU, at19 ha, e_bI]
  rfl
theorem l114 {f src : Nat → Nat} {x : Int32} (hn : si s 1 i = nI n) (h20 : n ≤ 20) (h1 : ∀ k, k < n → sa s 1 k = nI (nm k)) (h4 : ∀ k, k < n → sa s 4 k = nI (src k)) (h5 : ∀ k, k < n → src k < n) : ∀ (j k : Nat) (G : Nat → Int32), k + j = n → (∀ q, q < k → G q = nI (nm (src q))) → (∀ q, n ≤ q → G q = sA s 0 i q) → ∃ G' : Nat → Int32, ab_at X (d + 2) 114 12 [some (.inr (2, i)), some (.inl (.int x)), some (.inr (6, 0)), some (.inl (.int (nI k)))] [] (wA s 0 i G) = some (.inl none, wA s 0 i G') ∧ (∀ q, q < n → G' q = nI (nm (src q))) ∧ (∀ q, n ≤ q → G' q = sA s 0 i q)
  | 0, k, G, e, h, h' => by
    obtain rfl : k = n := by omega
    refine ⟨G, ?_, h, h'⟩
    rw [b114_12]
    simp (disch := omega) only [E0]
    rw [hn, if_pos (nI_le (Nat.le_refl _) (by omega))]
  | j + 1, k, G, e, h, h' => by
    have hk : k < n := by omega
    have e1 : ab_ev X (d + 1) 32 [.inr (6, 0), .inl (.int (nI k))] (wA s 0 i G) = _ := c_nameThen (s := wA s 0 i G) h20 h1 h4 h5 hk
    obtain ⟨G', g1, g2, g3⟩ := l114 (f := f) (x := x) hn h20 h1 h4 h5 j (k + 1) (va_up G k (nI (nm (src k)))) (by omega) (fun q hq => by
      by_cases h6 : q = k
      · rw [h6, va_up_self]
      · rw [va_up_ne _ _ h6]
        exact h q (by omega)) (fun q hq => by
      rw [va_up_ne _ _ (by omega)]
      exact h' q hq)
    refine ⟨G', ?_, g2, g3⟩
    rw [← g1, b114_12]
    simp (disch := omega) only [E0]
    rw [hn, if_neg (nI_ge hk (by omega)), e1, e_bI, put19 (by omega), e_bU, nI_add]
    simp (disch := omega) only [E0, E1]
/-- the signs go on by so many moves -/
theorem c_goOn {nr : Nat} {z : Nat → Nat} {st : Nat → Nat → Nat} {bm : Nat} {by' : Nat → Int32} {x : Int32} (h : TW s i n nm nr z st bm by') : ∃ (s1 : ab_S) (G : Nat → Int32), ab_ev X (d + 4) 114 [.inr (2, i), .inl (.int x), .inr (6, 0)] s = some (.inl none, wA s1 0 i G) ∧ sO s s1 ∧ (∀ q, q < n → G q = nI (nm (ah (to_ nr z st bm by') n q (-x).toInt))) ∧ (∀ q, n ≤ q → G q = sA s 0 i q) := by
  obtain ⟨s', a1, a2, a3⟩ := c_look (X := X) (d := d) h
  obtain ⟨b1, b2, b3, b4, b5, b6⟩ := a3
  have hn' : si s' 1 i = nI n := by rw [a2.2.2.2.1]; exact h.1
  obtain ⟨G, c1, c2⟩ := c_leap (X := X) (d := d) (s := s') (x := x) b1 h.2.1 b4 h.to_lt h.to_inj
  obtain ⟨G2, e1, e2, e3⟩ := l114 (X := X) (d := d + 2) (s := pa s' 4 G) (i := i) (f := to_ nr z st bm by') (x := x) (src := fun q => ah (to_ nr z st bm by') n q (-x).toInt) hn' h.2.1 (nm := nm) b3 (fun k hk => by
    simp (disch := omega) only [E0]
    exact c2 k hk) (fun k hk => ah_lt h.to_lt hk _) n 0 (sA s' 0 i) (by omega) (fun q hq => by omega) (fun q hq => rfl)
  have e4 : wA (pa s' 4 G) 0 i (sA s' 0 i) = pa s' 4 G := wA_id (pa s' 4 G) 0 i
  rw [e4] at e1
  refine ⟨pa s' 4 G, G2, ?_, sO_trans a2 (sO_pa (by omega) (by omega)), e2, fun q hq => ?_⟩
  · rw [b114, a1, e_bU, c1, e_bU]
    exact e1
  · rw [e3 q hq]
    show sA s' 0 i q = _
    rw [a2.2.2.2.2.2.1]
theorem c_passNights {nr : Nat} {z : Nat → Nat} {st : Nat → Nat → Nat} {bm : Nat} {by' : Nat → Int32} {N ml : Nat} (h : TW s i n nm nr z st bm by') (hm : si s 9 i = nI m) (h10 : m ≤ 10) (hl : si s 8 i = nI ml) (h900 : ml ≤ 900) (hw : WL (sA s 6 i) ml) (hN : N ≤ 999) : ∃ (F G : Nat → Int32) (s1 : ab_S), ab_ev X (d + 5) 113 [.inr (2, i), .inl (.int (nI N)), .inr (6, 0)] s = some (.inl (some (.inl (.int (nI (mvf (lwH s i (nI (wrg nm n))) (si s 4 i) (si s 5 i) N))))), nt (wi (wi (wA s1 0 i G) 4 i (si s 4 i + nI N)) 5 i (si s 5 i + nI (mvf (lwH s i (nI (wrg nm n))) (si s 4 i) (si s 5 i) N))) i m (nI 1) (nI N) (nI (mvf (lwH s i (nI (wrg nm n))) (si s 4 i) (si s 5 i) N)) (nI 0)) ∧ sO (wA s 7 i F) s1 ∧ (∀ q, q < n → G q = nI (nm (ah (to_ nr z st bm by') n q (-(nI (mvf (lwH s i (nI (wrg nm n))) (si s 4 i) (si s 5 i) N))).toInt))) ∧ (∀ q, n ≤ q → G q = sA s 0 i q) := by
  obtain ⟨F, a1⟩ := c_movesAmong (X := X) (d := d) h.1 h.2.1 h.2.2.1 h.2.2.2.1 hl h900 hw hN
  have h' : TW (wA s 7 i F) i n nm nr z st bm by' := by
    unfold TW at h ⊢
    simp (disch := omega) only [E0]
    exact h
  obtain ⟨s1, G, b1, b2, b3, b4⟩ := c_goOn (X := X) (d := d) (x := nI (mvf (lwH s i (nI (wrg nm n))) (si s 4 i) (si s 5 i) N)) h'
  refine ⟨F, G, s1, ?_, b2, b3, fun q hq => ?_⟩
  · have q1 : si s1 = si s := b2.2.2.2.1
    have q2 : si (wi (wi (wA s1 0 i G) 4 i (si s1 4 i + nI N)) 5 i (si s1 5 i + nI (mvf (lwH s i (nI (wrg nm n))) (si s 4 i) (si s 5 i) N))) 9 i = nI m := by
      simp (disch := omega) only [E0]
      rw [q1]
      exact hm
    rw [b113, a1, e_bI, b1, e_bU]
    simp (disch := omega) only [E0]
    simp (disch := omega) only [E0] at q2
    rw [c_note (m := m) (by simp (disch := omega) only [E0]; exact q2) h10, e_bU, q1]
  · rw [b4 q hq]
    simp (disch := omega) only [E0]
end DED
