/-! The outlook looks. -/
/-- the streets of a round that aren't blind, of its first k -/
def lk (st : Nat → Nat) (bm : Nat) (k : Nat) : List Nat := ((List.range k).map st).filter (fun x => !bm.testBit x)
theorem lk_succ (st : Nat → Nat) (bm k : Nat) : lk st bm (k + 1) = lk st bm k ++ (if bm.testBit (st k) then [] else [st k]) := by
  unfold lk
  rw [List.range_succ, List.map_append, List.filter_append]
  congr 1
  cases h : bm.testBit (st k) <;> simp [h]
theorem lk_len (st : Nat → Nat) (bm k : Nat) : (lk st bm k).length ≤ k := by
  have h := List.length_filter_le (fun x => !bm.testBit x) ((List.range k).map st)
  rw [List.length_map, List.length_range] at h
  exact h
theorem lk_mem {st : Nat → Nat} {bm k x : Nat} (h : x ∈ lk st bm k) : ∃ j, j < k ∧ st j = x := by
  have h1 := (List.mem_filter.mp h).1
  rw [List.mem_map] at h1
  obtain ⟨j, hj, e⟩ := h1
  exact ⟨j, List.mem_range.mp hj, e⟩
theorem lk_lt {st : Nat → Nat} {bm k n : Nat} (h : ∀ j, j < k → st j < n) {x : Nat} (hx : x ∈ lk st bm k) : x < n := by
  obtain ⟨j, hj, rfl⟩ := lk_mem hx
  exact h j hj
theorem lk_nodup {st : Nat → Nat} {bm : Nat} : ∀ {k : Nat}, (∀ a b, a < k → b < k → st a = st b → a = b) → (lk st bm k).Nodup
  | 0, _ => List.nodup_nil
  | k + 1, h => by
    rw [lk_succ]
    have ih := lk_nodup (bm := bm) (k := k) (fun a b ha hb => h a b (by omega) (by omega))
    split
    · simpa using ih
    · rw [List.nodup_append]
      refine ⟨ih, by simp, fun a ha b hb e => ?_⟩
      obtain ⟨j, hj, rfl⟩ := lk_mem ha
      rw [List.mem_singleton] at hb
      have := h j k (by omega) (by omega) (e.trans hb)
      omega
theorem getD_lt {l : List Nat} {k : Nat} (hk : k < l.length) : l.getD k 0 ∈ l := by
  have e : l.getD k 0 = l[k] := by simp [List.getD, hk]
  rw [e]
  exact List.getElem_mem hk
theorem getD_app {l : List Nat} {k x : Nat} (hk : k < l.length) : (l ++ [x]).getD k 0 = l.getD k 0 := by
  simp [List.getD, List.getElem?_append_left hk]
theorem getD_app2 {l : List Nat} {x : Nat} : (l ++ [x]).getD l.length 0 = x := by
  simp [List.getD]
section LOK
variable {X : (Nat → Int32) × Nat} {d i n : Nat} {s : ab_S} {st : Nat → Nat} {bm z r : Nat}
theorem c_isBlind {x : Nat} (hb : si s 6 i = nI bm) (h31 : bm < 2 ^ 31) (hx : x < 32) : ab_ev X d 23 [.inr (2, i), .inl (.int (nI x))] s = some (.inl (some (.inl (.int (if bm.testBit x then nI 1 else nI 0)))), s) := by
  rw [b23, hb, n_shr1 h31 hx]
  cases bm.testBit x
  · rfl
  · rfl
theorem l20a (hr : r < 4) (hz : sA s 4 i r = nI z) (h20 : z ≤ 20) (hst : ∀ k, k < z → sA s 3 i (20 * r + k) = nI (st k)) (hlt : ∀ k, k < z → st k < n) (hn : n ≤ 20) (hb : si s 6 i = nI bm) (h31 : bm < 2 ^ 31) : ∀ (j k : Nat) (O : Nat → Int32) (u : Option ab_V), k + j = z → (∀ q, q < (lk st bm k).length → O q = nI ((lk st bm k).getD q 0)) → ∃ (O' : Nat → Int32) (u' : Option ab_V), ab_at X (d + 2) 20 15 [some (.inr (6, 0)), some (.inr (2, i)), some (.inl (.int (nI r))), some (.inl (.int (nI (lk st bm k).length))), some (.inl (.int (nI z))), some (.inl (.int (nI k))), u] [] (pa s 5 O) = ab_at X (d + 2) 20 65 [some (.inr (6, 0)), some (.inr (2, i)), some (.inl (.int (nI r))), some (.inl (.int (nI (lk st bm z).length))), some (.inl (.int (nI z))), some (.inl (.int (nI 0))), u'] [] (pa s 5 O') ∧ ∀ q, q < (lk st bm z).length → O' q = nI ((lk st bm z).getD q 0)
  | 0, k, O, u, e, h => by
    obtain rfl : k = z := by omega
    exact ⟨O, u, by rw [b20_15, if_pos (nI_le (Nat.le_refl _) (by omega))], h⟩
  | j + 1, k, O, u, e, h => by
    have hk : k < z := by omega
    have hl := hlt k hk
    have hlen := lk_len st bm k
    have e1 : ab_ev X (d + 1) 22 [.inr (3, i), .inl (.int (nI r)), .inl (.int (nI k))] (pa s 5 O) = some (.inl (some (.inl (.int (nI (st k))))), pa s 5 O) := by
      rw [c_streetAt (s := pa s 5 O) hr (by omega) hz h20, if_pos hk, ← hst k hk]
      rfl
    have e2 : ab_ev X (d + 1) 23 [.inr (2, i), .inl (.int (nI (st k)))] (pa s 5 O) = _ := c_isBlind (s := pa s 5 O) hb h31 (by omega)
    have e3 := lk_succ st bm k
    cases hbit : bm.testBit (st k) with
    | true =>
      rw [hbit, if_pos rfl, List.append_nil] at e3
      obtain ⟨O', u', g1, g2⟩ := l20a hr hz h20 hst hlt hn hb h31 j (k + 1) O (some (.inl (.int (nI (st k))))) (by omega) (by rw [e3]; exact h)
      refine ⟨O', u', ?_, g2⟩
      rw [← g1, b20_15, if_neg (nI_ge hk (by omega)), e1, e_bI, e2, e_bI, hbit, if_pos rfl, if_neg (by decide), nI_add, e3]
    | false =>
      rw [hbit, if_neg (by decide)] at e3
      have e4 : (lk st bm (k + 1)).length = (lk st bm k).length + 1 := by rw [e3, List.length_append]; rfl
      obtain ⟨O', u', g1, g2⟩ := l20a hr hz h20 hst hlt hn hb h31 j (k + 1) (va_up O (lk st bm k).length (nI (st k))) (some (.inl (.int (nI (st k))))) (by omega) (fun q hq => by
        rw [e3]
        by_cases h5 : q = (lk st bm k).length
        · rw [h5, va_up_self, getD_app2]
        · rw [va_up_ne _ _ h5, getD_app (by omega)]
          exact h q (by omega))
      refine ⟨O', u', ?_, g2⟩
      rw [← g1, b20_15, if_neg (nI_ge hk (by omega)), e1, e_bI, e2, e_bI, hbit, if_pos (by decide), put32 (by omega), e_bU, nI_add, nI_add, e4]
      simp (disch := omega) only [E0, E1]
theorem l20b {byv : Int32} {L : List Nat} {O : Nat → Int32} (hr : r < 4) (h8 : sz s 8 = nI n) (hn : n ≤ 20) (hby : sA s 5 i r = byv) : ∀ (j k : Nat) (N : Nat → Int32) (u : Option ab_V), k + j = n → (∀ q, q < k → N q = nI q) → ∃ N' : Nat → Int32, ab_at X (d + 2) 20 65 [some (.inr (6, 0)), some (.inr (2, i)), some (.inl (.int (nI r))), some (.inl (.int (nI L.length))), some (.inl (.int (nI z))), some (.inl (.int (nI k))), u] [] (pa (pa s 5 O) 6 N) = ab_at X (d + 2) 20 104 [some (.inr (6, 0)), some (.inr (2, i)), some (.inl (.int (nI r))), some (.inl (.int (nI L.length))), some (.inl (.int (nI z))), some (.inl (.int byv)), some (.inl (.int (nI 0)))] [] (pa (pa s 5 O) 6 N') ∧ ∀ q, q < n → N' q = nI q
  | 0, k, N, u, e, h => by
    obtain rfl : k = n := by omega
    refine ⟨N, ?_, h⟩
    rw [b20_65]
    simp (disch := omega) only [E0]
    rw [h8, if_pos (nI_le (Nat.le_refl _) (by omega)), c_byOf hr, e_bI]
    simp (disch := omega) only [E0, hby]
  | j + 1, k, N, u, e, h => by
    have hk : k < n := by omega
    obtain ⟨N', g1, g2⟩ := l20b hr h8 hn hby (L := L) (O := O) j (k + 1) (va_up N k (nI k)) u (by omega) (fun q hq => by
      by_cases h5 : q = k
      · rw [h5, va_up_self]
      · rw [va_up_ne _ _ h5]
        exact h q (by omega))
    refine ⟨N', ?_, g2⟩
    rw [← g1, b20_65]
    simp (disch := omega) only [E0]
    rw [h8, if_neg (nI_ge hk (by omega)), put33 (by omega), e_bU, nI_add]
    simp (disch := omega) only [E0, E1]
theorem n_fm {k L : Nat} {x : Int32} (hk : k < 100) (hL : 0 < L) (h1 : -100 ≤ x.toInt) (h2 : x.toInt ≤ 100) : ((nI k + x).toInt % (L : Int)).toNat = (k + (x.toInt % (L : Int)).toNat) % L := by
  have e : (nI k + x).toInt = k + x.toInt := by
    rw [Int32.toInt_add, nI_toInt (by omega)]
    exact Int.bmod_eq_of_le (by omega) (by omega)
  have hm := Int.emod_nonneg x.toInt (show (L : Int) ≠ 0 by omega)
  have hm3 := Int.emod_nonneg (k + x.toInt) (show (L : Int) ≠ 0 by omega)
  have e2 : (((k + (x.toInt % (L : Int)).toNat) % L : Nat) : Int) = (k + x.toInt) % (L : Int) := by
    rw [Int.natCast_emod, Int.natCast_add, Int.toNat_of_nonneg hm, Int.add_emod, Int.emod_emod_of_dvd _ (Int.dvd_refl _), ← Int.add_emod]
  rw [e]
  omega
theorem l20c {byv : Int32} {L : List Nat} {O : Nat → Int32} (hL : L.length ≤ 20) (hLn : ∀ x, x ∈ L → x < n) (hn : n ≤ 20) (hnd : L.Nodup) (hO : ∀ q, q < L.length → O q = nI (L.getD q 0)) (h1 : -100 ≤ byv.toInt) (h2 : byv.toInt ≤ 100) : ∀ (j k : Nat) (N : Nat → Int32), k + j = L.length → (∀ q, q < n → N q = nI (if q ∈ L ∧ L.idxOf q < k then nx L (byv.toInt % (L.length : Int)).toNat q else q)) → ∃ N' : Nat → Int32, ab_at X (d + 2) 20 104 [some (.inr (6, 0)), some (.inr (2, i)), some (.inl (.int (nI r))), some (.inl (.int (nI L.length))), some (.inl (.int (nI z))), some (.inl (.int byv)), some (.inl (.int (nI k)))] [] (pa (pa s 5 O) 6 N) = ab_at X (d + 2) 20 151 [some (.inr (6, 0)), some (.inr (2, i)), some (.inl (.int (nI r))), some (.inl (.int (nI L.length))), some (.inl (.int (nI z))), some (.inl (.int byv)), some (.inl (.int (nI 0)))] [] (pa (pa s 5 O) 6 N') ∧ ∀ q, q < n → N' q = nI (nx L (byv.toInt % (L.length : Int)).toNat q)
  | 0, k, N, e, h => by
    obtain rfl : k = L.length := by omega
    refine ⟨N, by rw [b20_104, if_pos (nI_le (Nat.le_refl _) (by omega))], fun q hq => ?_⟩
    rw [h q hq]
    by_cases hm : q ∈ L
    · rw [if_pos ⟨hm, List.idxOf_lt_length_of_mem hm⟩]
    · rw [if_neg (fun z => hm z.1), nx_out hm]
  | j + 1, k, N, e, h => by
    have hk : k < L.length := by omega
    have hx := hLn _ (getD_lt hk)
    have hm := Nat.mod_lt (k + (byv.toInt % (L.length : Int)).toNat) (show 0 < L.length by omega)
    have hy := hLn _ (getD_lt hm)
    have eg : L.getD k 0 = L[k] := by simp [List.getD, hk]
    have ei : L.idxOf (L.getD k 0) = k := by rw [eg]; exact hnd.idxOf_getElem k hk
    obtain ⟨N', g1, g2⟩ := l20c hL hLn hn hnd hO h1 h2 j (k + 1) (va_up N (L.getD k 0) (nI (L.getD ((k + (byv.toInt % (L.length : Int)).toNat) % L.length) 0))) (by omega) (fun q hq => by
      by_cases h5 : q = L.getD k 0
      · rw [h5, va_up_self, if_pos ⟨getD_lt hk, by omega⟩, nx_at hnd hk]
      · rw [va_up_ne _ _ h5, h q hq]
        congr 1
        by_cases h6 : q ∈ L ∧ L.idxOf q < k
        · rw [if_pos h6, if_pos ⟨h6.1, by omega⟩]
        · rw [if_neg h6, if_neg]
          rintro ⟨h7, h8⟩
          have h9 : L.idxOf q = k := by
            by_cases h10 : L.idxOf q < k
            · exact absurd ⟨h7, h10⟩ h6
            · omega
          apply h5
          have h11 := List.getElem_idxOf (List.idxOf_lt_length_of_mem h7)
          rw [eg]
          simp only [h9] at h11
          exact h11.symm)
    refine ⟨N', ?_, g2⟩
    rw [← g1, b20_104, if_neg (nI_ge hk (by omega)), at32 (by omega)]
    simp (disch := omega) only [E0, e_bI]
    rw [hO k hk, c_floorMod (by omega) (by omega), e_bI, n_fm (by omega) (by omega) h1 h2, at32 (by omega)]
    simp (disch := omega) only [E0, e_bI]
    rw [hO _ hm, put33 (by omega), e_bU, nI_add]
    simp (disch := omega) only [E0, E1]
theorem l20d {byv x3 x4 : Int32} {O N : Nat → Int32} {f t : Nat → Nat} (h8 : sz s 8 = nI n) (hn : n ≤ 20) (hN : ∀ q, q < n → N q = nI (f q)) (ht : ∀ q, q < n → t q < n) : ∀ (j k : Nat) (T : Nat → Int32), k + j = n → (∀ q, q < k → T q = nI (f (t q))) → (∀ q, k ≤ q → q < n → T q = nI (t q)) → ∃ T' : Nat → Int32, ab_at X (d + 2) 20 151 [some (.inr (6, 0)), some (.inr (2, i)), some (.inl (.int (nI r))), some (.inl (.int x3)), some (.inl (.int x4)), some (.inl (.int byv)), some (.inl (.int (nI k)))] [] (pa (pa (pa s 5 O) 6 N) 2 T) = some (.inl none, pa (pa (pa s 5 O) 6 N) 2 T') ∧ ∀ q, q < n → T' q = nI (f (t q))
  | 0, k, T, e, h, _ => by
    obtain rfl : k = n := by omega
    refine ⟨T, ?_, h⟩
    rw [b20_151]
    simp (disch := omega) only [E0]
    rw [h8, if_pos (nI_le (Nat.le_refl _) (by omega))]
  | j + 1, k, T, e, h, h' => by
    have hk : k < n := by omega
    have hs := ht k hk
    obtain ⟨T', g1, g2⟩ := l20d h8 hn hN ht (byv := byv) (x3 := x3) (x4 := x4) (O := O) j (k + 1) (va_up T k (nI (f (t k)))) (by omega) (fun q hq => by
      by_cases e2 : q = k
      · rw [e2, va_up_self]
      · rw [va_up_ne _ _ e2]
        exact h q (by omega)) (fun q h1 h2 => by
        rw [va_up_ne _ _ (by omega)]
        exact h' q (by omega) h2)
    refine ⟨T', ?_, g2⟩
    rw [← g1, b20_151]
    simp (disch := omega) only [E0, e_bI, h8, nI_leI, if_neg, at29, h' k (Nat.le_refl _) hk, at33, hN _ hs, put29, e_bU, E1, nI_add]
/-- one round is gone -/
theorem c_goRound {byv : Int32} {t : Nat → Nat} (hr : r < 4) (hz : sA s 4 i r = nI z) (h20 : z ≤ 20) (hst : ∀ k, k < z → sA s 3 i (20 * r + k) = nI (st k)) (hlt : ∀ k, k < z → st k < n) (hsi : ∀ a b, a < z → b < z → st a = st b → a = b) (hn : n ≤ 20) (hb : si s 6 i = nI bm) (h31 : bm < 2 ^ 31) (h8 : sz s 8 = nI n) (hby : sA s 5 i r = byv) (h1 : -100 ≤ byv.toInt) (h2 : byv.toInt ≤ 100) (hT : ∀ q, q < n → sa s 2 q = nI (t q)) (ht : ∀ q, q < n → t q < n) : ∃ O N T : Nat → Int32, ab_ev X (d + 2) 20 [.inr (6, 0), .inr (2, i), .inl (.int (nI r))] s = some (.inl none, pa (pa (pa s 5 O) 6 N) 2 T) ∧ ∀ q, q < n → T q = nI (nx (lk st bm z) (byv.toInt % ((lk st bm z).length : Int)).toNat (t q)) := by
  have hlen := lk_len st bm z
  obtain ⟨O, u, a1, a2⟩ := l20a (X := X) (d := d) hr hz h20 hst hlt hn hb h31 z 0 (sa s 5) none (by omega) (fun q hq => by simp [lk] at hq)
  obtain ⟨N, b1, b2⟩ := l20b (X := X) (d := d) (z := z) (L := lk st bm z) (O := O) hr h8 hn hby n 0 (sa s 6) u (by omega) (fun q hq => by omega)
  obtain ⟨N2, c1, c2⟩ := l20c (X := X) (d := d) (r := r) (i := i) (z := z) (s := s) (byv := byv) (L := lk st bm z) (O := O) (n := n) (by omega) (fun x hx => lk_lt hlt hx) hn (lk_nodup hsi) a2 h1 h2 (lk st bm z).length 0 N (by omega) (fun q hq => by
    rw [if_neg (fun z => by omega)]
    exact b2 q hq)
  obtain ⟨T, d1, d2⟩ := l20d (X := X) (d := d) (r := r) (i := i) (byv := byv) (x3 := nI (lk st bm z).length) (x4 := nI z) (O := O) (N := N2) (t := t) h8 hn c2 ht n 0 (sa s 2) (by omega) (fun q hq => by omega) (fun q _ hq => hT q hq)
  refine ⟨O, N2, T, ?_, d2⟩
  rw [b20, c_sizeOf hr, hz, e_bI]
  have e0 : pa s 5 (sa s 5) = s := pa_id _ _
  have e1 : pa (pa s 5 O) 6 (sa s 6) = pa s 5 O := pa_id (pa s 5 O) 6
  have e2 : pa (pa (pa s 5 O) 6 N2) 2 (sa s 2) = pa (pa s 5 O) 6 N2 := pa_id (pa (pa s 5 O) 6 N2) 2
  rw [e0] at a1
  rw [e1] at b1
  rw [e2] at d1
  have a1' : ab_at X (d + 2) 20 15 [some (.inr (6, 0)), some (.inr (2, i)), some (.inl (.int (nI r))), some (.inl (.int (nI 0))), some (.inl (.int (nI z))), some (.inl (.int (nI 0))), none] [] s = _ := a1
  rw [a1', b1, c1, d1]
end LOK
