/-! The model's next: where signs go. -/
section RGO
variable {X : (Nat → Int32) × Nat} {d n : Nat} {s : ab_S} {st : Nat → Nat} {bm z r : Nat}
theorem l269a (hr : r < 4) (hz : sa s 8 (32 + r) = nI z) (h20 : z ≤ 20) (hst : ∀ k, k < z → sa s 8 (36 + 20 * r + k) = nI (st k)) (hlt : ∀ k, k < z → st k < n) (hn : n ≤ 20) (hb : sa s 8 31 = nI bm) (h31 : bm < 2 ^ 31) : ∀ (j k : Nat) (O : Nat → Int32) (u : Option ab_V), k + j = z → (∀ q, q < (lk st bm k).length → O q = nI ((lk st bm k).getD q 0)) → ∃ (O' : Nat → Int32) (u' : Option ab_V), ab_at X (d + 1) 269 4 [some (.inr (9, 0)), some (.inl (.int (nI r))), some (.inl (.int (nI (lk st bm k).length))), some (.inl (.int (nI k))), u] [] (pa s 15 O) = (if (lk st bm z).length < 2 then some (.inl none, pa s 15 O') else ab_at X (d + 1) 269 76 [some (.inr (9, 0)), some (.inl (.int (nI r))), some (.inl (.int (nI (lk st bm z).length))), some (.inl (.int (nI 0))), u'] [] (pa s 15 O')) ∧ ∀ q, q < (lk st bm z).length → O' q = nI ((lk st bm z).getD q 0)
  | 0, k, O, u, e, h => by
    obtain rfl : k = z := by omega
    have hlen := lk_len st bm k
    refine ⟨O, u, ?_, h⟩
    rw [b269_4, nI_add, r_in (by omega) (by decide), nI_clamp (by omega)]
    simp (disch := omega) only [E0, hz]
    rw [if_pos (nI_le (Nat.le_refl _) (by omega))]
    by_cases hl : (lk st bm k).length < 2
    · rw [if_neg (nI_ge hl (by omega)), if_pos hl]
    · rw [if_pos (nI_le (by omega) (by omega)), if_neg hl]
  | j + 1, k, O, u, e, h => by
    have hk : k < z := by omega
    have hl := hlt k hk
    have hlen := lk_len st bm k
    have e2 : ab_ev X (d + 1) 270 [.inl (.int (nI bm)), .inl (.int (nI (st k)))] (pa s 15 O) = _ := r270 (s := pa s 15 O) h31 (by omega)
    have e2' : ab_ev X d 270 [.inl (.int (nI bm)), .inl (.int (nI (st k)))] (pa s 15 O) = _ := r270 (s := pa s 15 O) h31 (by omega)
    have e3 := lk_succ st bm k
    have e5 : nI 36 + nI 20 * nI r + nI k = nI (36 + 20 * r + k) := by rw [pk_mul, nI_add, nI_add]
    cases hbit : bm.testBit (st k) with
    | true =>
      rw [hbit, if_pos rfl, List.append_nil] at e3
      obtain ⟨O', u', g1, g2⟩ := l269a hr hz h20 hst hlt hn hb h31 j (k + 1) O (some (.inl (.int (nI (st k))))) (by omega) (by rw [e3]; exact h)
      refine ⟨O', u', ?_, g2⟩
      rw [← g1, b269_4, nI_add, r_in (by omega) (by decide), nI_clamp (by omega), e5, r_in (j := 36 + 20 * r + k) (by omega) (by decide), nI_clamp (by omega)]
      simp (disch := omega) only [E0, hz, hst k hk, hb]
      rw [if_neg (nI_ge hk (by omega)), e2', e_bI, hbit, if_pos rfl, if_neg (by decide), nI_add, e3]
    | false =>
      rw [hbit, if_neg (by decide)] at e3
      have e4 : (lk st bm (k + 1)).length = (lk st bm k).length + 1 := by rw [e3, List.length_append]; rfl
      obtain ⟨O', u', g1, g2⟩ := l269a hr hz h20 hst hlt hn hb h31 j (k + 1) (va_up O (lk st bm k).length (nI (st k))) (some (.inl (.int (nI (st k))))) (by omega) (fun q hq => by
        rw [e3]
        by_cases h5 : q = (lk st bm k).length
        · rw [h5, va_up_self, getD_app2]
        · rw [va_up_ne _ _ h5, getD_app (by omega)]
          exact h q (by omega))
      refine ⟨O', u', ?_, g2⟩
      rw [← g1, b269_4, nI_add, r_in (by omega) (by decide), nI_clamp (by omega), e5, r_in (j := 36 + 20 * r + k) (by omega) (by decide), nI_clamp (by omega)]
      simp (disch := omega) only [E0, hz, hst k hk, hb]
      rw [if_neg (nI_ge hk (by omega)), e2', e_bI, hbit, if_neg (show ¬ false = true by decide), if_pos rfl, r_in (by omega) (by decide), nI_clamp (by omega), nI_add, nI_add, e4]
      simp (disch := omega) only [E0, E1]
theorem l269b {byv : Int32} {L : List Nat} {O : Nat → Int32} (hr : r < 4) (h8 : sa s 8 1 = nI n) (hn : n ≤ 20) (hby : sa s 8 (7 + r) = byv) (hL0 : 0 < L.length) (hL : L.length ≤ 20) : ∀ (j k : Nat) (N : Nat → Int32) (u : Option ab_V), k + j = n → (∀ q, q < k → N q = nI q) → ∃ N' : Nat → Int32, ab_at X (d + 1) 269 76 [some (.inr (9, 0)), some (.inl (.int (nI r))), some (.inl (.int (nI L.length))), some (.inl (.int (nI k))), u] [] (pa (pa s 15 O) 16 N) = ab_at X (d + 1) 269 116 [some (.inr (9, 0)), some (.inl (.int (nI r))), some (.inl (.int (nI L.length))), some (.inl (.int (nI (byv.toInt % (L.length : Int)).toNat))), some (.inl (.int (nI 0)))] [] (pa (pa s 15 O) 16 N') ∧ ∀ q, q < n → N' q = nI q
  | 0, k, N, u, e, h => by
    obtain rfl : k = n := by omega
    refine ⟨N, ?_, h⟩
    rw [b269_76, r267 (s := pa (pa s 15 O) 16 N) (n := k) h8, e_bI, if_pos (nI_le (Nat.le_refl _) (by omega)), nI_add, r_in (by omega) (by decide), nI_clamp (by omega), if_neg (show ¬ nI L.length = nI 0 from nI_ne0 hL0 (by omega)), if_neg (show ¬ nI L.length = nI 0 from nI_ne0 hL0 (by omega))]
    simp (disch := omega) only [E0, hby]
    rw [r_fm hL0 (by omega)]
  | j + 1, k, N, u, e, h => by
    have hk : k < n := by omega
    obtain ⟨N', g1, g2⟩ := l269b hr h8 hn hby (L := L) (O := O) hL0 hL j (k + 1) (va_up N k (nI k)) u (by omega) (fun q hq => by
      by_cases h5 : q = k
      · rw [h5, va_up_self]
      · rw [va_up_ne _ _ h5]
        exact h q (by omega))
    refine ⟨N', ?_, g2⟩
    rw [← g1, b269_76, r267 (s := pa (pa s 15 O) 16 N) (n := n) h8, e_bI, if_neg (nI_ge hk (by omega)), r_in (by omega) (by decide), nI_clamp (by omega), nI_add]
    simp (disch := omega) only [E0, E1]
theorem l269c {sh : Nat} {L : List Nat} {O : Nat → Int32} (hsh : sh < 20) (hL : L.length ≤ 20) (hLn : ∀ x, x ∈ L → x < n) (hn : n ≤ 20) (hnd : L.Nodup) (hO : ∀ q, q < L.length → O q = nI (L.getD q 0)) : ∀ (j k : Nat) (N : Nat → Int32), k + j = L.length → (∀ q, q < n → N q = nI (if q ∈ L ∧ L.idxOf q < k then nx L sh q else q)) → ∃ N' : Nat → Int32, ab_at X (d + 1) 269 116 [some (.inr (9, 0)), some (.inl (.int (nI r))), some (.inl (.int (nI L.length))), some (.inl (.int (nI sh))), some (.inl (.int (nI k)))] [] (pa (pa s 15 O) 16 N) = ab_at X (d + 1) 269 154 [some (.inr (9, 0)), some (.inl (.int (nI r))), some (.inl (.int (nI L.length))), some (.inl (.int (nI sh))), some (.inl (.int (nI 0)))] [] (pa (pa s 15 O) 16 N') ∧ ∀ q, q < n → N' q = nI (nx L sh q)
  | 0, k, N, e, h => by
    obtain rfl : k = L.length := by omega
    refine ⟨N, by rw [b269_116, if_pos (nI_le (Nat.le_refl _) (by omega))], fun q hq => ?_⟩
    rw [h q hq]
    by_cases hm : q ∈ L
    · rw [if_pos ⟨hm, List.idxOf_lt_length_of_mem hm⟩]
    · rw [if_neg (fun z => hm z.1), nx_out hm]
  | j + 1, k, N, e, h => by
    have hk : k < L.length := by omega
    have hx := hLn _ (getD_lt hk)
    have hm := Nat.mod_lt (k + sh) (show 0 < L.length by omega)
    have hy := hLn _ (getD_lt hm)
    have eg : L.getD k 0 = L[k] := by simp [List.getD, hk]
    have ei : L.idxOf (L.getD k 0) = k := by rw [eg]; exact hnd.idxOf_getElem k hk
    obtain ⟨N', g1, g2⟩ := l269c hsh hL hLn hn hnd hO j (k + 1) (va_up N (L.getD k 0) (nI (L.getD ((k + sh) % L.length) 0))) (by omega) (fun q hq => by
      by_cases h5 : q = L.getD k 0
      · rw [h5, va_up_self, if_pos ⟨getD_lt hk, by omega⟩, nx_at hnd hk]
      · rw [va_up_ne _ _ h5, h q hq]
        congr 1
        by_cases h6 : q ∈ L ∧ L.idxOf q < k
        · rw [if_pos h6, if_pos ⟨h6.1, by omega⟩]
        · rw [if_neg h6, if_neg]
          rintro ⟨h7, h8⟩
          have h9 : L.idxOf q = k := by
            by_cases h10 : L.idxOf q < k
            · exact absurd ⟨h7, h10⟩ h6
            · omega
          apply h5
          have h11 := List.getElem_idxOf (List.idxOf_lt_length_of_mem h7)
          rw [eg]
          simp only [h9] at h11
          exact h11.symm)
    refine ⟨N', ?_, g2⟩
    rw [← g1, b269_116, if_neg (nI_ge hk (by omega)), r_in (by omega) (by decide), if_neg (show ¬ nI L.length = nI 0 from nI_ne0 (by omega) (by omega)), nI_add, n_rem (by omega) (by omega) (by omega), r_in (j := (k + sh) % L.length) (by omega) (by decide), nI_clamp (show k < 2 ^ 31 by omega), nI_clamp (show (k + sh) % L.length < 2 ^ 31 by omega)]
    simp (disch := omega) only [E0, hO k hk, hO _ hm]
    rw [r_in (by omega) (by decide), nI_clamp (by omega), nI_add]
    simp (disch := omega) only [E0, E1]
theorem l269d {x2 x3 : Int32} {O N : Nat → Int32} {f t : Nat → Nat} (h8 : sa s 8 1 = nI n) (hn : n ≤ 20) (hN : ∀ q, q < n → N q = nI (f q)) (ht : ∀ q, q < n → t q < n) : ∀ (j k : Nat) (T : Nat → Int32), k + j = n → (∀ q, q < k → T q = nI (f (t q))) → (∀ q, k ≤ q → q < n → T q = nI (t q)) → ∃ T' : Nat → Int32, ab_at X (d + 1) 269 154 [some (.inr (9, 0)), some (.inl (.int (nI r))), some (.inl (.int x2)), some (.inl (.int x3)), some (.inl (.int (nI k)))] [] (pa (pa (pa s 15 O) 16 N) 13 T) = some (.inl none, pa (pa (pa s 15 O) 16 N) 13 T') ∧ ∀ q, q < n → T' q = nI (f (t q))
  | 0, k, T, e, h, _ => by
    obtain rfl : k = n := by omega
    refine ⟨T, ?_, h⟩
    rw [b269_154, r267 (s := pa (pa (pa s 15 O) 16 N) 13 T) (n := k) h8, e_bI, if_pos (nI_le (Nat.le_refl _) (by omega))]
  | j + 1, k, T, e, h, h' => by
    have hk : k < n := by omega
    have hs := ht k hk
    obtain ⟨T', g1, g2⟩ := l269d h8 hn hN ht (x2 := x2) (x3 := x3) (O := O) j (k + 1) (va_up T k (nI (f (t k)))) (by omega) (fun q hq => by
      by_cases e2 : q = k
      · rw [e2, va_up_self]
      · rw [va_up_ne _ _ e2]
        exact h q (by omega)) (fun q h1 h2 => by
        rw [va_up_ne _ _ (by omega)]
        exact h' q (by omega) h2)
    refine ⟨T', ?_, g2⟩
    rw [← g1, b269_154, r267 (s := pa (pa (pa s 15 O) 16 N) 13 T) (n := n) h8, e_bI, if_neg (nI_ge hk (by omega)), r_in (by omega) (by decide), nI_clamp (show k < 2 ^ 31 by omega)]
    simp (disch := omega) only [E0, h' k (Nat.le_refl _) hk]
    have hk0 : ¬ (nI k < nI 0 ∨ 20 ≤ k) := by
      rintro (q | q)
      · exact n_nlt0 (by omega) q
      · omega
    rw [r_in (j := t k) (by omega) (by decide), if_neg hk0, nI_clamp (by omega), nI_add, hN _ hs]
    simp (disch := omega) only [E0, E1]
/-- one round of the model is gone -/
theorem r269 {byv : Int32} {t : Nat → Nat} (hr : r < 4) (hz : sa s 8 (32 + r) = nI z) (h20 : z ≤ 20) (hst : ∀ k, k < z → sa s 8 (36 + 20 * r + k) = nI (st k)) (hlt : ∀ k, k < z → st k < n) (hsi : ∀ a b, a < z → b < z → st a = st b → a = b) (hn : n ≤ 20) (hb : sa s 8 31 = nI bm) (h31 : bm < 2 ^ 31) (h8 : sa s 8 1 = nI n) (hby : sa s 8 (7 + r) = byv) (hT : ∀ q, q < n → sa s 13 q = nI (t q)) (ht : ∀ q, q < n → t q < n) : ∃ O N T : Nat → Int32, ab_ev X (d + 1) 269 [.inr (9, 0), .inl (.int (nI r))] s = some (.inl none, pa (pa (pa s 15 O) 16 N) 13 T) ∧ ∀ q, q < n → T q = nI (nx (lk st bm z) (byv.toInt % ((lk st bm z).length : Int)).toNat (t q)) := by
  have hlen := lk_len st bm z
  obtain ⟨O, u, a1, a2⟩ := l269a (X := X) (d := d) hr hz h20 hst hlt hn hb h31 z 0 (sa s 15) none (by omega) (fun q hq => by simp [lk] at hq)
  have e0 : pa s 15 (sa s 15) = s := pa_id _ _
  have e1 : pa (pa s 15 O) 16 (sa s 16) = pa s 15 O := pa_id (pa s 15 O) 16
  rw [e0] at a1
  have a1' : ab_at X (d + 1) 269 4 [some (.inr (9, 0)), some (.inl (.int (nI r))), some (.inl (.int (nI 0))), some (.inl (.int (nI 0))), none] [] s = _ := a1
  by_cases h2 : (lk st bm z).length < 2
  · have e3 : pa (pa s 15 O) 13 (sa s 13) = pa s 15 O := pa_id (pa s 15 O) 13
    refine ⟨O, sa s 16, sa s 13, ?_, fun q hq => ?_⟩
    · rw [e1, e3, b269, a1', if_pos h2]
    · rw [hT q hq, nx_one h2]
  · obtain ⟨N, b1, b2⟩ := l269b (X := X) (d := d) (L := lk st bm z) (O := O) hr h8 hn hby (by omega) (by omega) n 0 (sa s 16) u (by omega) (fun q hq => by omega)
    have hsh := Int.emod_lt_of_pos byv.toInt (show (0 : Int) < ((lk st bm z).length : Int) by omega)
    obtain ⟨N2, c1, c2⟩ := l269c (X := X) (d := d) (r := r) (s := s) (L := lk st bm z) (O := O) (n := n) (sh := (byv.toInt % ((lk st bm z).length : Int)).toNat) (by omega) (by omega) (fun x hx => lk_lt hlt hx) hn (lk_nodup hsi) a2 (lk st bm z).length 0 N (by omega) (fun q hq => by
      rw [if_neg (fun z => by omega)]
      exact b2 q hq)
    obtain ⟨T, d1, d2⟩ := l269d (X := X) (d := d) (r := r) (x2 := nI (lk st bm z).length) (x3 := nI (byv.toInt % ((lk st bm z).length : Int)).toNat) (s := s) (O := O) (N := N2) (t := t) h8 hn c2 ht n 0 (sa s 13) (by omega) (fun q hq => by omega) (fun q _ hq => hT q hq)
    refine ⟨O, N2, T, ?_, d2⟩
    have e2 : pa (pa (pa s 15 O) 16 N2) 13 (sa s 13) = pa (pa s 15 O) 16 N2 := pa_id (pa (pa s 15 O) 16 N2) 13
    rw [e1] at b1
    rw [e2] at d1
    rw [b269, a1', if_neg h2, b1, c1, d1]
end RGO
