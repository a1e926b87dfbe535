/-! The outlook: cycles, what hangs where then. -/
theorem n_rep2 {x : Int32} {k : Nat} (h : x.toInt = k) : x = nI k := by
  have h2 := Int32.toInt_lt x
  exact Int32.toInt_inj.mp (by rw [h, nI_toInt (by omega)])
theorem n_xor0 (x : Int32) {c : Nat} (hc : c < 2 ^ 31) : (nI 0 ≤ x ^^^ nI c) ↔ 0 ≤ x.toInt := by
  have h1 : ∀ y : Int32, nI 0 ≤ y ↔ y.toBitVec.msb = false := by
    intro y
    rw [Int32.le_iff_toInt_le, nI_toInt (by decide)]
    show (0 : Int) ≤ y.toBitVec.toInt ↔ _
    rw [BitVec.msb_eq_toInt]
    simp
  have h2 : (nI c).toBitVec.msb = false := (h1 _).mp (nI_le (Nat.zero_le c) hc)
  have h3 : (0 ≤ x.toInt) ↔ x.toBitVec.msb = false := by
    rw [← h1, Int32.le_iff_toInt_le, nI_toInt (by decide)]
    rfl
  rw [h1, h3, Int32.toBitVec_xor, BitVec.msb_xor, h2]
  simp
section OUT
variable {X : (Nat → Int32) × Nat} {d n : Nat} {s : ab_S} {nm f g src : Nat → Nat} {sh : Nat}
theorem c_floorMod {x : Int32} {c : Nat} (h0 : 0 < c) (hc : c < 2 ^ 31) : ab_ev X d 25 [.inl (.int x), .inl (.int (nI c))] s = some (.inl (some (.inl (.int (nI (x.toInt % (c : Int)).toNat)))), s) := by
  have hm := Int.emod_nonneg x.toInt (show (c : Int) ≠ 0 by omega)
  have hm2 := Int.emod_lt_of_pos x.toInt (show (0 : Int) < c by omega)
  have hr : (x % nI c).toInt = x.toInt % c - (if 0 ≤ x.toInt ∨ (c : Int) ∣ x.toInt then 0 else (c : Int)) := by
    rw [Int32.toInt_mod, nI_toInt hc, Int.tmod_eq_emod]
    split <;> simp
  rw [b25, if_neg (show ¬ nI c = nI 0 from nI_ne0 h0 hc), irem_eq_mod]
  by_cases hx : 0 ≤ x.toInt
  · rw [if_pos ((n_xor0 x hc).mpr hx)]
    rw [if_pos (Or.inl hx)] at hr
    rw [n_rep2 (x := x % nI c) (k := (x.toInt % (c : Int)).toNat) (by omega)]
  · rw [if_neg (fun h => hx ((n_xor0 x hc).mp h))]
    by_cases hd : (c : Int) ∣ x.toInt
    · have hz := Int.emod_eq_zero_of_dvd hd
      rw [if_pos (Or.inr hd)] at hr
      rw [n_rep2 (x := x % nI c) (k := 0) (by omega), if_pos rfl, hz]
      rfl
    · have hz : x.toInt % (c : Int) ≠ 0 := fun e => hd (Int.dvd_of_emod_eq_zero e)
      rw [if_neg (by rintro (h | h); exact hx h; exact hd h)] at hr
      have hne : ¬ x % nI c = nI 0 := fun e => by
        rw [e, nI_toInt (by decide)] at hr
        omega
      rw [if_neg hne]
      have e : (x % nI c + nI c).toInt = ((x.toInt % (c : Int)).toNat : Nat) := by
        rw [Int32.toInt_add, hr, nI_toInt hc]
        exact (Int.bmod_eq_of_le (by omega) (by omega)).trans (by omega)
      rw [n_rep2 e]
theorem l27 (h20 : n ≤ 20) (h2 : ∀ k, k < n → sa s 2 k = nI (f k)) (hf : ∀ k, k < n → f k < n) (hi : ∀ a b, a < n → b < n → f a = f b → a = b) {t : Nat} (ht : t < n) : ∀ (j m : Nat), m + j = 20 → 0 < m → (∀ k, 0 < k → k < m → it f k t ≠ t) → ab_at X (d + 1) 27 11 [some (.inr (6, 0)), some (.inl (.int (nI t))), some (.inl (.int (nI (it f m t)))), some (.inl (.int (nI m)))] [] s = some (.inl (some (.inl (.int (nI (cyc f n t))))), s)
  | 0, m, e, h0, h => by
    have c1 := cyc_le hf hi ht
    have c2 := cyc_it hf hi ht
    have c3 := cyc_pos f n t
    have c4 : ¬ cyc f n t < m := fun q => h _ c3 q c2
    have c5 : cyc f n t = m := by omega
    rw [b27_11, if_pos (nI_le (by omega) (by omega)), c5]
  | j + 1, m, e, h0, h => by
    have c0 := it_lt hf m ht
    rw [b27_11, if_neg (nI_ge (by omega) (by omega))]
    by_cases hm : it f m t = t
    · rw [if_pos ((nI_eq (by omega) (by omega)).mpr hm), cyc_eq hf hi ht h0 hm h]
    · rw [if_neg (fun q => hm ((nI_eq (by omega) (by omega)).mp q)), at29 (by omega), h2 _ c0, nI_add]
      refine l27 h20 h2 hf hi ht j (m + 1) (by omega) (by omega) (fun k k0 k1 => ?_)
      by_cases e2 : k = m
      · rw [e2]
        exact hm
      · exact h k k0 (by omega)
theorem c_cycleOf (h20 : n ≤ 20) (h2 : ∀ k, k < n → sa s 2 k = nI (f k)) (hf : ∀ k, k < n → f k < n) (hi : ∀ a b, a < n → b < n → f a = f b → a = b) {t : Nat} (ht : t < n) : ab_ev X (d + 1) 27 [.inr (6, 0), .inl (.int (nI t))] s = some (.inl (some (.inl (.int (nI (cyc f n t))))), s) := by
  rw [b27, at29 (by omega), h2 _ ht]
  exact l27 h20 h2 hf hi ht 19 1 (by omega) (by omega) (fun k k0 k1 => by omega)
theorem l108 (h20 : n ≤ 20) (h2 : ∀ k, k < n → sa s 2 k = nI (f k)) (hf : ∀ k, k < n → f k < n) {t : Nat} (ht : t < n) {x c : Int32} {m : Nat} (hm : m < 20) : ∀ (j k : Nat), k + j = m → ab_at X (d + 1) 108 27 [some (.inr (6, 0)), some (.inl (.int (nI t))), some (.inl (.int x)), some (.inl (.int c)), some (.inl (.int (nI m))), some (.inl (.int (nI (it f k t)))), some (.inl (.int (nI k)))] [] s = some (.inl (some (.inl (.int (nI (it f m t))))), s)
  | 0, k, e => by
    obtain rfl : k = m := by omega
    rw [b108_27, if_pos (nI_le (Nat.le_refl _) (by omega))]
  | j + 1, k, e => by
    have c0 := it_lt hf k ht
    rw [b108_27, if_neg (nI_ge (by omega) (by omega)), at29 (by omega), h2 _ c0, nI_add]
    exact l108 h20 h2 hf ht hm j (k + 1) (by omega)
theorem c_ahead (h20 : n ≤ 20) (h2 : ∀ k, k < n → sa s 2 k = nI (f k)) (hf : ∀ k, k < n → f k < n) (hi : ∀ a b, a < n → b < n → f a = f b → a = b) {t : Nat} (ht : t < n) {x : Int32} : ab_ev X (d + 2) 108 [.inr (6, 0), .inl (.int (nI t)), .inl (.int x)] s = some (.inl (some (.inl (.int (nI (ah f n t x.toInt))))), s) := by
  have c1 := cyc_le hf hi ht
  have c3 := cyc_pos f n t
  have hm := Int.emod_nonneg x.toInt (show ((cyc f n t : Nat) : Int) ≠ 0 by omega)
  have hm2 := Int.emod_lt_of_pos x.toInt (show (0 : Int) < (cyc f n t : Nat) by omega)
  rw [b108, c_cycleOf h20 h2 hf hi ht]
  show (if _ then _ else _) = _
  rw [if_neg (nI_ge c3 (by omega)), c_floorMod c3 (by omega)]
  exact l108 h20 h2 hf ht (m := (x.toInt % (cyc f n t : Int)).toNat) (by omega) (x.toInt % (cyc f n t : Int)).toNat 0 (by omega)
theorem l115 (h8 : sz s 8 = nI n) (h20 : n ≤ 20) (h2 : ∀ k, k < n → sa s 2 k = nI (f k)) (hf : ∀ k, k < n → f k < n) (hi : ∀ a b, a < n → b < n → f a = f b → a = b) {x : Int32} : ∀ (j k : Nat) (F : Nat → Int32), k + j = n → (∀ q, q < k → F q = nI (ah f n q (-x).toInt)) → ∃ G : Nat → Int32, ab_at X (d + 3) 115 2 [some (.inr (6, 0)), some (.inl (.int x)), some (.inl (.int (nI k)))] [] (pa s 4 F) = some (.inl none, pa s 4 G) ∧ ∀ q, q < n → G q = nI (ah f n q (-x).toInt)
  | 0, k, F, e, h => by
    obtain rfl : k = n := by omega
    refine ⟨F, ?_, h⟩
    rw [b115_2]
    simp (disch := omega) only [E0]
    rw [h8, if_pos (nI_le (Nat.le_refl _) (by omega))]
  | j + 1, k, F, e, h => by
    have hk : k < n := by omega
    have h2' : ∀ k, k < n → sa (pa s 4 F) 2 k = nI (f k) := h2
    obtain ⟨G, h3, h4⟩ := l115 h8 h20 h2 hf hi (x := x) j (k + 1) (va_up F k (nI (ah f n k (-x).toInt))) (by omega) (fun q hq => by
      by_cases e2 : q = k
      · rw [e2, va_up_self]
      · rw [va_up_ne _ _ e2]
        exact h q (by omega))
    refine ⟨G, ?_, h4⟩
    rw [← h3, b115_2, c_ahead h20 h2' hf hi hk]
    show (if sz s 8 ≤ nI k then _ else ab_bU _ _ _) = _
    rw [h8, if_neg (nI_ge hk (by omega)), put31 (by omega), nI_add]
    simp (disch := omega) only [E0, E1, e_bU]
theorem c_leap (h8 : sz s 8 = nI n) (h20 : n ≤ 20) (h2 : ∀ k, k < n → sa s 2 k = nI (f k)) (hf : ∀ k, k < n → f k < n) (hi : ∀ a b, a < n → b < n → f a = f b → a = b) {x : Int32} : ∃ G : Nat → Int32, ab_ev X (d + 3) 115 [.inr (6, 0), .inl (.int x)] s = some (.inl none, pa s 4 G) ∧ ∀ q, q < n → G q = nI (ah f n q (-x).toInt) := by
  obtain ⟨G, h3, h4⟩ := l115 (X := X) (d := d) h8 h20 h2 hf hi (x := x) n 0 (sa s 4) (by omega) (fun q hq => by omega)
  rw [pa_id] at h3
  exact ⟨G, by rw [b115]; exact h3, h4⟩
theorem l30 (h8 : sz s 8 = nI n) (h20 : n ≤ 20) (h3 : ∀ k, k < n → sa s 3 k = nI (g k)) (h4 : ∀ k, k < n → src k < n) : ∀ (j k : Nat) (F : Nat → Int32), k + j = n → (∀ q, q < k → F q = nI (g (src q))) → (∀ q, k ≤ q → q < n → F q = nI (src q)) → ∃ G : Nat → Int32, ab_at X (d + 1) 30 2 [some (.inr (6, 0)), some (.inl (.int (nI k)))] [] (pa s 4 F) = some (.inl none, pa s 4 G) ∧ ∀ q, q < n → G q = nI (g (src q))
  | 0, k, F, e, h, _ => by
    obtain rfl : k = n := by omega
    refine ⟨F, ?_, h⟩
    rw [b30_2]
    simp (disch := omega) only [E0]
    rw [h8, if_pos (nI_le (Nat.le_refl _) (by omega))]
  | j + 1, k, F, e, h, h' => by
    have hk : k < n := by omega
    have hs := h4 k hk
    obtain ⟨G, h5, h6⟩ := l30 h8 h20 h3 h4 j (k + 1) (va_up F k (nI (g (src k)))) (by omega) (fun q hq => by
      by_cases e2 : q = k
      · rw [e2, va_up_self]
      · rw [va_up_ne _ _ e2]
        exact h q (by omega)) (fun q h1 h2 => by
        rw [va_up_ne _ _ (by omega)]
        exact h' q (by omega) h2)
    refine ⟨G, ?_, h6⟩
    rw [← h5, b30_2, at31 (by omega)]
    simp (disch := omega) only [E0, e_bI, h8, nI_leI, if_neg, h' k (Nat.le_refl _) hk, at30, h3 _ hs, put31, e_bU, E1, nI_add]
theorem c_step (h8 : sz s 8 = nI n) (h20 : n ≤ 20) (h3 : ∀ k, k < n → sa s 3 k = nI (g k)) (h4 : ∀ k, k < n → sa s 4 k = nI (src k)) (h5 : ∀ k, k < n → src k < n) : ∃ G : Nat → Int32, ab_ev X (d + 1) 30 [.inr (6, 0)] s = some (.inl none, pa s 4 G) ∧ ∀ q, q < n → G q = nI (g (src q)) := by
  obtain ⟨G, h6, h7⟩ := l30 (X := X) (d := d) h8 h20 h3 h5 n 0 (sa s 4) (by omega) (fun q hq => by omega) (fun q _ hq => h4 q hq)
  rw [pa_id] at h6
  exact ⟨G, by rw [b30]; exact h6, h7⟩
theorem c_nameThen (h20 : n ≤ 20) (h1 : ∀ k, k < n → sa s 1 k = nI (nm k)) (h4 : ∀ k, k < n → sa s 4 k = nI (src k)) (h5 : ∀ k, k < n → src k < n) {k : Nat} (hk : k < n) : ab_ev X (d + 1) 32 [.inr (6, 0), .inl (.int (nI k))] s = some (.inl (some (.inl (.int (nI (nm (src k)))))), s) := by
  have := h5 k hk
  rw [b32, at31 (by omega), h4 k hk, e_bI, at28 (by omega), h1 _ this]
  rfl
theorem l196 (h8 : sz s 8 = nI n) (h20 : n ≤ 20) (h1 : ∀ k, k < n → sa s 1 k = nI (nm k)) (hn : ∀ k, k < n → nm k < n) (h4 : ∀ k, k < n → sa s 4 k = nI (src k)) (h5 : ∀ k, k < n → src k < n) {v : Nat} (hv : v < 2 ^ 31) : ∀ (j k : Nat), k + j = n → ab_at X (d + 2) 196 4 [some (.inr (6, 0)), some (.inl (.int (nI v))), some (.inl (.int (nI (bs (fun q => nm (src q) == v) k)))), some (.inl (.int (nI k)))] [] s = some (.inl (some (.inl (.int (nI (bs (fun q => nm (src q) == v) n))))), s)
  | 0, k, e => by
    obtain rfl : k = n := by omega
    rw [b196_4, h8, if_pos (nI_le (Nat.le_refl _) (by omega))]
  | j + 1, k, e => by
    have hk : k < n := by omega
    have a1 := h5 k hk
    have a2 := hn _ a1
    rw [b196_4, h8, if_neg (nI_ge hk (by omega)), c_nameThen h20 h1 h4 h5 hk]
    show (if _ = _ then _ else _) = _
    by_cases h : nm (src k) = v
    · have e2 : bs (fun q => nm (src q) == v) (k + 1) = bs (fun q => nm (src q) == v) k ||| 2 ^ k := by rw [bs, if_pos (by simpa using h)]
      rw [if_pos (by rw [h]), n_sh _ (by omega), n_or, nI_add, ← e2]
      exact l196 h8 h20 h1 hn h4 h5 hv j (k + 1) (by omega)
    · have e2 : bs (fun q => nm (src q) == v) (k + 1) = bs (fun q => nm (src q) == v) k := by rw [bs, if_neg (by simpa using h)]
      rw [if_neg (fun q => h ((nI_eq (by omega) hv).mp q)), nI_add, ← e2]
      exact l196 h8 h20 h1 hn h4 h5 hv j (k + 1) (by omega)
theorem c_streetsThen (h8 : sz s 8 = nI n) (h20 : n ≤ 20) (h1 : ∀ k, k < n → sa s 1 k = nI (nm k)) (hn : ∀ k, k < n → nm k < n) (h4 : ∀ k, k < n → sa s 4 k = nI (src k)) (h5 : ∀ k, k < n → src k < n) {v : Nat} (hv : v < 2 ^ 31) : ab_ev X (d + 2) 196 [.inr (6, 0), .inl (.int (nI v))] s = some (.inl (some (.inl (.int (nI (bs (fun q => nm (src q) == v) n))))), s) := by
  rw [b196]
  exact l196 h8 h20 h1 hn h4 h5 hv n 0 (by omega)
theorem l31 (h8 : sz s 8 = nI n) (h20 : n ≤ 20) (h1 : ∀ k, k < n → sa s 1 k = nI (nm k)) (hn : ∀ k, k < n → nm k < n) (h4 : ∀ k, k < n → sa s 4 k = nI (src k)) (h5 : ∀ k, k < n → src k < n) : ∀ (j k : Nat), k + j = n → ab_at X (d + 2) 31 4 [some (.inr (6, 0)), some (.inl (.int (nI (fb_ct (fun q => nm (src q) == nm q) k)))), some (.inl (.int (nI k)))] [] s = some (.inl (some (.inl (.int (nI (fb_ct (fun q => nm (src q) == nm q) n))))), s)
  | 0, k, e => by
    obtain rfl : k = n := by omega
    rw [b31_4, h8, if_pos (nI_le (Nat.le_refl _) (by omega))]
  | j + 1, k, e => by
    have hk : k < n := by omega
    have a1 := h5 k hk
    have a2 := hn _ a1
    have a3 := hn _ hk
    rw [b31_4, h8, if_neg (nI_ge hk (by omega)), c_nameThen h20 h1 h4 h5 hk, e_bI, at28 (by omega), h1 k hk]
    show (if _ = _ then _ else _) = _
    have ih := l31 h8 h20 h1 hn h4 h5 j (k + 1) (by omega)
    rw [fb_ct_succ] at ih
    by_cases h : nm (src k) = nm k
    · rw [if_pos (by rw [h]), nI_add, nI_add]
      rw [if_pos (by simpa using h)] at ih
      exact ih
    · rw [if_neg (fun q => h ((nI_eq (by omega) (by omega)).mp q)), nI_add]
      rw [if_neg (by simpa using h)] at ih
      exact ih
theorem c_rightStreets (h8 : sz s 8 = nI n) (h20 : n ≤ 20) (h1 : ∀ k, k < n → sa s 1 k = nI (nm k)) (hn : ∀ k, k < n → nm k < n) (h4 : ∀ k, k < n → sa s 4 k = nI (src k)) (h5 : ∀ k, k < n → src k < n) : ab_ev X (d + 2) 31 [.inr (6, 0)] s = some (.inl (some (.inl (.int (nI (fb_ct (fun q => nm (src q) == nm q) n))))), s) := by
  rw [b31]
  exact l31 h8 h20 h1 hn h4 h5 n 0 (by omega)
end OUT
