/-! Nights to come. -/
/-- how many of the first k nights to come move, by when the law holds -/
def mvf (H : Int32 → Int32 → Bool) (day moved : Int32) : Nat → Nat
  | 0 => 0
  | k + 1 => mvf H day moved k + (if H (day + nI k) (moved + nI (mvf H day moved k)) then 0 else 1)
theorem mvf_le (H : Int32 → Int32 → Bool) (day moved : Int32) : ∀ k, mvf H day moved k ≤ k
  | 0 => Nat.le_refl _
  | k + 1 => by
    have := mvf_le H day moved k
    rw [mvf]
    split <;> omega
/-- the law of a town of the class -/
def lwH (s : ab_S) (i : Nat) (wrong : Int32) (day moved : Int32) : Bool := hld (rd day moved (si s 3 i) wrong) (sA s 6 i) (si s 8 i).toNatClampNeg
section NTS
variable {X : (Nat → Int32) × Nat} {d i n : Nat} {nm : Nat → Nat} {s : ab_S}
theorem lwH_w {w day moved : Int32} {F : Nat → Int32} : lwH (wA s 7 i F) i w day moved = lwH s i w day moved := by
  unfold lwH
  simp (disch := omega) only [E0]
theorem c_holds2 {day moved w : Int32} {m : Nat} (hm : si s 8 i = nI m) (h900 : m ≤ 900) (hw : WL (sA s 6 i) m) : ∃ F' : Nat → Int32, ab_ev X (d + 3) 10 [.inr (4, i), .inl (.int day), .inl (.int moved), .inl (.int (si s 3 i)), .inl (.int w)] s = some (.inl (some (.inl (.int (if lwH s i w day moved then nI 1 else nI 0)))), wA s 7 i F') := by
  obtain ⟨F', g⟩ := c_holds (X := X) (d := d) (day := day) (moved := moved) (people := si s 3 i) (wrong := w) hm h900 hw
  refine ⟨F', ?_⟩
  rw [g]
  unfold lwH
  rw [hm, nI_clamp (by omega)]
theorem l6 {m N : Nat} {w : Int32} (hm : si s 8 i = nI m) (h900 : m ≤ 900) (hw : WL (sA s 6 i) m) (hN : N ≤ 999) : ∀ (j k : Nat) (F : Nat → Int32), k + j = N → ∃ F' : Nat → Int32, ab_at X (d + 4) 6 10 [some (.inr (2, i)), some (.inl (.int (nI N))), some (.inl (.int w)), some (.inl (.int (nI (mvf (lwH s i w) (si s 4 i) (si s 5 i) k)))), some (.inl (.int (nI k)))] [] (wA s 7 i F) = some (.inl (some (.inl (.int (nI (mvf (lwH s i w) (si s 4 i) (si s 5 i) N))))), wA s 7 i F')
  | 0, k, F, e => by
    obtain rfl : k = N := by omega
    exact ⟨F, by rw [b6_10, if_pos (nI_le (Nat.le_refl _) (by omega))]⟩
  | j + 1, k, F, e => by
    have hk : k < N := by omega
    obtain ⟨G, g⟩ := c_holds2 (X := X) (d := d) (s := wA s 7 i F) (i := i) (day := si s 4 i + nI k) (moved := si s 5 i + nI (mvf (lwH s i w) (si s 4 i) (si s 5 i) k)) (w := w) (m := m) hm h900 (by simp (disch := omega) only [E0]; exact hw)
    simp (disch := omega) only [E0, E1, lwH_w] at g
    obtain ⟨F', h⟩ := l6 (w := w) hm h900 hw hN j (k + 1) G (by omega)
    refine ⟨F', ?_⟩
    rw [← h, b6_10, if_neg (nI_ge hk (by omega))]
    simp (disch := omega) only [E0]
    have hs : mvf (lwH s i w) (si s 4 i) (si s 5 i) (k + 1) = mvf (lwH s i w) (si s 4 i) (si s 5 i) k + (if lwH s i w (si s 4 i + nI k) (si s 5 i + nI (mvf (lwH s i w) (si s 4 i) (si s 5 i) k)) then 0 else 1) := rfl
    rw [g, e_bI]
    cases hb : lwH s i w (si s 4 i + nI k) (si s 5 i + nI (mvf (lwH s i w) (si s 4 i) (si s 5 i) k)) with
    | true =>
      rw [hb, if_pos rfl] at hs
      have hs : mvf (lwH s i w) (si s 4 i) (si s 5 i) (k + 1) = mvf (lwH s i w) (si s 4 i) (si s 5 i) k := hs
      rw [if_pos rfl, if_neg (by decide), nI_add, hs]
    | false =>
      rw [hb, if_neg (by decide)] at hs
      rw [if_pos (by decide), nI_add, nI_add, hs]
theorem c_movesAmong {m N : Nat} (hn : si s 1 i = nI n) (h20 : n ≤ 20) (hnm : ∀ k, k < n → sA s 0 i k = nI (nm k)) (hlt : ∀ k, k < n → nm k < n) (hm : si s 8 i = nI m) (h900 : m ≤ 900) (hw : WL (sA s 6 i) m) (hN : N ≤ 999) : ∃ F' : Nat → Int32, ab_ev X (d + 4) 6 [.inr (2, i), .inl (.int (nI N))] s = some (.inl (some (.inl (.int (nI (mvf (lwH s i (nI (wrg nm n))) (si s 4 i) (si s 5 i) N))))), wA s 7 i F') := by
  obtain ⟨F', h⟩ := l6 (X := X) (d := d) (s := s) (i := i) (w := nI (wrg nm n)) hm h900 hw hN N 0 (sA s 7 i) (by omega)
  rw [wA_id] at h
  refine ⟨F', ?_⟩
  rw [b6, c_wrong hn h20 hnm hlt, e_bI]
  exact h
theorem l121 {m E : Nat} {w : Int32} (hm : si s 8 i = nI m) (h900 : m ≤ 900) (hw : WL (sA s 6 i) m) (hE : E ≤ 999) (hE0 : 0 < E) : ∀ (j k : Nat) (F : Nat → Int32), k + j = 999 → (∀ q, q ≤ k → mvf (lwH s i w) (si s 4 i) (si s 5 i) q < E) → ∃ F' : Nat → Int32, ab_at X (d + 4) 121 10 [some (.inr (2, i)), some (.inl (.int (nI E))), some (.inl (.int w)), some (.inl (.int (nI (mvf (lwH s i w) (si s 4 i) (si s 5 i) k)))), some (.inl (.int (nI k)))] [] (wA s 7 i F) = some (.inl (some (.inl (.int (if fst (fun q => mvf (lwH s i w) (si s 4 i) (si s 5 i) q == E) 1000 < 1000 then nI (fst (fun q => mvf (lwH s i w) (si s 4 i) (si s 5 i) q == E) 1000) else -nI 1)))), wA s 7 i F')
  | 0, k, F, e, h => by
    obtain rfl : k = 999 := by omega
    have e1 : fst (fun q => mvf (lwH s i w) (si s 4 i) (si s 5 i) q == E) 1000 = 1000 := fst_eqn (fun q hq => by
      have := h q (by omega)
      have : ¬ mvf (lwH s i w) (si s 4 i) (si s 5 i) q = E := by omega
      simpa using this)
    refine ⟨F, ?_⟩
    rw [b121_10, if_pos (nI_le (Nat.le_refl _) (by omega)), if_neg (show ¬ nI E = nI 0 from nI_ne0 hE0 (by omega)), e1, if_neg (by omega)]
  | j + 1, k, F, e, h => by
    have hk := h k (Nat.le_refl _)
    obtain ⟨G, g⟩ := c_holds2 (X := X) (d := d) (s := wA s 7 i F) (i := i) (day := si s 4 i + nI k) (moved := si s 5 i + nI (mvf (lwH s i w) (si s 4 i) (si s 5 i) k)) (w := w) (m := m) hm h900 (by simp (disch := omega) only [E0]; exact hw)
    simp (disch := omega) only [E0, E1, lwH_w] at g
    have hs : mvf (lwH s i w) (si s 4 i) (si s 5 i) (k + 1) = mvf (lwH s i w) (si s 4 i) (si s 5 i) k + (if lwH s i w (si s 4 i + nI k) (si s 5 i + nI (mvf (lwH s i w) (si s 4 i) (si s 5 i) k)) then 0 else 1) := rfl
    have hb : ab_at X (d + 4) 121 10 [some (.inr (2, i)), some (.inl (.int (nI E))), some (.inl (.int w)), some (.inl (.int (nI (mvf (lwH s i w) (si s 4 i) (si s 5 i) k)))), some (.inl (.int (nI k)))] [] (wA s 7 i F) = _ := b121_10
    simp (disch := omega) only [E0] at hb
    rw [if_neg (nI_ge (by omega) (by omega)), if_neg (nI_ge hk (by omega)), g, e_bI] at hb
    cases hx : lwH s i w (si s 4 i + nI k) (si s 5 i + nI (mvf (lwH s i w) (si s 4 i) (si s 5 i) k)) with
    | true =>
      rw [hx, if_pos rfl] at hs
      have hs : mvf (lwH s i w) (si s 4 i) (si s 5 i) (k + 1) = mvf (lwH s i w) (si s 4 i) (si s 5 i) k := hs
      obtain ⟨F', g2⟩ := l121 (w := w) hm h900 hw hE hE0 j (k + 1) G (by omega) (fun q hq => by
        by_cases q1 : q = k + 1
        · rw [q1, hs]
          exact hk
        · exact h q (by omega))
      refine ⟨F', ?_⟩
      rw [hx, if_pos rfl, if_neg (by decide), nI_add] at hb
      rw [hb, ← g2, hs]
    | false =>
      rw [hx, if_neg (by decide)] at hs
      rw [hx, if_pos (by decide), nI_add, nI_add] at hb
      by_cases q2 : mvf (lwH s i w) (si s 4 i) (si s 5 i) k + 1 = E
      · have e1 : fst (fun q => mvf (lwH s i w) (si s 4 i) (si s 5 i) q == E) 1000 = k + 1 := fst_eq (by omega) (by simp [hs, q2]) (fun q hq => by
          have := h q (by omega)
          have : ¬ mvf (lwH s i w) (si s 4 i) (si s 5 i) q = E := by omega
          simpa using this)
        refine ⟨G, ?_⟩
        rw [hb, if_pos (by rw [q2]), e1, if_pos (by omega)]
      · obtain ⟨F', g2⟩ := l121 (w := w) hm h900 hw hE hE0 j (k + 1) G (by omega) (fun q hq => by
          by_cases q1 : q = k + 1
          · rw [q1, hs]
            omega
          · exact h q (by omega))
        refine ⟨F', ?_⟩
        rw [hb, if_neg (fun z => q2 ((nI_eq (by omega) (by omega)).mp z)), ← g2, hs]
theorem c_nightsTill {m E : Nat} (hn : si s 1 i = nI n) (h20 : n ≤ 20) (hnm : ∀ k, k < n → sA s 0 i k = nI (nm k)) (hlt : ∀ k, k < n → nm k < n) (hm : si s 8 i = nI m) (h900 : m ≤ 900) (hw : WL (sA s 6 i) m) (hE : E ≤ 999) : ∃ F' : Nat → Int32, ab_ev X (d + 4) 121 [.inr (2, i), .inl (.int (nI E))] s = some (.inl (some (.inl (.int (if fst (fun q => mvf (lwH s i (nI (wrg nm n))) (si s 4 i) (si s 5 i) q == E) 1000 < 1000 then nI (fst (fun q => mvf (lwH s i (nI (wrg nm n))) (si s 4 i) (si s 5 i) q == E) 1000) else -nI 1)))), wA s 7 i F') := by
  by_cases h0 : E = 0
  · subst h0
    have e1 : fst (fun q => mvf (lwH s i (nI (wrg nm n))) (si s 4 i) (si s 5 i) q == 0) 1000 = 0 := fst_eq (by omega) (by simp [mvf]) (fun q hq => by omega)
    refine ⟨sA s 7 i, ?_⟩
    rw [b121, c_wrong hn h20 hnm hlt, e_bI, b121_10, if_neg (by decide), if_pos (by decide), if_pos rfl, e1, if_pos (by omega), wA_id]
  · obtain ⟨F', h⟩ := l121 (X := X) (d := d) (s := s) (i := i) (w := nI (wrg nm n)) hm h900 hw hE (by omega) 999 0 (sA s 7 i) (by omega) (fun q hq => by
      have : q = 0 := by omega
      rw [this]
      show 0 < E
      omega)
    rw [wA_id] at h
    refine ⟨F', ?_⟩
    rw [b121, c_wrong hn h20 hnm hlt, e_bI]
    exact h
end NTS
