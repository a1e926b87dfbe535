/-! The model's next, all rounds gone. -/
/-- but for what the model only works with two stores are one -/
def sR (s s' : ab_S) : Prop := (∀ k, k ≠ 11 → k ≠ 23 → sz s' k = sz s k) ∧ sy s' = sy s ∧ st s' = st s ∧ si s' = si s ∧ (∀ k, k < 13 ∨ 21 < k → sa s' k = sa s k) ∧ sA s' = sA s ∧ sb s' = sb s ∧ sB s' = sB s ∧ sq s' = sq s ∧ sn s' = sn s
theorem sR_refl (s : ab_S) : sR s s := ⟨fun _ _ _ => rfl, rfl, rfl, rfl, fun _ _ => rfl, rfl, rfl, rfl, rfl, rfl⟩
theorem sR_trans {s t u : ab_S} (h : sR s t) (h' : sR t u) : sR s u := by
  obtain ⟨a1, a2, a3, a4, a5, a6, a7, a8, a9, a10⟩ := h
  obtain ⟨b1, b2, b3, b4, b5, b6, b7, b8, b9, b10⟩ := h'
  exact ⟨fun k h1 h2 => (b1 k h1 h2).trans (a1 k h1 h2), b2.trans a2, b3.trans a3, b4.trans a4, fun k hk => (b5 k hk).trans (a5 k hk), b6.trans a6, b7.trans a7, b8.trans a8, b9.trans a9, b10.trans a10⟩
theorem sR_pa {s : ab_S} {k : Nat} {F : Nat → Int32} (h1 : 13 ≤ k) (h6 : k ≤ 21) : sR s (pa s k F) := ⟨fun _ _ _ => rfl, rfl, rfl, rfl, fun j hj => va_up_ne _ _ (by omega), rfl, rfl, rfl, rfl, rfl⟩
theorem sR_pz {s : ab_S} {k : Nat} {v : Int32} (h : k = 11 ∨ k = 23) : sR s (pz s k v) := ⟨fun j h1 h2 => va_up_ne _ _ (by omega), rfl, rfl, rfl, fun _ _ => rfl, rfl, rfl, rfl, rfl, rfl⟩
theorem sR.known {s s' : ab_S} (h : sR s s') : sa s' 8 = sa s 8 := h.2.2.2.2.1 8 (Or.inl (by omega))
section RNX
variable {X : (Nat → Int32) × Nat} {d n nr bm : Nat} {s : ab_S} {nm z : Nat → Nat} {st : Nat → Nat → Nat} {by' : Nat → Int32}
theorem RW.to_lt (h : RW s n nm nr z st bm by') : ∀ k, k < n → to_ nr z st bm by' k < n := fun k hk => tof_lt (fun r hr x hx => lk_lt (h.2.2.2.2.2.2.2.2.2.1 r hr) hx) hk
theorem RW.to_inj (h : RW s n nm nr z st bm by') : ∀ a b, a < n → b < n → to_ nr z st bm by' a = to_ nr z st bm by' b → a = b := fun a b _ _ e => tof_inj (fun r hr => lk_nodup (h.2.2.2.2.2.2.2.2.2.2.1 r hr)) e
theorem l268a (h8 : sa s 8 1 = nI n) (hn : n ≤ 20) : ∀ (j k : Nat) (A : Nat → Int32), k + j = n → (∀ q, q < k → A q = nI q) → ∃ A' : Nat → Int32, ab_at X (d + 2) 268 2 [some (.inr (9, 0)), some (.inl (.int (nI k)))] [] (pa s 13 A) = ab_at X (d + 2) 268 25 [some (.inr (9, 0)), some (.inl (.int (nI 0)))] [] (pa s 13 A') ∧ ∀ q, q < n → A' q = nI q
  | 0, k, A, e, h => by
    obtain rfl : k = n := by omega
    refine ⟨A, ?_, h⟩
    rw [b268_2, r267 (s := pa s 13 A) (n := k) h8, e_bI, if_pos (nI_le (Nat.le_refl _) (by omega))]
  | j + 1, k, A, e, h => by
    have hk : k < n := by omega
    obtain ⟨A', g1, g2⟩ := l268a h8 hn j (k + 1) (va_up A k (nI k)) (by omega) (fun q hq => by
      by_cases h5 : q = k
      · rw [h5, va_up_self]
      · rw [va_up_ne _ _ h5]
        exact h q (by omega))
    refine ⟨A', ?_, g2⟩
    rw [← g1, b268_2, r267 (s := pa s 13 A) (n := n) h8, e_bI, if_neg (nI_ge hk (by omega)), r_in (by omega) (by decide), nI_clamp (by omega), nI_add]
    simp (disch := omega) only [E0, E1]
theorem l268b (h : RW s n nm nr z st bm by') : ∀ (j k : Nat) (s1 : ab_S), k + j = nr → sR s s1 → sz s1 11 = sz s 11 → sz s1 23 = sz s 23 → (∀ q, q < n → sa s1 13 q = nI (tof (fun r => lk (st r) bm (z r)) (fun r => ((by' r).toInt % ((lk (st r) bm (z r)).length : Int)).toNat) k q)) → ∃ s2 : ab_S, ab_at X (d + 2) 268 25 [some (.inr (9, 0)), some (.inl (.int (nI k)))] [] s1 = some (.inl none, s2) ∧ sR s s2 ∧ sz s2 11 = sz s 11 ∧ sz s2 23 = sz s 23 ∧ ∀ q, q < n → sa s2 13 q = nI (to_ nr z st bm by' q)
  | 0, k, s1, e, hs, h8, h9, hT => by
    obtain rfl : k = nr := by omega
    refine ⟨s1, ?_, hs, h8, h9, hT⟩
    have h' := h.same hs.known
    have h4 := h'.2.2.2.2.2.1
    rw [b268_25, h'.2.2.2.2.1, if_pos (nI_le (Nat.le_refl _) (by omega))]
  | j + 1, k, s1, e, hs, h8, h9, hT => by
    have hk : k < nr := by omega
    have h' := h.same hs.known
    obtain ⟨t1, t2, t3, t4, t5, t6, t7, t8, t9, t10, t11, t12, t13, t14, t15⟩ := h'
    obtain ⟨O, N, T, g1, g2⟩ := r269 (X := X) (d := d) (s := s1) (byv := by' k) (t := tof (fun r => lk (st r) bm (z r)) (fun r => ((by' r).toInt % ((lk (st r) bm (z r)).length : Int)).toNat) k) (by omega) (t7 k hk) (t8 k hk) (t9 k hk) (t10 k hk) (t11 k hk) t2 t12 (by omega) t1 (t14 k hk) hT (fun q hq => tof_lt (fun r hr x hx => lk_lt (t10 r (by omega)) hx) hq)
    have hs1 : sR s1 (pa (pa (pa s1 15 O) 16 N) 13 T) := sR_trans (sR_pa (by omega) (by omega)) (sR_trans (sR_pa (by omega) (by omega)) (sR_pa (by omega) (by omega)))
    obtain ⟨s2, a1, a2, a3, a4, a5⟩ := l268b h j (k + 1) (pa (pa (pa s1 15 O) 16 N) 13 T) (by omega) (sR_trans hs hs1) h8 h9 (fun q hq => by
      show sa (pa (pa (pa s1 15 O) 16 N) 13 T) 13 q = _
      simp (disch := omega) only [E0]
      exact g2 q hq)
    refine ⟨s2, ?_, a2, a3, a4, a5⟩
    rw [← a1, b268_25, t5, if_neg (nI_ge hk (by omega)), g1, e_bU, nI_add]
/-- where each sign of the model goes by a move -/
theorem r268 (h : RW s n nm nr z st bm by') : ∃ s2 : ab_S, ab_ev X (d + 2) 268 [.inr (9, 0)] s = some (.inl none, s2) ∧ sR s s2 ∧ sz s2 11 = sz s 11 ∧ sz s2 23 = sz s 23 ∧ ∀ q, q < n → sa s2 13 q = nI (to_ nr z st bm by' q) := by
  obtain ⟨A, g1, g2⟩ := l268a (X := X) (d := d) h.1 h.2.1 n 0 (sa s 13) (by omega) (fun q hq => by omega)
  rw [pa_id] at g1
  obtain ⟨s2, a1, a2, a3, a4, a5⟩ := l268b (X := X) (d := d) h nr 0 (pa s 13 A) (by omega) (sR_pa (by omega) (by omega)) rfl rfl g2
  exact ⟨s2, by rw [b268, g1, a1], a2, a3, a4, a5⟩
/-- the name that hangs on a street x nights from now -/
theorem r284 {f : Nat → Nat} {x : Int32} (h : RW s n nm nr z st bm by') (h2 : ∀ k, k < n → sa s 13 k = nI (f k)) (hf : ∀ k, k < n → f k < n) (hi : ∀ a b, a < n → b < n → f a = f b → a = b) {t : Nat} (ht : t < n) : ab_ev X (d + 2) 284 [.inr (9, 0), .inl (.int (nI t)), .inl (.int x)] s = some (.inl (some (.inl (.int (nI (nm (ah f n t (-x).toInt)))))), s) := by
  have hn := h.2.1
  have c0 := ah_lt hf ht (-x).toInt
  rw [b284, r285 hn h2 hf hi ht, e_bI, nI_add, r_in (by omega) (by decide), nI_clamp (by omega), h.2.2.1 _ c0]
theorem l278 {v : Int32} (h : RW s n nm nr z st bm by') : ∀ (j k : Nat), k + j = n → ab_at X (d + 1) 278 4 [some (.inr (9, 0)), some (.inl (.int v)), some (.inl (.int (nI (bs (fun q => decide (nI (nm q) = v)) k)))), some (.inl (.int (nI k)))] [] s = some (.inl (some (.inl (.int (nI (bs (fun q => decide (nI (nm q) = v)) n))))), s)
  | 0, k, e => by
    have hn := h.2.1
    obtain rfl : k = n := by omega
    rw [b278_4, r267 h.1, e_bI, if_pos (nI_le (Nat.le_refl _) (by omega))]
  | j + 1, k, e => by
    have hn := h.2.1
    have hk : k < n := by omega
    have g := l278 (v := v) h j (k + 1) (by omega)
    rw [← g, b278_4, r267 h.1, e_bI, if_neg (nI_ge hk (by omega)), nI_add, r_in (by omega) (by decide), nI_clamp (by omega), h.2.2.1 _ hk, nI_add, n_sh _ (by omega), n_or, n_or, Nat.or_zero]
    by_cases q : nI (nm k) = v
    · rw [if_pos q]
      congr 6
      rw [bs, decide_eq_true q]
      rfl
    · rw [if_neg q]
      congr 6
      rw [bs, decide_eq_false q]
      rfl
/-- the streets on which a name hangs -/
theorem r278 {v : Int32} (h : RW s n nm nr z st bm by') : ab_ev X (d + 1) 278 [.inr (9, 0), .inl (.int v)] s = some (.inl (some (.inl (.int (nI (bs (fun q => decide (nI (nm q) = v)) n))))), s) := by
  rw [b278]
  exact l278 h n 0 (by omega)
end RNX
