/-! Letters and nights: the model's homes, the whole. -/
section LHR
variable {X : (Nat → Int32) × Nat} {d k n nr bm m : Nat} {s : ab_S} {nm z w : Nat → Nat} {st : Nat → Nat → Nat} {by' : Nat → Int32}
theorem lM_lt {nm g w : Nat → Nat} {i : Nat} : lM nm g w i < 2 ^ 60 := bs_lt _ _
theorem r333 {j : Nat} (h : RW s n nm nr z st bm by') (hj : j < 4) (hm : m ≤ 8) (h23 : sa s 23 j = nI m) (hw : ∀ i, i < m → sb s 2 (30 * j + i) = lN (w i)) (hw2 : ∀ i, i < m → w i < 400 ∧ w i % 20 < n) : ∃ t : ab_S, sX s t ∧ sz t 11 = sz s 11 ∧ sb t 3 = sb s 3 ∧ ((ab_ev X (d + 13) 333 [.inr (9, 0), .inl (.int (nI j))] s = some (.inl (some (.inl (.int (-nI 1)))), t) ∧ ∀ N, N ≤ 60 → 0 < N → ¬ HL (bb (lM nm (inv (to_ nr z st bm by') n) w) (fun _ => 60)) m N) ∨ ∃ (N0 : Nat) (f : Nat → Nat), N0 < 60 ∧ ab_ev X (d + 13) 333 [.inr (9, 0), .inl (.int (nI j))] s = some (.inl (some (.inl (.int (nI N0)))), t) ∧ HL (bb (lM nm (inv (to_ nr z st bm by') n) w) (fun _ => 60)) m (N0 + 1) ∧ (∀ N, N ≤ N0 → 0 < N → ¬ HL (bb (lM nm (inv (to_ nr z st bm by') n) w) (fun _ => 60)) m N) ∧ (∀ i, i < m → sa t 21 i = nI (f i)) ∧ ∀ i, i < m → LsV (lM nm (inv (to_ nr z st bm by') n) w) f m (N0 + 1) i (f i)) := by
  have hg : ∀ q, q < n → inv (to_ nr z st bm by') n q < n := fun q hq => (inv_lt h.to_lt h.to_inj hq).1
  have hgf : ∀ q, q < n → inv (to_ nr z st bm by') n (to_ nr z st bm by' q) = q := fun q hq => inv_f h.to_inj hq
  obtain ⟨s1, r1, r2, r3, r4, r5⟩ := r268 (X := X) (d := d + 10) h
  have h1 : RW s1 n nm nr z st bm by' := h.same r2.known
  have eb : sb s1 = sb s := r2.2.2.2.2.2.2.1
  obtain ⟨B, C, u', g1, g2⟩ := l333a (X := X) (d := d + 9) (w := w) h1 r5 h.to_lt h.to_inj hgf hg hj hm (fun i hi => by rw [eb]; exact hw i hi) hw2 m 0 (sb s1 1) (sa s1 21) none (by omega) (fun i hi => absurd hi (by omega))
  have e0 : pb (pa s1 21 (sa s1 21)) 1 (sb s1 1) = s1 := by
    rw [pa_id]
    exact pb_id s1 1
  rw [e0] at g1
  obtain ⟨s2, hs2⟩ : ∃ s2, s2 = pb (pa s1 21 C) 1 B := ⟨_, rfl⟩
  rw [← hs2] at g1
  have b1 : ∀ i, i < m → sb s2 1 i = lN (lM nm (inv (to_ nr z st bm by') n) w i) := fun i hi => by
    rw [hs2]
    simp (disch := omega) only [E0]
    exact (g2 i hi).1
  have b2 : sa s2 21 = C := by
    rw [hs2]
    simp (disch := omega) only [E0]
  have pre : ab_ev X (d + 13) 333 [.inr (9, 0), .inl (.int (nI j))] s = ab_at X (d + 13) 333 84 [some (.inr (9, 0)), some (.inl (.int (nI j))), some (.inl (.int (nI m))), some (.inl (.int (nI 0))), u', none] [] s2 := by
    have e23 : sa s1 23 j = nI m := by rw [r2.2.2.2.2.1 23 (by omega)]; exact h23
    rw [b333, r1, e_bU, r_in hj (by decide), nI_clamp (by omega), e23]
    exact g1
  have hX2 : sX s s2 ∧ sz s2 11 = sz s 11 ∧ sb s2 3 = sb s 3 := by
    refine ⟨?_, ?_, ?_⟩
    · rw [hs2]
      refine sX_trans (sX_trans ?_ (sX_pa (j := 21) (by omega))) (sX_pb (j := 1) (by omega))
      obtain ⟨a1, a2, a3, a4, a5, a6, a7, a8, a9, a10⟩ := r2
      exact ⟨fun k _ _ _ _ h3 h4 => a1 k h3 h4, a3, fun k q _ => by rw [a4], fun k hk => a5 k (by omega), fun k q _ _ => by rw [a6], by rw [a7], a8, a9, a10⟩
    · rw [hs2]
      exact r3
    · rw [hs2]
      show va_up (sb s1) 1 B 3 = _
      rw [va_up_ne _ _ (by omega), eb]
  have fin : ∀ (C' A' : Nat → Int32) (y' : Int64), sX s (K3 s2 C' A' y') ∧ sz (K3 s2 C' A' y') 11 = sz s 11 ∧ sb (K3 s2 C' A' y') 3 = sb s 3 := fun C' A' y' => by
    refine ⟨sX_trans hX2.1 (sX_trans (sX_pa (j := 21) (F := C') (by omega)) (sX_trans (sX_pa (j := 20) (F := A') (by omega)) ?_)), hX2.2.1, hX2.2.2⟩
    exact ⟨fun _ _ _ _ _ _ _ => rfl, rfl, fun _ _ _ => rfl, fun _ _ => rfl, fun _ _ _ _ => rfl, rfl, rfl, rfl, rfl⟩
  have eC : ∀ A y, py (pa s2 20 A) 0 y = K3 s2 C A y := fun A y => by
    unfold K3
    have : pa s2 21 C = s2 := by
      rw [← b2]
      exact pa_id s2 21
    rw [this]
  have ec : ∀ i q, i < m → bb (lM nm (inv (to_ nr z st bm by') n) w) (cf (fun _ => 0) 0) i q = bb (lM nm (inv (to_ nr z st bm by') n) w) (fun _ => 60) i q := fun i q _ => by
    have e1 : cf (fun _ => 0) 0 i = 60 := by
      unfold cf
      rw [if_neg (by omega)]
    rw [bb_free (by rw [e1]; omega), bb_free (by omega)]
  have eH : ∀ N, HL (bb (lM nm (inv (to_ nr z st bm by') n) w) (cf (fun _ => 0) 0)) m N ↔ HL (bb (lM nm (inv (to_ nr z st bm by') n) w) (fun _ => 60)) m N := fun N => HL_cong (fun i q hi => (ec i q hi).symm ▸ rfl)
  have ey : py (pa s2 20 (sa s2 20)) 0 (sy s2 0) = s2 := by
    rw [pa_id]
    exact py_id s2 0
  rcases l333b (X := X) (d := d) (j := j) (s := s2) (M := lM nm (inv (to_ nr z st bm by') n) w) (f := fun _ => 0) hm (fun i hi => by rw [b2]; exact (g2 i hi).2) b1 (fun i _ => lM_lt) 60 0 (sa s2 20) (sy s2 0) u' (by omega) (fun N h3 h4 => absurd h3 (by omega)) with ⟨A', y', i1, i2⟩ | ⟨A', y', N0, i1, i2, i3, i4⟩
  · rw [ey, eC] at i1
    obtain ⟨f1, f2, f3⟩ := fin C A' y'
    exact ⟨K3 s2 C A' y', f1, f2, f3, Or.inl ⟨pre.trans i1, fun N h3 h4 z => i2 N h3 h4 ((eH N).mpr z)⟩⟩
  · rw [ey, eC] at i4
    obtain ⟨f', C', A'', y'', k1, k2, k3⟩ := l333d (X := X) (d := d) (j := j) (s := s2) hm b1 (fun i _ => lM_lt) i1 m 0 (fun _ => 0) C A' y' none (by omega) (fun i hi => absurd hi (by omega)) i2 (fun i hi => by
      rw [(g2 i hi).2]
      refine (fx_free.mpr ?_).symm
      unfold cf
      rw [if_neg (by omega)]
      omega) (fun i hi => absurd hi (by omega))
    obtain ⟨f1, f2, f3⟩ := fin C' A'' y''
    refine ⟨K3 s2 C' A'' y'', f1, f2, f3, Or.inr ⟨N0, f', i1, pre.trans (i4.trans k1), (eH _).mp (MT_HL i2), fun N h3 h4 z => i3 N h3 h4 ((eH N).mpr z), fun i hi => ?_, k3⟩⟩
    rw [(K3_at s2 C' A'' y'').1]
    exact k1 |> fun _ => k2 i hi
end LHR
