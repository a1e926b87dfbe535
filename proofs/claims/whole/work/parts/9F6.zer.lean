/-! What holds at the start. -/
theorem INV_0 {s : ab_S} {c0 c1 k : Nat} (z1 : sz s 1 = nI 0) (z12 : sz s 12 = nI 0) (z2 : sz s 2 = sz s 20) (z3 : sz s 3 = sz s 21) (hi : ∀ q, q < 10 → q ≠ 2 → si s q 0 = nI 0) (h2 : si s 2 0 = nI 9) (hg : ∀ t, t < 2300 → sa s 8 t = if t = 4 then nI 9 else nI 0) (q0 : ∀ j, j < 4 → sq s 0 j = none) (q1 : ∀ j, j < 3 → sq s 1 j = none) (a22 : ∀ j, j < 4 → sa s 22 j = -nI 1) (a11 : ∀ j, j < 3 → sa s 11 j = nI 0) (n2 : 2 ≤ sn s 2) (r0 : sn s 0 ≤ c0) (r1 : sn s 1 ≤ c1) : INV c0 c1 k s := by
  have g : ∀ t, t < 2300 → t ≠ 4 → sa s 8 t = nI 0 := fun t ht h4 => by rw [hg t ht, if_neg h4]
  have st0 : ∀ t, t < 123 → st_ (sa s 8) 11 t = nI 0 := fun t ht => by rw [st_at ht, g _ (by omega) (by omega)]
  refine ⟨⟨0, 0, 0, 9, 0, 0, fun _ => 0, fun _ => 0, fun _ => 0, fun _ _ => 0, 0, fun _ => 0, fun _ => 0, ?_⟩, ⟨fun j hj => Or.inl ⟨q0 j hj, a22 j hj⟩, fun j j' t hj _ e _ => ?_⟩, ⟨n2, fun j hj => Or.inl ⟨q1 j hj, a11 j hj⟩, fun j j' t hj _ e _ => ?_⟩, ⟨0, z1, z12, by omega, fun q hq => absurd hq (by omega)⟩, z2, z3, by omega, by omega⟩
  · refine ⟨⟨hi 1 (by omega) (by omega), by omega, hi 7 (by omega) (by omega), by omega, hi 3 (by omega) (by omega), by omega, fun r hr => absurd hr (by omega), fun r hr => absurd hr (by omega)⟩, ⟨g 1 (by omega) (by omega), g 2 (by omega) (by omega), g 3 (by omega) (by omega), fun r hr => absurd hr (by omega)⟩, ⟨h2, by rw [hg 4 (by omega), if_pos rfl], by decide⟩, ?_, ⟨hi 8 (by omega) (by omega), g 5 (by omega) (by omega), by omega, ⟨fun k hk => ?_, fun h => absurd h (by omega)⟩, fun q hq => absurd hq (by omega)⟩, ?_, ?_, hi 9 (by omega) (by omega), g 6 (by omega) (by omega), by omega, fun j hj => absurd hj (by omega)⟩
    · rw [hi 0 (by omega) (by omega), g 0 (by omega) (by omega)]
    · obtain rfl : k = 0 := by omega
      exact ⟨[], rfl, by decide⟩
    · exact ⟨fun k hk => absurd hk (by omega), fun k hk => absurd hk (by omega), fun k hk => absurd hk (by omega), fun k hk => absurd hk (by omega), fun k hk => absurd hk (by omega), fun k hk => absurd hk (by omega), fun k hk => absurd hk (by omega), st0 20 (by omega), by decide, fun k hk => absurd hk (by omega)⟩
    · refine ⟨fun k hk => absurd hk (by omega), ?_, fun k hk => absurd hk (by omega), fun k hk => absurd hk (by omega), fun k hk => absurd hk (by omega), ?_, ?_⟩
      · show si s 6 0 = _
        rw [hi 6 (by omega) (by omega), st0 20 (by omega)]
      · show si s 4 0 = _
        rw [hi 4 (by omega) (by omega), st0 121 (by omega)]
      · show si s 5 0 = _
        rw [hi 5 (by omega) (by omega), st0 122 (by omega)]
  · rw [q0 j hj] at e
    cases e
  · rw [q1 j hj] at e
    cases e
