/-! Makings: a tray, a town. -/
theorem nw_cat {fm : Value} (h : fm = .null ∨ ∃ a : Nat, fm = .ref a) : fm.category = 1 := by
  rcases h with rfl | ⟨a, rfl⟩ <;> rfl
theorem nw_ow217 : ab_cnm (ab_ow 217) = "MovingNames" := by decide +kernel
theorem nw_ow226 : ab_cnm (ab_ow 226) = "MovingNames" := by decide +kernel
def nw_jR (K : Nat) : Nat := [8, 36].idxOf K
def nw_jT (K : Nat) : Nat := [2, 19, 20, 21, 3, 22, 23, 24, 4, 25, 26, 5, 27].idxOf K
theorem nw_Tr {X : (Nat → Int32) × Nat} {L : ab_L} {K : List ab_V} {s : ab_S} (hd : ab_okN (ab_by 217) 52 [40, 352, 8] = true) (hsum : ab_sum K ≤ 8) : ab_Nw X 217 52 L K s (.inr (8, sn s 3)) (ab_newR s) := by
  refine ⟨newR_mono, fun ra fm D dA B0 p l e R U mt args below meth c C hf hlo cells slots Q P c1 c2 hc hG ρ hρ H ls r locs hL hKr hR hS => ?_⟩
  obtain ⟨hx, hst, hb, hml, hr, hlk, hown, ht, hts, hB, hKK, hSF, hCV, hfm⟩ := C
  obtain ⟨hP, hD, hwf⟩ := hR
  obtain ⟨n0, n1, n2, n3⟩ := newR_sn (s := s)
  have e0 : sn (ab_newR s) 0 - sn s 0 = 2 := by omega
  have e1 : sn (ab_newR s) 1 - sn s 1 = 33 := by omega
  rw [e0] at c1
  rw [e1] at c2
  rw [e0, e1] at hG
  have hd9 : (ab_dc (ab_by 217) 52 (.new 40) 3 && ab_dc (ab_by 217) (52 + 3) .dup 1 && ab_dc (ab_by 217) (52 + 4) (.invokespecial 352) 3) = true := hd
  simp only [Bool.and_eq_true] at hd9
  obtain ⟨⟨d1, d2⟩, d3⟩ := hd9
  have d1 := ab_dc_ok d1
  have d2 := ab_dc_ok d2
  have d3 := ab_dc_ok d3
  rw [nw_ow217] at hown
  refine va_new (A := ab_A B0) (ci := 8) (fs := [.null, .int 0, .int 0]) (C := "MovingNames$Tray") (T := ab_T 8) (N := 3) hx hb (ab_hts hts) (ab_lays (k := 8) (by decide) rfl) _ (ab_tyk (k := 8) rfl (by decide)).1 hown (hts _ (ab_has_in (i := 361) (w := .classLink "MovingNames" 40 "MovingNames$Tray") (by decide +kernel)) rfl) (hts _ (ab_has_in (i := 1461) (w := .instantiable "MovingNames$Tray" 3) (by decide +kernel)) rfl) (hts _ (ab_has_in (i := 138) (w := .initialized "MovingNames$Tray") (by decide +kernel)) rfl) hKK hP hD hS (fun q h => Nat.le_trans hB h) rfl nw_df8 (by omega) (by omega) d1 (fun q H1 hP hD hS => ?_)
  refine lv_dup hx hb d2 rfl ?_
  have hq : B0 ≤ q := hD.2 (ab_wd ra ρ dA s).length _ (by rw [List.getElem?_append_right (Nat.le_refl _), Nat.sub_self]; rfl)
  refine nw_call (nL := ab_ml 217) (wr := ab_wd ra ρ dA s) (ev := .inr (8, [.null, .int 0, .int 0])) (rest := .ref q :: r) (A0 := ab_A B0) hx hb hml hown hts hKK hSF hCV (fun x h => h) hS (fun q h => Nat.le_trans hB h) hP hD (c_new_Tr (l := l) hq (Nat.le_trans hB hS.1) (nw_P1 (hP (ab_wd ra ρ dA s).length _ (by rw [List.getElem?_append_right (Nat.le_refl _), Nat.sub_self]; rfl)))) (ab_has_in (i := 1464) (by decide +kernel)) (ab_has_in (i := 138) (by decide +kernel)) (ab_has_in (i := 1462) (by decide +kernel)) (ab_has_in (i := 1463) (by decide +kernel)) (by decide) (Nat.le_trans (Nat.le_of_ble_eq_true rfl) hf) (Nat.le_trans (Nat.le_of_ble_eq_true rfl) hlo) hL.1 (by
      show 1 + (r.map fun v => v.category).sum ≤ 20
      rw [ab_sr_sum (nw_cat hfm) hKr]
      omega) rfl rfl (show cells + 1 + 1 ≤ R.cells by omega) (show slots + 3 + 30 ≤ R.slots by omega) d3 (fun u H2 locs2 hw hP hD hS => ?_)
  obtain ⟨a0, hu⟩ := hw
  have hlim : ∀ K, ab_lim K s ≤ ab_lim K (ab_newR s) := ab_lim_mono newR_mono
  have hρ9 : ∀ K i : Nat, ab_dy K = true → i < ab_lim K s → nw_rho ρ s u nw_jR K i = ρ K i := fun K i _ h => if_pos h
  have hold : ∀ K i, ab_dy K = true → i < ab_lim K s → ab_ad ra (nw_rho ρ s u nw_jR) K i = ab_ad ra ρ K i ∧ ab_ct ra (nw_rho ρ s u nw_jR) dA (ab_newR s) K i = ab_ct ra ρ dA s K i := fun K i h1 h2 => nw_old (s := s) (s2 := ab_newR s) rfl rfl rfl rfl rfl rfl (fun k i h _ => by rw [newR_si1 h]) (fun k i _ h => newR_si2 (by omega)) (fun k i _ => rfl) (fun k i h => newR_sB (by omega)) hρ9 hwf h1 h2
  have a8 : ab_ad ra (nw_rho ρ s u nw_jR) 8 (sn s 3) = q := nw_ad (x := (q, .inr (8, [.ref a0, .int 0, .int 0]))) (by decide) (show ¬ sn s 3 < sn s 3 by omega) (by rw [hu]; rfl)
  have a36 : ab_ad ra (nw_rho ρ s u nw_jR) 36 (sn s 3) = a0 := nw_ad (x := (a0, .inl (dA 1, 30, .inr (.inl (fun _ => 0))))) (by decide) (show ¬ sn s 3 < sn s 3 by omega) (by rw [hu]; rfl)
  obtain ⟨o1, o2, o3⟩ := newR_own (s := s)
  have hwf2 : ab_wf (ab_newR s) := ⟨by rw [n2]; exact hwf.1, hwf.2.1, fun j t h => by rw [n3]; exact Nat.lt_succ_of_lt (hwf.2.2.1 j t h), fun j t h => by rw [n2]; exact hwf.2.2.2 j t h⟩
  have hHR : ab_HR ra (nw_rho ρ s u nw_jR) D dA B0 (ab_newR s) H2 := by
    refine nw_HR hP hD hwf2 hold nw_jR (fun K i h1 h2 h3 => ?_) (fun K i K' i' h1 h2 h3 h1' h2' h3' hj => ?_)
    · rcases nw_one h1 h2 h3 with ⟨hm, g1, g2⟩ | ⟨-, g1, g2⟩
      · rw [n3] at g1
        obtain rfl : i = sn s 3 := by omega
        simp only [List.mem_cons, List.not_mem_nil, or_false] at hm
        rcases hm with rfl | rfl
        · rw [a8]
          refine Eq.trans (b := some (q, Sum.inr (8, [Value.ref a0, Value.int 0, Value.int 0]))) (by rw [hu]; rfl) ?_
          show some (q, Sum.inr (8, [Value.ref a0, Value.int 0, Value.int 0])) = some (q, Sum.inr (8, [Value.ref (ab_ad ra (nw_rho ρ s u nw_jR) 36 (sn s 3)), Value.int (si (ab_newR s) 10 (sn s 3)), Value.int (si (ab_newR s) 11 (sn s 3))]))
          rw [a36, o1, o2]
        · rw [a36]
          refine Eq.trans (b := some (a0, Sum.inl (dA 1, 30, Sum.inr (Sum.inl (fun _ => 0))))) (by rw [hu]; rfl) ?_
          show some (a0, Sum.inl (dA 1, 30, Sum.inr (Sum.inl (fun _ => 0)))) = some (a0, Sum.inl (dA 1, 30, Sum.inr (Sum.inl (sB (ab_newR s) 0 (sn s 3)))))
          rw [o3]
      · rw [n2] at g1
        exact absurd g1 g2
    · rcases nw_one h1 h2 h3 with ⟨hm, g1, g2⟩ | ⟨-, g1, g2⟩
      · rcases nw_one h1' h2' h3' with ⟨hm', g1', g2'⟩ | ⟨-, g1', g2'⟩
        · rw [n3] at g1 g1'
          obtain rfl : i = i' := by omega
          simp only [List.mem_cons, List.not_mem_nil, or_false] at hm hm'
          rcases hm with rfl | rfl <;> rcases hm' with rfl | rfl
          · rfl
          · exact absurd hj (by decide)
          · exact absurd hj (by decide)
          · rfl
        · rw [n2] at g1'
          exact absurd g1' g2'
      · rw [n2] at g1
        exact absurd g1 g2
  have hW := hG (nw_rho ρ s u nw_jR) (hc ρ _ hρ hρ9) H2 ls (.ref q :: r) locs2 (ab_lr_mono hlim hρ9 hL) ⟨Or.inr ⟨by show (8 : Nat) ≠ 55; decide, by show sn s 3 < sn (ab_newR s) 3; omega, by rw [a8]⟩, ab_sr_mono hlim hρ9 hKr⟩ hHR hS
  exact hW
theorem nw_Tw {X : (Nat → Int32) × Nat} {L : ab_L} {K : List ab_V} {s : ab_S} (hd : ab_okN (ab_by 226) 35 [16, 18, 2] = true) (hsum : ab_sum K ≤ 8) : ab_Nw X 226 35 L K s (.inr (2, sn s 2)) (ab_newT s) := by
  refine ⟨newT_mono, fun ra fm D dA B0 p l e R U mt args below meth c C hf hlo cells slots Q P c1 c2 hc hG ρ hρ H ls r locs hL hKr hR hS => ?_⟩
  obtain ⟨hx, hst, hb, hml, hr, hlk, hown, ht, hts, hB, hKK, hSF, hCV, hfm⟩ := C
  obtain ⟨hP, hD, hwf⟩ := hR
  obtain ⟨n0, n1, n2, n3⟩ := newT_sn (s := s)
  have e0 : sn (ab_newT s) 0 - sn s 0 = 13 := by omega
  have e1 : sn (ab_newT s) 1 - sn s 1 = 1126 := by omega
  rw [e0] at c1
  rw [e1] at c2
  rw [e0, e1] at hG
  have hd9 : (ab_dc (ab_by 226) 35 (.new 16) 3 && ab_dc (ab_by 226) (35 + 3) .dup 1 && ab_dc (ab_by 226) (35 + 4) (.invokespecial 18) 3) = true := hd
  simp only [Bool.and_eq_true] at hd9
  obtain ⟨⟨d1, d2⟩, d3⟩ := hd9
  have d1 := ab_dc_ok d1
  have d2 := ab_dc_ok d2
  have d3 := ab_dc_ok d3
  rw [nw_ow226] at hown
  refine va_new (A := ab_A B0) (ci := 2) (fs := [.int 0, .int 0, .int 0, .int 0, .int 0, .int 0, .int 0, .null, .null, .null, .null, .null, .null]) (C := "MovingNames$Town") (T := ab_T 2) (N := 13) hx hb (ab_hts hts) (ab_lays (k := 2) (by decide) rfl) _ (ab_tyk (k := 2) rfl (by decide)).1 hown (hts _ (ab_has_in (i := 188) (w := .classLink "MovingNames" 16 "MovingNames$Town") (by decide +kernel)) rfl) (hts _ (ab_has_in (i := 189) (w := .instantiable "MovingNames$Town" 13) (by decide +kernel)) rfl) (hts _ (ab_has_in (i := 117) (w := .initialized "MovingNames$Town") (by decide +kernel)) rfl) hKK hP hD hS (fun q h => Nat.le_trans hB h) rfl nw_df2 (by omega) (by omega) d1 (fun q H1 hP hD hS => ?_)
  refine lv_dup hx hb d2 rfl ?_
  have hq : B0 ≤ q := hD.2 (ab_wd ra ρ dA s).length _ (by rw [List.getElem?_append_right (Nat.le_refl _), Nat.sub_self]; rfl)
  refine nw_call (nL := ab_ml 226) (wr := ab_wd ra ρ dA s) (ev := .inr (2, [.int 0, .int 0, .int 0, .int 0, .int 0, .int 0, .int 0, .null, .null, .null, .null, .null, .null])) (rest := .ref q :: r) (A0 := ab_A B0) hx hb hml hown hts hKK hSF hCV (fun x h => h) hS (fun q h => Nat.le_trans hB h) hP hD (c_new_Tw (l := l) hq (Nat.le_trans hB hS.1) (nw_P1 (hP (ab_wd ra ρ dA s).length _ (by rw [List.getElem?_append_right (Nat.le_refl _), Nat.sub_self]; rfl)))) (ab_has_in (i := 192) (by decide +kernel)) (ab_has_in (i := 117) (by decide +kernel)) (ab_has_in (i := 190) (by decide +kernel)) (ab_has_in (i := 191) (by decide +kernel)) (by decide) (Nat.le_trans (Nat.le_of_ble_eq_true rfl) hf) (Nat.le_trans (Nat.le_of_ble_eq_true rfl) hlo) hL.1 (by
      show 1 + (r.map fun v => v.category).sum ≤ 20
      rw [ab_sr_sum (nw_cat hfm) hKr]
      omega) rfl rfl (show cells + 1 + 12 ≤ R.cells by omega) (show slots + 13 + 1113 ≤ R.slots by omega) d3 (fun u H2 locs2 hw hP hD hS => ?_)
  obtain ⟨a0, a1, a2, a3, a4, a5, a6, a7, a8, a9, a10, a11, hu⟩ := hw
  have hlim : ∀ K, ab_lim K s ≤ ab_lim K (ab_newT s) := ab_lim_mono newT_mono
  have hρ9 : ∀ K i : Nat, ab_dy K = true → i < ab_lim K s → nw_rho ρ s u nw_jT K i = ρ K i := fun K i _ h => if_pos h
  have hold : ∀ K i, ab_dy K = true → i < ab_lim K s → ab_ad ra (nw_rho ρ s u nw_jT) K i = ab_ad ra ρ K i ∧ ab_ct ra (nw_rho ρ s u nw_jT) dA (ab_newT s) K i = ab_ct ra ρ dA s K i := fun K i h1 h2 => nw_old (s := s) (s2 := ab_newT s) newT_sz newT_sy newT_st newT_sa newT_sb newT_sq (fun k i _ h => newT_si (by omega)) (fun k i h _ => by rw [newT_si9 (by omega)]) (fun k i h => newT_sA (by omega)) (fun k i _ => by rw [newT_sB]) hρ9 hwf h1 h2
  have hnn : ¬ sn s 2 < sn s 2 := Nat.lt_irrefl _
  have b2 : ab_ad ra (nw_rho ρ s u nw_jT) 2 (sn s 2) = q := nw_ad (x := (q, .inr (2, [.int 0, .int 0, .int 9, .int 0, .int 0, .int 0, .int 0, .ref a0, .ref a1, .ref a2, .ref a3, .ref a7, .ref a10]))) (by decide) hnn (by rw [hu]; rfl)
  have b19 : ab_ad ra (nw_rho ρ s u nw_jT) 19 (sn s 2) = a0 := nw_ad (x := (a0, .inl (dA 0, 20, .inl (fun _ => 0)))) (by decide) hnn (by rw [hu]; rfl)
  have b20 : ab_ad ra (nw_rho ρ s u nw_jT) 20 (sn s 2) = a1 := nw_ad (x := (a1, .inl (dA 0, 8, .inl (fun _ => 0)))) (by decide) hnn (by rw [hu]; rfl)
  have b21 : ab_ad ra (nw_rho ρ s u nw_jT) 21 (sn s 2) = a2 := nw_ad (x := (a2, .inl (dA 0, 8, .inl (fun _ => 0)))) (by decide) hnn (by rw [hu]; rfl)
  have b3 : ab_ad ra (nw_rho ρ s u nw_jT) 3 (sn s 2) = a3 := nw_ad (x := (a3, .inr (3, [.ref a4, .ref a5, .ref a6, .int 0]))) (by decide) hnn (by rw [hu]; rfl)
  have b22 : ab_ad ra (nw_rho ρ s u nw_jT) 22 (sn s 2) = a4 := nw_ad (x := (a4, .inl (dA 0, 80, .inl (fun _ => 0)))) (by decide) hnn (by rw [hu]; rfl)
  have b23 : ab_ad ra (nw_rho ρ s u nw_jT) 23 (sn s 2) = a5 := nw_ad (x := (a5, .inl (dA 0, 4, .inl (fun _ => 0)))) (by decide) hnn (by rw [hu]; rfl)
  have b24 : ab_ad ra (nw_rho ρ s u nw_jT) 24 (sn s 2) = a6 := nw_ad (x := (a6, .inl (dA 0, 4, .inl (fun _ => 0)))) (by decide) hnn (by rw [hu]; rfl)
  have b4 : ab_ad ra (nw_rho ρ s u nw_jT) 4 (sn s 2) = a7 := nw_ad (x := (a7, .inr (4, [.ref a8, .ref a9, .int 0]))) (by decide) hnn (by rw [hu]; rfl)
  have b25 : ab_ad ra (nw_rho ρ s u nw_jT) 25 (sn s 2) = a8 := nw_ad (x := (a8, .inl (dA 0, 900, .inl (fun _ => 0)))) (by decide) hnn (by rw [hu]; rfl)
  have b26 : ab_ad ra (nw_rho ρ s u nw_jT) 26 (sn s 2) = a9 := nw_ad (x := (a9, .inl (dA 0, 40, .inl (fun _ => 0)))) (by decide) hnn (by rw [hu]; rfl)
  have b5 : ab_ad ra (nw_rho ρ s u nw_jT) 5 (sn s 2) = a10 := nw_ad (x := (a10, .inr (5, [.ref a11, .int 0]))) (by decide) hnn (by rw [hu]; rfl)
  have b27 : ab_ad ra (nw_rho ρ s u nw_jT) 27 (sn s 2) = a11 := nw_ad (x := (a11, .inl (dA 0, 40, .inl (fun _ => 0)))) (by decide) hnn (by rw [hu]; rfl)
  obtain ⟨o0, o1, o2, o3, o4, o5, o6, o7, o8, o9⟩ := newT_own (s := s)
  obtain ⟨p0, p1, p2, p3, p4, p5, p6, p7, p8⟩ := newT_ownA (s := s)
  have hwf2 : ab_wf (ab_newT s) := ⟨by rw [n2]; exact Nat.le_succ_of_le hwf.1, by rw [newT_st]; exact hwf.2.1, fun j t h => by rw [newT_sq] at h; rw [n3]; exact hwf.2.2.1 j t h, fun j t h => by rw [newT_sq] at h; rw [n2]; exact Nat.lt_succ_of_lt (hwf.2.2.2 j t h)⟩
  have hHR : ab_HR ra (nw_rho ρ s u nw_jT) D dA B0 (ab_newT s) H2 := by
    refine nw_HR hP hD hwf2 hold nw_jT (fun K i h1 h2 h3 => ?_) (fun K i K' i' h1 h2 h3 h1' h2' h3' hj => ?_)
    · rcases nw_one h1 h2 h3 with ⟨-, g1, g2⟩ | ⟨hm, g1, g2⟩
      · rw [n3] at g1
        exact absurd g1 g2
      · rw [n2] at g1
        obtain rfl : i = sn s 2 := by omega
        simp only [List.mem_cons, List.not_mem_nil, or_false] at hm
        rcases hm with rfl | rfl | rfl | rfl | rfl | rfl | rfl | rfl | rfl | rfl | rfl | rfl | rfl
        · rw [b2]
          refine Eq.trans (b := some (q, Sum.inr (2, [Value.int 0, Value.int 0, Value.int 9, Value.int 0, Value.int 0, Value.int 0, Value.int 0, Value.ref a0, Value.ref a1, Value.ref a2, Value.ref a3, Value.ref a7, Value.ref a10]))) (by rw [hu]; rfl) ?_
          show some (q, Sum.inr (2, [Value.int 0, Value.int 0, Value.int 9, Value.int 0, Value.int 0, Value.int 0, Value.int 0, Value.ref a0, Value.ref a1, Value.ref a2, Value.ref a3, Value.ref a7, Value.ref a10])) = some (q, Sum.inr (2, [Value.int (si (ab_newT s) 0 (sn s 2)), Value.int (si (ab_newT s) 1 (sn s 2)), Value.int (si (ab_newT s) 2 (sn s 2)), Value.int (si (ab_newT s) 3 (sn s 2)), Value.int (si (ab_newT s) 4 (sn s 2)), Value.int (si (ab_newT s) 5 (sn s 2)), Value.int (si (ab_newT s) 6 (sn s 2)), Value.ref (ab_ad ra (nw_rho ρ s u nw_jT) 19 (sn s 2)), Value.ref (ab_ad ra (nw_rho ρ s u nw_jT) 20 (sn s 2)), Value.ref (ab_ad ra (nw_rho ρ s u nw_jT) 21 (sn s 2)), Value.ref (ab_ad ra (nw_rho ρ s u nw_jT) 3 (sn s 2)), Value.ref (ab_ad ra (nw_rho ρ s u nw_jT) 4 (sn s 2)), Value.ref (ab_ad ra (nw_rho ρ s u nw_jT) 5 (sn s 2))]))
          rw [o0, o1, o2, o3, o4, o5, o6, b19, b20, b21, b3, b4, b5]
        · rw [b19]
          refine Eq.trans (b := some (a0, Sum.inl (dA 0, 20, Sum.inl (fun _ => 0)))) (by rw [hu]; rfl) ?_
          show some (a0, Sum.inl (dA 0, 20, Sum.inl (fun _ => 0))) = some (a0, Sum.inl (dA 0, 20, Sum.inl (sA (ab_newT s) 0 (sn s 2))))
          rw [p0]
        · rw [b20]
          refine Eq.trans (b := some (a1, Sum.inl (dA 0, 8, Sum.inl (fun _ => 0)))) (by rw [hu]; rfl) ?_
          show some (a1, Sum.inl (dA 0, 8, Sum.inl (fun _ => 0))) = some (a1, Sum.inl (dA 0, 8, Sum.inl (sA (ab_newT s) 1 (sn s 2))))
          rw [p1]
        · rw [b21]
          refine Eq.trans (b := some (a2, Sum.inl (dA 0, 8, Sum.inl (fun _ => 0)))) (by rw [hu]; rfl) ?_
          show some (a2, Sum.inl (dA 0, 8, Sum.inl (fun _ => 0))) = some (a2, Sum.inl (dA 0, 8, Sum.inl (sA (ab_newT s) 2 (sn s 2))))
          rw [p2]
        · rw [b3]
          refine Eq.trans (b := some (a3, Sum.inr (3, [Value.ref a4, Value.ref a5, Value.ref a6, Value.int 0]))) (by rw [hu]; rfl) ?_
          show some (a3, Sum.inr (3, [Value.ref a4, Value.ref a5, Value.ref a6, Value.int 0])) = some (a3, Sum.inr (3, [Value.ref (ab_ad ra (nw_rho ρ s u nw_jT) 22 (sn s 2)), Value.ref (ab_ad ra (nw_rho ρ s u nw_jT) 23 (sn s 2)), Value.ref (ab_ad ra (nw_rho ρ s u nw_jT) 24 (sn s 2)), Value.int (si (ab_newT s) 7 (sn s 2))]))
          rw [b22, b23, b24, o7]
        · rw [b22]
          refine Eq.trans (b := some (a4, Sum.inl (dA 0, 80, Sum.inl (fun _ => 0)))) (by rw [hu]; rfl) ?_
          show some (a4, Sum.inl (dA 0, 80, Sum.inl (fun _ => 0))) = some (a4, Sum.inl (dA 0, 80, Sum.inl (sA (ab_newT s) 3 (sn s 2))))
          rw [p3]
        · rw [b23]
          refine Eq.trans (b := some (a5, Sum.inl (dA 0, 4, Sum.inl (fun _ => 0)))) (by rw [hu]; rfl) ?_
          show some (a5, Sum.inl (dA 0, 4, Sum.inl (fun _ => 0))) = some (a5, Sum.inl (dA 0, 4, Sum.inl (sA (ab_newT s) 4 (sn s 2))))
          rw [p4]
        · rw [b24]
          refine Eq.trans (b := some (a6, Sum.inl (dA 0, 4, Sum.inl (fun _ => 0)))) (by rw [hu]; rfl) ?_
          show some (a6, Sum.inl (dA 0, 4, Sum.inl (fun _ => 0))) = some (a6, Sum.inl (dA 0, 4, Sum.inl (sA (ab_newT s) 5 (sn s 2))))
          rw [p5]
        · rw [b4]
          refine Eq.trans (b := some (a7, Sum.inr (4, [Value.ref a8, Value.ref a9, Value.int 0]))) (by rw [hu]; rfl) ?_
          show some (a7, Sum.inr (4, [Value.ref a8, Value.ref a9, Value.int 0])) = some (a7, Sum.inr (4, [Value.ref (ab_ad ra (nw_rho ρ s u nw_jT) 25 (sn s 2)), Value.ref (ab_ad ra (nw_rho ρ s u nw_jT) 26 (sn s 2)), Value.int (si (ab_newT s) 8 (sn s 2))]))
          rw [b25, b26, o8]
        · rw [b25]
          refine Eq.trans (b := some (a8, Sum.inl (dA 0, 900, Sum.inl (fun _ => 0)))) (by rw [hu]; rfl) ?_
          show some (a8, Sum.inl (dA 0, 900, Sum.inl (fun _ => 0))) = some (a8, Sum.inl (dA 0, 900, Sum.inl (sA (ab_newT s) 6 (sn s 2))))
          rw [p6]
        · rw [b26]
          refine Eq.trans (b := some (a9, Sum.inl (dA 0, 40, Sum.inl (fun _ => 0)))) (by rw [hu]; rfl) ?_
          show some (a9, Sum.inl (dA 0, 40, Sum.inl (fun _ => 0))) = some (a9, Sum.inl (dA 0, 40, Sum.inl (sA (ab_newT s) 7 (sn s 2))))
          rw [p7]
        · rw [b5]
          refine Eq.trans (b := some (a10, Sum.inr (5, [Value.ref a11, Value.int 0]))) (by rw [hu]; rfl) ?_
          show some (a10, Sum.inr (5, [Value.ref a11, Value.int 0])) = some (a10, Sum.inr (5, [Value.ref (ab_ad ra (nw_rho ρ s u nw_jT) 27 (sn s 2)), Value.int (si (ab_newT s) 9 (sn s 2))]))
          rw [b27, o9]
        · rw [b27]
          refine Eq.trans (b := some (a11, Sum.inl (dA 0, 40, Sum.inl (fun _ => 0)))) (by rw [hu]; rfl) ?_
          show some (a11, Sum.inl (dA 0, 40, Sum.inl (fun _ => 0))) = some (a11, Sum.inl (dA 0, 40, Sum.inl (sA (ab_newT s) 8 (sn s 2))))
          rw [p8]
    · rcases nw_one h1 h2 h3 with ⟨-, g1, g2⟩ | ⟨hm, g1, g2⟩
      · rw [n3] at g1
        exact absurd g1 g2
      · rcases nw_one h1' h2' h3' with ⟨-, g1', g2'⟩ | ⟨hm', g1', g2'⟩
        · rw [n3] at g1'
          exact absurd g1' g2'
        · rw [n2] at g1 g1'
          obtain rfl : i = i' := by omega
          have e : K = K' := by
            have z := congrArg (fun j => [2, 19, 20, 21, 3, 22, 23, 24, 4, 25, 26, 5, 27].getD j 0) hj
            have k1 : ∀ K ∈ [2, 19, 20, 21, 3, 22, 23, 24, 4, 25, 26, 5, 27], [2, 19, 20, 21, 3, 22, 23, 24, 4, 25, 26, 5, 27].getD (nw_jT K) 0 = K := by decide
            have z : [2, 19, 20, 21, 3, 22, 23, 24, 4, 25, 26, 5, 27].getD (nw_jT K) 0 = [2, 19, 20, 21, 3, 22, 23, 24, 4, 25, 26, 5, 27].getD (nw_jT K') 0 := z
            rw [k1 K hm, k1 K' hm'] at z
            exact z
          rw [e]
  have hW := hG (nw_rho ρ s u nw_jT) (hc ρ _ hρ hρ9) H2 ls (.ref q :: r) locs2 (ab_lr_mono hlim hρ9 hL) ⟨Or.inr ⟨by show (2 : Nat) ≠ 55; decide, by show sn s 2 < sn (ab_newT s) 2; omega, by rw [b2]⟩, ab_sr_mono hlim hρ9 hKr⟩ hHR hS
  exact hW
theorem nw_new (X : (Nat → Int32) × Nat) : ab_NEW X := by
  intro m pc a r' L K s hm hd ha hsum
  have hm9 : m :: pc :: r' = [217, 52, 40, 352, 8] ∨ m :: pc :: r' = [226, 35, 16, 18, 2] := by
    have h9 : m :: pc :: r' ∈ [[217, 52, 40, 352, 8], [226, 35, 16, 18, 2]] := hm
    simpa only [List.mem_cons, List.not_mem_nil, or_false] using h9
  rcases hm9 with h | h
  · obtain ⟨h1, h2⟩ := List.cons.inj h
    obtain ⟨h3, h4⟩ := List.cons.inj h2
    subst h1 h3 h4
    obtain rfl : 8 = a := Option.some.inj ha
    exact ⟨fun h => absurd h (by decide), fun _ => nw_Tr hd hsum⟩
  · obtain ⟨h1, h2⟩ := List.cons.inj h
    obtain ⟨h3, h4⟩ := List.cons.inj h2
    subst h1 h3 h4
    obtain rfl : 2 = a := Option.some.inj ha
    exact ⟨fun _ => nw_Tw hd hsum, fun h => absurd h (by decide)⟩
