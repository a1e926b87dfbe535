/-! New towns and trays among what there is. -/
theorem nw_obnd (s : ab_S) : (ab_ob s).Nodup := by
  have hd : ab_dk.Nodup := by decide +kernel
  refine List.pairwise_flatMap.mpr ⟨fun K _ => ?_, ?_⟩
  · refine List.pairwise_map.mpr (List.Pairwise.imp (fun h e => h (Prod.mk.inj e).2) List.nodup_range)
  · refine List.Pairwise.imp (fun {a b} h x hx y hy e => ?_) hd
    obtain ⟨i, _, rfl⟩ := List.mem_map.mp hx
    obtain ⟨j, _, rfl⟩ := List.mem_map.mp hy
    exact h (Prod.mk.inj e).1
theorem nw_tab : (List.range 55).all (fun K => match ab_kds[K]? with
  | some (.inl (_, fs)) => fs.all (fun f => !(Nat.beq f.1 3) || (if f.2.1 < 10 then Nat.beq (ab_grp.getD K 0) 1 else Nat.beq (ab_grp.getD K 0) 2))
  | some (.inr (e, _, so, id)) => (!(Nat.beq so 1) || Nat.beq (ab_grp.getD K 0) 1) && (!(Nat.beq so 3) || Nat.beq (ab_grp.getD K 0) 2) && (!(Nat.beq so 4) || (Nat.beq e 8 && Nat.beq id 0) || (Nat.beq e 2 && Nat.beq id 1))
  | none => true) = true := by decide +kernel
theorem nw_grp : (List.range 55).all (fun K => !(ab_dy K) || (!(Nat.beq (ab_grp.getD K 0) 2) || [8, 36].elem K) && (!(Nat.beq (ab_grp.getD K 0) 1) || [2, 19, 20, 21, 3, 22, 23, 24, 4, 25, 26, 5, 27].elem K) && Nat.ble (ab_grp.getD K 0) 2) = true := by decide +kernel
section GLU
variable {ra ρ ρ' : Nat → Nat → Nat} {D : va_G} {dA : Nat → ClassId} {B0 : Nat} {s s2 : ab_S} {H : Heap} {u : va_W}
/-- what was there is as it was -/
theorem nw_old (hz : sz s2 = sz s) (hy : sy s2 = sy s) (ht : st s2 = st s) (ha : sa s2 = sa s) (hb : sb s2 = sb s) (hq : sq s2 = sq s) (h1 : ∀ k i, k < 10 → i < sn s 2 → si s2 k i = si s k i) (h2 : ∀ k i, 10 ≤ k → i < sn s 3 → si s2 k i = si s k i) (hA : ∀ k i, i < sn s 2 → sA s2 k i = sA s k i) (hB : ∀ k i, i < sn s 3 → sB s2 k i = sB s k i) (hρ : ∀ K i, ab_dy K = true → i < ab_lim K s → ρ' K i = ρ K i) (hw : ab_wf s) {K i : Nat} (hd : ab_dy K = true) (hi : i < ab_lim K s) : ab_ad ra ρ' K i = ab_ad ra ρ K i ∧ ab_ct ra ρ' dA s2 K i = ab_ct ra ρ dA s K i := by
  have had : ∀ K i, (ab_dy K = true → i < ab_lim K s) → ab_ad ra ρ' K i = ab_ad ra ρ K i := fun K i h => by
    unfold ab_ad
    cases e : ab_dy K with
    | true => rw [cond_true, cond_true, hρ K i e (h e)]
    | false => rfl
  refine ⟨had K i (fun _ => hi), ?_⟩
  unfold ab_ct
  cases e : ab_kds[K]? with
  | none => rfl
  | some r =>
    have hlt := ab_lt e
    have q := List.all_eq_true.mp nw_tab K (List.mem_range.mpr hlt)
    rw [e] at q
    cases r with
    | inl r =>
      obtain ⟨ci, fs⟩ := r
      show Sum.inr _ = Sum.inr _
      congr 2
      refine List.map_congr_left (fun f hf => ?_)
      have q3 := List.all_eq_true.mp q f hf
      have efv : ab_fv s2 i f = ab_fv s i f := by
        obtain ⟨c, g, a⟩ := f
        rcases c with _ | _ | _ | _ | c
        · show Sum.inl (Value.int (sz s2 g)) = Sum.inl (Value.int (sz s g))
          rw [hz]
        · show Sum.inl (Value.long (sy s2 g)) = Sum.inl (Value.long (sy s g))
          rw [hy]
        · show Sum.inr (10, st s2 g) = Sum.inr (10, st s g)
          rw [ht]
        · show Sum.inl (Value.int (si s2 g i)) = Sum.inl (Value.int (si s g i))
          have q4 : (if g < 10 then Nat.beq (ab_grp.getD K 0) 1 else Nat.beq (ab_grp.getD K 0) 2) = true := by simpa using q3
          by_cases h : g < 10
          · rw [if_pos h] at q4
            have hg := Nat.eq_of_beq_eq_true q4
            unfold ab_lim at hi
            rw [hg] at hi
            rw [h1 g i h hi]
          · rw [if_neg h] at q4
            have hg := Nat.eq_of_beq_eq_true q4
            unfold ab_lim at hi
            rw [hg] at hi
            rw [h2 g i (by omega) hi]
        · rcases c with _ | _ | _ | _ | c <;> rfl
      rw [efv]
      obtain ⟨p, hp⟩ := List.getElem?_of_mem hf
      have hv := ab_fv_vr (ra := ra) (ρ := ρ) (fm := .null) e (ab_obj_k e).1 hp hi hw
      cases ev : ab_fv s i f with
      | inl x => rfl
      | inr q9 =>
        rw [ev] at hv
        show Value.ref _ = Value.ref _
        rw [had q9.1 q9.2 (fun hdy => by
          rcases hv with ⟨h55, _⟩ | ⟨_, h, _⟩
          · rw [h55] at hdy
            cases hdy
          · exact h)]
    | inr r =>
      obtain ⟨e1, n, so, id⟩ := r
      show Sum.inl _ = Sum.inl _
      congr 1
      simp only [Bool.and_eq_true, Bool.or_eq_true, Bool.not_eq_true'] at q
      obtain ⟨⟨q1, q2⟩, q4⟩ := q
      have h5 : so < 5 := by
        rcases ab_arr_k e with ⟨h, -⟩ | ⟨-, rfl, -⟩ | ⟨-, rfl, -⟩ | ⟨-, rfl, -⟩
        · exact h
        · cases hd
        · cases hd
        · cases hd
      rcases so with _ | _ | _ | _ | _ | so
      · show (dA e1, n, Sum.inl (sa s2 id)) = (dA e1, n, Sum.inl (sa s id))
        rw [ha]
      · have hg := Nat.eq_of_beq_eq_true (q1.resolve_left (by decide))
        unfold ab_lim at hi
        rw [hg] at hi
        show (dA e1, n, Sum.inl (sA s2 id i)) = (dA e1, n, Sum.inl (sA s id i))
        rw [hA id i hi]
      · show (dA 1, n, Sum.inr (Sum.inl (sb s2 id))) = (dA 1, n, Sum.inr (Sum.inl (sb s id)))
        rw [hb]
      · have hg := Nat.eq_of_beq_eq_true (q2.resolve_left (by decide))
        unfold ab_lim at hi
        rw [hg] at hi
        show (dA 1, n, Sum.inr (Sum.inl (sB s2 id i))) = (dA 1, n, Sum.inr (Sum.inl (sB s id i)))
        rw [hB id i hi]
      · have hm : ∀ j, (sq s2 id j).map (ab_ad ra ρ' e1) = (sq s id j).map (ab_ad ra ρ e1) := fun j => by
          rw [hq]
          cases eq : sq s id j with
          | none => rfl
          | some t =>
            show some (ab_ad ra ρ' e1 t) = some (ab_ad ra ρ e1 t)
            rw [had e1 t (fun _ => by
              rcases q4 with (q4 | q4) | q4
              · cases q4
              · have h8 := Nat.eq_of_beq_eq_true q4.1
                have h0 := Nat.eq_of_beq_eq_true q4.2
                subst h8 h0
                exact hw.2.2.1 j t eq
              · have h8 := Nat.eq_of_beq_eq_true q4.1
                have h0 := Nat.eq_of_beq_eq_true q4.2
                subst h8 h0
                exact hw.2.2.2 j t eq)]
        show (dA _, n, Sum.inr (Sum.inr (Sum.inr (Sum.inr (fun j => (sq s2 id j).map (ab_ad ra ρ' e1)))))) = (dA _, n, Sum.inr (Sum.inr (Sum.inr (Sum.inr (fun j => (sq s id j).map (ab_ad ra ρ e1))))))
        rw [funext hm]
      · omega
/-- the whole, with what is new -/
theorem nw_HR (hP : va_P D ab_cl (ab_wd ra ρ dA s ++ u) H) (hD : va_D (fun q => B0 ≤ q) (ab_wd ra ρ dA s ++ u)) (hwf : ab_wf s2) (hold : ∀ K i, ab_dy K = true → i < ab_lim K s → ab_ad ra ρ' K i = ab_ad ra ρ K i ∧ ab_ct ra ρ' dA s2 K i = ab_ct ra ρ dA s K i) (jj : Nat → Nat) (hnew : ∀ K i, ab_dy K = true → i < ab_lim K s2 → ¬ i < ab_lim K s → u[jj K]? = some (ab_ad ra ρ' K i, ab_ct ra ρ' dA s2 K i)) (hinj : ∀ K i K' i', ab_dy K = true → i < ab_lim K s2 → ¬ i < ab_lim K s → ab_dy K' = true → i' < ab_lim K' s2 → ¬ i' < ab_lim K' s → jj K = jj K' → (K, i) = (K', i')) : ab_HR ra ρ' D dA B0 s2 H := by
  have pos : ∀ K i, ab_dy K = true → i < ab_lim K s2 → ∃ n, (ab_wd ra ρ dA s ++ u)[n]? = some (ab_ad ra ρ' K i, ab_ct ra ρ' dA s2 K i) ∧ ((i < ab_lim K s ∧ n < (ab_wd ra ρ dA s).length ∧ (ab_ob s)[n]? = some (K, i)) ∨ (¬ i < ab_lim K s ∧ n = (ab_wd ra ρ dA s).length + jj K)) := fun K i hd hi => by
    by_cases h : i < ab_lim K s
    · obtain ⟨n, hn⟩ := ab_ob_at hd h
      have h2 := ab_wd_at (ra := ra) (ρ := ρ) (dA := dA) hn
      have hl := (List.getElem?_eq_some_iff.mp h2).1
      obtain ⟨e1, e2⟩ := hold K i hd h
      exact ⟨n, by rw [List.getElem?_append_left hl, h2, e1, e2], Or.inl ⟨h, hl, hn⟩⟩
    · refine ⟨(ab_wd ra ρ dA s).length + jj K, ?_, Or.inr ⟨h, rfl⟩⟩
      rw [List.getElem?_append_right (Nat.le_add_right _ _), Nat.add_sub_cancel_left]
      exact hnew K i hd hi h
  have at2 : ∀ k q, (ab_wd ra ρ' dA s2)[k]? = some q → ∃ K i, (ab_ob s2)[k]? = some (K, i) ∧ ab_dy K = true ∧ i < ab_lim K s2 ∧ q = (ab_ad ra ρ' K i, ab_ct ra ρ' dA s2 K i) := fun k q hq => by
    unfold ab_wd at hq
    rw [List.getElem?_map] at hq
    cases e : (ab_ob s2)[k]? with
    | none =>
      rw [e] at hq
      cases hq
    | some z =>
      rw [e] at hq
      obtain ⟨K, i⟩ := z
      have hm := ab_ob_mem.mp (List.mem_of_getElem? e)
      exact ⟨K, i, e, hm.1, hm.2, (Option.some.inj hq).symm⟩
  refine ⟨fun k q hq => ?_, ⟨fun k1 k2 q1 q2 h1 h2 e => ?_, fun k q hq => ?_⟩, hwf⟩
  · obtain ⟨K, i, -, hd, hi, rfl⟩ := at2 k q hq
    obtain ⟨n, hn, -⟩ := pos K i hd hi
    exact hP n _ hn
  · obtain ⟨K1, i1, o1, hd1, hi1, rfl⟩ := at2 k1 q1 h1
    obtain ⟨K2, i2, o2, hd2, hi2, rfl⟩ := at2 k2 q2 h2
    obtain ⟨n1, hn1, c1⟩ := pos K1 i1 hd1 hi1
    obtain ⟨n2, hn2, c2⟩ := pos K2 i2 hd2 hi2
    have en := hD.1 n1 n2 _ _ hn1 hn2 e
    subst en
    have eq : (K1, i1) = (K2, i2) := by
      rcases c1 with ⟨a1, a2, a3⟩ | ⟨a1, a2⟩
      · rcases c2 with ⟨b1, b2, b3⟩ | ⟨b1, b2⟩
        · exact Option.some.inj (a3.symm.trans b3)
        · omega
      · rcases c2 with ⟨b1, b2, b3⟩ | ⟨b1, b2⟩
        · omega
        · exact hinj K1 i1 K2 i2 hd1 hi1 a1 hd2 hi2 b1 (by omega)
    have hlt := (List.getElem?_eq_some_iff.mp o1).1
    exact (List.getElem?_inj hlt (nw_obnd s2)).mp (by rw [o1, o2, eq])
  · obtain ⟨K, i, -, hd, hi, rfl⟩ := at2 k q hq
    obtain ⟨n, hn, -⟩ := pos K i hd hi
    exact hD.2 n _ hn
end GLU
