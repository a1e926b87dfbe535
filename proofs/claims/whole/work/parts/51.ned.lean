/-! What the operations ask first. -/
def ths (s : ab_S) : ab_S := pn (pn s 0 (sn s 0 + 1)) 1 (sn s 1 + 6)
theorem i_nI {n : Nat} (h : n < 2 ^ 31) : (nI n).toInt = n := by
  show (Int32.ofNat n).toInt = n
  exact Int32.toInt_ofNat_of_lt h
theorem n_lt0 (x : Int32) : x < nI 0 ↔ x.toInt < 0 := by rw [Int32.lt_iff_toInt_lt, i_nI (by decide)]; rfl
theorem n_0le' (x : Int32) : nI 0 ≤ x ↔ 0 ≤ x.toInt := by rw [Int32.le_iff_toInt_le, i_nI (by decide)]; rfl
theorem n_ltn (x : Int32) {n : Nat} (h : n < 2 ^ 31) : x < nI n ↔ x.toInt < n := by rw [Int32.lt_iff_toInt_lt, i_nI h]
theorem n_len (x : Int32) {n : Nat} (h : n < 2 ^ 31) : x ≤ nI n ↔ x.toInt ≤ n := by rw [Int32.le_iff_toInt_le, i_nI h]
theorem n_gen (x : Int32) {n : Nat} (h : n < 2 ^ 31) : nI n ≤ x ↔ n ≤ x.toInt := by rw [Int32.le_iff_toInt_le, i_nI h]
theorem n_gtn (x : Int32) {n : Nat} (h : n < 2 ^ 31) : nI n < x ↔ n < x.toInt := by rw [Int32.lt_iff_toInt_lt, i_nI h]
/-- from lo to hi -/
def inR (x lo hi : Int) : Bool := decide (lo ≤ x) && decide (x ≤ hi)
theorem inR_iff {x lo hi : Int} : inR x lo hi = true ↔ lo ≤ x ∧ x ≤ hi := by
  unfold inR
  rw [Bool.and_eq_true, decide_eq_true_iff, decide_eq_true_iff]
/-- one of n -/
def inS (x : Int32) (n : Nat) : Bool := decide (0 ≤ x.toInt) && decide (x.toInt < n)
theorem inS_def {x : Int32} {n : Nat} : inS x n = true ↔ 0 ≤ x.toInt ∧ x.toInt < n := by
  unfold inS
  rw [Bool.and_eq_true, decide_eq_true_iff, decide_eq_true_iff]
theorem inS_rep {x : Int32} {n : Nat} (h' : inS x n = true) : ∃ v, v < n ∧ x = nI v := by
  have h := inS_def.mp h'
  have e : x = nI x.toInt.toNat := n_rep x h.1
  have e2 := Int.toNat_of_nonneg h.1
  have h2 := h.2
  exact ⟨x.toInt.toNat, by omega, e⟩
theorem inS_nI {n v : Nat} (h : v < n) (hn : n < 2 ^ 31) : inS (nI v) n = true := by
  rw [inS_def]
  constructor
  · rw [i_nI (by omega)]
    omega
  · rw [i_nI (by omega)]
    omega
theorem inS_iff {n v : Nat} (hv : v < 2 ^ 31) : inS (nI v) n = true ↔ v < n := by
  rw [inS_def, i_nI hv]
  omega
section NED
variable {X : (Nat → Int32) × Nat} {d n : Nat} {s : ab_S} {x y lo hi : Int32}
theorem ned_3 {E : Nat} {u : Int32} (hn : u = nI n) (h20 : n < 2 ^ 31) : (if x < (nI 0) then some (.inr E, ths s) else (if x < u then some (.inl none, s) else some (.inr E, ths s)) : ab_R) = if inS x n then some (.inl none, s) else some (.inr E, ths s) := by
  subst hn
  by_cases h : x < nI 0
  · rw [if_pos h, if_neg (fun q => by have := (n_lt0 x).mp h; have := (inS_def.mp q).1; omega)]
  · rw [if_neg h]
    by_cases h2 : x < nI n
    · rw [if_pos h2, if_pos (inS_def.mpr ⟨by have := mt (n_lt0 x).mpr h; omega, (n_ltn x h20).mp h2⟩)]
    · rw [if_neg h2, if_neg (fun q => h2 ((n_ltn x h20).mpr (inS_def.mp q).2))]
theorem c_n86 (hn : si s 1 0 = nI n) (h20 : n < 2 ^ 31) : ab_ev X d 86 [.inr (0, 0), .inl (.int x)] s = if inS x n then some (.inl none, s) else some (.inr 1, ths s) := by
  rw [b86]
  exact ned_3 hn h20
theorem c_n91 (hn : si s 7 0 = nI n) (h20 : n < 2 ^ 31) : ab_ev X d 91 [.inr (0, 0), .inl (.int x)] s = if inS x n then some (.inl none, s) else some (.inr 1, ths s) := by
  rw [b91]
  exact ned_3 hn h20
theorem c_n95 (hn : si s 3 0 = nI n) (h20 : n < 2 ^ 31) : ab_ev X d 95 [.inr (0, 0), .inl (.int x)] s = if inS x n then some (.inl none, s) else some (.inr 1, ths s) := by
  rw [b95]
  exact ned_3 hn h20
theorem c_n98 (hn : si s 1 0 = nI n) (h20 : n < 2 ^ 31) : ab_ev X d 98 [.inr (0, 0), .inl (.int x)] s = if inS x n then some (.inl none, s) else some (.inr 1, ths s) := by
  rw [b98]
  exact ned_3 hn h20
theorem c_n103 : ab_ev X d 103 [.inr (0, 0), .inl (.int x), .inl (.int lo), .inl (.int hi)] s = if inR x.toInt lo.toInt hi.toInt then some (.inl none, s) else some (.inr 0, ths s) := by
  rw [b103]
  by_cases h : x < lo
  · rw [if_pos h, if_neg (fun q => by have := Int32.lt_iff_toInt_lt.mp h; have := (inR_iff.mp q).1; omega)]
    rfl
  · rw [if_neg h]
    by_cases h2 : x ≤ hi
    · rw [if_pos h2, if_pos (inR_iff.mpr ⟨by have := mt Int32.lt_iff_toInt_lt.mpr h; omega, Int32.le_iff_toInt_le.mp h2⟩)]
    · rw [if_neg h2, if_neg (fun q => h2 (Int32.le_iff_toInt_le.mpr (inR_iff.mp q).2))]
      rfl
theorem c_n102 (hn : si s 2 0 = nI n) (h20 : n < 2 ^ 31) : ab_ev X (d + 1) 102 [.inr (0, 0), .inl (.int x)] s = if inR x.toInt 1 n then some (.inl none, s) else some (.inr 0, ths s) := by
  rw [b102, c_n103, hn, i_nI h20, show (nI 1).toInt = 1 by decide]
  by_cases h : inR x.toInt 1 n = true
  · rw [if_pos h, e_bU]
  · rw [if_neg h, e_xU, e_px]
theorem c_n107 : ab_ev X (d + 1) 107 [.inr (0, 0), .inl (.int x)] s = if inR x.toInt (-9999) 9999 then some (.inl none, s) else some (.inr 0, ths s) := by
  rw [b107, c_n103, show (-nI 9999).toInt = -9999 by decide, show (nI 9999).toInt = 9999 by decide]
  by_cases h : inR x.toInt (-9999) 9999 = true
  · rw [if_pos h, e_bU]
  · rw [if_neg h, e_xU, e_px]
theorem c_n127 (hn : si s 1 0 = nI n) (h20 : n < 2 ^ 31) : ab_ev X (d + 1) 127 [.inr (0, 0), .inl (.int x), .inl (.int y)] s = if inS x n ∧ inS y n then (if x = y then some (.inr 0, ths s) else some (.inl none, s)) else some (.inr 1, ths s) := by
  rw [b127, c_n86 hn h20]
  by_cases h : inS x n = true
  · rw [if_pos h, e_bU, c_n86 hn h20]
    by_cases h2 : inS y n = true
    · rw [if_pos h2, e_bU]
      exact (if_pos (c := inS x n = true ∧ inS y n = true) ⟨h, h2⟩).symm
    · rw [if_neg h2, e_xU, e_px, if_neg (fun q => h2 q.2)]
  · rw [if_neg h, e_xU, e_px, if_neg (fun q => h q.1)]
theorem c_n150 : ab_ev X d 150 [.inr (0, 0), .inl (.int x)] s = if inS x 4 then (match sq s 0 x.toNatClampNeg with | none => some (.inr 2, ths s) | some t => some (.inl (some (.inr (8, t))), s)) else some (.inr 1, ths s) := by
  rw [b150]
  by_cases h : inS x 4 = true
  · obtain ⟨v, h4, e⟩ := inS_rep h
    rw [if_pos h]
    subst e
    rw [if_neg (n_nlt0 (by omega)), if_pos ((n_ltn _ (by decide)).mpr (inS_def.mp h).2), if_neg (n_in h4 (by decide))]
    cases sq s 0 (nI v).toNatClampNeg <;> rfl
  · rw [if_neg h]
    by_cases h1 : x < nI 0
    · rw [if_pos h1]
      rfl
    · rw [if_neg h1, if_neg (fun q => h (inS_def.mpr ⟨by have := mt (n_lt0 x).mpr h1; omega, (n_ltn x (by decide)).mp q⟩))]
      rfl
end NED
