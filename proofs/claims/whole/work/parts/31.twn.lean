/-! The town's streets, as the class reads them. -/
def sh_o (nm : Nat → Nat) : Nat → Nat
  | 0 => 0
  | k + 1 => sh_o nm k ||| 2 ^ nm k
def sh_s (nm : Nat → Nat) : Nat → Nat
  | 0 => 0
  | k + 1 => sh_s nm k ||| (sh_o nm k &&& 2 ^ nm k)
section TWN
variable {X : (Nat → Int32) × Nat} {d i n : Nat} {nm : Nat → Nat} {s : ab_S}
theorem l8 (hn : si s 1 i = nI n) (h20 : n ≤ 20) (hnm : ∀ k, k < n → sA s 0 i k = nI (nm k)) (hlt : ∀ k, k < n → nm k < n) : ∀ (j k : Nat) (u : Option ab_V), k + j = n → ab_at X (d + 1) 8 6 [some (.inr (2, i)), some (.inl (.int (nI (sh_o nm k)))), some (.inl (.int (nI (sh_s nm k)))), some (.inl (.int (nI k))), u] [] s = some (.inl (some (.inl (.int (nI (sh_s nm n))))), s)
  | 0, k, u, e => by
    obtain rfl : k = n := by omega
    rw [b8_6, hn, if_pos (nI_le (Nat.le_refl _) (by omega))]
  | j + 1, k, u, e => by
    have q := hlt k (by omega)
    rw [b8_6]
    simp (disch := omega) only [hn, nI_leI, if_neg, at19, hnm, ab_bI, n_sh, n_or, n_and, nI_add]
    exact l8 hn h20 hnm hlt j (k + 1) _ (by omega)
theorem c_shared (hn : si s 1 i = nI n) (h20 : n ≤ 20) (hnm : ∀ k, k < n → sA s 0 i k = nI (nm k)) (hlt : ∀ k, k < n → nm k < n) : ab_ev X (d + 1) 8 [.inr (2, i)] s = some (.inl (some (.inl (.int (nI (sh_s nm n))))), s) := by
  rw [b8]
  exact l8 hn h20 hnm hlt n 0 _ (by omega)
end TWN
