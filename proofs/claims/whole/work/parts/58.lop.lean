/-! The law goes round. -/
section LOP
variable {X : (Nat → Int32) × Nat} {d k : Nat} {u5 u6 : Option ab_V} {s : ab_S}
theorem law_end (hX : X.2 < 2 ^ 31) (hk : k < 2 ^ 30) (h : X.2 < k + 6) : ab_at X (d + 1) 360 23 [some (.inr (14, 0)), some (.inr (0, 0)), some (.inr (9, 0)), some (.inr (15, 0)), some (.inl (.int (nI k))), u5, u6, none] [] s = some (.inl (some (.inl (.int (nI 1)))), s) := by
  have e : (nI X.2 - nI 6).toInt = (X.2 : Int) - 6 := by
    rw [Int32.toInt_sub, nI_toInt hX, show (nI 6).toInt = 6 by decide]
    exact Int.bmod_eq_of_le (by omega) (by omega)
  rw [b360_23, if_pos (Int32.lt_iff_toInt_lt.mpr (by rw [e, nI_toInt (by omega)]; omega))]
theorem law_go (hX : X.2 < 2 ^ 31) (h : k + 5 < X.2) : ab_at X (d + 1) 360 23 [some (.inr (14, 0)), some (.inr (0, 0)), some (.inr (9, 0)), some (.inr (15, 0)), some (.inl (.int (nI k))), u5, u6, none] [] s = ab_at X (d + 1) 360 40 [some (.inr (14, 0)), some (.inr (0, 0)), some (.inr (9, 0)), some (.inr (15, 0)), some (.inl (.int (nI k))), u5, u6, none] [.inl (.int (X.1 k &&& nI 63))] s := by
  have e : (nI X.2 - nI 6).toInt = (X.2 : Int) - 6 := by
    rw [Int32.toInt_sub, nI_toInt hX, show (nI 6).toInt = 6 by decide]
    exact Int.bmod_eq_of_le (by omega) (by omega)
  rw [b360_23, if_neg (fun q => by have q2 := Int32.lt_iff_toInt_lt.mp q; rw [e, nI_toInt (by omega)] at q2; omega), if_neg (n_in (by omega) hX), nI_clamp (by omega)]
theorem sw0 : ab_at X (d + 1) 360 40 [some (.inr (14, 0)), some (.inr (0, 0)), some (.inr (9, 0)), some (.inr (15, 0)), some (.inl (.int (nI k))), u5, u6, none] [.inl (.int (nI 0))] s = ab_at X (d + 1) 360 260 [some (.inr (14, 0)), some (.inr (0, 0)), some (.inr (9, 0)), some (.inr (15, 0)), some (.inl (.int (nI k))), u5, u6, none] [] s := by
  rw [b360_40]
  rfl
theorem sw1 : ab_at X (d + 1) 360 40 [some (.inr (14, 0)), some (.inr (0, 0)), some (.inr (9, 0)), some (.inr (15, 0)), some (.inl (.int (nI k))), u5, u6, none] [.inl (.int (nI 1))] s = ab_at X (d + 1) 360 333 [some (.inr (14, 0)), some (.inr (0, 0)), some (.inr (9, 0)), some (.inr (15, 0)), some (.inl (.int (nI k))), u5, u6, none] [] s := by
  rw [b360_40]
  rfl
theorem sw2 : ab_at X (d + 1) 360 40 [some (.inr (14, 0)), some (.inr (0, 0)), some (.inr (9, 0)), some (.inr (15, 0)), some (.inl (.int (nI k))), u5, u6, none] [.inl (.int (nI 2))] s = ab_at X (d + 1) 360 389 [some (.inr (14, 0)), some (.inr (0, 0)), some (.inr (9, 0)), some (.inr (15, 0)), some (.inl (.int (nI k))), u5, u6, none] [] s := by
  rw [b360_40]
  rfl
theorem sw3 : ab_at X (d + 1) 360 40 [some (.inr (14, 0)), some (.inr (0, 0)), some (.inr (9, 0)), some (.inr (15, 0)), some (.inl (.int (nI k))), u5, u6, none] [.inl (.int (nI 3))] s = ab_at X (d + 1) 360 414 [some (.inr (14, 0)), some (.inr (0, 0)), some (.inr (9, 0)), some (.inr (15, 0)), some (.inl (.int (nI k))), u5, u6, none] [] s := by
  rw [b360_40]
  rfl
theorem sw4 : ab_at X (d + 1) 360 40 [some (.inr (14, 0)), some (.inr (0, 0)), some (.inr (9, 0)), some (.inr (15, 0)), some (.inl (.int (nI k))), u5, u6, none] [.inl (.int (nI 4))] s = ab_at X (d + 1) 360 482 [some (.inr (14, 0)), some (.inr (0, 0)), some (.inr (9, 0)), some (.inr (15, 0)), some (.inl (.int (nI k))), u5, u6, none] [] s := by
  rw [b360_40]
  rfl
theorem sw5 : ab_at X (d + 1) 360 40 [some (.inr (14, 0)), some (.inr (0, 0)), some (.inr (9, 0)), some (.inr (15, 0)), some (.inl (.int (nI k))), u5, u6, none] [.inl (.int (nI 5))] s = ab_at X (d + 1) 360 550 [some (.inr (14, 0)), some (.inr (0, 0)), some (.inr (9, 0)), some (.inr (15, 0)), some (.inl (.int (nI k))), u5, u6, none] [] s := by
  rw [b360_40]
  rfl
theorem sw6 : ab_at X (d + 1) 360 40 [some (.inr (14, 0)), some (.inr (0, 0)), some (.inr (9, 0)), some (.inr (15, 0)), some (.inl (.int (nI k))), u5, u6, none] [.inl (.int (nI 6))] s = ab_at X (d + 1) 360 618 [some (.inr (14, 0)), some (.inr (0, 0)), some (.inr (9, 0)), some (.inr (15, 0)), some (.inl (.int (nI k))), u5, u6, none] [] s := by
  rw [b360_40]
  rfl
theorem sw7 : ab_at X (d + 1) 360 40 [some (.inr (14, 0)), some (.inr (0, 0)), some (.inr (9, 0)), some (.inr (15, 0)), some (.inl (.int (nI k))), u5, u6, none] [.inl (.int (nI 7))] s = ab_at X (d + 1) 360 674 [some (.inr (14, 0)), some (.inr (0, 0)), some (.inr (9, 0)), some (.inr (15, 0)), some (.inl (.int (nI k))), u5, u6, none] [] s := by
  rw [b360_40]
  rfl
theorem sw8 : ab_at X (d + 1) 360 40 [some (.inr (14, 0)), some (.inr (0, 0)), some (.inr (9, 0)), some (.inr (15, 0)), some (.inl (.int (nI k))), u5, u6, none] [.inl (.int (nI 8))] s = ab_at X (d + 1) 360 742 [some (.inr (14, 0)), some (.inr (0, 0)), some (.inr (9, 0)), some (.inr (15, 0)), some (.inl (.int (nI k))), u5, u6, none] [] s := by
  rw [b360_40]
  rfl
theorem sw9 : ab_at X (d + 1) 360 40 [some (.inr (14, 0)), some (.inr (0, 0)), some (.inr (9, 0)), some (.inr (15, 0)), some (.inl (.int (nI k))), u5, u6, none] [.inl (.int (nI 9))] s = ab_at X (d + 1) 360 810 [some (.inr (14, 0)), some (.inr (0, 0)), some (.inr (9, 0)), some (.inr (15, 0)), some (.inl (.int (nI k))), u5, u6, none] [] s := by
  rw [b360_40]
  rfl
theorem sw10 : ab_at X (d + 1) 360 40 [some (.inr (14, 0)), some (.inr (0, 0)), some (.inr (9, 0)), some (.inr (15, 0)), some (.inl (.int (nI k))), u5, u6, none] [.inl (.int (nI 10))] s = ab_at X (d + 1) 360 878 [some (.inr (14, 0)), some (.inr (0, 0)), some (.inr (9, 0)), some (.inr (15, 0)), some (.inl (.int (nI k))), u5, u6, none] [] s := by
  rw [b360_40]
  rfl
theorem sw11 : ab_at X (d + 1) 360 40 [some (.inr (14, 0)), some (.inr (0, 0)), some (.inr (9, 0)), some (.inr (15, 0)), some (.inl (.int (nI k))), u5, u6, none] [.inl (.int (nI 11))] s = ab_at X (d + 1) 360 934 [some (.inr (14, 0)), some (.inr (0, 0)), some (.inr (9, 0)), some (.inr (15, 0)), some (.inl (.int (nI k))), u5, u6, none] [] s := by
  rw [b360_40]
  rfl
theorem sw12 : ab_at X (d + 1) 360 40 [some (.inr (14, 0)), some (.inr (0, 0)), some (.inr (9, 0)), some (.inr (15, 0)), some (.inl (.int (nI k))), u5, u6, none] [.inl (.int (nI 12))] s = ab_at X (d + 1) 360 947 [some (.inr (14, 0)), some (.inr (0, 0)), some (.inr (9, 0)), some (.inr (15, 0)), some (.inl (.int (nI k))), u5, u6, none] [] s := by
  rw [b360_40]
  rfl
theorem sw13 : ab_at X (d + 1) 360 40 [some (.inr (14, 0)), some (.inr (0, 0)), some (.inr (9, 0)), some (.inr (15, 0)), some (.inl (.int (nI k))), u5, u6, none] [.inl (.int (nI 13))] s = ab_at X (d + 1) 360 1003 [some (.inr (14, 0)), some (.inr (0, 0)), some (.inr (9, 0)), some (.inr (15, 0)), some (.inl (.int (nI k))), u5, u6, none] [] s := by
  rw [b360_40]
  rfl
theorem sw14 : ab_at X (d + 1) 360 40 [some (.inr (14, 0)), some (.inr (0, 0)), some (.inr (9, 0)), some (.inr (15, 0)), some (.inl (.int (nI k))), u5, u6, none] [.inl (.int (nI 14))] s = ab_at X (d + 1) 360 1059 [some (.inr (14, 0)), some (.inr (0, 0)), some (.inr (9, 0)), some (.inr (15, 0)), some (.inl (.int (nI k))), u5, u6, none] [] s := by
  rw [b360_40]
  rfl
theorem sw15 : ab_at X (d + 1) 360 40 [some (.inr (14, 0)), some (.inr (0, 0)), some (.inr (9, 0)), some (.inr (15, 0)), some (.inl (.int (nI k))), u5, u6, none] [.inl (.int (nI 15))] s = ab_at X (d + 1) 360 1127 [some (.inr (14, 0)), some (.inr (0, 0)), some (.inr (9, 0)), some (.inr (15, 0)), some (.inl (.int (nI k))), u5, u6, none] [] s := by
  rw [b360_40]
  rfl
theorem sw16 : ab_at X (d + 1) 360 40 [some (.inr (14, 0)), some (.inr (0, 0)), some (.inr (9, 0)), some (.inr (15, 0)), some (.inl (.int (nI k))), u5, u6, none] [.inl (.int (nI 16))] s = ab_at X (d + 1) 360 1195 [some (.inr (14, 0)), some (.inr (0, 0)), some (.inr (9, 0)), some (.inr (15, 0)), some (.inl (.int (nI k))), u5, u6, none] [] s := by
  rw [b360_40]
  rfl
theorem sw17 : ab_at X (d + 1) 360 40 [some (.inr (14, 0)), some (.inr (0, 0)), some (.inr (9, 0)), some (.inr (15, 0)), some (.inl (.int (nI k))), u5, u6, none] [.inl (.int (nI 17))] s = ab_at X (d + 1) 360 1275 [some (.inr (14, 0)), some (.inr (0, 0)), some (.inr (9, 0)), some (.inr (15, 0)), some (.inl (.int (nI k))), u5, u6, none] [] s := by
  rw [b360_40]
  rfl
theorem sw18 : ab_at X (d + 1) 360 40 [some (.inr (14, 0)), some (.inr (0, 0)), some (.inr (9, 0)), some (.inr (15, 0)), some (.inl (.int (nI k))), u5, u6, none] [.inl (.int (nI 18))] s = ab_at X (d + 1) 360 1343 [some (.inr (14, 0)), some (.inr (0, 0)), some (.inr (9, 0)), some (.inr (15, 0)), some (.inl (.int (nI k))), u5, u6, none] [] s := by
  rw [b360_40]
  rfl
theorem sw19 : ab_at X (d + 1) 360 40 [some (.inr (14, 0)), some (.inr (0, 0)), some (.inr (9, 0)), some (.inr (15, 0)), some (.inl (.int (nI k))), u5, u6, none] [.inl (.int (nI 19))] s = ab_at X (d + 1) 360 1399 [some (.inr (14, 0)), some (.inr (0, 0)), some (.inr (9, 0)), some (.inr (15, 0)), some (.inl (.int (nI k))), u5, u6, none] [] s := by
  rw [b360_40]
  rfl
theorem sw20 : ab_at X (d + 1) 360 40 [some (.inr (14, 0)), some (.inr (0, 0)), some (.inr (9, 0)), some (.inr (15, 0)), some (.inl (.int (nI k))), u5, u6, none] [.inl (.int (nI 20))] s = ab_at X (d + 1) 360 1479 [some (.inr (14, 0)), some (.inr (0, 0)), some (.inr (9, 0)), some (.inr (15, 0)), some (.inl (.int (nI k))), u5, u6, none] [] s := by
  rw [b360_40]
  rfl
theorem sw21 : ab_at X (d + 1) 360 40 [some (.inr (14, 0)), some (.inr (0, 0)), some (.inr (9, 0)), some (.inr (15, 0)), some (.inl (.int (nI k))), u5, u6, none] [.inl (.int (nI 21))] s = ab_at X (d + 1) 360 1535 [some (.inr (14, 0)), some (.inr (0, 0)), some (.inr (9, 0)), some (.inr (15, 0)), some (.inl (.int (nI k))), u5, u6, none] [] s := by
  rw [b360_40]
  rfl
theorem sw22 : ab_at X (d + 1) 360 40 [some (.inr (14, 0)), some (.inr (0, 0)), some (.inr (9, 0)), some (.inr (15, 0)), some (.inl (.int (nI k))), u5, u6, none] [.inl (.int (nI 22))] s = ab_at X (d + 1) 360 1603 [some (.inr (14, 0)), some (.inr (0, 0)), some (.inr (9, 0)), some (.inr (15, 0)), some (.inl (.int (nI k))), u5, u6, none] [] s := by
  rw [b360_40]
  rfl
theorem sw23 : ab_at X (d + 1) 360 40 [some (.inr (14, 0)), some (.inr (0, 0)), some (.inr (9, 0)), some (.inr (15, 0)), some (.inl (.int (nI k))), u5, u6, none] [.inl (.int (nI 23))] s = ab_at X (d + 1) 360 1659 [some (.inr (14, 0)), some (.inr (0, 0)), some (.inr (9, 0)), some (.inr (15, 0)), some (.inl (.int (nI k))), u5, u6, none] [] s := by
  rw [b360_40]
  rfl
theorem sw24 : ab_at X (d + 1) 360 40 [some (.inr (14, 0)), some (.inr (0, 0)), some (.inr (9, 0)), some (.inr (15, 0)), some (.inl (.int (nI k))), u5, u6, none] [.inl (.int (nI 24))] s = ab_at X (d + 1) 360 1727 [some (.inr (14, 0)), some (.inr (0, 0)), some (.inr (9, 0)), some (.inr (15, 0)), some (.inl (.int (nI k))), u5, u6, none] [] s := by
  rw [b360_40]
  rfl
theorem sw25 : ab_at X (d + 1) 360 40 [some (.inr (14, 0)), some (.inr (0, 0)), some (.inr (9, 0)), some (.inr (15, 0)), some (.inl (.int (nI k))), u5, u6, none] [.inl (.int (nI 25))] s = ab_at X (d + 1) 360 1741 [some (.inr (14, 0)), some (.inr (0, 0)), some (.inr (9, 0)), some (.inr (15, 0)), some (.inl (.int (nI k))), u5, u6, none] [] s := by
  rw [b360_40]
  rfl
theorem sw26 : ab_at X (d + 1) 360 40 [some (.inr (14, 0)), some (.inr (0, 0)), some (.inr (9, 0)), some (.inr (15, 0)), some (.inl (.int (nI k))), u5, u6, none] [.inl (.int (nI 26))] s = ab_at X (d + 1) 360 1755 [some (.inr (14, 0)), some (.inr (0, 0)), some (.inr (9, 0)), some (.inr (15, 0)), some (.inl (.int (nI k))), u5, u6, none] [] s := by
  rw [b360_40]
  rfl
theorem sw27 : ab_at X (d + 1) 360 40 [some (.inr (14, 0)), some (.inr (0, 0)), some (.inr (9, 0)), some (.inr (15, 0)), some (.inl (.int (nI k))), u5, u6, none] [.inl (.int (nI 27))] s = ab_at X (d + 1) 360 1810 [some (.inr (14, 0)), some (.inr (0, 0)), some (.inr (9, 0)), some (.inr (15, 0)), some (.inl (.int (nI k))), u5, u6, none] [] s := by
  rw [b360_40]
  rfl
theorem sw28 : ab_at X (d + 1) 360 40 [some (.inr (14, 0)), some (.inr (0, 0)), some (.inr (9, 0)), some (.inr (15, 0)), some (.inl (.int (nI k))), u5, u6, none] [.inl (.int (nI 28))] s = ab_at X (d + 1) 360 1877 [some (.inr (14, 0)), some (.inr (0, 0)), some (.inr (9, 0)), some (.inr (15, 0)), some (.inl (.int (nI k))), u5, u6, none] [] s := by
  rw [b360_40]
  rfl
theorem sw29 : ab_at X (d + 1) 360 40 [some (.inr (14, 0)), some (.inr (0, 0)), some (.inr (9, 0)), some (.inr (15, 0)), some (.inl (.int (nI k))), u5, u6, none] [.inl (.int (nI 29))] s = ab_at X (d + 1) 360 1933 [some (.inr (14, 0)), some (.inr (0, 0)), some (.inr (9, 0)), some (.inr (15, 0)), some (.inl (.int (nI k))), u5, u6, none] [] s := by
  rw [b360_40]
  rfl
theorem sw30 : ab_at X (d + 1) 360 40 [some (.inr (14, 0)), some (.inr (0, 0)), some (.inr (9, 0)), some (.inr (15, 0)), some (.inl (.int (nI k))), u5, u6, none] [.inl (.int (nI 30))] s = ab_at X (d + 1) 360 2001 [some (.inr (14, 0)), some (.inr (0, 0)), some (.inr (9, 0)), some (.inr (15, 0)), some (.inl (.int (nI k))), u5, u6, none] [] s := by
  rw [b360_40]
  rfl
theorem sw31 : ab_at X (d + 1) 360 40 [some (.inr (14, 0)), some (.inr (0, 0)), some (.inr (9, 0)), some (.inr (15, 0)), some (.inl (.int (nI k))), u5, u6, none] [.inl (.int (nI 31))] s = ab_at X (d + 1) 360 2069 [some (.inr (14, 0)), some (.inr (0, 0)), some (.inr (9, 0)), some (.inr (15, 0)), some (.inl (.int (nI k))), u5, u6, none] [] s := by
  rw [b360_40]
  rfl
theorem sw32 : ab_at X (d + 1) 360 40 [some (.inr (14, 0)), some (.inr (0, 0)), some (.inr (9, 0)), some (.inr (15, 0)), some (.inl (.int (nI k))), u5, u6, none] [.inl (.int (nI 32))] s = ab_at X (d + 1) 360 2137 [some (.inr (14, 0)), some (.inr (0, 0)), some (.inr (9, 0)), some (.inr (15, 0)), some (.inl (.int (nI k))), u5, u6, none] [] s := by
  rw [b360_40]
  rfl
theorem sw33 : ab_at X (d + 1) 360 40 [some (.inr (14, 0)), some (.inr (0, 0)), some (.inr (9, 0)), some (.inr (15, 0)), some (.inl (.int (nI k))), u5, u6, none] [.inl (.int (nI 33))] s = ab_at X (d + 1) 360 2205 [some (.inr (14, 0)), some (.inr (0, 0)), some (.inr (9, 0)), some (.inr (15, 0)), some (.inl (.int (nI k))), u5, u6, none] [] s := by
  rw [b360_40]
  rfl
theorem sw34 : ab_at X (d + 1) 360 40 [some (.inr (14, 0)), some (.inr (0, 0)), some (.inr (9, 0)), some (.inr (15, 0)), some (.inl (.int (nI k))), u5, u6, none] [.inl (.int (nI 34))] s = ab_at X (d + 1) 360 2285 [some (.inr (14, 0)), some (.inr (0, 0)), some (.inr (9, 0)), some (.inr (15, 0)), some (.inl (.int (nI k))), u5, u6, none] [] s := by
  rw [b360_40]
  rfl
theorem sw35 : ab_at X (d + 1) 360 40 [some (.inr (14, 0)), some (.inr (0, 0)), some (.inr (9, 0)), some (.inr (15, 0)), some (.inl (.int (nI k))), u5, u6, none] [.inl (.int (nI 35))] s = ab_at X (d + 1) 360 2365 [some (.inr (14, 0)), some (.inr (0, 0)), some (.inr (9, 0)), some (.inr (15, 0)), some (.inl (.int (nI k))), u5, u6, none] [] s := by
  rw [b360_40]
  rfl
theorem sw36 : ab_at X (d + 1) 360 40 [some (.inr (14, 0)), some (.inr (0, 0)), some (.inr (9, 0)), some (.inr (15, 0)), some (.inl (.int (nI k))), u5, u6, none] [.inl (.int (nI 36))] s = ab_at X (d + 1) 360 2445 [some (.inr (14, 0)), some (.inr (0, 0)), some (.inr (9, 0)), some (.inr (15, 0)), some (.inl (.int (nI k))), u5, u6, none] [] s := by
  rw [b360_40]
  rfl
theorem sw37 : ab_at X (d + 1) 360 40 [some (.inr (14, 0)), some (.inr (0, 0)), some (.inr (9, 0)), some (.inr (15, 0)), some (.inl (.int (nI k))), u5, u6, none] [.inl (.int (nI 37))] s = ab_at X (d + 1) 360 2501 [some (.inr (14, 0)), some (.inr (0, 0)), some (.inr (9, 0)), some (.inr (15, 0)), some (.inl (.int (nI k))), u5, u6, none] [] s := by
  rw [b360_40]
  rfl
theorem sw38 : ab_at X (d + 1) 360 40 [some (.inr (14, 0)), some (.inr (0, 0)), some (.inr (9, 0)), some (.inr (15, 0)), some (.inl (.int (nI k))), u5, u6, none] [.inl (.int (nI 38))] s = ab_at X (d + 1) 360 2569 [some (.inr (14, 0)), some (.inr (0, 0)), some (.inr (9, 0)), some (.inr (15, 0)), some (.inl (.int (nI k))), u5, u6, none] [] s := by
  rw [b360_40]
  rfl
theorem sw39 : ab_at X (d + 1) 360 40 [some (.inr (14, 0)), some (.inr (0, 0)), some (.inr (9, 0)), some (.inr (15, 0)), some (.inl (.int (nI k))), u5, u6, none] [.inl (.int (nI 39))] s = ab_at X (d + 1) 360 2625 [some (.inr (14, 0)), some (.inr (0, 0)), some (.inr (9, 0)), some (.inr (15, 0)), some (.inl (.int (nI k))), u5, u6, none] [] s := by
  rw [b360_40]
  rfl
theorem sw40 : ab_at X (d + 1) 360 40 [some (.inr (14, 0)), some (.inr (0, 0)), some (.inr (9, 0)), some (.inr (15, 0)), some (.inl (.int (nI k))), u5, u6, none] [.inl (.int (nI 40))] s = ab_at X (d + 1) 360 2681 [some (.inr (14, 0)), some (.inr (0, 0)), some (.inr (9, 0)), some (.inr (15, 0)), some (.inl (.int (nI k))), u5, u6, none] [] s := by
  rw [b360_40]
  rfl
theorem sw41 : ab_at X (d + 1) 360 40 [some (.inr (14, 0)), some (.inr (0, 0)), some (.inr (9, 0)), some (.inr (15, 0)), some (.inl (.int (nI k))), u5, u6, none] [.inl (.int (nI 41))] s = ab_at X (d + 1) 360 2749 [some (.inr (14, 0)), some (.inr (0, 0)), some (.inr (9, 0)), some (.inr (15, 0)), some (.inl (.int (nI k))), u5, u6, none] [] s := by
  rw [b360_40]
  rfl
theorem sw42 : ab_at X (d + 1) 360 40 [some (.inr (14, 0)), some (.inr (0, 0)), some (.inr (9, 0)), some (.inr (15, 0)), some (.inl (.int (nI k))), u5, u6, none] [.inl (.int (nI 42))] s = ab_at X (d + 1) 360 2805 [some (.inr (14, 0)), some (.inr (0, 0)), some (.inr (9, 0)), some (.inr (15, 0)), some (.inl (.int (nI k))), u5, u6, none] [] s := by
  rw [b360_40]
  rfl
theorem sw43 : ab_at X (d + 1) 360 40 [some (.inr (14, 0)), some (.inr (0, 0)), some (.inr (9, 0)), some (.inr (15, 0)), some (.inl (.int (nI k))), u5, u6, none] [.inl (.int (nI 43))] s = ab_at X (d + 1) 360 2861 [some (.inr (14, 0)), some (.inr (0, 0)), some (.inr (9, 0)), some (.inr (15, 0)), some (.inl (.int (nI k))), u5, u6, none] [] s := by
  rw [b360_40]
  rfl
theorem sw44 : ab_at X (d + 1) 360 40 [some (.inr (14, 0)), some (.inr (0, 0)), some (.inr (9, 0)), some (.inr (15, 0)), some (.inl (.int (nI k))), u5, u6, none] [.inl (.int (nI 44))] s = ab_at X (d + 1) 360 2874 [some (.inr (14, 0)), some (.inr (0, 0)), some (.inr (9, 0)), some (.inr (15, 0)), some (.inl (.int (nI k))), u5, u6, none] [] s := by
  rw [b360_40]
  rfl
theorem sw45 : ab_at X (d + 1) 360 40 [some (.inr (14, 0)), some (.inr (0, 0)), some (.inr (9, 0)), some (.inr (15, 0)), some (.inl (.int (nI k))), u5, u6, none] [.inl (.int (nI 45))] s = ab_at X (d + 1) 360 2887 [some (.inr (14, 0)), some (.inr (0, 0)), some (.inr (9, 0)), some (.inr (15, 0)), some (.inl (.int (nI k))), u5, u6, none] [] s := by
  rw [b360_40]
  rfl
theorem sw46 : ab_at X (d + 1) 360 40 [some (.inr (14, 0)), some (.inr (0, 0)), some (.inr (9, 0)), some (.inr (15, 0)), some (.inl (.int (nI k))), u5, u6, none] [.inl (.int (nI 46))] s = ab_at X (d + 1) 360 2947 [some (.inr (14, 0)), some (.inr (0, 0)), some (.inr (9, 0)), some (.inr (15, 0)), some (.inl (.int (nI k))), u5, u6, none] [] s := by
  rw [b360_40]
  rfl
theorem sw47 : ab_at X (d + 1) 360 40 [some (.inr (14, 0)), some (.inr (0, 0)), some (.inr (9, 0)), some (.inr (15, 0)), some (.inl (.int (nI k))), u5, u6, none] [.inl (.int (nI 47))] s = ab_at X (d + 1) 360 3058 [some (.inr (14, 0)), some (.inr (0, 0)), some (.inr (9, 0)), some (.inr (15, 0)), some (.inl (.int (nI k))), u5, u6, none] [] s := by
  rw [b360_40]
  rfl
theorem sw48 : ab_at X (d + 1) 360 40 [some (.inr (14, 0)), some (.inr (0, 0)), some (.inr (9, 0)), some (.inr (15, 0)), some (.inl (.int (nI k))), u5, u6, none] [.inl (.int (nI 48))] s = ab_at X (d + 1) 360 3114 [some (.inr (14, 0)), some (.inr (0, 0)), some (.inr (9, 0)), some (.inr (15, 0)), some (.inl (.int (nI k))), u5, u6, none] [] s := by
  rw [b360_40]
  rfl
theorem sw49 : ab_at X (d + 1) 360 40 [some (.inr (14, 0)), some (.inr (0, 0)), some (.inr (9, 0)), some (.inr (15, 0)), some (.inl (.int (nI k))), u5, u6, none] [.inl (.int (nI 49))] s = ab_at X (d + 1) 360 3150 [some (.inr (14, 0)), some (.inr (0, 0)), some (.inr (9, 0)), some (.inr (15, 0)), some (.inl (.int (nI k))), u5, u6, none] [] s := by
  rw [b360_40]
  rfl
theorem sw50 : ab_at X (d + 1) 360 40 [some (.inr (14, 0)), some (.inr (0, 0)), some (.inr (9, 0)), some (.inr (15, 0)), some (.inl (.int (nI k))), u5, u6, none] [.inl (.int (nI 50))] s = ab_at X (d + 1) 360 3186 [some (.inr (14, 0)), some (.inr (0, 0)), some (.inr (9, 0)), some (.inr (15, 0)), some (.inl (.int (nI k))), u5, u6, none] [] s := by
  rw [b360_40]
  rfl
theorem sw_no {v : Int32} (h : ∀ j, j < 51 → ¬ v = nI j) : ab_at X (d + 1) 360 40 [some (.inr (14, 0)), some (.inr (0, 0)), some (.inr (9, 0)), some (.inr (15, 0)), some (.inl (.int (nI k))), u5, u6, none] [.inl (.int v)] s = ab_at X (d + 1) 360 23 [some (.inr (14, 0)), some (.inr (0, 0)), some (.inr (9, 0)), some (.inr (15, 0)), some (.inl (.int (nI (k + 6)))), u5, u6, none] [] s := by
  rw [b360_40, if_neg (h 0 (by decide)), if_neg (h 1 (by decide)), if_neg (h 2 (by decide)), if_neg (h 3 (by decide)), if_neg (h 4 (by decide)), if_neg (h 5 (by decide)), if_neg (h 6 (by decide)), if_neg (h 7 (by decide)), if_neg (h 8 (by decide)), if_neg (h 9 (by decide)), if_neg (h 10 (by decide)), if_neg (h 11 (by decide)), if_neg (h 12 (by decide)), if_neg (h 13 (by decide)), if_neg (h 14 (by decide)), if_neg (h 15 (by decide)), if_neg (h 16 (by decide)), if_neg (h 17 (by decide)), if_neg (h 18 (by decide)), if_neg (h 19 (by decide)), if_neg (h 20 (by decide)), if_neg (h 21 (by decide)), if_neg (h 22 (by decide)), if_neg (h 23 (by decide)), if_neg (h 24 (by decide)), if_neg (h 25 (by decide)), if_neg (h 26 (by decide)), if_neg (h 27 (by decide)), if_neg (h 28 (by decide)), if_neg (h 29 (by decide)), if_neg (h 30 (by decide)), if_neg (h 31 (by decide)), if_neg (h 32 (by decide)), if_neg (h 33 (by decide)), if_neg (h 34 (by decide)), if_neg (h 35 (by decide)), if_neg (h 36 (by decide)), if_neg (h 37 (by decide)), if_neg (h 38 (by decide)), if_neg (h 39 (by decide)), if_neg (h 40 (by decide)), if_neg (h 41 (by decide)), if_neg (h 42 (by decide)), if_neg (h 43 (by decide)), if_neg (h 44 (by decide)), if_neg (h 45 (by decide)), if_neg (h 46 (by decide)), if_neg (h 47 (by decide)), if_neg (h 48 (by decide)), if_neg (h 49 (by decide)), if_neg (h 50 (by decide)), b360_3211, nI_add]
theorem law_loop {P : Nat → ab_S → Prop} (hX : X.2 < 2 ^ 20) (step : ∀ (k : Nat) (u5 u6 : Option ab_V) (s : ab_S), k + 5 < X.2 → P k s → ∃ (s2 : ab_S) (v5 v6 : Option ab_V), P (k + 6) s2 ∧ ab_at X (d + 1) 360 40 [some (.inr (14, 0)), some (.inr (0, 0)), some (.inr (9, 0)), some (.inr (15, 0)), some (.inl (.int (nI k))), u5, u6, none] [.inl (.int (X.1 k &&& nI 63))] s = ab_at X (d + 1) 360 23 [some (.inr (14, 0)), some (.inr (0, 0)), some (.inr (9, 0)), some (.inr (15, 0)), some (.inl (.int (nI (k + 6)))), v5, v6, none] [] s2) : ∀ (j k : Nat) (u5 u6 : Option ab_V) (s : ab_S), X.2 < 6 * j + k + 6 → k ≤ X.2 → P k s → ∃ (k' : Nat) (s' : ab_S), k' ≤ X.2 ∧ P k' s' ∧ ab_at X (d + 1) 360 23 [some (.inr (14, 0)), some (.inr (0, 0)), some (.inr (9, 0)), some (.inr (15, 0)), some (.inl (.int (nI k))), u5, u6, none] [] s = some (.inl (some (.inl (.int (nI 1)))), s')
  | 0, k, u5, u6, s, h, h2, hp => ⟨k, s, h2, hp, law_end (by omega) (by omega) (by omega)⟩
  | j + 1, k, u5, u6, s, h, h2, hp => by
    by_cases q : k + 5 < X.2
    · obtain ⟨s2, v5, v6, p2, e2⟩ := step k u5 u6 s q hp
      obtain ⟨k', s', a1, a2, a3⟩ := law_loop hX step j (k + 6) v5 v6 s2 (by omega) (by omega) p2
      exact ⟨k', s', a1, a2, (law_go (by omega) q).trans (e2.trans a3)⟩
    · exact ⟨k, s, h2, hp, law_end (by omega) (by omega) (by omega)⟩
end LOP
