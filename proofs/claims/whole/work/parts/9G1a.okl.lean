/-! The law itself: its code is what decoding gives (0). -/
theorem ab_all_td {α : Type} (p : α → Bool) (n : Nat) (l : List α) (h1 : (l.take n).all p = true) (h2 : (l.drop n).all p = true) : l.all p = true := by
  have h : (l.take n ++ l.drop n).all p = true := by rw [List.all_append, h1, h2]; rfl
  rwa [List.take_append_drop] at h

theorem ab_okL0 : ((ab_2 ab_cT 360 []).take 4).all (fun ch => ch.all (ab_okE 360)) = true := by decide +kernel
theorem ab_okL1 : (((ab_2 ab_cT 360 []).drop 4).take 4).all (fun ch => ch.all (ab_okE 360)) = true := by decide +kernel
theorem ab_okL2 : ((((ab_2 ab_cT 360 []).drop 4).drop 4).take 4).all (fun ch => ch.all (ab_okE 360)) = true := by decide +kernel
theorem ab_okL3 : (((((ab_2 ab_cT 360 []).drop 4).drop 4).drop 4).take 4).all (fun ch => ch.all (ab_okE 360)) = true := by decide +kernel
theorem ab_okL4 : ((((((ab_2 ab_cT 360 []).drop 4).drop 4).drop 4).drop 4).take 4).all (fun ch => ch.all (ab_okE 360)) = true := by decide +kernel
theorem ab_okL5 : (((((((ab_2 ab_cT 360 []).drop 4).drop 4).drop 4).drop 4).drop 4).take 4).all (fun ch => ch.all (ab_okE 360)) = true := by decide +kernel
theorem ab_okL6 : ((((((((ab_2 ab_cT 360 []).drop 4).drop 4).drop 4).drop 4).drop 4).drop 4).take 4).all (fun ch => ch.all (ab_okE 360)) = true := by decide +kernel
theorem ab_okL7 : (((((((((ab_2 ab_cT 360 []).drop 4).drop 4).drop 4).drop 4).drop 4).drop 4).drop 4).take 4).all (fun ch => ch.all (ab_okE 360)) = true := by decide +kernel
theorem ab_okL8 : ((((((((((ab_2 ab_cT 360 []).drop 4).drop 4).drop 4).drop 4).drop 4).drop 4).drop 4).drop 4).take 4).all (fun ch => ch.all (ab_okE 360)) = true := by decide +kernel
theorem ab_okL9 : (((((((((((ab_2 ab_cT 360 []).drop 4).drop 4).drop 4).drop 4).drop 4).drop 4).drop 4).drop 4).drop 4).take 4).all (fun ch => ch.all (ab_okE 360)) = true := by decide +kernel
