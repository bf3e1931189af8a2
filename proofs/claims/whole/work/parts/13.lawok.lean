/-! The law's own code. -/
theorem gk_law_0 : gm_chk 11 false code ((gk_900.drop 0).take 3) = true := by decide +kernel
theorem gk_law_1 : gm_chk 11 false code ((gk_900.drop 3).take 3) = true := by decide +kernel
theorem gk_law_2 : gm_chk 11 false code ((gk_900.drop 6).take 3) = true := by decide +kernel
theorem gk_law_3 : gm_chk 11 false code ((gk_900.drop 9).take 3) = true := by decide +kernel
theorem gk_law_4 : gm_chk 11 false code ((gk_900.drop 12).take 3) = true := by decide +kernel
theorem gk_law_5 : gm_chk 11 false code ((gk_900.drop 15).take 3) = true := by decide +kernel
theorem gk_law_6 : gm_chk 11 false code ((gk_900.drop 18).take 3) = true := by decide +kernel
theorem gk_law_7 : gm_chk 11 false code ((gk_900.drop 21).take 3) = true := by decide +kernel
theorem gk_law_8 : gm_chk 11 false code ((gk_900.drop 24).take 3) = true := by decide +kernel
theorem gk_law_9 : gm_chk 11 false code ((gk_900.drop 27).take 3) = true := by decide +kernel
theorem gk_law_10 : gm_chk 11 false code ((gk_900.drop 30).take 3) = true := by decide +kernel
theorem gk_law_11 : gm_chk 11 false code ((gk_900.drop 33).take 3) = true := by decide +kernel
theorem gk_law_12 : gm_chk 11 false code ((gk_900.drop 36).take 3) = true := by decide +kernel
theorem gk_law_13 : gm_chk 11 false code ((gk_900.drop 39).take 3) = true := by decide +kernel
theorem gk_law_14 : gm_chk 11 false code ((gk_900.drop 42).take 3) = true := by decide +kernel
theorem gk_law_15 : gm_chk 11 false code ((gk_900.drop 45).take 3) = true := by decide +kernel
theorem gk_law_16 : gm_chk 11 false code ((gk_900.drop 48).take 3) = true := by decide +kernel
theorem gk_law_17 : gm_chk 11 false code ((gk_900.drop 51).take 3) = true := by decide +kernel
theorem gk_law_18 : gm_chk 11 false code ((gk_900.drop 54).take 3) = true := by decide +kernel
theorem gk_law_19 : gm_chk 11 false code ((gk_900.drop 57).take 3) = true := by decide +kernel
theorem gk_law_20 : gm_chk 11 false code ((gk_900.drop 60).take 3) = true := by decide +kernel
theorem gk_law_21 : gm_chk 11 false code ((gk_900.drop 63).take 3) = true := by decide +kernel
theorem gk_law_22 : gm_chk 11 false code ((gk_900.drop 66).take 3) = true := by decide +kernel
theorem gk_law_23 : gm_chk 11 false code ((gk_900.drop 69).take 3) = true := by decide +kernel
theorem gk_law_24 : gm_chk 11 false code ((gk_900.drop 72).take 3) = true := by decide +kernel
theorem gk_law_25 : gm_chk 11 false code ((gk_900.drop 75).take 3) = true := by decide +kernel
theorem gk_law_26 : gm_chk 11 false code ((gk_900.drop 78).take 1) = true := by decide +kernel
theorem gk_law : gm_chk 11 false code gk_900 = true := by
  have e : ∀ (k : gm_Kt) (a : Nat), gm_chk 11 false code (k.take a) = true → gm_chk 11 false code (k.drop a) = true → gm_chk 11 false code k = true := by
    intro k a h1 h2
    unfold gm_chk at h1 h2 ⊢
    rw [← List.take_append_drop a k, List.all_append, h1, h2]
    rfl
  refine e _ 3 gk_law_0 ?_
  refine e _ 3 gk_law_1 ?_
  rw [List.drop_drop]
  refine e _ 3 gk_law_2 ?_
  rw [List.drop_drop]
  refine e _ 3 gk_law_3 ?_
  rw [List.drop_drop]
  refine e _ 3 gk_law_4 ?_
  rw [List.drop_drop]
  refine e _ 3 gk_law_5 ?_
  rw [List.drop_drop]
  refine e _ 3 gk_law_6 ?_
  rw [List.drop_drop]
  refine e _ 3 gk_law_7 ?_
  rw [List.drop_drop]
  refine e _ 3 gk_law_8 ?_
  rw [List.drop_drop]
  refine e _ 3 gk_law_9 ?_
  rw [List.drop_drop]
  refine e _ 3 gk_law_10 ?_
  rw [List.drop_drop]
  refine e _ 3 gk_law_11 ?_
  rw [List.drop_drop]
  refine e _ 3 gk_law_12 ?_
  rw [List.drop_drop]
  refine e _ 3 gk_law_13 ?_
  rw [List.drop_drop]
  refine e _ 3 gk_law_14 ?_
  rw [List.drop_drop]
  refine e _ 3 gk_law_15 ?_
  rw [List.drop_drop]
  refine e _ 3 gk_law_16 ?_
  rw [List.drop_drop]
  refine e _ 3 gk_law_17 ?_
  rw [List.drop_drop]
  refine e _ 3 gk_law_18 ?_
  rw [List.drop_drop]
  refine e _ 3 gk_law_19 ?_
  rw [List.drop_drop]
  refine e _ 3 gk_law_20 ?_
  rw [List.drop_drop]
  refine e _ 3 gk_law_21 ?_
  rw [List.drop_drop]
  refine e _ 3 gk_law_22 ?_
  rw [List.drop_drop]
  refine e _ 3 gk_law_23 ?_
  rw [List.drop_drop]
  refine e _ 3 gk_law_24 ?_
  rw [List.drop_drop]
  refine e _ 3 gk_law_25 ?_
  rw [List.drop_drop]
  exact e _ 1 gk_law_26 (by decide +kernel)
