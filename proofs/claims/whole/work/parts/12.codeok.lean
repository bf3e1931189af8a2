/-! Each entry of the code tables is what the bytes and the words say: by program. -/
theorem gk_ok_0 : ∀ j, j ∈ [0, 1, 2, 3, 4, 5, 6, 7, 8, 9, 10, 11] → gm_chkj j = true := by decide +kernel
theorem gk_ok_1 : ∀ j, j ∈ [12, 13, 14, 15, 16, 17, 18, 19, 20, 21, 22, 23, 24, 25, 26, 27, 28] → gm_chkj j = true := by decide +kernel
theorem gk_ok_2 : ∀ j, j ∈ [29, 30, 31, 32, 33, 34, 35, 36, 37, 38, 39, 40, 41, 42] → gm_chkj j = true := by decide +kernel
theorem gk_ok_3 : ∀ j, j ∈ [43, 44, 45, 46, 47, 48, 49, 50, 51, 52, 53, 54, 55, 56, 57, 58, 59, 60, 61, 62] → gm_chkj j = true := by decide +kernel
theorem gk_ok_4 : ∀ j, j ∈ [63, 64, 65, 66, 67, 68, 69, 70, 71, 72, 73, 74] → gm_chkj j = true := by decide +kernel
theorem gk_ok_5 : ∀ j, j ∈ [75, 76, 77, 78, 79, 80, 81, 82, 83, 84, 85, 86, 87, 88, 89, 90, 91, 92] → gm_chkj j = true := by decide +kernel
theorem gk_ok_6 : ∀ j, j ∈ [93, 94, 95, 96, 97, 98, 99, 100, 101, 102, 103, 104] → gm_chkj j = true := by decide +kernel
theorem gk_ok_7 : ∀ j, j ∈ [105, 106, 107, 108, 109, 110, 111, 112, 113, 114, 115, 116, 117] → gm_chkj j = true := by decide +kernel
theorem gk_ok_8 : ∀ j, j ∈ [118, 119, 120, 121, 122, 123, 124] → gm_chkj j = true := by decide +kernel
theorem gk_ok_9 : ∀ j, j ∈ [125, 126, 127, 128, 129, 130, 131, 132, 133, 134, 135, 136] → gm_chkj j = true := by decide +kernel
theorem gk_ok_10 : ∀ j, j ∈ [137, 138, 139, 140, 141, 142, 143, 144, 145, 146] → gm_chkj j = true := by decide +kernel
theorem gk_ok_11 : ∀ j, j ∈ [147, 148, 149, 150, 151, 152, 153, 154, 155, 156, 157, 158, 159, 160, 161, 162, 163, 164, 165] → gm_chkj j = true := by decide +kernel
theorem gk_ok_12 : ∀ j, j ∈ [166, 167, 168, 169, 170, 171, 172, 173, 174, 175, 176] → gm_chkj j = true := by decide +kernel
theorem gk_ok_13 : ∀ j, j ∈ [177, 178, 179, 180, 181, 182, 183, 184, 185] → gm_chkj j = true := by decide +kernel
theorem gk_ok_14 : ∀ j, j ∈ [186, 187, 188, 189, 190, 191, 192, 193, 194, 195, 196, 197, 198] → gm_chkj j = true := by decide +kernel
theorem gk_ok_15 : ∀ j, j ∈ [199, 200, 201, 202, 203, 204, 205, 206, 207, 208, 209, 210] → gm_chkj j = true := by decide +kernel
theorem gk_ok_16 : ∀ j, j ∈ [211, 212, 213, 214, 215, 216, 217] → gm_chkj j = true := by decide +kernel
theorem gk_ok_17 : ∀ j, j ∈ [218, 219, 220, 221, 222, 223, 224, 225] → gm_chkj j = true := by decide +kernel
theorem gk_ok_18 : ∀ j, j ∈ [226, 227, 228, 229, 230, 231, 232, 233] → gm_chkj j = true := by decide +kernel
theorem gk_ok_19 : ∀ j, j ∈ [234, 235, 236, 237, 238, 239, 240] → gm_chkj j = true := by decide +kernel
theorem gk_ok_20 : ∀ j, j ∈ [241, 242, 243, 244, 245, 246, 247, 248, 249, 250, 251] → gm_chkj j = true := by decide +kernel
theorem gk_ok_21 : ∀ j, j ∈ [252, 253, 254, 255, 256, 257, 258, 259, 260] → gm_chkj j = true := by decide +kernel
theorem gk_ok_22 : ∀ j, j ∈ [261, 262, 263, 264, 265, 266] → gm_chkj j = true := by decide +kernel
theorem gk_ok : ∀ j, j < 271 → gm_chkj j = true ∨ gt_k j = [] := by
  intro j hj
  have h : ∀ j, j < 271 → j ∈ [0, 1, 2, 3, 4, 5, 6, 7, 8, 9, 10, 11] ∨ j ∈ [12, 13, 14, 15, 16, 17, 18, 19, 20, 21, 22, 23, 24, 25, 26, 27, 28] ∨ j ∈ [29, 30, 31, 32, 33, 34, 35, 36, 37, 38, 39, 40, 41, 42] ∨ j ∈ [43, 44, 45, 46, 47, 48, 49, 50, 51, 52, 53, 54, 55, 56, 57, 58, 59, 60, 61, 62] ∨ j ∈ [63, 64, 65, 66, 67, 68, 69, 70, 71, 72, 73, 74] ∨ j ∈ [75, 76, 77, 78, 79, 80, 81, 82, 83, 84, 85, 86, 87, 88, 89, 90, 91, 92] ∨ j ∈ [93, 94, 95, 96, 97, 98, 99, 100, 101, 102, 103, 104] ∨ j ∈ [105, 106, 107, 108, 109, 110, 111, 112, 113, 114, 115, 116, 117] ∨ j ∈ [118, 119, 120, 121, 122, 123, 124] ∨ j ∈ [125, 126, 127, 128, 129, 130, 131, 132, 133, 134, 135, 136] ∨ j ∈ [137, 138, 139, 140, 141, 142, 143, 144, 145, 146] ∨ j ∈ [147, 148, 149, 150, 151, 152, 153, 154, 155, 156, 157, 158, 159, 160, 161, 162, 163, 164, 165] ∨ j ∈ [166, 167, 168, 169, 170, 171, 172, 173, 174, 175, 176] ∨ j ∈ [177, 178, 179, 180, 181, 182, 183, 184, 185] ∨ j ∈ [186, 187, 188, 189, 190, 191, 192, 193, 194, 195, 196, 197, 198] ∨ j ∈ [199, 200, 201, 202, 203, 204, 205, 206, 207, 208, 209, 210] ∨ j ∈ [211, 212, 213, 214, 215, 216, 217] ∨ j ∈ [218, 219, 220, 221, 222, 223, 224, 225] ∨ j ∈ [226, 227, 228, 229, 230, 231, 232, 233] ∨ j ∈ [234, 235, 236, 237, 238, 239, 240] ∨ j ∈ [241, 242, 243, 244, 245, 246, 247, 248, 249, 250, 251] ∨ j ∈ [252, 253, 254, 255, 256, 257, 258, 259, 260] ∨ j ∈ [261, 262, 263, 264, 265, 266] ∨ j ∈ [267, 268, 269, 270] := by decide +kernel
  rcases h j hj with h | h | h | h | h | h | h | h | h | h | h | h | h | h | h | h | h | h | h | h | h | h | h | h
  · exact Or.inl (gk_ok_0 j h)
  · exact Or.inl (gk_ok_1 j h)
  · exact Or.inl (gk_ok_2 j h)
  · exact Or.inl (gk_ok_3 j h)
  · exact Or.inl (gk_ok_4 j h)
  · exact Or.inl (gk_ok_5 j h)
  · exact Or.inl (gk_ok_6 j h)
  · exact Or.inl (gk_ok_7 j h)
  · exact Or.inl (gk_ok_8 j h)
  · exact Or.inl (gk_ok_9 j h)
  · exact Or.inl (gk_ok_10 j h)
  · exact Or.inl (gk_ok_11 j h)
  · exact Or.inl (gk_ok_12 j h)
  · exact Or.inl (gk_ok_13 j h)
  · exact Or.inl (gk_ok_14 j h)
  · exact Or.inl (gk_ok_15 j h)
  · exact Or.inl (gk_ok_16 j h)
  · exact Or.inl (gk_ok_17 j h)
  · exact Or.inl (gk_ok_18 j h)
  · exact Or.inl (gk_ok_19 j h)
  · exact Or.inl (gk_ok_20 j h)
  · exact Or.inl (gk_ok_21 j h)
  · exact Or.inl (gk_ok_22 j h)
  · exact Or.inr (by
      have h2 : ∀ j, j ∈ [267, 268, 269, 270] → gt_k j = [] := by
        intro j hj
        simp only [List.mem_cons, List.not_mem_nil, or_false] at hj
        rcases hj with rfl | rfl | rfl | rfl <;> rfl
      exact h2 j h)
theorem gk_law_0 : gm_chk 11 false code ((gk_900.drop 0).take 20) = true := by decide +kernel
theorem gk_law_1 : gm_chk 11 false code ((gk_900.drop 20).take 20) = true := by decide +kernel
theorem gk_law_2 : gm_chk 11 false code ((gk_900.drop 40).take 20) = true := by decide +kernel
theorem gk_law_3 : gm_chk 11 false code ((gk_900.drop 60).take 19) = true := by decide +kernel
