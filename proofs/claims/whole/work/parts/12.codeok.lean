/-! Each entry of the code tables is what the bytes and the words say: by program. -/
def gk_g22 : List Nat := [261, 262, 263, 264, 265, 266]
def gk_g21 : List Nat := [252, 253, 254, 255, 256, 257, 258, 259, 260]
def gk_g20 : List Nat := [241, 242, 243, 244, 245, 246, 247, 248, 249, 250, 251]
def gk_g19 : List Nat := [234, 235, 236, 237, 238, 239, 240]
def gk_g18 : List Nat := [226, 227, 228, 229, 230, 231, 232, 233]
def gk_g17 : List Nat := [218, 219, 220, 221, 222, 223, 224, 225]
def gk_g16 : List Nat := [211, 212, 213, 214, 215, 216, 217]
def gk_g15 : List Nat := [199, 200, 201, 202, 203, 204, 205, 206, 207, 208, 209, 210]
def gk_g14 : List Nat := [186, 187, 188, 189, 190, 191, 192, 193, 194, 195, 196, 197, 198]
def gk_g13 : List Nat := [177, 178, 179, 180, 181, 182, 183, 184, 185]
def gk_g12 : List Nat := [166, 167, 168, 169, 170, 171, 172, 173, 174, 175, 176]
def gk_g11 : List Nat := [147, 148, 149, 150, 151, 152, 153, 154, 155, 156, 157, 158, 159, 160, 161, 162, 163, 164, 165]
def gk_g10 : List Nat := [137, 138, 139, 140, 141, 142, 143, 144, 145, 146]
def gk_g9 : List Nat := [125, 126, 127, 128, 129, 130, 131, 132, 133, 134, 135, 136]
def gk_g8 : List Nat := [118, 119, 120, 121, 122, 123, 124]
def gk_g7 : List Nat := [105, 106, 107, 108, 109, 110, 111, 112, 113, 114, 115, 116, 117]
def gk_g6 : List Nat := [93, 94, 95, 96, 97, 98, 99, 100, 101, 102, 103, 104]
def gk_g5 : List Nat := [75, 76, 77, 78, 79, 80, 81, 82, 83, 84, 85, 86, 87, 88, 89, 90, 91, 92]
def gk_g4 : List Nat := [63, 64, 65, 66, 67, 68, 69, 70, 71, 72, 73, 74]
def gk_g3 : List Nat := [43, 44, 45, 46, 47, 48, 49, 50, 51, 52, 53, 54, 55, 56, 57, 58, 59, 60, 61, 62]
def gk_g2 : List Nat := [29, 30, 31, 32, 33, 34, 35, 36, 37, 38, 39, 40, 41, 42]
def gk_g1 : List Nat := [12, 13, 14, 15, 16, 17, 18, 19, 20, 21, 22, 23, 24, 25, 26, 27, 28]
def gk_g0 : List Nat := [0, 1, 2, 3, 4, 5, 6, 7, 8, 9, 10, 11]
theorem gk_ok_0 : ∀ j, j ∈ gk_g0 → gm_chkj j = true := by decide +kernel
theorem gk_ok_1 : ∀ j, j ∈ gk_g1 → gm_chkj j = true := by decide +kernel
theorem gk_ok_2 : ∀ j, j ∈ gk_g2 → gm_chkj j = true := by decide +kernel
theorem gk_ok_3 : ∀ j, j ∈ gk_g3 → gm_chkj j = true := by decide +kernel
theorem gk_ok_4 : ∀ j, j ∈ gk_g4 → gm_chkj j = true := by decide +kernel
theorem gk_ok_5 : ∀ j, j ∈ gk_g5 → gm_chkj j = true := by decide +kernel
theorem gk_ok_6 : ∀ j, j ∈ gk_g6 → gm_chkj j = true := by decide +kernel
theorem gk_ok_7 : ∀ j, j ∈ gk_g7 → gm_chkj j = true := by decide +kernel
theorem gk_ok_8 : ∀ j, j ∈ gk_g8 → gm_chkj j = true := by decide +kernel
theorem gk_ok_9 : ∀ j, j ∈ gk_g9 → gm_chkj j = true := by decide +kernel
theorem gk_ok_10 : ∀ j, j ∈ gk_g10 → gm_chkj j = true := by decide +kernel
theorem gk_ok_11 : ∀ j, j ∈ gk_g11 → gm_chkj j = true := by decide +kernel
theorem gk_ok_12 : ∀ j, j ∈ gk_g12 → gm_chkj j = true := by decide +kernel
theorem gk_ok_13 : ∀ j, j ∈ gk_g13 → gm_chkj j = true := by decide +kernel
theorem gk_ok_14 : ∀ j, j ∈ gk_g14 → gm_chkj j = true := by decide +kernel
theorem gk_ok_15 : ∀ j, j ∈ gk_g15 → gm_chkj j = true := by decide +kernel
theorem gk_ok_16 : ∀ j, j ∈ gk_g16 → gm_chkj j = true := by decide +kernel
theorem gk_ok_17 : ∀ j, j ∈ gk_g17 → gm_chkj j = true := by decide +kernel
theorem gk_ok_18 : ∀ j, j ∈ gk_g18 → gm_chkj j = true := by decide +kernel
theorem gk_ok_19 : ∀ j, j ∈ gk_g19 → gm_chkj j = true := by decide +kernel
theorem gk_ok_20 : ∀ j, j ∈ gk_g20 → gm_chkj j = true := by decide +kernel
theorem gk_ok_21 : ∀ j, j ∈ gk_g21 → gm_chkj j = true := by decide +kernel
theorem gk_ok_22 : ∀ j, j ∈ gk_g22 → gm_chkj j = true := by decide +kernel
theorem gk_all : ∀ j, j < 271 → j ∈ [267, 268, 269, 270] ++ (gk_g0 ++ (gk_g1 ++ (gk_g2 ++ (gk_g3 ++ (gk_g4 ++ (gk_g5 ++ (gk_g6 ++ (gk_g7 ++ (gk_g8 ++ (gk_g9 ++ (gk_g10 ++ (gk_g11 ++ (gk_g12 ++ (gk_g13 ++ (gk_g14 ++ (gk_g15 ++ (gk_g16 ++ (gk_g17 ++ (gk_g18 ++ (gk_g19 ++ (gk_g20 ++ (gk_g21 ++ (gk_g22 ))))))))))))))))))))))) := by decide +kernel
theorem gk_ok : ∀ j, j < 271 → gm_chkj j = true ∨ gt_k j = [] := by
  intro j hj
  rcases List.mem_append.mp (gk_all j hj) with h | h
  · right
    simp only [List.mem_cons, List.not_mem_nil, or_false] at h
    rcases h with rfl | rfl | rfl | rfl <;> rfl
  left
  rcases List.mem_append.mp h with h | h
  · exact gk_ok_0 j h
  rcases List.mem_append.mp h with h | h
  · exact gk_ok_1 j h
  rcases List.mem_append.mp h with h | h
  · exact gk_ok_2 j h
  rcases List.mem_append.mp h with h | h
  · exact gk_ok_3 j h
  rcases List.mem_append.mp h with h | h
  · exact gk_ok_4 j h
  rcases List.mem_append.mp h with h | h
  · exact gk_ok_5 j h
  rcases List.mem_append.mp h with h | h
  · exact gk_ok_6 j h
  rcases List.mem_append.mp h with h | h
  · exact gk_ok_7 j h
  rcases List.mem_append.mp h with h | h
  · exact gk_ok_8 j h
  rcases List.mem_append.mp h with h | h
  · exact gk_ok_9 j h
  rcases List.mem_append.mp h with h | h
  · exact gk_ok_10 j h
  rcases List.mem_append.mp h with h | h
  · exact gk_ok_11 j h
  rcases List.mem_append.mp h with h | h
  · exact gk_ok_12 j h
  rcases List.mem_append.mp h with h | h
  · exact gk_ok_13 j h
  rcases List.mem_append.mp h with h | h
  · exact gk_ok_14 j h
  rcases List.mem_append.mp h with h | h
  · exact gk_ok_15 j h
  rcases List.mem_append.mp h with h | h
  · exact gk_ok_16 j h
  rcases List.mem_append.mp h with h | h
  · exact gk_ok_17 j h
  rcases List.mem_append.mp h with h | h
  · exact gk_ok_18 j h
  rcases List.mem_append.mp h with h | h
  · exact gk_ok_19 j h
  rcases List.mem_append.mp h with h | h
  · exact gk_ok_20 j h
  rcases List.mem_append.mp h with h | h
  · exact gk_ok_21 j h
  exact gk_ok_22 j h
