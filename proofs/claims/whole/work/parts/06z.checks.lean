/-! all checks -/
theorem rng {a n : Nat} {f : Nat → Bool} (h : (List.range' a n).all f = true) (pc : Nat) (h1 : a ≤ pc) (h2 : pc < a + n) : f pc = true := List.all_eq_true.mp h pc (List.mem_range'_1.mpr ⟨h1, h2⟩)
theorem gd_257 : (List.range 1232).all (sxGood 257) = true := by
  refine List.all_eq_true.mpr fun pc hpc => ?_
  have hpc := List.mem_range.mp hpc
  rcases Nat.lt_or_ge pc 80 with h0 | h0
  · exact rng gl_0 pc (by omega) (by omega)
  rcases Nat.lt_or_ge pc 160 with h80 | h80
  · exact rng gl_80 pc (by omega) (by omega)
  rcases Nat.lt_or_ge pc 240 with h160 | h160
  · exact rng gl_160 pc (by omega) (by omega)
  rcases Nat.lt_or_ge pc 320 with h240 | h240
  · exact rng gl_240 pc (by omega) (by omega)
  rcases Nat.lt_or_ge pc 400 with h320 | h320
  · exact rng gl_320 pc (by omega) (by omega)
  rcases Nat.lt_or_ge pc 480 with h400 | h400
  · exact rng gl_400 pc (by omega) (by omega)
  rcases Nat.lt_or_ge pc 560 with h480 | h480
  · exact rng gl_480 pc (by omega) (by omega)
  rcases Nat.lt_or_ge pc 640 with h560 | h560
  · exact rng gl_560 pc (by omega) (by omega)
  rcases Nat.lt_or_ge pc 720 with h640 | h640
  · exact rng gl_640 pc (by omega) (by omega)
  rcases Nat.lt_or_ge pc 800 with h720 | h720
  · exact rng gl_720 pc (by omega) (by omega)
  rcases Nat.lt_or_ge pc 880 with h800 | h800
  · exact rng gl_800 pc (by omega) (by omega)
  rcases Nat.lt_or_ge pc 960 with h880 | h880
  · exact rng gl_880 pc (by omega) (by omega)
  rcases Nat.lt_or_ge pc 1040 with h960 | h960
  · exact rng gl_960 pc (by omega) (by omega)
  rcases Nat.lt_or_ge pc 1120 with h1040 | h1040
  · exact rng gl_1040 pc (by omega) (by omega)
  rcases Nat.lt_or_ge pc 1200 with h1120 | h1120
  · exact rng gl_1120 pc (by omega) (by omega)
  rcases Nat.lt_or_ge pc 1280 with h1200 | h1200
  · exact rng gl_1200 pc (by omega) (by omega)
  omega
theorem ok_257 : sxG 257 := sxG_of rfl gd_257
theorem sx_ok (y : Nat) (hy : y < 258) : sxG y := by
  have h : ∀ y ∈ List.range 258, sxG y := by
    have e : List.range 258 = [0, 1, 2, 3, 4, 5, 6, 7, 8, 9, 10, 11, 12, 13, 14, 15, 16, 17, 18, 19, 20, 21, 22, 23, 24, 25, 26, 27, 28, 29, 30, 31, 32, 33, 34, 35, 36, 37, 38, 39, 40] ++ ([41, 42, 43, 44, 45, 46, 47, 48, 49, 50, 51, 52, 53, 54, 55, 56, 57, 58, 59, 60, 61, 62, 63, 64, 65, 66, 67, 68, 69, 70, 71, 72, 73, 74, 75, 76, 77, 78, 79, 80, 81, 82, 83, 84, 85, 86, 87, 88, 89, 90, 91, 92] ++ ([93, 94, 95, 96, 97, 98, 99, 100, 101, 102, 103, 104, 105, 106, 107, 108, 109, 110, 111, 112, 113, 114, 115, 116, 117, 118, 119, 120, 121, 122, 123, 124, 125, 126, 127, 128, 129, 130, 131, 132, 133] ++ ([134, 135, 136, 137, 138, 139, 140, 141, 142, 143, 144, 145, 146, 147, 148, 149, 150, 151, 152, 153, 154, 155, 156, 157, 158, 159, 160, 161, 162, 163, 164, 165, 166, 167, 168, 169, 170, 171, 172, 173, 174] ++ ([175, 176, 177, 178, 179, 180, 181, 182, 183, 184, 185, 186, 187, 188, 189, 190, 191, 192, 193, 194, 195, 196, 197, 198, 199, 200, 201, 202, 203, 204, 205] ++ ([206, 207, 208, 209, 210, 211, 212, 213, 214, 215, 216, 217, 218, 219, 220, 221, 222, 223, 224, 225, 226, 227, 228, 229, 230, 231, 232, 233, 234, 235, 236, 237, 238, 239, 240, 241, 242, 243, 244, 245] ++ ([246, 247, 248, 249, 250, 251, 252, 253, 254, 255, 256] ++ ([257]))))))) := by decide +kernel
    rw [e]
    exact List.forall_mem_append.mpr ⟨okc_0, List.forall_mem_append.mpr ⟨okc_1, List.forall_mem_append.mpr ⟨okc_2, List.forall_mem_append.mpr ⟨okc_3, List.forall_mem_append.mpr ⟨okc_4, List.forall_mem_append.mpr ⟨okc_5, List.forall_mem_append.mpr ⟨okc_6, (List.forall_mem_cons.mpr ⟨ok_257, fun _ h => absurd h List.not_mem_nil⟩)⟩⟩⟩⟩⟩⟩⟩
  exact h y (List.mem_range.mpr hy)
theorem sx_mok (y : Nat) (hy : y < 257) : sxMOk y = true := by
  have h : ∀ y ∈ List.range 257, sxMOk y = true := by
    have e : List.range 257 = [0, 1, 2, 3, 4, 5, 6, 7, 8, 9, 10, 11, 12, 13, 14, 15, 16, 17, 18, 19, 20, 21, 22, 23, 24, 25, 26, 27, 28, 29, 30, 31, 32, 33, 34, 35, 36, 37, 38, 39, 40] ++ ([41, 42, 43, 44, 45, 46, 47, 48, 49, 50, 51, 52, 53, 54, 55, 56, 57, 58, 59, 60, 61, 62, 63, 64, 65, 66, 67, 68, 69, 70, 71, 72, 73, 74, 75, 76, 77, 78, 79, 80, 81, 82, 83, 84, 85, 86, 87, 88, 89, 90, 91, 92] ++ ([93, 94, 95, 96, 97, 98, 99, 100, 101, 102, 103, 104, 105, 106, 107, 108, 109, 110, 111, 112, 113, 114, 115, 116, 117, 118, 119, 120, 121, 122, 123, 124, 125, 126, 127, 128, 129, 130, 131, 132, 133] ++ ([134, 135, 136, 137, 138, 139, 140, 141, 142, 143, 144, 145, 146, 147, 148, 149, 150, 151, 152, 153, 154, 155, 156, 157, 158, 159, 160, 161, 162, 163, 164, 165, 166, 167, 168, 169, 170, 171, 172, 173, 174] ++ ([175, 176, 177, 178, 179, 180, 181, 182, 183, 184, 185, 186, 187, 188, 189, 190, 191, 192, 193, 194, 195, 196, 197, 198, 199, 200, 201, 202, 203, 204, 205] ++ ([206, 207, 208, 209, 210, 211, 212, 213, 214, 215, 216, 217, 218, 219, 220, 221, 222, 223, 224, 225, 226, 227, 228, 229, 230, 231, 232, 233, 234, 235, 236, 237, 238, 239, 240, 241, 242, 243, 244, 245] ++ ([246, 247, 248, 249, 250, 251, 252, 253, 254, 255, 256])))))) := by decide +kernel
    rw [e]
    exact List.forall_mem_append.mpr ⟨List.all_eq_true.mp mok_0, List.forall_mem_append.mpr ⟨List.all_eq_true.mp mok_1, List.forall_mem_append.mpr ⟨List.all_eq_true.mp mok_2, List.forall_mem_append.mpr ⟨List.all_eq_true.mp mok_3, List.forall_mem_append.mpr ⟨List.all_eq_true.mp mok_4, List.forall_mem_append.mpr ⟨List.all_eq_true.mp mok_5, (List.all_eq_true.mp mok_6)⟩⟩⟩⟩⟩⟩
  exact h y (List.mem_range.mpr hy)
theorem sx_cd (y : Nat) (hy : y < 257) : sxCd y := by
  have h : ∀ y ∈ List.range 257, sxCd y := by
    have e : List.range 257 = [0, 1, 2, 3, 4, 5, 6, 7, 8, 9, 10, 11, 12, 13, 14, 15, 16, 17, 18, 19, 20, 21, 22, 23, 24, 25, 26, 27, 28, 29, 30, 31, 32, 33, 34, 35, 36, 37, 38, 39, 40] ++ ([41, 42, 43, 44, 45, 46, 47, 48, 49, 50, 51, 52, 53, 54, 55, 56, 57, 58, 59, 60, 61, 62, 63, 64, 65, 66, 67, 68, 69, 70, 71, 72, 73, 74, 75, 76, 77, 78, 79, 80, 81, 82, 83, 84, 85, 86, 87, 88, 89, 90, 91, 92] ++ ([93, 94, 95, 96, 97, 98, 99, 100, 101, 102, 103, 104, 105, 106, 107, 108, 109, 110, 111, 112, 113, 114, 115, 116, 117, 118, 119, 120, 121, 122, 123, 124, 125, 126, 127, 128, 129, 130, 131, 132, 133] ++ ([134, 135, 136, 137, 138, 139, 140, 141, 142, 143, 144, 145, 146, 147, 148, 149, 150, 151, 152, 153, 154, 155, 156, 157, 158, 159, 160, 161, 162, 163, 164, 165, 166, 167, 168, 169, 170, 171, 172, 173, 174] ++ ([175, 176, 177, 178, 179, 180, 181, 182, 183, 184, 185, 186, 187, 188, 189, 190, 191, 192, 193, 194, 195, 196, 197, 198, 199, 200, 201, 202, 203, 204, 205] ++ ([206, 207, 208, 209, 210, 211, 212, 213, 214, 215, 216, 217, 218, 219, 220, 221, 222, 223, 224, 225, 226, 227, 228, 229, 230, 231, 232, 233, 234, 235, 236, 237, 238, 239, 240, 241, 242, 243, 244, 245] ++ ([246, 247, 248, 249, 250, 251, 252, 253, 254, 255, 256])))))) := by decide +kernel
    rw [e]
    exact List.forall_mem_append.mpr ⟨cdc_0, List.forall_mem_append.mpr ⟨cdc_1, List.forall_mem_append.mpr ⟨cdc_2, List.forall_mem_append.mpr ⟨cdc_3, List.forall_mem_append.mpr ⟨cdc_4, List.forall_mem_append.mpr ⟨cdc_5, cdc_6⟩⟩⟩⟩⟩⟩
  exact h y (List.mem_range.mpr hy)
