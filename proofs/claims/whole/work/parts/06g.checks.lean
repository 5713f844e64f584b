/-! the checks of methods 246 to 257 -/
theorem gd_246 : (List.range 61).all (sxGood 246) = true := by decide +kernel
theorem ok_246 : sxG 246 := sxG_of rfl gd_246
theorem gd_247 : (List.range 11).all (sxGood 247) = true := by decide +kernel
theorem ok_247 : sxG 247 := sxG_of rfl gd_247
theorem gd_248 : (List.range 11).all (sxGood 248) = true := by decide +kernel
theorem ok_248 : sxG 248 := sxG_of rfl gd_248
theorem gd_249 : (List.range 11).all (sxGood 249) = true := by decide +kernel
theorem ok_249 : sxG 249 := sxG_of rfl gd_249
theorem gd_250 : (List.range 25).all (sxGood 250) = true := by decide +kernel
theorem ok_250 : sxG 250 := sxG_of rfl gd_250
theorem gd_251 : (List.range 19).all (sxGood 251) = true := by decide +kernel
theorem ok_251 : sxG 251 := sxG_of rfl gd_251
theorem gd_252 : (List.range 10).all (sxGood 252) = true := by decide +kernel
theorem ok_252 : sxG 252 := sxG_of rfl gd_252
theorem gd_253 : (List.range 15).all (sxGood 253) = true := by decide +kernel
theorem ok_253 : sxG 253 := sxG_of rfl gd_253
theorem gd_254 : (List.range 23).all (sxGood 254) = true := by decide +kernel
theorem ok_254 : sxG 254 := sxG_of rfl gd_254
theorem gd_255 : (List.range 21).all (sxGood 255) = true := by decide +kernel
theorem ok_255 : sxG 255 := sxG_of rfl gd_255
theorem gd_256 : (List.range 18).all (sxGood 256) = true := by decide +kernel
theorem ok_256 : sxG 256 := sxG_of rfl gd_256
theorem gd_257 : (List.range 1232).all (sxGood 257) = true := by decide +kernel
theorem ok_257 : sxG 257 := sxG_of rfl gd_257
theorem okc_6 : ∀ y ∈ [246, 247, 248, 249, 250, 251, 252, 253, 254, 255, 256, 257], sxG y := List.forall_mem_cons.mpr ⟨ok_246, List.forall_mem_cons.mpr ⟨ok_247, List.forall_mem_cons.mpr ⟨ok_248, List.forall_mem_cons.mpr ⟨ok_249, List.forall_mem_cons.mpr ⟨ok_250, List.forall_mem_cons.mpr ⟨ok_251, List.forall_mem_cons.mpr ⟨ok_252, List.forall_mem_cons.mpr ⟨ok_253, List.forall_mem_cons.mpr ⟨ok_254, List.forall_mem_cons.mpr ⟨ok_255, List.forall_mem_cons.mpr ⟨ok_256, List.forall_mem_cons.mpr ⟨ok_257, fun _ h => absurd h List.not_mem_nil⟩⟩⟩⟩⟩⟩⟩⟩⟩⟩⟩⟩
theorem mok_all : (List.range 257).all sxMOk = true := by decide +kernel
theorem sx_ok (y : Nat) (hy : y < 258) : sxG y := by
  have h : ∀ y ∈ List.range 258, sxG y := by
    have e : List.range 258 = [0, 1, 2, 3, 4, 5, 6, 7, 8, 9, 10, 11, 12, 13, 14, 15, 16, 17, 18, 19, 20, 21, 22, 23, 24, 25, 26, 27, 28, 29, 30, 31, 32, 33, 34, 35, 36, 37, 38, 39, 40] ++ ([41, 42, 43, 44, 45, 46, 47, 48, 49, 50, 51, 52, 53, 54, 55, 56, 57, 58, 59, 60, 61, 62, 63, 64, 65, 66, 67, 68, 69, 70, 71, 72, 73, 74, 75, 76, 77, 78, 79, 80, 81, 82, 83, 84, 85, 86, 87, 88, 89, 90, 91, 92] ++ ([93, 94, 95, 96, 97, 98, 99, 100, 101, 102, 103, 104, 105, 106, 107, 108, 109, 110, 111, 112, 113, 114, 115, 116, 117, 118, 119, 120, 121, 122, 123, 124, 125, 126, 127, 128, 129, 130, 131, 132, 133] ++ ([134, 135, 136, 137, 138, 139, 140, 141, 142, 143, 144, 145, 146, 147, 148, 149, 150, 151, 152, 153, 154, 155, 156, 157, 158, 159, 160, 161, 162, 163, 164, 165, 166, 167, 168, 169, 170, 171, 172, 173, 174] ++ ([175, 176, 177, 178, 179, 180, 181, 182, 183, 184, 185, 186, 187, 188, 189, 190, 191, 192, 193, 194, 195, 196, 197, 198, 199, 200, 201, 202, 203, 204, 205] ++ ([206, 207, 208, 209, 210, 211, 212, 213, 214, 215, 216, 217, 218, 219, 220, 221, 222, 223, 224, 225, 226, 227, 228, 229, 230, 231, 232, 233, 234, 235, 236, 237, 238, 239, 240, 241, 242, 243, 244, 245] ++ ([246, 247, 248, 249, 250, 251, 252, 253, 254, 255, 256, 257])))))) := by decide +kernel
    rw [e]
    exact List.forall_mem_append.mpr ⟨okc_0, List.forall_mem_append.mpr ⟨okc_1, List.forall_mem_append.mpr ⟨okc_2, List.forall_mem_append.mpr ⟨okc_3, List.forall_mem_append.mpr ⟨okc_4, List.forall_mem_append.mpr ⟨okc_5, okc_6⟩⟩⟩⟩⟩⟩
  exact h y (List.mem_range.mpr hy)
theorem sx_mok (y : Nat) (hy : y < 257) : sxMOk y = true := List.all_eq_true.mp mok_all y (List.mem_range.mpr hy)
