/-! the checks of methods 246 to 256 -/
theorem gd_246 : (List.range 61).all (sxGood 246) = true := by decide +kernel
theorem ok_246 : sxG 246 := sxG_of rfl gd_246
theorem gd_247 : (List.range 11).all (sxGood 247) = true := by decide +kernel
theorem ok_247 : sxG 247 := sxG_of rfl gd_247
theorem gd_248 : (List.range 11).all (sxGood 248) = true := by decide +kernel
theorem ok_248 : sxG 248 := sxG_of rfl gd_248
theorem gd_249 : (List.range 11).all (sxGood 249) = true := by decide +kernel
theorem ok_249 : sxG 249 := sxG_of rfl gd_249
theorem gd_250 : (List.range 25).all (sxGood 250) = true := by decide +kernel
theorem ok_250 : sxG 250 := sxG_of rfl gd_250
theorem gd_251 : (List.range 19).all (sxGood 251) = true := by decide +kernel
theorem ok_251 : sxG 251 := sxG_of rfl gd_251
theorem gd_252 : (List.range 10).all (sxGood 252) = true := by decide +kernel
theorem ok_252 : sxG 252 := sxG_of rfl gd_252
theorem gd_253 : (List.range 15).all (sxGood 253) = true := by decide +kernel
theorem ok_253 : sxG 253 := sxG_of rfl gd_253
theorem gd_254 : (List.range 23).all (sxGood 254) = true := by decide +kernel
theorem ok_254 : sxG 254 := sxG_of rfl gd_254
theorem gd_255 : (List.range 21).all (sxGood 255) = true := by decide +kernel
theorem ok_255 : sxG 255 := sxG_of rfl gd_255
theorem gd_256 : (List.range 18).all (sxGood 256) = true := by decide +kernel
theorem ok_256 : sxG 256 := sxG_of rfl gd_256
set_option maxRecDepth 100000 in
theorem cd_246 : sxCd 246 := rfl
set_option maxRecDepth 100000 in
theorem cd_247 : sxCd 247 := rfl
set_option maxRecDepth 100000 in
theorem cd_248 : sxCd 248 := rfl
set_option maxRecDepth 100000 in
theorem cd_249 : sxCd 249 := rfl
set_option maxRecDepth 100000 in
theorem cd_250 : sxCd 250 := rfl
set_option maxRecDepth 100000 in
theorem cd_251 : sxCd 251 := rfl
set_option maxRecDepth 100000 in
theorem cd_252 : sxCd 252 := rfl
set_option maxRecDepth 100000 in
theorem cd_253 : sxCd 253 := rfl
set_option maxRecDepth 100000 in
theorem cd_254 : sxCd 254 := rfl
set_option maxRecDepth 100000 in
theorem cd_255 : sxCd 255 := rfl
set_option maxRecDepth 100000 in
theorem cd_256 : sxCd 256 := rfl
theorem cdc_6 : ∀ y ∈ [246, 247, 248, 249, 250, 251, 252, 253, 254, 255, 256], sxCd y := List.forall_mem_cons.mpr ⟨cd_246, List.forall_mem_cons.mpr ⟨cd_247, List.forall_mem_cons.mpr ⟨cd_248, List.forall_mem_cons.mpr ⟨cd_249, List.forall_mem_cons.mpr ⟨cd_250, List.forall_mem_cons.mpr ⟨cd_251, List.forall_mem_cons.mpr ⟨cd_252, List.forall_mem_cons.mpr ⟨cd_253, List.forall_mem_cons.mpr ⟨cd_254, List.forall_mem_cons.mpr ⟨cd_255, List.forall_mem_cons.mpr ⟨cd_256, fun _ h => absurd h List.not_mem_nil⟩⟩⟩⟩⟩⟩⟩⟩⟩⟩⟩
theorem okc_6 : ∀ y ∈ [246, 247, 248, 249, 250, 251, 252, 253, 254, 255, 256], sxG y := List.forall_mem_cons.mpr ⟨ok_246, List.forall_mem_cons.mpr ⟨ok_247, List.forall_mem_cons.mpr ⟨ok_248, List.forall_mem_cons.mpr ⟨ok_249, List.forall_mem_cons.mpr ⟨ok_250, List.forall_mem_cons.mpr ⟨ok_251, List.forall_mem_cons.mpr ⟨ok_252, List.forall_mem_cons.mpr ⟨ok_253, List.forall_mem_cons.mpr ⟨ok_254, List.forall_mem_cons.mpr ⟨ok_255, List.forall_mem_cons.mpr ⟨ok_256, fun _ h => absurd h List.not_mem_nil⟩⟩⟩⟩⟩⟩⟩⟩⟩⟩⟩
theorem mok_6 : ([246, 247, 248, 249, 250, 251, 252, 253, 254, 255, 256] : List Nat).all sxMOk = true := by decide +kernel
