/-! the checks of methods 0 to 40 -/
theorem gd_0 : (List.range 82).all (sxGood 0) = true := by decide +kernel
theorem ok_0 : sxG 0 := sxG_of rfl gd_0
theorem gd_1 : (List.range 137).all (sxGood 1) = true := by decide +kernel
theorem ok_1 : sxG 1 := sxG_of rfl gd_1
theorem gd_2 : (List.range 16).all (sxGood 2) = true := by decide +kernel
theorem ok_2 : sxG 2 := sxG_of rfl gd_2
theorem gd_3 : (List.range 16).all (sxGood 3) = true := by decide +kernel
theorem ok_3 : sxG 3 := sxG_of rfl gd_3
theorem gd_4 : (List.range 41).all (sxGood 4) = true := by decide +kernel
theorem ok_4 : sxG 4 := sxG_of rfl gd_4
theorem gd_5 : (List.range 41).all (sxGood 5) = true := by decide +kernel
theorem ok_5 : sxG 5 := sxG_of rfl gd_5
theorem gd_6 : (List.range 23).all (sxGood 6) = true := by decide +kernel
theorem ok_6 : sxG 6 := sxG_of rfl gd_6
theorem gd_7 : (List.range 19).all (sxGood 7) = true := by decide +kernel
theorem ok_7 : sxG 7 := sxG_of rfl gd_7
theorem gd_8 : (List.range 89).all (sxGood 8) = true := by decide +kernel
theorem ok_8 : sxG 8 := sxG_of rfl gd_8
theorem gd_9 : (List.range 53).all (sxGood 9) = true := by decide +kernel
theorem ok_9 : sxG 9 := sxG_of rfl gd_9
theorem gd_10 : (List.range 61).all (sxGood 10) = true := by decide +kernel
theorem ok_10 : sxG 10 := sxG_of rfl gd_10
theorem gd_11 : (List.range 76).all (sxGood 11) = true := by decide +kernel
theorem ok_11 : sxG 11 := sxG_of rfl gd_11
theorem gd_12 : (List.range 67).all (sxGood 12) = true := by decide +kernel
theorem ok_12 : sxG 12 := sxG_of rfl gd_12
theorem gd_13 : (List.range 64).all (sxGood 13) = true := by decide +kernel
theorem ok_13 : sxG 13 := sxG_of rfl gd_13
theorem gd_14 : (List.range 30).all (sxGood 14) = true := by decide +kernel
theorem ok_14 : sxG 14 := sxG_of rfl gd_14
theorem gd_15 : (List.range 47).all (sxGood 15) = true := by decide +kernel
theorem ok_15 : sxG 15 := sxG_of rfl gd_15
theorem gd_16 : (List.range 48).all (sxGood 16) = true := by decide +kernel
theorem ok_16 : sxG 16 := sxG_of rfl gd_16
theorem gd_17 : (List.range 47).all (sxGood 17) = true := by decide +kernel
theorem ok_17 : sxG 17 := sxG_of rfl gd_17
theorem gd_18 : (List.range 117).all (sxGood 18) = true := by decide +kernel
theorem ok_18 : sxG 18 := sxG_of rfl gd_18
theorem gd_19 : (List.range 110).all (sxGood 19) = true := by decide +kernel
theorem ok_19 : sxG 19 := sxG_of rfl gd_19
theorem gd_20 : (List.range 30).all (sxGood 20) = true := by decide +kernel
theorem ok_20 : sxG 20 := sxG_of rfl gd_20
theorem gd_21 : (List.range 26).all (sxGood 21) = true := by decide +kernel
theorem ok_21 : sxG 21 := sxG_of rfl gd_21
theorem gd_22 : (List.range 26).all (sxGood 22) = true := by decide +kernel
theorem ok_22 : sxG 22 := sxG_of rfl gd_22
theorem gd_23 : (List.range 64).all (sxGood 23) = true := by decide +kernel
theorem ok_23 : sxG 23 := sxG_of rfl gd_23
theorem gd_24 : (List.range 26).all (sxGood 24) = true := by decide +kernel
theorem ok_24 : sxG 24 := sxG_of rfl gd_24
theorem gd_25 : (List.range 44).all (sxGood 25) = true := by decide +kernel
theorem ok_25 : sxG 25 := sxG_of rfl gd_25
theorem gd_26 : (List.range 146).all (sxGood 26) = true := by decide +kernel
theorem ok_26 : sxG 26 := sxG_of rfl gd_26
theorem gd_27 : (List.range 16).all (sxGood 27) = true := by decide +kernel
theorem ok_27 : sxG 27 := sxG_of rfl gd_27
theorem gd_28 : (List.range 156).all (sxGood 28) = true := by decide +kernel
theorem ok_28 : sxG 28 := sxG_of rfl gd_28
theorem gd_29 : (List.range 128).all (sxGood 29) = true := by decide +kernel
theorem ok_29 : sxG 29 := sxG_of rfl gd_29
theorem gd_30 : (List.range 102).all (sxGood 30) = true := by decide +kernel
theorem ok_30 : sxG 30 := sxG_of rfl gd_30
theorem gd_31 : (List.range 24).all (sxGood 31) = true := by decide +kernel
theorem ok_31 : sxG 31 := sxG_of rfl gd_31
theorem gd_32 : (List.range 184).all (sxGood 32) = true := by decide +kernel
theorem ok_32 : sxG 32 := sxG_of rfl gd_32
theorem gd_33 : (List.range 84).all (sxGood 33) = true := by decide +kernel
theorem ok_33 : sxG 33 := sxG_of rfl gd_33
theorem gd_34 : (List.range 139).all (sxGood 34) = true := by decide +kernel
theorem ok_34 : sxG 34 := sxG_of rfl gd_34
theorem gd_35 : (List.range 31).all (sxGood 35) = true := by decide +kernel
theorem ok_35 : sxG 35 := sxG_of rfl gd_35
theorem gd_36 : (List.range 11).all (sxGood 36) = true := by decide +kernel
theorem ok_36 : sxG 36 := sxG_of rfl gd_36
theorem gd_37 : (List.range 40).all (sxGood 37) = true := by decide +kernel
theorem ok_37 : sxG 37 := sxG_of rfl gd_37
theorem gd_38 : (List.range 32).all (sxGood 38) = true := by decide +kernel
theorem ok_38 : sxG 38 := sxG_of rfl gd_38
theorem gd_39 : (List.range 40).all (sxGood 39) = true := by decide +kernel
theorem ok_39 : sxG 39 := sxG_of rfl gd_39
theorem gd_40 : (List.range 17).all (sxGood 40) = true := by decide +kernel
theorem ok_40 : sxG 40 := sxG_of rfl gd_40
set_option maxRecDepth 100000 in
theorem cd_0 : sxCd 0 := rfl
set_option maxRecDepth 100000 in
theorem cd_1 : sxCd 1 := rfl
set_option maxRecDepth 100000 in
theorem cd_2 : sxCd 2 := rfl
set_option maxRecDepth 100000 in
theorem cd_3 : sxCd 3 := rfl
set_option maxRecDepth 100000 in
theorem cd_4 : sxCd 4 := rfl
set_option maxRecDepth 100000 in
theorem cd_5 : sxCd 5 := rfl
set_option maxRecDepth 100000 in
theorem cd_6 : sxCd 6 := rfl
set_option maxRecDepth 100000 in
theorem cd_7 : sxCd 7 := rfl
set_option maxRecDepth 100000 in
theorem cd_8 : sxCd 8 := rfl
set_option maxRecDepth 100000 in
theorem cd_9 : sxCd 9 := rfl
set_option maxRecDepth 100000 in
theorem cd_10 : sxCd 10 := rfl
set_option maxRecDepth 100000 in
theorem cd_11 : sxCd 11 := rfl
set_option maxRecDepth 100000 in
theorem cd_12 : sxCd 12 := rfl
set_option maxRecDepth 100000 in
theorem cd_13 : sxCd 13 := rfl
set_option maxRecDepth 100000 in
theorem cd_14 : sxCd 14 := rfl
set_option maxRecDepth 100000 in
theorem cd_15 : sxCd 15 := rfl
set_option maxRecDepth 100000 in
theorem cd_16 : sxCd 16 := rfl
set_option maxRecDepth 100000 in
theorem cd_17 : sxCd 17 := rfl
set_option maxRecDepth 100000 in
theorem cd_18 : sxCd 18 := rfl
set_option maxRecDepth 100000 in
theorem cd_19 : sxCd 19 := rfl
set_option maxRecDepth 100000 in
theorem cd_20 : sxCd 20 := rfl
set_option maxRecDepth 100000 in
theorem cd_21 : sxCd 21 := rfl
set_option maxRecDepth 100000 in
theorem cd_22 : sxCd 22 := rfl
set_option maxRecDepth 100000 in
theorem cd_23 : sxCd 23 := rfl
set_option maxRecDepth 100000 in
theorem cd_24 : sxCd 24 := rfl
set_option maxRecDepth 100000 in
theorem cd_25 : sxCd 25 := rfl
set_option maxRecDepth 100000 in
theorem cd_26 : sxCd 26 := rfl
set_option maxRecDepth 100000 in
theorem cd_27 : sxCd 27 := rfl
set_option maxRecDepth 100000 in
theorem cd_28 : sxCd 28 := rfl
set_option maxRecDepth 100000 in
theorem cd_29 : sxCd 29 := rfl
set_option maxRecDepth 100000 in
theorem cd_30 : sxCd 30 := rfl
set_option maxRecDepth 100000 in
theorem cd_31 : sxCd 31 := rfl
set_option maxRecDepth 100000 in
theorem cd_32 : sxCd 32 := rfl
set_option maxRecDepth 100000 in
theorem cd_33 : sxCd 33 := rfl
set_option maxRecDepth 100000 in
theorem cd_34 : sxCd 34 := rfl
set_option maxRecDepth 100000 in
theorem cd_35 : sxCd 35 := rfl
set_option maxRecDepth 100000 in
theorem cd_36 : sxCd 36 := rfl
set_option maxRecDepth 100000 in
theorem cd_37 : sxCd 37 := rfl
set_option maxRecDepth 100000 in
theorem cd_38 : sxCd 38 := rfl
set_option maxRecDepth 100000 in
theorem cd_39 : sxCd 39 := rfl
set_option maxRecDepth 100000 in
theorem cd_40 : sxCd 40 := rfl
theorem cdc_0 : ∀ y ∈ [0, 1, 2, 3, 4, 5, 6, 7, 8, 9, 10, 11, 12, 13, 14, 15, 16, 17, 18, 19, 20, 21, 22, 23, 24, 25, 26, 27, 28, 29, 30, 31, 32, 33, 34, 35, 36, 37, 38, 39, 40], sxCd y := List.forall_mem_cons.mpr ⟨cd_0, List.forall_mem_cons.mpr ⟨cd_1, List.forall_mem_cons.mpr ⟨cd_2, List.forall_mem_cons.mpr ⟨cd_3, List.forall_mem_cons.mpr ⟨cd_4, List.forall_mem_cons.mpr ⟨cd_5, List.forall_mem_cons.mpr ⟨cd_6, List.forall_mem_cons.mpr ⟨cd_7, List.forall_mem_cons.mpr ⟨cd_8, List.forall_mem_cons.mpr ⟨cd_9, List.forall_mem_cons.mpr ⟨cd_10, List.forall_mem_cons.mpr ⟨cd_11, List.forall_mem_cons.mpr ⟨cd_12, List.forall_mem_cons.mpr ⟨cd_13, List.forall_mem_cons.mpr ⟨cd_14, List.forall_mem_cons.mpr ⟨cd_15, List.forall_mem_cons.mpr ⟨cd_16, List.forall_mem_cons.mpr ⟨cd_17, List.forall_mem_cons.mpr ⟨cd_18, List.forall_mem_cons.mpr ⟨cd_19, List.forall_mem_cons.mpr ⟨cd_20, List.forall_mem_cons.mpr ⟨cd_21, List.forall_mem_cons.mpr ⟨cd_22, List.forall_mem_cons.mpr ⟨cd_23, List.forall_mem_cons.mpr ⟨cd_24, List.forall_mem_cons.mpr ⟨cd_25, List.forall_mem_cons.mpr ⟨cd_26, List.forall_mem_cons.mpr ⟨cd_27, List.forall_mem_cons.mpr ⟨cd_28, List.forall_mem_cons.mpr ⟨cd_29, List.forall_mem_cons.mpr ⟨cd_30, List.forall_mem_cons.mpr ⟨cd_31, List.forall_mem_cons.mpr ⟨cd_32, List.forall_mem_cons.mpr ⟨cd_33, List.forall_mem_cons.mpr ⟨cd_34, List.forall_mem_cons.mpr ⟨cd_35, List.forall_mem_cons.mpr ⟨cd_36, List.forall_mem_cons.mpr ⟨cd_37, List.forall_mem_cons.mpr ⟨cd_38, List.forall_mem_cons.mpr ⟨cd_39, List.forall_mem_cons.mpr ⟨cd_40, fun _ h => absurd h List.not_mem_nil⟩⟩⟩⟩⟩⟩⟩⟩⟩⟩⟩⟩⟩⟩⟩⟩⟩⟩⟩⟩⟩⟩⟩⟩⟩⟩⟩⟩⟩⟩⟩⟩⟩⟩⟩⟩⟩⟩⟩⟩⟩
theorem okc_0 : ∀ y ∈ [0, 1, 2, 3, 4, 5, 6, 7, 8, 9, 10, 11, 12, 13, 14, 15, 16, 17, 18, 19, 20, 21, 22, 23, 24, 25, 26, 27, 28, 29, 30, 31, 32, 33, 34, 35, 36, 37, 38, 39, 40], sxG y := List.forall_mem_cons.mpr ⟨ok_0, List.forall_mem_cons.mpr ⟨ok_1, List.forall_mem_cons.mpr ⟨ok_2, List.forall_mem_cons.mpr ⟨ok_3, List.forall_mem_cons.mpr ⟨ok_4, List.forall_mem_cons.mpr ⟨ok_5, List.forall_mem_cons.mpr ⟨ok_6, List.forall_mem_cons.mpr ⟨ok_7, List.forall_mem_cons.mpr ⟨ok_8, List.forall_mem_cons.mpr ⟨ok_9, List.forall_mem_cons.mpr ⟨ok_10, List.forall_mem_cons.mpr ⟨ok_11, List.forall_mem_cons.mpr ⟨ok_12, List.forall_mem_cons.mpr ⟨ok_13, List.forall_mem_cons.mpr ⟨ok_14, List.forall_mem_cons.mpr ⟨ok_15, List.forall_mem_cons.mpr ⟨ok_16, List.forall_mem_cons.mpr ⟨ok_17, List.forall_mem_cons.mpr ⟨ok_18, List.forall_mem_cons.mpr ⟨ok_19, List.forall_mem_cons.mpr ⟨ok_20, List.forall_mem_cons.mpr ⟨ok_21, List.forall_mem_cons.mpr ⟨ok_22, List.forall_mem_cons.mpr ⟨ok_23, List.forall_mem_cons.mpr ⟨ok_24, List.forall_mem_cons.mpr ⟨ok_25, List.forall_mem_cons.mpr ⟨ok_26, List.forall_mem_cons.mpr ⟨ok_27, List.forall_mem_cons.mpr ⟨ok_28, List.forall_mem_cons.mpr ⟨ok_29, List.forall_mem_cons.mpr ⟨ok_30, List.forall_mem_cons.mpr ⟨ok_31, List.forall_mem_cons.mpr ⟨ok_32, List.forall_mem_cons.mpr ⟨ok_33, List.forall_mem_cons.mpr ⟨ok_34, List.forall_mem_cons.mpr ⟨ok_35, List.forall_mem_cons.mpr ⟨ok_36, List.forall_mem_cons.mpr ⟨ok_37, List.forall_mem_cons.mpr ⟨ok_38, List.forall_mem_cons.mpr ⟨ok_39, List.forall_mem_cons.mpr ⟨ok_40, fun _ h => absurd h List.not_mem_nil⟩⟩⟩⟩⟩⟩⟩⟩⟩⟩⟩⟩⟩⟩⟩⟩⟩⟩⟩⟩⟩⟩⟩⟩⟩⟩⟩⟩⟩⟩⟩⟩⟩⟩⟩⟩⟩⟩⟩⟩⟩
theorem mok_0 : ([0, 1, 2, 3, 4, 5, 6, 7, 8, 9, 10, 11, 12, 13, 14, 15, 16, 17, 18, 19, 20, 21, 22, 23, 24, 25, 26, 27, 28, 29, 30, 31, 32, 33, 34, 35, 36, 37, 38, 39, 40] : List Nat).all sxMOk = true := by decide +kernel
