/-! the checks of methods 41 to 92 -/
theorem gd_41 : (List.range 83).all (sxGood 41) = true := by decide +kernel
theorem ok_41 : sxG 41 := sxG_of rfl gd_41
theorem gd_42 : (List.range 20).all (sxGood 42) = true := by decide +kernel
theorem ok_42 : sxG 42 := sxG_of rfl gd_42
theorem gd_43 : (List.range 55).all (sxGood 43) = true := by decide +kernel
theorem ok_43 : sxG 43 := sxG_of rfl gd_43
theorem gd_44 : (List.range 127).all (sxGood 44) = true := by decide +kernel
theorem ok_44 : sxG 44 := sxG_of rfl gd_44
theorem gd_45 : (List.range 34).all (sxGood 45) = true := by decide +kernel
theorem ok_45 : sxG 45 := sxG_of rfl gd_45
theorem gd_46 : (List.range 10).all (sxGood 46) = true := by decide +kernel
theorem ok_46 : sxG 46 := sxG_of rfl gd_46
theorem gd_47 : (List.range 65).all (sxGood 47) = true := by decide +kernel
theorem ok_47 : sxG 47 := sxG_of rfl gd_47
theorem gd_48 : (List.range 24).all (sxGood 48) = true := by decide +kernel
theorem ok_48 : sxG 48 := sxG_of rfl gd_48
theorem gd_49 : (List.range 24).all (sxGood 49) = true := by decide +kernel
theorem ok_49 : sxG 49 := sxG_of rfl gd_49
theorem gd_50 : (List.range 37).all (sxGood 50) = true := by decide +kernel
theorem ok_50 : sxG 50 := sxG_of rfl gd_50
theorem gd_51 : (List.range 31).all (sxGood 51) = true := by decide +kernel
theorem ok_51 : sxG 51 := sxG_of rfl gd_51
theorem gd_52 : (List.range 40).all (sxGood 52) = true := by decide +kernel
theorem ok_52 : sxG 52 := sxG_of rfl gd_52
theorem gd_53 : (List.range 6).all (sxGood 53) = true := by decide +kernel
theorem ok_53 : sxG 53 := sxG_of rfl gd_53
theorem gd_54 : (List.range 29).all (sxGood 54) = true := by decide +kernel
theorem ok_54 : sxG 54 := sxG_of rfl gd_54
theorem gd_55 : (List.range 27).all (sxGood 55) = true := by decide +kernel
theorem ok_55 : sxG 55 := sxG_of rfl gd_55
theorem gd_56 : (List.range 58).all (sxGood 56) = true := by decide +kernel
theorem ok_56 : sxG 56 := sxG_of rfl gd_56
theorem gd_57 : (List.range 31).all (sxGood 57) = true := by decide +kernel
theorem ok_57 : sxG 57 := sxG_of rfl gd_57
theorem gd_58 : (List.range 21).all (sxGood 58) = true := by decide +kernel
theorem ok_58 : sxG 58 := sxG_of rfl gd_58
theorem gd_59 : (List.range 166).all (sxGood 59) = true := by decide +kernel
theorem ok_59 : sxG 59 := sxG_of rfl gd_59
theorem gd_60 : (List.range 108).all (sxGood 60) = true := by decide +kernel
theorem ok_60 : sxG 60 := sxG_of rfl gd_60
theorem gd_61 : (List.range 72).all (sxGood 61) = true := by decide +kernel
theorem ok_61 : sxG 61 := sxG_of rfl gd_61
theorem gd_62 : (List.range 20).all (sxGood 62) = true := by decide +kernel
theorem ok_62 : sxG 62 := sxG_of rfl gd_62
theorem gd_63 : (List.range 76).all (sxGood 63) = true := by decide +kernel
theorem ok_63 : sxG 63 := sxG_of rfl gd_63
theorem gd_64 : (List.range 19).all (sxGood 64) = true := by decide +kernel
theorem ok_64 : sxG 64 := sxG_of rfl gd_64
theorem gd_65 : (List.range 37).all (sxGood 65) = true := by decide +kernel
theorem ok_65 : sxG 65 := sxG_of rfl gd_65
theorem gd_66 : (List.range 179).all (sxGood 66) = true := by decide +kernel
theorem ok_66 : sxG 66 := sxG_of rfl gd_66
theorem gd_67 : (List.range 28).all (sxGood 67) = true := by decide +kernel
theorem ok_67 : sxG 67 := sxG_of rfl gd_67
theorem gd_68 : (List.range 29).all (sxGood 68) = true := by decide +kernel
theorem ok_68 : sxG 68 := sxG_of rfl gd_68
theorem gd_69 : (List.range 137).all (sxGood 69) = true := by decide +kernel
theorem ok_69 : sxG 69 := sxG_of rfl gd_69
theorem gd_70 : (List.range 19).all (sxGood 70) = true := by decide +kernel
theorem ok_70 : sxG 70 := sxG_of rfl gd_70
theorem gd_71 : (List.range 44).all (sxGood 71) = true := by decide +kernel
theorem ok_71 : sxG 71 := sxG_of rfl gd_71
theorem gd_72 : (List.range 15).all (sxGood 72) = true := by decide +kernel
theorem ok_72 : sxG 72 := sxG_of rfl gd_72
theorem gd_73 : (List.range 11).all (sxGood 73) = true := by decide +kernel
theorem ok_73 : sxG 73 := sxG_of rfl gd_73
theorem gd_74 : (List.range 37).all (sxGood 74) = true := by decide +kernel
theorem ok_74 : sxG 74 := sxG_of rfl gd_74
theorem gd_75 : (List.range 79).all (sxGood 75) = true := by decide +kernel
theorem ok_75 : sxG 75 := sxG_of rfl gd_75
theorem gd_76 : (List.range 177).all (sxGood 76) = true := by decide +kernel
theorem ok_76 : sxG 76 := sxG_of rfl gd_76
theorem gd_77 : (List.range 117).all (sxGood 77) = true := by decide +kernel
theorem ok_77 : sxG 77 := sxG_of rfl gd_77
theorem gd_78 : (List.range 58).all (sxGood 78) = true := by decide +kernel
theorem ok_78 : sxG 78 := sxG_of rfl gd_78
theorem gd_79 : (List.range 30).all (sxGood 79) = true := by decide +kernel
theorem ok_79 : sxG 79 := sxG_of rfl gd_79
theorem gd_80 : (List.range 55).all (sxGood 80) = true := by decide +kernel
theorem ok_80 : sxG 80 := sxG_of rfl gd_80
theorem gd_81 : (List.range 103).all (sxGood 81) = true := by decide +kernel
theorem ok_81 : sxG 81 := sxG_of rfl gd_81
theorem gd_82 : (List.range 23).all (sxGood 82) = true := by decide +kernel
theorem ok_82 : sxG 82 := sxG_of rfl gd_82
theorem gd_83 : (List.range 19).all (sxGood 83) = true := by decide +kernel
theorem ok_83 : sxG 83 := sxG_of rfl gd_83
theorem gd_84 : (List.range 24).all (sxGood 84) = true := by decide +kernel
theorem ok_84 : sxG 84 := sxG_of rfl gd_84
theorem gd_85 : (List.range 32).all (sxGood 85) = true := by decide +kernel
theorem ok_85 : sxG 85 := sxG_of rfl gd_85
theorem gd_86 : (List.range 19).all (sxGood 86) = true := by decide +kernel
theorem ok_86 : sxG 86 := sxG_of rfl gd_86
theorem gd_87 : (List.range 20).all (sxGood 87) = true := by decide +kernel
theorem ok_87 : sxG 87 := sxG_of rfl gd_87
theorem gd_88 : (List.range 68).all (sxGood 88) = true := by decide +kernel
theorem ok_88 : sxG 88 := sxG_of rfl gd_88
theorem gd_89 : (List.range 36).all (sxGood 89) = true := by decide +kernel
theorem ok_89 : sxG 89 := sxG_of rfl gd_89
theorem gd_90 : (List.range 101).all (sxGood 90) = true := by decide +kernel
theorem ok_90 : sxG 90 := sxG_of rfl gd_90
theorem gd_91 : (List.range 66).all (sxGood 91) = true := by decide +kernel
theorem ok_91 : sxG 91 := sxG_of rfl gd_91
theorem gd_92 : (List.range 80).all (sxGood 92) = true := by decide +kernel
theorem ok_92 : sxG 92 := sxG_of rfl gd_92
set_option maxRecDepth 100000 in
theorem cd_41 : sxCd 41 := rfl
set_option maxRecDepth 100000 in
theorem cd_42 : sxCd 42 := rfl
set_option maxRecDepth 100000 in
theorem cd_43 : sxCd 43 := rfl
set_option maxRecDepth 100000 in
theorem cd_44 : sxCd 44 := rfl
set_option maxRecDepth 100000 in
theorem cd_45 : sxCd 45 := rfl
set_option maxRecDepth 100000 in
theorem cd_46 : sxCd 46 := rfl
set_option maxRecDepth 100000 in
theorem cd_47 : sxCd 47 := rfl
set_option maxRecDepth 100000 in
theorem cd_48 : sxCd 48 := rfl
set_option maxRecDepth 100000 in
theorem cd_49 : sxCd 49 := rfl
set_option maxRecDepth 100000 in
theorem cd_50 : sxCd 50 := rfl
set_option maxRecDepth 100000 in
theorem cd_51 : sxCd 51 := rfl
set_option maxRecDepth 100000 in
theorem cd_52 : sxCd 52 := rfl
set_option maxRecDepth 100000 in
theorem cd_53 : sxCd 53 := rfl
set_option maxRecDepth 100000 in
theorem cd_54 : sxCd 54 := rfl
set_option maxRecDepth 100000 in
theorem cd_55 : sxCd 55 := rfl
set_option maxRecDepth 100000 in
theorem cd_56 : sxCd 56 := rfl
set_option maxRecDepth 100000 in
theorem cd_57 : sxCd 57 := rfl
set_option maxRecDepth 100000 in
theorem cd_58 : sxCd 58 := rfl
set_option maxRecDepth 100000 in
theorem cd_59 : sxCd 59 := rfl
set_option maxRecDepth 100000 in
theorem cd_60 : sxCd 60 := rfl
set_option maxRecDepth 100000 in
theorem cd_61 : sxCd 61 := rfl
set_option maxRecDepth 100000 in
theorem cd_62 : sxCd 62 := rfl
set_option maxRecDepth 100000 in
theorem cd_63 : sxCd 63 := rfl
set_option maxRecDepth 100000 in
theorem cd_64 : sxCd 64 := rfl
set_option maxRecDepth 100000 in
theorem cd_65 : sxCd 65 := rfl
set_option maxRecDepth 100000 in
theorem cd_66 : sxCd 66 := rfl
set_option maxRecDepth 100000 in
theorem cd_67 : sxCd 67 := rfl
set_option maxRecDepth 100000 in
theorem cd_68 : sxCd 68 := rfl
set_option maxRecDepth 100000 in
theorem cd_69 : sxCd 69 := rfl
set_option maxRecDepth 100000 in
theorem cd_70 : sxCd 70 := rfl
set_option maxRecDepth 100000 in
theorem cd_71 : sxCd 71 := rfl
set_option maxRecDepth 100000 in
theorem cd_72 : sxCd 72 := rfl
set_option maxRecDepth 100000 in
theorem cd_73 : sxCd 73 := rfl
set_option maxRecDepth 100000 in
theorem cd_74 : sxCd 74 := rfl
set_option maxRecDepth 100000 in
theorem cd_75 : sxCd 75 := rfl
set_option maxRecDepth 100000 in
theorem cd_76 : sxCd 76 := rfl
set_option maxRecDepth 100000 in
theorem cd_77 : sxCd 77 := rfl
set_option maxRecDepth 100000 in
theorem cd_78 : sxCd 78 := rfl
set_option maxRecDepth 100000 in
theorem cd_79 : sxCd 79 := rfl
set_option maxRecDepth 100000 in
theorem cd_80 : sxCd 80 := rfl
set_option maxRecDepth 100000 in
theorem cd_81 : sxCd 81 := rfl
set_option maxRecDepth 100000 in
theorem cd_82 : sxCd 82 := rfl
set_option maxRecDepth 100000 in
theorem cd_83 : sxCd 83 := rfl
set_option maxRecDepth 100000 in
theorem cd_84 : sxCd 84 := rfl
set_option maxRecDepth 100000 in
theorem cd_85 : sxCd 85 := rfl
set_option maxRecDepth 100000 in
theorem cd_86 : sxCd 86 := rfl
set_option maxRecDepth 100000 in
theorem cd_87 : sxCd 87 := rfl
set_option maxRecDepth 100000 in
theorem cd_88 : sxCd 88 := rfl
set_option maxRecDepth 100000 in
theorem cd_89 : sxCd 89 := rfl
set_option maxRecDepth 100000 in
theorem cd_90 : sxCd 90 := rfl
set_option maxRecDepth 100000 in
theorem cd_91 : sxCd 91 := rfl
set_option maxRecDepth 100000 in
theorem cd_92 : sxCd 92 := rfl
theorem cdc_1 : ∀ y ∈ [41, 42, 43, 44, 45, 46, 47, 48, 49, 50, 51, 52, 53, 54, 55, 56, 57, 58, 59, 60, 61, 62, 63, 64, 65, 66, 67, 68, 69, 70, 71, 72, 73, 74, 75, 76, 77, 78, 79, 80, 81, 82, 83, 84, 85, 86, 87, 88, 89, 90, 91, 92], sxCd y := List.forall_mem_cons.mpr ⟨cd_41, List.forall_mem_cons.mpr ⟨cd_42, List.forall_mem_cons.mpr ⟨cd_43, List.forall_mem_cons.mpr ⟨cd_44, List.forall_mem_cons.mpr ⟨cd_45, List.forall_mem_cons.mpr ⟨cd_46, List.forall_mem_cons.mpr ⟨cd_47, List.forall_mem_cons.mpr ⟨cd_48, List.forall_mem_cons.mpr ⟨cd_49, List.forall_mem_cons.mpr ⟨cd_50, List.forall_mem_cons.mpr ⟨cd_51, List.forall_mem_cons.mpr ⟨cd_52, List.forall_mem_cons.mpr ⟨cd_53, List.forall_mem_cons.mpr ⟨cd_54, List.forall_mem_cons.mpr ⟨cd_55, List.forall_mem_cons.mpr ⟨cd_56, List.forall_mem_cons.mpr ⟨cd_57, List.forall_mem_cons.mpr ⟨cd_58, List.forall_mem_cons.mpr ⟨cd_59, List.forall_mem_cons.mpr ⟨cd_60, List.forall_mem_cons.mpr ⟨cd_61, List.forall_mem_cons.mpr ⟨cd_62, List.forall_mem_cons.mpr ⟨cd_63, List.forall_mem_cons.mpr ⟨cd_64, List.forall_mem_cons.mpr ⟨cd_65, List.forall_mem_cons.mpr ⟨cd_66, List.forall_mem_cons.mpr ⟨cd_67, List.forall_mem_cons.mpr ⟨cd_68, List.forall_mem_cons.mpr ⟨cd_69, List.forall_mem_cons.mpr ⟨cd_70, List.forall_mem_cons.mpr ⟨cd_71, List.forall_mem_cons.mpr ⟨cd_72, List.forall_mem_cons.mpr ⟨cd_73, List.forall_mem_cons.mpr ⟨cd_74, List.forall_mem_cons.mpr ⟨cd_75, List.forall_mem_cons.mpr ⟨cd_76, List.forall_mem_cons.mpr ⟨cd_77, List.forall_mem_cons.mpr ⟨cd_78, List.forall_mem_cons.mpr ⟨cd_79, List.forall_mem_cons.mpr ⟨cd_80, List.forall_mem_cons.mpr ⟨cd_81, List.forall_mem_cons.mpr ⟨cd_82, List.forall_mem_cons.mpr ⟨cd_83, List.forall_mem_cons.mpr ⟨cd_84, List.forall_mem_cons.mpr ⟨cd_85, List.forall_mem_cons.mpr ⟨cd_86, List.forall_mem_cons.mpr ⟨cd_87, List.forall_mem_cons.mpr ⟨cd_88, List.forall_mem_cons.mpr ⟨cd_89, List.forall_mem_cons.mpr ⟨cd_90, List.forall_mem_cons.mpr ⟨cd_91, List.forall_mem_cons.mpr ⟨cd_92, fun _ h => absurd h List.not_mem_nil⟩⟩⟩⟩⟩⟩⟩⟩⟩⟩⟩⟩⟩⟩⟩⟩⟩⟩⟩⟩⟩⟩⟩⟩⟩⟩⟩⟩⟩⟩⟩⟩⟩⟩⟩⟩⟩⟩⟩⟩⟩⟩⟩⟩⟩⟩⟩⟩⟩⟩⟩⟩
theorem okc_1 : ∀ y ∈ [41, 42, 43, 44, 45, 46, 47, 48, 49, 50, 51, 52, 53, 54, 55, 56, 57, 58, 59, 60, 61, 62, 63, 64, 65, 66, 67, 68, 69, 70, 71, 72, 73, 74, 75, 76, 77, 78, 79, 80, 81, 82, 83, 84, 85, 86, 87, 88, 89, 90, 91, 92], sxG y := List.forall_mem_cons.mpr ⟨ok_41, List.forall_mem_cons.mpr ⟨ok_42, List.forall_mem_cons.mpr ⟨ok_43, List.forall_mem_cons.mpr ⟨ok_44, List.forall_mem_cons.mpr ⟨ok_45, List.forall_mem_cons.mpr ⟨ok_46, List.forall_mem_cons.mpr ⟨ok_47, List.forall_mem_cons.mpr ⟨ok_48, List.forall_mem_cons.mpr ⟨ok_49, List.forall_mem_cons.mpr ⟨ok_50, List.forall_mem_cons.mpr ⟨ok_51, List.forall_mem_cons.mpr ⟨ok_52, List.forall_mem_cons.mpr ⟨ok_53, List.forall_mem_cons.mpr ⟨ok_54, List.forall_mem_cons.mpr ⟨ok_55, List.forall_mem_cons.mpr ⟨ok_56, List.forall_mem_cons.mpr ⟨ok_57, List.forall_mem_cons.mpr ⟨ok_58, List.forall_mem_cons.mpr ⟨ok_59, List.forall_mem_cons.mpr ⟨ok_60, List.forall_mem_cons.mpr ⟨ok_61, List.forall_mem_cons.mpr ⟨ok_62, List.forall_mem_cons.mpr ⟨ok_63, List.forall_mem_cons.mpr ⟨ok_64, List.forall_mem_cons.mpr ⟨ok_65, List.forall_mem_cons.mpr ⟨ok_66, List.forall_mem_cons.mpr ⟨ok_67, List.forall_mem_cons.mpr ⟨ok_68, List.forall_mem_cons.mpr ⟨ok_69, List.forall_mem_cons.mpr ⟨ok_70, List.forall_mem_cons.mpr ⟨ok_71, List.forall_mem_cons.mpr ⟨ok_72, List.forall_mem_cons.mpr ⟨ok_73, List.forall_mem_cons.mpr ⟨ok_74, List.forall_mem_cons.mpr ⟨ok_75, List.forall_mem_cons.mpr ⟨ok_76, List.forall_mem_cons.mpr ⟨ok_77, List.forall_mem_cons.mpr ⟨ok_78, List.forall_mem_cons.mpr ⟨ok_79, List.forall_mem_cons.mpr ⟨ok_80, List.forall_mem_cons.mpr ⟨ok_81, List.forall_mem_cons.mpr ⟨ok_82, List.forall_mem_cons.mpr ⟨ok_83, List.forall_mem_cons.mpr ⟨ok_84, List.forall_mem_cons.mpr ⟨ok_85, List.forall_mem_cons.mpr ⟨ok_86, List.forall_mem_cons.mpr ⟨ok_87, List.forall_mem_cons.mpr ⟨ok_88, List.forall_mem_cons.mpr ⟨ok_89, List.forall_mem_cons.mpr ⟨ok_90, List.forall_mem_cons.mpr ⟨ok_91, List.forall_mem_cons.mpr ⟨ok_92, fun _ h => absurd h List.not_mem_nil⟩⟩⟩⟩⟩⟩⟩⟩⟩⟩⟩⟩⟩⟩⟩⟩⟩⟩⟩⟩⟩⟩⟩⟩⟩⟩⟩⟩⟩⟩⟩⟩⟩⟩⟩⟩⟩⟩⟩⟩⟩⟩⟩⟩⟩⟩⟩⟩⟩⟩⟩⟩
theorem mok_1 : ([41, 42, 43, 44, 45, 46, 47, 48, 49, 50, 51, 52, 53, 54, 55, 56, 57, 58, 59, 60, 61, 62, 63, 64, 65, 66, 67, 68, 69, 70, 71, 72, 73, 74, 75, 76, 77, 78, 79, 80, 81, 82, 83, 84, 85, 86, 87, 88, 89, 90, 91, 92] : List Nat).all sxMOk = true := by decide +kernel
