/-! the checks of methods 93 to 133 -/
theorem gd_93 : (List.range 50).all (sxGood 93) = true := by decide +kernel
theorem ok_93 : sxG 93 := sxG_of rfl gd_93
theorem gd_94 : (List.range 37).all (sxGood 94) = true := by decide +kernel
theorem ok_94 : sxG 94 := sxG_of rfl gd_94
theorem gd_95 : (List.range 33).all (sxGood 95) = true := by decide +kernel
theorem ok_95 : sxG 95 := sxG_of rfl gd_95
theorem gd_96 : (List.range 62).all (sxGood 96) = true := by decide +kernel
theorem ok_96 : sxG 96 := sxG_of rfl gd_96
theorem gd_97 : (List.range 37).all (sxGood 97) = true := by decide +kernel
theorem ok_97 : sxG 97 := sxG_of rfl gd_97
theorem gd_98 : (List.range 71).all (sxGood 98) = true := by decide +kernel
theorem ok_98 : sxG 98 := sxG_of rfl gd_98
theorem gd_99 : (List.range 208).all (sxGood 99) = true := by decide +kernel
theorem ok_99 : sxG 99 := sxG_of rfl gd_99
theorem gd_100 : (List.range 32).all (sxGood 100) = true := by decide +kernel
theorem ok_100 : sxG 100 := sxG_of rfl gd_100
theorem gd_101 : (List.range 88).all (sxGood 101) = true := by decide +kernel
theorem ok_101 : sxG 101 := sxG_of rfl gd_101
theorem gd_102 : (List.range 105).all (sxGood 102) = true := by decide +kernel
theorem ok_102 : sxG 102 := sxG_of rfl gd_102
theorem gd_103 : (List.range 88).all (sxGood 103) = true := by decide +kernel
theorem ok_103 : sxG 103 := sxG_of rfl gd_103
theorem gd_104 : (List.range 201).all (sxGood 104) = true := by decide +kernel
theorem ok_104 : sxG 104 := sxG_of rfl gd_104
theorem gd_105 : (List.range 55).all (sxGood 105) = true := by decide +kernel
theorem ok_105 : sxG 105 := sxG_of rfl gd_105
theorem gd_106 : (List.range 117).all (sxGood 106) = true := by decide +kernel
theorem ok_106 : sxG 106 := sxG_of rfl gd_106
theorem gd_107 : (List.range 53).all (sxGood 107) = true := by decide +kernel
theorem ok_107 : sxG 107 := sxG_of rfl gd_107
theorem gd_108 : (List.range 76).all (sxGood 108) = true := by decide +kernel
theorem ok_108 : sxG 108 := sxG_of rfl gd_108
theorem gd_109 : (List.range 96).all (sxGood 109) = true := by decide +kernel
theorem ok_109 : sxG 109 := sxG_of rfl gd_109
theorem gd_110 : (List.range 115).all (sxGood 110) = true := by decide +kernel
theorem ok_110 : sxG 110 := sxG_of rfl gd_110
theorem gd_111 : (List.range 42).all (sxGood 111) = true := by decide +kernel
theorem ok_111 : sxG 111 := sxG_of rfl gd_111
theorem gd_112 : (List.range 56).all (sxGood 112) = true := by decide +kernel
theorem ok_112 : sxG 112 := sxG_of rfl gd_112
theorem gd_113 : (List.range 55).all (sxGood 113) = true := by decide +kernel
theorem ok_113 : sxG 113 := sxG_of rfl gd_113
theorem gd_114 : (List.range 66).all (sxGood 114) = true := by decide +kernel
theorem ok_114 : sxG 114 := sxG_of rfl gd_114
theorem gd_115 : (List.range 97).all (sxGood 115) = true := by decide +kernel
theorem ok_115 : sxG 115 := sxG_of rfl gd_115
theorem gd_116 : (List.range 72).all (sxGood 116) = true := by decide +kernel
theorem ok_116 : sxG 116 := sxG_of rfl gd_116
theorem gd_117 : (List.range 42).all (sxGood 117) = true := by decide +kernel
theorem ok_117 : sxG 117 := sxG_of rfl gd_117
theorem gd_118 : (List.range 55).all (sxGood 118) = true := by decide +kernel
theorem ok_118 : sxG 118 := sxG_of rfl gd_118
theorem gd_119 : (List.range 147).all (sxGood 119) = true := by decide +kernel
theorem ok_119 : sxG 119 := sxG_of rfl gd_119
theorem gd_120 : (List.range 36).all (sxGood 120) = true := by decide +kernel
theorem ok_120 : sxG 120 := sxG_of rfl gd_120
theorem gd_121 : (List.range 91).all (sxGood 121) = true := by decide +kernel
theorem ok_121 : sxG 121 := sxG_of rfl gd_121
theorem gd_122 : (List.range 98).all (sxGood 122) = true := by decide +kernel
theorem ok_122 : sxG 122 := sxG_of rfl gd_122
theorem gd_123 : (List.range 115).all (sxGood 123) = true := by decide +kernel
theorem ok_123 : sxG 123 := sxG_of rfl gd_123
theorem gd_124 : (List.range 62).all (sxGood 124) = true := by decide +kernel
theorem ok_124 : sxG 124 := sxG_of rfl gd_124
theorem gd_125 : (List.range 66).all (sxGood 125) = true := by decide +kernel
theorem ok_125 : sxG 125 := sxG_of rfl gd_125
theorem gd_126 : (List.range 65).all (sxGood 126) = true := by decide +kernel
theorem ok_126 : sxG 126 := sxG_of rfl gd_126
theorem gd_127 : (List.range 116).all (sxGood 127) = true := by decide +kernel
theorem ok_127 : sxG 127 := sxG_of rfl gd_127
theorem gd_128 : (List.range 27).all (sxGood 128) = true := by decide +kernel
theorem ok_128 : sxG 128 := sxG_of rfl gd_128
theorem gd_129 : (List.range 32).all (sxGood 129) = true := by decide +kernel
theorem ok_129 : sxG 129 := sxG_of rfl gd_129
theorem gd_130 : (List.range 76).all (sxGood 130) = true := by decide +kernel
theorem ok_130 : sxG 130 := sxG_of rfl gd_130
theorem gd_131 : (List.range 65).all (sxGood 131) = true := by decide +kernel
theorem ok_131 : sxG 131 := sxG_of rfl gd_131
theorem gd_132 : (List.range 54).all (sxGood 132) = true := by decide +kernel
theorem ok_132 : sxG 132 := sxG_of rfl gd_132
theorem gd_133 : (List.range 35).all (sxGood 133) = true := by decide +kernel
theorem ok_133 : sxG 133 := sxG_of rfl gd_133
set_option maxRecDepth 100000 in
theorem cd_93 : sxCd 93 := rfl
set_option maxRecDepth 100000 in
theorem cd_94 : sxCd 94 := rfl
set_option maxRecDepth 100000 in
theorem cd_95 : sxCd 95 := rfl
set_option maxRecDepth 100000 in
theorem cd_96 : sxCd 96 := rfl
set_option maxRecDepth 100000 in
theorem cd_97 : sxCd 97 := rfl
set_option maxRecDepth 100000 in
theorem cd_98 : sxCd 98 := rfl
set_option maxRecDepth 100000 in
theorem cd_99 : sxCd 99 := rfl
set_option maxRecDepth 100000 in
theorem cd_100 : sxCd 100 := rfl
set_option maxRecDepth 100000 in
theorem cd_101 : sxCd 101 := rfl
set_option maxRecDepth 100000 in
theorem cd_102 : sxCd 102 := rfl
set_option maxRecDepth 100000 in
theorem cd_103 : sxCd 103 := rfl
set_option maxRecDepth 100000 in
theorem cd_104 : sxCd 104 := rfl
set_option maxRecDepth 100000 in
theorem cd_105 : sxCd 105 := rfl
set_option maxRecDepth 100000 in
theorem cd_106 : sxCd 106 := rfl
set_option maxRecDepth 100000 in
theorem cd_107 : sxCd 107 := rfl
set_option maxRecDepth 100000 in
theorem cd_108 : sxCd 108 := rfl
set_option maxRecDepth 100000 in
theorem cd_109 : sxCd 109 := rfl
set_option maxRecDepth 100000 in
theorem cd_110 : sxCd 110 := rfl
set_option maxRecDepth 100000 in
theorem cd_111 : sxCd 111 := rfl
set_option maxRecDepth 100000 in
theorem cd_112 : sxCd 112 := rfl
set_option maxRecDepth 100000 in
theorem cd_113 : sxCd 113 := rfl
set_option maxRecDepth 100000 in
theorem cd_114 : sxCd 114 := rfl
set_option maxRecDepth 100000 in
theorem cd_115 : sxCd 115 := rfl
set_option maxRecDepth 100000 in
theorem cd_116 : sxCd 116 := rfl
set_option maxRecDepth 100000 in
theorem cd_117 : sxCd 117 := rfl
set_option maxRecDepth 100000 in
theorem cd_118 : sxCd 118 := rfl
set_option maxRecDepth 100000 in
theorem cd_119 : sxCd 119 := rfl
set_option maxRecDepth 100000 in
theorem cd_120 : sxCd 120 := rfl
set_option maxRecDepth 100000 in
theorem cd_121 : sxCd 121 := rfl
set_option maxRecDepth 100000 in
theorem cd_122 : sxCd 122 := rfl
set_option maxRecDepth 100000 in
theorem cd_123 : sxCd 123 := rfl
set_option maxRecDepth 100000 in
theorem cd_124 : sxCd 124 := rfl
set_option maxRecDepth 100000 in
theorem cd_125 : sxCd 125 := rfl
set_option maxRecDepth 100000 in
theorem cd_126 : sxCd 126 := rfl
set_option maxRecDepth 100000 in
theorem cd_127 : sxCd 127 := rfl
set_option maxRecDepth 100000 in
theorem cd_128 : sxCd 128 := rfl
set_option maxRecDepth 100000 in
theorem cd_129 : sxCd 129 := rfl
set_option maxRecDepth 100000 in
theorem cd_130 : sxCd 130 := rfl
set_option maxRecDepth 100000 in
theorem cd_131 : sxCd 131 := rfl
set_option maxRecDepth 100000 in
theorem cd_132 : sxCd 132 := rfl
set_option maxRecDepth 100000 in
theorem cd_133 : sxCd 133 := rfl
theorem cdc_2 : ∀ y ∈ [93, 94, 95, 96, 97, 98, 99, 100, 101, 102, 103, 104, 105, 106, 107, 108, 109, 110, 111, 112, 113, 114, 115, 116, 117, 118, 119, 120, 121, 122, 123, 124, 125, 126, 127, 128, 129, 130, 131, 132, 133], sxCd y := List.forall_mem_cons.mpr ⟨cd_93, List.forall_mem_cons.mpr ⟨cd_94, List.forall_mem_cons.mpr ⟨cd_95, List.forall_mem_cons.mpr ⟨cd_96, List.forall_mem_cons.mpr ⟨cd_97, List.forall_mem_cons.mpr ⟨cd_98, List.forall_mem_cons.mpr ⟨cd_99, List.forall_mem_cons.mpr ⟨cd_100, List.forall_mem_cons.mpr ⟨cd_101, List.forall_mem_cons.mpr ⟨cd_102, List.forall_mem_cons.mpr ⟨cd_103, List.forall_mem_cons.mpr ⟨cd_104, List.forall_mem_cons.mpr ⟨cd_105, List.forall_mem_cons.mpr ⟨cd_106, List.forall_mem_cons.mpr ⟨cd_107, List.forall_mem_cons.mpr ⟨cd_108, List.forall_mem_cons.mpr ⟨cd_109, List.forall_mem_cons.mpr ⟨cd_110, List.forall_mem_cons.mpr ⟨cd_111, List.forall_mem_cons.mpr ⟨cd_112, List.forall_mem_cons.mpr ⟨cd_113, List.forall_mem_cons.mpr ⟨cd_114, List.forall_mem_cons.mpr ⟨cd_115, List.forall_mem_cons.mpr ⟨cd_116, List.forall_mem_cons.mpr ⟨cd_117, List.forall_mem_cons.mpr ⟨cd_118, List.forall_mem_cons.mpr ⟨cd_119, List.forall_mem_cons.mpr ⟨cd_120, List.forall_mem_cons.mpr ⟨cd_121, List.forall_mem_cons.mpr ⟨cd_122, List.forall_mem_cons.mpr ⟨cd_123, List.forall_mem_cons.mpr ⟨cd_124, List.forall_mem_cons.mpr ⟨cd_125, List.forall_mem_cons.mpr ⟨cd_126, List.forall_mem_cons.mpr ⟨cd_127, List.forall_mem_cons.mpr ⟨cd_128, List.forall_mem_cons.mpr ⟨cd_129, List.forall_mem_cons.mpr ⟨cd_130, List.forall_mem_cons.mpr ⟨cd_131, List.forall_mem_cons.mpr ⟨cd_132, List.forall_mem_cons.mpr ⟨cd_133, fun _ h => absurd h List.not_mem_nil⟩⟩⟩⟩⟩⟩⟩⟩⟩⟩⟩⟩⟩⟩⟩⟩⟩⟩⟩⟩⟩⟩⟩⟩⟩⟩⟩⟩⟩⟩⟩⟩⟩⟩⟩⟩⟩⟩⟩⟩⟩
theorem okc_2 : ∀ y ∈ [93, 94, 95, 96, 97, 98, 99, 100, 101, 102, 103, 104, 105, 106, 107, 108, 109, 110, 111, 112, 113, 114, 115, 116, 117, 118, 119, 120, 121, 122, 123, 124, 125, 126, 127, 128, 129, 130, 131, 132, 133], sxG y := List.forall_mem_cons.mpr ⟨ok_93, List.forall_mem_cons.mpr ⟨ok_94, List.forall_mem_cons.mpr ⟨ok_95, List.forall_mem_cons.mpr ⟨ok_96, List.forall_mem_cons.mpr ⟨ok_97, List.forall_mem_cons.mpr ⟨ok_98, List.forall_mem_cons.mpr ⟨ok_99, List.forall_mem_cons.mpr ⟨ok_100, List.forall_mem_cons.mpr ⟨ok_101, List.forall_mem_cons.mpr ⟨ok_102, List.forall_mem_cons.mpr ⟨ok_103, List.forall_mem_cons.mpr ⟨ok_104, List.forall_mem_cons.mpr ⟨ok_105, List.forall_mem_cons.mpr ⟨ok_106, List.forall_mem_cons.mpr ⟨ok_107, List.forall_mem_cons.mpr ⟨ok_108, List.forall_mem_cons.mpr ⟨ok_109, List.forall_mem_cons.mpr ⟨ok_110, List.forall_mem_cons.mpr ⟨ok_111, List.forall_mem_cons.mpr ⟨ok_112, List.forall_mem_cons.mpr ⟨ok_113, List.forall_mem_cons.mpr ⟨ok_114, List.forall_mem_cons.mpr ⟨ok_115, List.forall_mem_cons.mpr ⟨ok_116, List.forall_mem_cons.mpr ⟨ok_117, List.forall_mem_cons.mpr ⟨ok_118, List.forall_mem_cons.mpr ⟨ok_119, List.forall_mem_cons.mpr ⟨ok_120, List.forall_mem_cons.mpr ⟨ok_121, List.forall_mem_cons.mpr ⟨ok_122, List.forall_mem_cons.mpr ⟨ok_123, List.forall_mem_cons.mpr ⟨ok_124, List.forall_mem_cons.mpr ⟨ok_125, List.forall_mem_cons.mpr ⟨ok_126, List.forall_mem_cons.mpr ⟨ok_127, List.forall_mem_cons.mpr ⟨ok_128, List.forall_mem_cons.mpr ⟨ok_129, List.forall_mem_cons.mpr ⟨ok_130, List.forall_mem_cons.mpr ⟨ok_131, List.forall_mem_cons.mpr ⟨ok_132, List.forall_mem_cons.mpr ⟨ok_133, fun _ h => absurd h List.not_mem_nil⟩⟩⟩⟩⟩⟩⟩⟩⟩⟩⟩⟩⟩⟩⟩⟩⟩⟩⟩⟩⟩⟩⟩⟩⟩⟩⟩⟩⟩⟩⟩⟩⟩⟩⟩⟩⟩⟩⟩⟩⟩
theorem mok_2 : ([93, 94, 95, 96, 97, 98, 99, 100, 101, 102, 103, 104, 105, 106, 107, 108, 109, 110, 111, 112, 113, 114, 115, 116, 117, 118, 119, 120, 121, 122, 123, 124, 125, 126, 127, 128, 129, 130, 131, 132, 133] : List Nat).all sxMOk = true := by decide +kernel
