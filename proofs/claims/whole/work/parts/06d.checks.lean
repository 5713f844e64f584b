/-! the checks of methods 134 to 174 -/
theorem gd_134 : (List.range 110).all (sxGood 134) = true := by decide +kernel
theorem ok_134 : sxG 134 := sxG_of rfl gd_134
theorem gd_135 : (List.range 16).all (sxGood 135) = true := by decide +kernel
theorem ok_135 : sxG 135 := sxG_of rfl gd_135
theorem gd_136 : (List.range 15).all (sxGood 136) = true := by decide +kernel
theorem ok_136 : sxG 136 := sxG_of rfl gd_136
theorem gd_137 : (List.range 10).all (sxGood 137) = true := by decide +kernel
theorem ok_137 : sxG 137 := sxG_of rfl gd_137
theorem gd_138 : (List.range 201).all (sxGood 138) = true := by decide +kernel
theorem ok_138 : sxG 138 := sxG_of rfl gd_138
theorem gd_139 : (List.range 16).all (sxGood 139) = true := by decide +kernel
theorem ok_139 : sxG 139 := sxG_of rfl gd_139
theorem gd_140 : (List.range 8).all (sxGood 140) = true := by decide +kernel
theorem ok_140 : sxG 140 := sxG_of rfl gd_140
theorem gd_141 : (List.range 8).all (sxGood 141) = true := by decide +kernel
theorem ok_141 : sxG 141 := sxG_of rfl gd_141
theorem gd_142 : (List.range 19).all (sxGood 142) = true := by decide +kernel
theorem ok_142 : sxG 142 := sxG_of rfl gd_142
theorem gd_143 : (List.range 37).all (sxGood 143) = true := by decide +kernel
theorem ok_143 : sxG 143 := sxG_of rfl gd_143
theorem gd_144 : (List.range 14).all (sxGood 144) = true := by decide +kernel
theorem ok_144 : sxG 144 := sxG_of rfl gd_144
theorem gd_145 : (List.range 12).all (sxGood 145) = true := by decide +kernel
theorem ok_145 : sxG 145 := sxG_of rfl gd_145
theorem gd_146 : (List.range 34).all (sxGood 146) = true := by decide +kernel
theorem ok_146 : sxG 146 := sxG_of rfl gd_146
theorem gd_147 : (List.range 41).all (sxGood 147) = true := by decide +kernel
theorem ok_147 : sxG 147 := sxG_of rfl gd_147
theorem gd_148 : (List.range 114).all (sxGood 148) = true := by decide +kernel
theorem ok_148 : sxG 148 := sxG_of rfl gd_148
theorem gd_149 : (List.range 33).all (sxGood 149) = true := by decide +kernel
theorem ok_149 : sxG 149 := sxG_of rfl gd_149
theorem gd_150 : (List.range 19).all (sxGood 150) = true := by decide +kernel
theorem ok_150 : sxG 150 := sxG_of rfl gd_150
theorem gd_151 : (List.range 90).all (sxGood 151) = true := by decide +kernel
theorem ok_151 : sxG 151 := sxG_of rfl gd_151
theorem gd_152 : (List.range 52).all (sxGood 152) = true := by decide +kernel
theorem ok_152 : sxG 152 := sxG_of rfl gd_152
theorem gd_153 : (List.range 54).all (sxGood 153) = true := by decide +kernel
theorem ok_153 : sxG 153 := sxG_of rfl gd_153
theorem gd_154 : (List.range 75).all (sxGood 154) = true := by decide +kernel
theorem ok_154 : sxG 154 := sxG_of rfl gd_154
theorem gd_155 : (List.range 294).all (sxGood 155) = true := by decide +kernel
theorem ok_155 : sxG 155 := sxG_of rfl gd_155
theorem gd_156 : (List.range 22).all (sxGood 156) = true := by decide +kernel
theorem ok_156 : sxG 156 := sxG_of rfl gd_156
theorem gd_157 : (List.range 80).all (sxGood 157) = true := by decide +kernel
theorem ok_157 : sxG 157 := sxG_of rfl gd_157
theorem gd_158 : (List.range 20).all (sxGood 158) = true := by decide +kernel
theorem ok_158 : sxG 158 := sxG_of rfl gd_158
theorem gd_159 : (List.range 21).all (sxGood 159) = true := by decide +kernel
theorem ok_159 : sxG 159 := sxG_of rfl gd_159
theorem gd_160 : (List.range 21).all (sxGood 160) = true := by decide +kernel
theorem ok_160 : sxG 160 := sxG_of rfl gd_160
theorem gd_161 : (List.range 21).all (sxGood 161) = true := by decide +kernel
theorem ok_161 : sxG 161 := sxG_of rfl gd_161
theorem gd_162 : (List.range 15).all (sxGood 162) = true := by decide +kernel
theorem ok_162 : sxG 162 := sxG_of rfl gd_162
theorem gd_163 : (List.range 15).all (sxGood 163) = true := by decide +kernel
theorem ok_163 : sxG 163 := sxG_of rfl gd_163
theorem gd_164 : (List.range 22).all (sxGood 164) = true := by decide +kernel
theorem ok_164 : sxG 164 := sxG_of rfl gd_164
theorem gd_165 : (List.range 42).all (sxGood 165) = true := by decide +kernel
theorem ok_165 : sxG 165 := sxG_of rfl gd_165
theorem gd_166 : (List.range 60).all (sxGood 166) = true := by decide +kernel
theorem ok_166 : sxG 166 := sxG_of rfl gd_166
theorem gd_167 : (List.range 177).all (sxGood 167) = true := by decide +kernel
theorem ok_167 : sxG 167 := sxG_of rfl gd_167
theorem gd_168 : (List.range 165).all (sxGood 168) = true := by decide +kernel
theorem ok_168 : sxG 168 := sxG_of rfl gd_168
theorem gd_169 : (List.range 77).all (sxGood 169) = true := by decide +kernel
theorem ok_169 : sxG 169 := sxG_of rfl gd_169
theorem gd_170 : (List.range 135).all (sxGood 170) = true := by decide +kernel
theorem ok_170 : sxG 170 := sxG_of rfl gd_170
theorem gd_171 : (List.range 79).all (sxGood 171) = true := by decide +kernel
theorem ok_171 : sxG 171 := sxG_of rfl gd_171
theorem gd_172 : (List.range 111).all (sxGood 172) = true := by decide +kernel
theorem ok_172 : sxG 172 := sxG_of rfl gd_172
theorem gd_173 : (List.range 108).all (sxGood 173) = true := by decide +kernel
theorem ok_173 : sxG 173 := sxG_of rfl gd_173
theorem gd_174 : (List.range 68).all (sxGood 174) = true := by decide +kernel
theorem ok_174 : sxG 174 := sxG_of rfl gd_174
set_option maxRecDepth 100000 in
theorem cd_134 : sxCd 134 := rfl
set_option maxRecDepth 100000 in
theorem cd_135 : sxCd 135 := rfl
set_option maxRecDepth 100000 in
theorem cd_136 : sxCd 136 := rfl
set_option maxRecDepth 100000 in
theorem cd_137 : sxCd 137 := rfl
set_option maxRecDepth 100000 in
theorem cd_138 : sxCd 138 := rfl
set_option maxRecDepth 100000 in
theorem cd_139 : sxCd 139 := rfl
set_option maxRecDepth 100000 in
theorem cd_140 : sxCd 140 := rfl
set_option maxRecDepth 100000 in
theorem cd_141 : sxCd 141 := rfl
set_option maxRecDepth 100000 in
theorem cd_142 : sxCd 142 := rfl
set_option maxRecDepth 100000 in
theorem cd_143 : sxCd 143 := rfl
set_option maxRecDepth 100000 in
theorem cd_144 : sxCd 144 := rfl
set_option maxRecDepth 100000 in
theorem cd_145 : sxCd 145 := rfl
set_option maxRecDepth 100000 in
theorem cd_146 : sxCd 146 := rfl
set_option maxRecDepth 100000 in
theorem cd_147 : sxCd 147 := rfl
set_option maxRecDepth 100000 in
theorem cd_148 : sxCd 148 := rfl
set_option maxRecDepth 100000 in
theorem cd_149 : sxCd 149 := rfl
set_option maxRecDepth 100000 in
theorem cd_150 : sxCd 150 := rfl
set_option maxRecDepth 100000 in
theorem cd_151 : sxCd 151 := rfl
set_option maxRecDepth 100000 in
theorem cd_152 : sxCd 152 := rfl
set_option maxRecDepth 100000 in
theorem cd_153 : sxCd 153 := rfl
set_option maxRecDepth 100000 in
theorem cd_154 : sxCd 154 := rfl
set_option maxRecDepth 100000 in
theorem cd_155 : sxCd 155 := rfl
set_option maxRecDepth 100000 in
theorem cd_156 : sxCd 156 := rfl
set_option maxRecDepth 100000 in
theorem cd_157 : sxCd 157 := rfl
set_option maxRecDepth 100000 in
theorem cd_158 : sxCd 158 := rfl
set_option maxRecDepth 100000 in
theorem cd_159 : sxCd 159 := rfl
set_option maxRecDepth 100000 in
theorem cd_160 : sxCd 160 := rfl
set_option maxRecDepth 100000 in
theorem cd_161 : sxCd 161 := rfl
set_option maxRecDepth 100000 in
theorem cd_162 : sxCd 162 := rfl
set_option maxRecDepth 100000 in
theorem cd_163 : sxCd 163 := rfl
set_option maxRecDepth 100000 in
theorem cd_164 : sxCd 164 := rfl
set_option maxRecDepth 100000 in
theorem cd_165 : sxCd 165 := rfl
set_option maxRecDepth 100000 in
theorem cd_166 : sxCd 166 := rfl
set_option maxRecDepth 100000 in
theorem cd_167 : sxCd 167 := rfl
set_option maxRecDepth 100000 in
theorem cd_168 : sxCd 168 := rfl
set_option maxRecDepth 100000 in
theorem cd_169 : sxCd 169 := rfl
set_option maxRecDepth 100000 in
theorem cd_170 : sxCd 170 := rfl
set_option maxRecDepth 100000 in
theorem cd_171 : sxCd 171 := rfl
set_option maxRecDepth 100000 in
theorem cd_172 : sxCd 172 := rfl
set_option maxRecDepth 100000 in
theorem cd_173 : sxCd 173 := rfl
set_option maxRecDepth 100000 in
theorem cd_174 : sxCd 174 := rfl
theorem cdc_3 : ∀ y ∈ [134, 135, 136, 137, 138, 139, 140, 141, 142, 143, 144, 145, 146, 147, 148, 149, 150, 151, 152, 153, 154, 155, 156, 157, 158, 159, 160, 161, 162, 163, 164, 165, 166, 167, 168, 169, 170, 171, 172, 173, 174], sxCd y := List.forall_mem_cons.mpr ⟨cd_134, List.forall_mem_cons.mpr ⟨cd_135, List.forall_mem_cons.mpr ⟨cd_136, List.forall_mem_cons.mpr ⟨cd_137, List.forall_mem_cons.mpr ⟨cd_138, List.forall_mem_cons.mpr ⟨cd_139, List.forall_mem_cons.mpr ⟨cd_140, List.forall_mem_cons.mpr ⟨cd_141, List.forall_mem_cons.mpr ⟨cd_142, List.forall_mem_cons.mpr ⟨cd_143, List.forall_mem_cons.mpr ⟨cd_144, List.forall_mem_cons.mpr ⟨cd_145, List.forall_mem_cons.mpr ⟨cd_146, List.forall_mem_cons.mpr ⟨cd_147, List.forall_mem_cons.mpr ⟨cd_148, List.forall_mem_cons.mpr ⟨cd_149, List.forall_mem_cons.mpr ⟨cd_150, List.forall_mem_cons.mpr ⟨cd_151, List.forall_mem_cons.mpr ⟨cd_152, List.forall_mem_cons.mpr ⟨cd_153, List.forall_mem_cons.mpr ⟨cd_154, List.forall_mem_cons.mpr ⟨cd_155, List.forall_mem_cons.mpr ⟨cd_156, List.forall_mem_cons.mpr ⟨cd_157, List.forall_mem_cons.mpr ⟨cd_158, List.forall_mem_cons.mpr ⟨cd_159, List.forall_mem_cons.mpr ⟨cd_160, List.forall_mem_cons.mpr ⟨cd_161, List.forall_mem_cons.mpr ⟨cd_162, List.forall_mem_cons.mpr ⟨cd_163, List.forall_mem_cons.mpr ⟨cd_164, List.forall_mem_cons.mpr ⟨cd_165, List.forall_mem_cons.mpr ⟨cd_166, List.forall_mem_cons.mpr ⟨cd_167, List.forall_mem_cons.mpr ⟨cd_168, List.forall_mem_cons.mpr ⟨cd_169, List.forall_mem_cons.mpr ⟨cd_170, List.forall_mem_cons.mpr ⟨cd_171, List.forall_mem_cons.mpr ⟨cd_172, List.forall_mem_cons.mpr ⟨cd_173, List.forall_mem_cons.mpr ⟨cd_174, fun _ h => absurd h List.not_mem_nil⟩⟩⟩⟩⟩⟩⟩⟩⟩⟩⟩⟩⟩⟩⟩⟩⟩⟩⟩⟩⟩⟩⟩⟩⟩⟩⟩⟩⟩⟩⟩⟩⟩⟩⟩⟩⟩⟩⟩⟩⟩
theorem okc_3 : ∀ y ∈ [134, 135, 136, 137, 138, 139, 140, 141, 142, 143, 144, 145, 146, 147, 148, 149, 150, 151, 152, 153, 154, 155, 156, 157, 158, 159, 160, 161, 162, 163, 164, 165, 166, 167, 168, 169, 170, 171, 172, 173, 174], sxG y := List.forall_mem_cons.mpr ⟨ok_134, List.forall_mem_cons.mpr ⟨ok_135, List.forall_mem_cons.mpr ⟨ok_136, List.forall_mem_cons.mpr ⟨ok_137, List.forall_mem_cons.mpr ⟨ok_138, List.forall_mem_cons.mpr ⟨ok_139, List.forall_mem_cons.mpr ⟨ok_140, List.forall_mem_cons.mpr ⟨ok_141, List.forall_mem_cons.mpr ⟨ok_142, List.forall_mem_cons.mpr ⟨ok_143, List.forall_mem_cons.mpr ⟨ok_144, List.forall_mem_cons.mpr ⟨ok_145, List.forall_mem_cons.mpr ⟨ok_146, List.forall_mem_cons.mpr ⟨ok_147, List.forall_mem_cons.mpr ⟨ok_148, List.forall_mem_cons.mpr ⟨ok_149, List.forall_mem_cons.mpr ⟨ok_150, List.forall_mem_cons.mpr ⟨ok_151, List.forall_mem_cons.mpr ⟨ok_152, List.forall_mem_cons.mpr ⟨ok_153, List.forall_mem_cons.mpr ⟨ok_154, List.forall_mem_cons.mpr ⟨ok_155, List.forall_mem_cons.mpr ⟨ok_156, List.forall_mem_cons.mpr ⟨ok_157, List.forall_mem_cons.mpr ⟨ok_158, List.forall_mem_cons.mpr ⟨ok_159, List.forall_mem_cons.mpr ⟨ok_160, List.forall_mem_cons.mpr ⟨ok_161, List.forall_mem_cons.mpr ⟨ok_162, List.forall_mem_cons.mpr ⟨ok_163, List.forall_mem_cons.mpr ⟨ok_164, List.forall_mem_cons.mpr ⟨ok_165, List.forall_mem_cons.mpr ⟨ok_166, List.forall_mem_cons.mpr ⟨ok_167, List.forall_mem_cons.mpr ⟨ok_168, List.forall_mem_cons.mpr ⟨ok_169, List.forall_mem_cons.mpr ⟨ok_170, List.forall_mem_cons.mpr ⟨ok_171, List.forall_mem_cons.mpr ⟨ok_172, List.forall_mem_cons.mpr ⟨ok_173, List.forall_mem_cons.mpr ⟨ok_174, fun _ h => absurd h List.not_mem_nil⟩⟩⟩⟩⟩⟩⟩⟩⟩⟩⟩⟩⟩⟩⟩⟩⟩⟩⟩⟩⟩⟩⟩⟩⟩⟩⟩⟩⟩⟩⟩⟩⟩⟩⟩⟩⟩⟩⟩⟩⟩
theorem mok_3 : ([134, 135, 136, 137, 138, 139, 140, 141, 142, 143, 144, 145, 146, 147, 148, 149, 150, 151, 152, 153, 154, 155, 156, 157, 158, 159, 160, 161, 162, 163, 164, 165, 166, 167, 168, 169, 170, 171, 172, 173, 174] : List Nat).all sxMOk = true := by decide +kernel
