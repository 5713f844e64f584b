/-! the checks of methods 175 to 205 -/
theorem gd_175 : (List.range 222).all (sxGood 175) = true := by decide +kernel
theorem ok_175 : sxG 175 := sxG_of rfl gd_175
theorem gd_176 : (List.range 57).all (sxGood 176) = true := by decide +kernel
theorem ok_176 : sxG 176 := sxG_of rfl gd_176
theorem gd_177 : (List.range 58).all (sxGood 177) = true := by decide +kernel
theorem ok_177 : sxG 177 := sxG_of rfl gd_177
theorem gd_178 : (List.range 31).all (sxGood 178) = true := by decide +kernel
theorem ok_178 : sxG 178 := sxG_of rfl gd_178
theorem gd_179 : (List.range 258).all (sxGood 179) = true := by decide +kernel
theorem ok_179 : sxG 179 := sxG_of rfl gd_179
theorem gd_180 : (List.range 32).all (sxGood 180) = true := by decide +kernel
theorem ok_180 : sxG 180 := sxG_of rfl gd_180
theorem gd_181 : (List.range 41).all (sxGood 181) = true := by decide +kernel
theorem ok_181 : sxG 181 := sxG_of rfl gd_181
theorem gd_182 : (List.range 73).all (sxGood 182) = true := by decide +kernel
theorem ok_182 : sxG 182 := sxG_of rfl gd_182
theorem gd_183 : (List.range 72).all (sxGood 183) = true := by decide +kernel
theorem ok_183 : sxG 183 := sxG_of rfl gd_183
theorem gd_184 : (List.range 59).all (sxGood 184) = true := by decide +kernel
theorem ok_184 : sxG 184 := sxG_of rfl gd_184
theorem gd_185 : (List.range 94).all (sxGood 185) = true := by decide +kernel
theorem ok_185 : sxG 185 := sxG_of rfl gd_185
theorem gd_186 : (List.range 144).all (sxGood 186) = true := by decide +kernel
theorem ok_186 : sxG 186 := sxG_of rfl gd_186
theorem gd_187 : (List.range 50).all (sxGood 187) = true := by decide +kernel
theorem ok_187 : sxG 187 := sxG_of rfl gd_187
theorem gd_188 : (List.range 25).all (sxGood 188) = true := by decide +kernel
theorem ok_188 : sxG 188 := sxG_of rfl gd_188
theorem gd_189 : (List.range 17).all (sxGood 189) = true := by decide +kernel
theorem ok_189 : sxG 189 := sxG_of rfl gd_189
theorem gd_190 : (List.range 40).all (sxGood 190) = true := by decide +kernel
theorem ok_190 : sxG 190 := sxG_of rfl gd_190
theorem gd_191 : (List.range 31).all (sxGood 191) = true := by decide +kernel
theorem ok_191 : sxG 191 := sxG_of rfl gd_191
theorem gd_192 : (List.range 53).all (sxGood 192) = true := by decide +kernel
theorem ok_192 : sxG 192 := sxG_of rfl gd_192
theorem gd_193 : (List.range 27).all (sxGood 193) = true := by decide +kernel
theorem ok_193 : sxG 193 := sxG_of rfl gd_193
theorem gd_194 : (List.range 79).all (sxGood 194) = true := by decide +kernel
theorem ok_194 : sxG 194 := sxG_of rfl gd_194
theorem gd_195 : (List.range 174).all (sxGood 195) = true := by decide +kernel
theorem ok_195 : sxG 195 := sxG_of rfl gd_195
theorem gd_196 : (List.range 24).all (sxGood 196) = true := by decide +kernel
theorem ok_196 : sxG 196 := sxG_of rfl gd_196
theorem gd_197 : (List.range 169).all (sxGood 197) = true := by decide +kernel
theorem ok_197 : sxG 197 := sxG_of rfl gd_197
theorem gd_198 : (List.range 284).all (sxGood 198) = true := by decide +kernel
theorem ok_198 : sxG 198 := sxG_of rfl gd_198
theorem gd_199 : (List.range 72).all (sxGood 199) = true := by decide +kernel
theorem ok_199 : sxG 199 := sxG_of rfl gd_199
theorem gd_200 : (List.range 75).all (sxGood 200) = true := by decide +kernel
theorem ok_200 : sxG 200 := sxG_of rfl gd_200
theorem gd_201 : (List.range 34).all (sxGood 201) = true := by decide +kernel
theorem ok_201 : sxG 201 := sxG_of rfl gd_201
theorem gd_202 : (List.range 131).all (sxGood 202) = true := by decide +kernel
theorem ok_202 : sxG 202 := sxG_of rfl gd_202
theorem gd_203 : (List.range 27).all (sxGood 203) = true := by decide +kernel
theorem ok_203 : sxG 203 := sxG_of rfl gd_203
theorem gd_204 : (List.range 145).all (sxGood 204) = true := by decide +kernel
theorem ok_204 : sxG 204 := sxG_of rfl gd_204
theorem gd_205 : (List.range 64).all (sxGood 205) = true := by decide +kernel
theorem ok_205 : sxG 205 := sxG_of rfl gd_205
set_option maxRecDepth 100000 in
theorem cd_175 : sxCd 175 := rfl
set_option maxRecDepth 100000 in
theorem cd_176 : sxCd 176 := rfl
set_option maxRecDepth 100000 in
theorem cd_177 : sxCd 177 := rfl
set_option maxRecDepth 100000 in
theorem cd_178 : sxCd 178 := rfl
set_option maxRecDepth 100000 in
theorem cd_179 : sxCd 179 := rfl
set_option maxRecDepth 100000 in
theorem cd_180 : sxCd 180 := rfl
set_option maxRecDepth 100000 in
theorem cd_181 : sxCd 181 := rfl
set_option maxRecDepth 100000 in
theorem cd_182 : sxCd 182 := rfl
set_option maxRecDepth 100000 in
theorem cd_183 : sxCd 183 := rfl
set_option maxRecDepth 100000 in
theorem cd_184 : sxCd 184 := rfl
set_option maxRecDepth 100000 in
theorem cd_185 : sxCd 185 := rfl
set_option maxRecDepth 100000 in
theorem cd_186 : sxCd 186 := rfl
set_option maxRecDepth 100000 in
theorem cd_187 : sxCd 187 := rfl
set_option maxRecDepth 100000 in
theorem cd_188 : sxCd 188 := rfl
set_option maxRecDepth 100000 in
theorem cd_189 : sxCd 189 := rfl
set_option maxRecDepth 100000 in
theorem cd_190 : sxCd 190 := rfl
set_option maxRecDepth 100000 in
theorem cd_191 : sxCd 191 := rfl
set_option maxRecDepth 100000 in
theorem cd_192 : sxCd 192 := rfl
set_option maxRecDepth 100000 in
theorem cd_193 : sxCd 193 := rfl
set_option maxRecDepth 100000 in
theorem cd_194 : sxCd 194 := rfl
set_option maxRecDepth 100000 in
theorem cd_195 : sxCd 195 := rfl
set_option maxRecDepth 100000 in
theorem cd_196 : sxCd 196 := rfl
set_option maxRecDepth 100000 in
theorem cd_197 : sxCd 197 := rfl
set_option maxRecDepth 100000 in
theorem cd_198 : sxCd 198 := rfl
set_option maxRecDepth 100000 in
theorem cd_199 : sxCd 199 := rfl
set_option maxRecDepth 100000 in
theorem cd_200 : sxCd 200 := rfl
set_option maxRecDepth 100000 in
theorem cd_201 : sxCd 201 := rfl
set_option maxRecDepth 100000 in
theorem cd_202 : sxCd 202 := rfl
set_option maxRecDepth 100000 in
theorem cd_203 : sxCd 203 := rfl
set_option maxRecDepth 100000 in
theorem cd_204 : sxCd 204 := rfl
set_option maxRecDepth 100000 in
theorem cd_205 : sxCd 205 := rfl
theorem cdc_4 : ∀ y ∈ [175, 176, 177, 178, 179, 180, 181, 182, 183, 184, 185, 186, 187, 188, 189, 190, 191, 192, 193, 194, 195, 196, 197, 198, 199, 200, 201, 202, 203, 204, 205], sxCd y := List.forall_mem_cons.mpr ⟨cd_175, List.forall_mem_cons.mpr ⟨cd_176, List.forall_mem_cons.mpr ⟨cd_177, List.forall_mem_cons.mpr ⟨cd_178, List.forall_mem_cons.mpr ⟨cd_179, List.forall_mem_cons.mpr ⟨cd_180, List.forall_mem_cons.mpr ⟨cd_181, List.forall_mem_cons.mpr ⟨cd_182, List.forall_mem_cons.mpr ⟨cd_183, List.forall_mem_cons.mpr ⟨cd_184, List.forall_mem_cons.mpr ⟨cd_185, List.forall_mem_cons.mpr ⟨cd_186, List.forall_mem_cons.mpr ⟨cd_187, List.forall_mem_cons.mpr ⟨cd_188, List.forall_mem_cons.mpr ⟨cd_189, List.forall_mem_cons.mpr ⟨cd_190, List.forall_mem_cons.mpr ⟨cd_191, List.forall_mem_cons.mpr ⟨cd_192, List.forall_mem_cons.mpr ⟨cd_193, List.forall_mem_cons.mpr ⟨cd_194, List.forall_mem_cons.mpr ⟨cd_195, List.forall_mem_cons.mpr ⟨cd_196, List.forall_mem_cons.mpr ⟨cd_197, List.forall_mem_cons.mpr ⟨cd_198, List.forall_mem_cons.mpr ⟨cd_199, List.forall_mem_cons.mpr ⟨cd_200, List.forall_mem_cons.mpr ⟨cd_201, List.forall_mem_cons.mpr ⟨cd_202, List.forall_mem_cons.mpr ⟨cd_203, List.forall_mem_cons.mpr ⟨cd_204, List.forall_mem_cons.mpr ⟨cd_205, fun _ h => absurd h List.not_mem_nil⟩⟩⟩⟩⟩⟩⟩⟩⟩⟩⟩⟩⟩⟩⟩⟩⟩⟩⟩⟩⟩⟩⟩⟩⟩⟩⟩⟩⟩⟩⟩
theorem okc_4 : ∀ y ∈ [175, 176, 177, 178, 179, 180, 181, 182, 183, 184, 185, 186, 187, 188, 189, 190, 191, 192, 193, 194, 195, 196, 197, 198, 199, 200, 201, 202, 203, 204, 205], sxG y := List.forall_mem_cons.mpr ⟨ok_175, List.forall_mem_cons.mpr ⟨ok_176, List.forall_mem_cons.mpr ⟨ok_177, List.forall_mem_cons.mpr ⟨ok_178, List.forall_mem_cons.mpr ⟨ok_179, List.forall_mem_cons.mpr ⟨ok_180, List.forall_mem_cons.mpr ⟨ok_181, List.forall_mem_cons.mpr ⟨ok_182, List.forall_mem_cons.mpr ⟨ok_183, List.forall_mem_cons.mpr ⟨ok_184, List.forall_mem_cons.mpr ⟨ok_185, List.forall_mem_cons.mpr ⟨ok_186, List.forall_mem_cons.mpr ⟨ok_187, List.forall_mem_cons.mpr ⟨ok_188, List.forall_mem_cons.mpr ⟨ok_189, List.forall_mem_cons.mpr ⟨ok_190, List.forall_mem_cons.mpr ⟨ok_191, List.forall_mem_cons.mpr ⟨ok_192, List.forall_mem_cons.mpr ⟨ok_193, List.forall_mem_cons.mpr ⟨ok_194, List.forall_mem_cons.mpr ⟨ok_195, List.forall_mem_cons.mpr ⟨ok_196, List.forall_mem_cons.mpr ⟨ok_197, List.forall_mem_cons.mpr ⟨ok_198, List.forall_mem_cons.mpr ⟨ok_199, List.forall_mem_cons.mpr ⟨ok_200, List.forall_mem_cons.mpr ⟨ok_201, List.forall_mem_cons.mpr ⟨ok_202, List.forall_mem_cons.mpr ⟨ok_203, List.forall_mem_cons.mpr ⟨ok_204, List.forall_mem_cons.mpr ⟨ok_205, fun _ h => absurd h List.not_mem_nil⟩⟩⟩⟩⟩⟩⟩⟩⟩⟩⟩⟩⟩⟩⟩⟩⟩⟩⟩⟩⟩⟩⟩⟩⟩⟩⟩⟩⟩⟩⟩
theorem mok_4 : ([175, 176, 177, 178, 179, 180, 181, 182, 183, 184, 185, 186, 187, 188, 189, 190, 191, 192, 193, 194, 195, 196, 197, 198, 199, 200, 201, 202, 203, 204, 205] : List Nat).all sxMOk = true := by decide +kernel
