/-! the checks of methods 206 to 245 -/
theorem gd_206 : (List.range 81).all (sxGood 206) = true := by decide +kernel
theorem ok_206 : sxG 206 := sxG_of rfl gd_206
theorem gd_207 : (List.range 233).all (sxGood 207) = true := by decide +kernel
theorem ok_207 : sxG 207 := sxG_of rfl gd_207
theorem gd_208 : (List.range 11).all (sxGood 208) = true := by decide +kernel
theorem ok_208 : sxG 208 := sxG_of rfl gd_208
theorem gd_209 : (List.range 118).all (sxGood 209) = true := by decide +kernel
theorem ok_209 : sxG 209 := sxG_of rfl gd_209
theorem gd_210 : (List.range 169).all (sxGood 210) = true := by decide +kernel
theorem ok_210 : sxG 210 := sxG_of rfl gd_210
theorem gd_211 : (List.range 61).all (sxGood 211) = true := by decide +kernel
theorem ok_211 : sxG 211 := sxG_of rfl gd_211
theorem gd_212 : (List.range 7).all (sxGood 212) = true := by decide +kernel
theorem ok_212 : sxG 212 := sxG_of rfl gd_212
theorem gd_213 : (List.range 22).all (sxGood 213) = true := by decide +kernel
theorem ok_213 : sxG 213 := sxG_of rfl gd_213
theorem gd_214 : (List.range 30).all (sxGood 214) = true := by decide +kernel
theorem ok_214 : sxG 214 := sxG_of rfl gd_214
theorem gd_215 : (List.range 24).all (sxGood 215) = true := by decide +kernel
theorem ok_215 : sxG 215 := sxG_of rfl gd_215
theorem gd_216 : (List.range 111).all (sxGood 216) = true := by decide +kernel
theorem ok_216 : sxG 216 := sxG_of rfl gd_216
theorem gd_217 : (List.range 92).all (sxGood 217) = true := by decide +kernel
theorem ok_217 : sxG 217 := sxG_of rfl gd_217
theorem gd_218 : (List.range 66).all (sxGood 218) = true := by decide +kernel
theorem ok_218 : sxG 218 := sxG_of rfl gd_218
theorem gd_219 : (List.range 9).all (sxGood 219) = true := by decide +kernel
theorem ok_219 : sxG 219 := sxG_of rfl gd_219
theorem gd_220 : (List.range 49).all (sxGood 220) = true := by decide +kernel
theorem ok_220 : sxG 220 := sxG_of rfl gd_220
theorem gd_221 : (List.range 79).all (sxGood 221) = true := by decide +kernel
theorem ok_221 : sxG 221 := sxG_of rfl gd_221
theorem gd_222 : (List.range 58).all (sxGood 222) = true := by decide +kernel
theorem ok_222 : sxG 222 := sxG_of rfl gd_222
theorem gd_223 : (List.range 18).all (sxGood 223) = true := by decide +kernel
theorem ok_223 : sxG 223 := sxG_of rfl gd_223
theorem gd_224 : (List.range 91).all (sxGood 224) = true := by decide +kernel
theorem ok_224 : sxG 224 := sxG_of rfl gd_224
theorem gd_225 : (List.range 61).all (sxGood 225) = true := by decide +kernel
theorem ok_225 : sxG 225 := sxG_of rfl gd_225
theorem gd_226 : (List.range 78).all (sxGood 226) = true := by decide +kernel
theorem ok_226 : sxG 226 := sxG_of rfl gd_226
theorem gd_227 : (List.range 94).all (sxGood 227) = true := by decide +kernel
theorem ok_227 : sxG 227 := sxG_of rfl gd_227
theorem gd_228 : (List.range 114).all (sxGood 228) = true := by decide +kernel
theorem ok_228 : sxG 228 := sxG_of rfl gd_228
theorem gd_229 : (List.range 46).all (sxGood 229) = true := by decide +kernel
theorem ok_229 : sxG 229 := sxG_of rfl gd_229
theorem gd_230 : (List.range 63).all (sxGood 230) = true := by decide +kernel
theorem ok_230 : sxG 230 := sxG_of rfl gd_230
theorem gd_231 : (List.range 7).all (sxGood 231) = true := by decide +kernel
theorem ok_231 : sxG 231 := sxG_of rfl gd_231
theorem gd_232 : (List.range 112).all (sxGood 232) = true := by decide +kernel
theorem ok_232 : sxG 232 := sxG_of rfl gd_232
theorem gd_233 : (List.range 21).all (sxGood 233) = true := by decide +kernel
theorem ok_233 : sxG 233 := sxG_of rfl gd_233
theorem gd_234 : (List.range 29).all (sxGood 234) = true := by decide +kernel
theorem ok_234 : sxG 234 := sxG_of rfl gd_234
theorem gd_235 : (List.range 34).all (sxGood 235) = true := by decide +kernel
theorem ok_235 : sxG 235 := sxG_of rfl gd_235
theorem gd_236 : (List.range 61).all (sxGood 236) = true := by decide +kernel
theorem ok_236 : sxG 236 := sxG_of rfl gd_236
theorem gd_237 : (List.range 98).all (sxGood 237) = true := by decide +kernel
theorem ok_237 : sxG 237 := sxG_of rfl gd_237
theorem gd_238 : (List.range 60).all (sxGood 238) = true := by decide +kernel
theorem ok_238 : sxG 238 := sxG_of rfl gd_238
theorem gd_239 : (List.range 64).all (sxGood 239) = true := by decide +kernel
theorem ok_239 : sxG 239 := sxG_of rfl gd_239
theorem gd_240 : (List.range 41).all (sxGood 240) = true := by decide +kernel
theorem ok_240 : sxG 240 := sxG_of rfl gd_240
theorem gd_241 : (List.range 189).all (sxGood 241) = true := by decide +kernel
theorem ok_241 : sxG 241 := sxG_of rfl gd_241
theorem gd_242 : (List.range 12).all (sxGood 242) = true := by decide +kernel
theorem ok_242 : sxG 242 := sxG_of rfl gd_242
theorem gd_243 : (List.range 16).all (sxGood 243) = true := by decide +kernel
theorem ok_243 : sxG 243 := sxG_of rfl gd_243
theorem gd_244 : (List.range 12).all (sxGood 244) = true := by decide +kernel
theorem ok_244 : sxG 244 := sxG_of rfl gd_244
theorem gd_245 : (List.range 15).all (sxGood 245) = true := by decide +kernel
theorem ok_245 : sxG 245 := sxG_of rfl gd_245
set_option maxRecDepth 100000 in
theorem cd_206 : sxCd 206 := rfl
set_option maxRecDepth 100000 in
theorem cd_207 : sxCd 207 := rfl
set_option maxRecDepth 100000 in
theorem cd_208 : sxCd 208 := rfl
set_option maxRecDepth 100000 in
theorem cd_209 : sxCd 209 := rfl
set_option maxRecDepth 100000 in
theorem cd_210 : sxCd 210 := rfl
set_option maxRecDepth 100000 in
theorem cd_211 : sxCd 211 := rfl
set_option maxRecDepth 100000 in
theorem cd_212 : sxCd 212 := rfl
set_option maxRecDepth 100000 in
theorem cd_213 : sxCd 213 := rfl
set_option maxRecDepth 100000 in
theorem cd_214 : sxCd 214 := rfl
set_option maxRecDepth 100000 in
theorem cd_215 : sxCd 215 := rfl
set_option maxRecDepth 100000 in
theorem cd_216 : sxCd 216 := rfl
set_option maxRecDepth 100000 in
theorem cd_217 : sxCd 217 := rfl
set_option maxRecDepth 100000 in
theorem cd_218 : sxCd 218 := rfl
set_option maxRecDepth 100000 in
theorem cd_219 : sxCd 219 := rfl
set_option maxRecDepth 100000 in
theorem cd_220 : sxCd 220 := rfl
set_option maxRecDepth 100000 in
theorem cd_221 : sxCd 221 := rfl
set_option maxRecDepth 100000 in
theorem cd_222 : sxCd 222 := rfl
set_option maxRecDepth 100000 in
theorem cd_223 : sxCd 223 := rfl
set_option maxRecDepth 100000 in
theorem cd_224 : sxCd 224 := rfl
set_option maxRecDepth 100000 in
theorem cd_225 : sxCd 225 := rfl
set_option maxRecDepth 100000 in
theorem cd_226 : sxCd 226 := rfl
set_option maxRecDepth 100000 in
theorem cd_227 : sxCd 227 := rfl
set_option maxRecDepth 100000 in
theorem cd_228 : sxCd 228 := rfl
set_option maxRecDepth 100000 in
theorem cd_229 : sxCd 229 := rfl
set_option maxRecDepth 100000 in
theorem cd_230 : sxCd 230 := rfl
set_option maxRecDepth 100000 in
theorem cd_231 : sxCd 231 := rfl
set_option maxRecDepth 100000 in
theorem cd_232 : sxCd 232 := rfl
set_option maxRecDepth 100000 in
theorem cd_233 : sxCd 233 := rfl
set_option maxRecDepth 100000 in
theorem cd_234 : sxCd 234 := rfl
set_option maxRecDepth 100000 in
theorem cd_235 : sxCd 235 := rfl
set_option maxRecDepth 100000 in
theorem cd_236 : sxCd 236 := rfl
set_option maxRecDepth 100000 in
theorem cd_237 : sxCd 237 := rfl
set_option maxRecDepth 100000 in
theorem cd_238 : sxCd 238 := rfl
set_option maxRecDepth 100000 in
theorem cd_239 : sxCd 239 := rfl
set_option maxRecDepth 100000 in
theorem cd_240 : sxCd 240 := rfl
set_option maxRecDepth 100000 in
theorem cd_241 : sxCd 241 := rfl
set_option maxRecDepth 100000 in
theorem cd_242 : sxCd 242 := rfl
set_option maxRecDepth 100000 in
theorem cd_243 : sxCd 243 := rfl
set_option maxRecDepth 100000 in
theorem cd_244 : sxCd 244 := rfl
set_option maxRecDepth 100000 in
theorem cd_245 : sxCd 245 := rfl
theorem cdc_5 : ∀ y ∈ [206, 207, 208, 209, 210, 211, 212, 213, 214, 215, 216, 217, 218, 219, 220, 221, 222, 223, 224, 225, 226, 227, 228, 229, 230, 231, 232, 233, 234, 235, 236, 237, 238, 239, 240, 241, 242, 243, 244, 245], sxCd y := List.forall_mem_cons.mpr ⟨cd_206, List.forall_mem_cons.mpr ⟨cd_207, List.forall_mem_cons.mpr ⟨cd_208, List.forall_mem_cons.mpr ⟨cd_209, List.forall_mem_cons.mpr ⟨cd_210, List.forall_mem_cons.mpr ⟨cd_211, List.forall_mem_cons.mpr ⟨cd_212, List.forall_mem_cons.mpr ⟨cd_213, List.forall_mem_cons.mpr ⟨cd_214, List.forall_mem_cons.mpr ⟨cd_215, List.forall_mem_cons.mpr ⟨cd_216, List.forall_mem_cons.mpr ⟨cd_217, List.forall_mem_cons.mpr ⟨cd_218, List.forall_mem_cons.mpr ⟨cd_219, List.forall_mem_cons.mpr ⟨cd_220, List.forall_mem_cons.mpr ⟨cd_221, List.forall_mem_cons.mpr ⟨cd_222, List.forall_mem_cons.mpr ⟨cd_223, List.forall_mem_cons.mpr ⟨cd_224, List.forall_mem_cons.mpr ⟨cd_225, List.forall_mem_cons.mpr ⟨cd_226, List.forall_mem_cons.mpr ⟨cd_227, List.forall_mem_cons.mpr ⟨cd_228, List.forall_mem_cons.mpr ⟨cd_229, List.forall_mem_cons.mpr ⟨cd_230, List.forall_mem_cons.mpr ⟨cd_231, List.forall_mem_cons.mpr ⟨cd_232, List.forall_mem_cons.mpr ⟨cd_233, List.forall_mem_cons.mpr ⟨cd_234, List.forall_mem_cons.mpr ⟨cd_235, List.forall_mem_cons.mpr ⟨cd_236, List.forall_mem_cons.mpr ⟨cd_237, List.forall_mem_cons.mpr ⟨cd_238, List.forall_mem_cons.mpr ⟨cd_239, List.forall_mem_cons.mpr ⟨cd_240, List.forall_mem_cons.mpr ⟨cd_241, List.forall_mem_cons.mpr ⟨cd_242, List.forall_mem_cons.mpr ⟨cd_243, List.forall_mem_cons.mpr ⟨cd_244, List.forall_mem_cons.mpr ⟨cd_245, fun _ h => absurd h List.not_mem_nil⟩⟩⟩⟩⟩⟩⟩⟩⟩⟩⟩⟩⟩⟩⟩⟩⟩⟩⟩⟩⟩⟩⟩⟩⟩⟩⟩⟩⟩⟩⟩⟩⟩⟩⟩⟩⟩⟩⟩⟩
theorem okc_5 : ∀ y ∈ [206, 207, 208, 209, 210, 211, 212, 213, 214, 215, 216, 217, 218, 219, 220, 221, 222, 223, 224, 225, 226, 227, 228, 229, 230, 231, 232, 233, 234, 235, 236, 237, 238, 239, 240, 241, 242, 243, 244, 245], sxG y := List.forall_mem_cons.mpr ⟨ok_206, List.forall_mem_cons.mpr ⟨ok_207, List.forall_mem_cons.mpr ⟨ok_208, List.forall_mem_cons.mpr ⟨ok_209, List.forall_mem_cons.mpr ⟨ok_210, List.forall_mem_cons.mpr ⟨ok_211, List.forall_mem_cons.mpr ⟨ok_212, List.forall_mem_cons.mpr ⟨ok_213, List.forall_mem_cons.mpr ⟨ok_214, List.forall_mem_cons.mpr ⟨ok_215, List.forall_mem_cons.mpr ⟨ok_216, List.forall_mem_cons.mpr ⟨ok_217, List.forall_mem_cons.mpr ⟨ok_218, List.forall_mem_cons.mpr ⟨ok_219, List.forall_mem_cons.mpr ⟨ok_220, List.forall_mem_cons.mpr ⟨ok_221, List.forall_mem_cons.mpr ⟨ok_222, List.forall_mem_cons.mpr ⟨ok_223, List.forall_mem_cons.mpr ⟨ok_224, List.forall_mem_cons.mpr ⟨ok_225, List.forall_mem_cons.mpr ⟨ok_226, List.forall_mem_cons.mpr ⟨ok_227, List.forall_mem_cons.mpr ⟨ok_228, List.forall_mem_cons.mpr ⟨ok_229, List.forall_mem_cons.mpr ⟨ok_230, List.forall_mem_cons.mpr ⟨ok_231, List.forall_mem_cons.mpr ⟨ok_232, List.forall_mem_cons.mpr ⟨ok_233, List.forall_mem_cons.mpr ⟨ok_234, List.forall_mem_cons.mpr ⟨ok_235, List.forall_mem_cons.mpr ⟨ok_236, List.forall_mem_cons.mpr ⟨ok_237, List.forall_mem_cons.mpr ⟨ok_238, List.forall_mem_cons.mpr ⟨ok_239, List.forall_mem_cons.mpr ⟨ok_240, List.forall_mem_cons.mpr ⟨ok_241, List.forall_mem_cons.mpr ⟨ok_242, List.forall_mem_cons.mpr ⟨ok_243, List.forall_mem_cons.mpr ⟨ok_244, List.forall_mem_cons.mpr ⟨ok_245, fun _ h => absurd h List.not_mem_nil⟩⟩⟩⟩⟩⟩⟩⟩⟩⟩⟩⟩⟩⟩⟩⟩⟩⟩⟩⟩⟩⟩⟩⟩⟩⟩⟩⟩⟩⟩⟩⟩⟩⟩⟩⟩⟩⟩⟩⟩
theorem mok_5 : ([206, 207, 208, 209, 210, 211, 212, 213, 214, 215, 216, 217, 218, 219, 220, 221, 222, 223, 224, 225, 226, 227, 228, 229, 230, 231, 232, 233, 234, 235, 236, 237, 238, 239, 240, 241, 242, 243, 244, 245] : List Nat).all sxMOk = true := by decide +kernel
