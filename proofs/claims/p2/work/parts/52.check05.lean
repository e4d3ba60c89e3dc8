/-! THE CONTRACTS HOLD: printed by wip/sxp.py -/
set_option maxRecDepth 100000 in
theorem sq_200 : (sx_wf sk_200 && sx_chk sj_P sk_CT 3000 sk_200) = true := by decide +kernel
set_option maxRecDepth 100000 in
theorem sq_201 : (sx_wf sk_201 && sx_chk sj_P sk_CT 3000 sk_201) = true := by decide +kernel
set_option maxRecDepth 100000 in
theorem sq_202 : (sx_wf sk_202 && sx_chk sj_P sk_CT 3000 sk_202) = true := by decide +kernel
set_option maxRecDepth 100000 in
theorem sq_203 : (sx_wf sk_203 && sx_chk sj_P sk_CT 3000 sk_203) = true := by decide +kernel
set_option maxRecDepth 100000 in
theorem sq_204 : (sx_wf sk_204 && sx_chk sj_P sk_CT 3000 sk_204) = true := by decide +kernel
set_option maxRecDepth 100000 in
theorem sq_205 : (sx_wf sk_205 && sx_chk sj_P sk_CT 3000 sk_205) = true := by decide +kernel
set_option maxRecDepth 100000 in
theorem sq_206 : (sx_wf sk_206 && sx_chk sj_P sk_CT 3000 sk_206) = true := by decide +kernel
set_option maxRecDepth 100000 in
theorem sq_207 : (sx_wf sk_207 && sx_chk sj_P sk_CT 3000 sk_207) = true := by decide +kernel
set_option maxRecDepth 100000 in
theorem sq_208 : (sx_wf sk_208 && sx_chk sj_P sk_CT 3000 sk_208) = true := by decide +kernel
set_option maxRecDepth 100000 in
theorem sq_209 : (sx_wf sk_209 && sx_chk sj_P sk_CT 3000 sk_209) = true := by decide +kernel
set_option maxRecDepth 100000 in
theorem sq_210 : (sx_wf sk_210 && sx_chk sj_P sk_CT 3000 sk_210) = true := by decide +kernel
set_option maxRecDepth 100000 in
theorem sq_211 : (sx_wf sk_211 && sx_chk sj_P sk_CT 3000 sk_211) = true := by decide +kernel
set_option maxRecDepth 100000 in
theorem sq_212 : (sx_wf sk_212 && sx_chk sj_P sk_CT 3000 sk_212) = true := by decide +kernel
set_option maxRecDepth 100000 in
theorem sq_213 : (sx_wf sk_213 && sx_chk sj_P sk_CT 3000 sk_213) = true := by decide +kernel
set_option maxRecDepth 100000 in
theorem sq_214 : (sx_wf sk_214 && sx_chk sj_P sk_CT 3000 sk_214) = true := by decide +kernel
set_option maxRecDepth 100000 in
theorem sq_215 : (sx_wf sk_215 && sx_chk sj_P sk_CT 3000 sk_215) = true := by decide +kernel
set_option maxRecDepth 100000 in
theorem sq_216 : (sx_wf sk_216 && sx_chk sj_P sk_CT 3000 sk_216) = true := by decide +kernel
set_option maxRecDepth 100000 in
theorem sq_217 : (sx_wf sk_217 && sx_chk sj_P sk_CT 3000 sk_217) = true := by decide +kernel
set_option maxRecDepth 100000 in
theorem sq_218 : (sx_wf sk_218 && sx_chk sj_P sk_CT 3000 sk_218) = true := by decide +kernel
set_option maxRecDepth 100000 in
theorem sq_219 : (sx_wf sk_219 && sx_chk sj_P sk_CT 3000 sk_219) = true := by decide +kernel
set_option maxRecDepth 100000 in
theorem sq_220 : (sx_wf sk_220 && sx_chk sj_P sk_CT 3000 sk_220) = true := by decide +kernel
set_option maxRecDepth 100000 in
theorem sq_221 : (sx_wf sk_221 && sx_chk sj_P sk_CT 3000 sk_221) = true := by decide +kernel
set_option maxRecDepth 100000 in
theorem sq_222 : (sx_wf sk_222 && sx_chk sj_P sk_CT 3000 sk_222) = true := by decide +kernel
set_option maxRecDepth 100000 in
theorem sq_223 : (sx_wf sk_223 && sx_chk sj_P sk_CT 3000 sk_223) = true := by decide +kernel
set_option maxRecDepth 100000 in
theorem sq_224 : (sx_wf sk_224 && sx_chk sj_P sk_CT 3000 sk_224) = true := by decide +kernel
set_option maxRecDepth 100000 in
theorem sq_225 : (sx_wf sk_225 && sx_chk sj_P sk_CT 3000 sk_225) = true := by decide +kernel
set_option maxRecDepth 100000 in
theorem sq_226 : (sx_wf sk_226 && sx_chk sj_P sk_CT 3000 sk_226) = true := by decide +kernel
set_option maxRecDepth 100000 in
theorem sq_227 : (sx_wf sk_227 && sx_chk sj_P sk_CT 3000 sk_227) = true := by decide +kernel
set_option maxRecDepth 100000 in
theorem sq_228 : (sx_wf sk_228 && sx_chk sj_P sk_CT 3000 sk_228) = true := by decide +kernel
set_option maxRecDepth 100000 in
theorem sq_229 : (sx_wf sk_229 && sx_chk sj_P sk_CT 3000 sk_229) = true := by decide +kernel
set_option maxRecDepth 100000 in
theorem sq_230 : (sx_wf sk_230 && sx_chk sj_P sk_CT 3000 sk_230) = true := by decide +kernel
set_option maxRecDepth 100000 in
theorem sq_231 : (sx_wf sk_231 && sx_chk sj_P sk_CT 3000 sk_231) = true := by decide +kernel
set_option maxRecDepth 100000 in
theorem sq_232 : (sx_wf sk_232 && sx_chk sj_P sk_CT 3000 sk_232) = true := by decide +kernel
set_option maxRecDepth 100000 in
theorem sq_233 : (sx_wf sk_233 && sx_chk sj_P sk_CT 3000 sk_233) = true := by decide +kernel
set_option maxRecDepth 100000 in
theorem sq_234 : (sx_wf sk_234 && sx_chk sj_P sk_CT 3000 sk_234) = true := by decide +kernel
set_option maxRecDepth 100000 in
theorem sq_235 : (sx_wf sk_235 && sx_chk sj_P sk_CT 3000 sk_235) = true := by decide +kernel
set_option maxRecDepth 100000 in
theorem sq_236 : (sx_wf sk_236 && sx_chk sj_P sk_CT 3000 sk_236) = true := by decide +kernel
set_option maxRecDepth 100000 in
theorem sq_237 : (sx_wf sk_237 && sx_chk sj_P sk_CT 3000 sk_237) = true := by decide +kernel
set_option maxRecDepth 100000 in
theorem sq_238 : (sx_wf sk_238 && sx_chk sj_P sk_CT 3000 sk_238) = true := by decide +kernel
set_option maxRecDepth 100000 in
theorem sq_239 : (sx_wf sk_239 && sx_chk sj_P sk_CT 3000 sk_239) = true := by decide +kernel
