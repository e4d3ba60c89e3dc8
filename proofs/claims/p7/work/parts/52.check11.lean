/-! THE CONTRACTS HOLD: printed by wip/sxp.py -/
set_option maxRecDepth 100000 in
theorem sq_220 : (sx_wf sk_220 && sx_chk sj_P sk_CT 3000 sk_220) = true := by decide +kernel
set_option maxRecDepth 100000 in
theorem sq_221 : (sx_wf sk_221 && sx_chk sj_P sk_CT 3000 sk_221) = true := by decide +kernel
set_option maxRecDepth 100000 in
theorem sq_222 : (sx_wf sk_222 && sx_chk sj_P sk_CT 3000 sk_222) = true := by decide +kernel
set_option maxRecDepth 100000 in
theorem sq_223 : (sx_wf sk_223 && sx_chk sj_P sk_CT 3000 sk_223) = true := by decide +kernel
set_option maxRecDepth 100000 in
theorem sq_224 : (sx_wf sk_224 && sx_chk sj_P sk_CT 3000 sk_224) = true := by decide +kernel
set_option maxRecDepth 100000 in
theorem sq_225 : (sx_wf sk_225 && sx_chk sj_P sk_CT 3000 sk_225) = true := by decide +kernel
set_option maxRecDepth 100000 in
theorem sq_226 : (sx_wf sk_226 && sx_chk sj_P sk_CT 3000 sk_226) = true := by decide +kernel
set_option maxRecDepth 100000 in
theorem sq_227 : (sx_wf sk_227 && sx_chk sj_P sk_CT 3000 sk_227) = true := by decide +kernel
set_option maxRecDepth 100000 in
theorem sq_228 : (sx_wf sk_228 && sx_chk sj_P sk_CT 3000 sk_228) = true := by decide +kernel
set_option maxRecDepth 100000 in
theorem sq_229 : (sx_wf sk_229 && sx_chk sj_P sk_CT 3000 sk_229) = true := by decide +kernel
set_option maxRecDepth 100000 in
theorem sq_230 : (sx_wf sk_230 && sx_chk sj_P sk_CT 3000 sk_230) = true := by decide +kernel
set_option maxRecDepth 100000 in
theorem sq_231 : (sx_wf sk_231 && sx_chk sj_P sk_CT 3000 sk_231) = true := by decide +kernel
set_option maxRecDepth 100000 in
theorem sq_232 : (sx_wf sk_232 && sx_chk sj_P sk_CT 3000 sk_232) = true := by decide +kernel
set_option maxRecDepth 100000 in
theorem sq_233 : (sx_wf sk_233 && sx_chk sj_P sk_CT 3000 sk_233) = true := by decide +kernel
set_option maxRecDepth 100000 in
theorem sq_234 : (sx_wf sk_234 && sx_chk sj_P sk_CT 3000 sk_234) = true := by decide +kernel
set_option maxRecDepth 100000 in
theorem sq_235 : (sx_wf sk_235 && sx_chk sj_P sk_CT 3000 sk_235) = true := by decide +kernel
set_option maxRecDepth 100000 in
theorem sq_236 : (sx_wf sk_236 && sx_chk sj_P sk_CT 3000 sk_236) = true := by decide +kernel
set_option maxRecDepth 100000 in
theorem sq_237 : (sx_wf sk_237 && sx_chk sj_P sk_CT 3000 sk_237) = true := by decide +kernel
set_option maxRecDepth 100000 in
theorem sq_238 : (sx_wf sk_238 && sx_chk sj_P sk_CT 3000 sk_238) = true := by decide +kernel
set_option maxRecDepth 100000 in
theorem sq_239 : (sx_wf sk_239 && sx_chk sj_P sk_CT 3000 sk_239) = true := by decide +kernel
