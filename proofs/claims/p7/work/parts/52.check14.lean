/-! THE CONTRACTS HOLD: printed by wip/sxp.py -/
set_option maxRecDepth 100000 in
theorem sq_280 : (sx_wf sk_280 && sx_chk sj_P sk_CT 3000 sk_280) = true := by decide +kernel
set_option maxRecDepth 100000 in
theorem sq_281 : (sx_wf sk_281 && sx_chk sj_P sk_CT 3000 sk_281) = true := by decide +kernel
set_option maxRecDepth 100000 in
theorem sq_282 : (sx_wf sk_282 && sx_chk sj_P sk_CT 3000 sk_282) = true := by decide +kernel
set_option maxRecDepth 100000 in
theorem sq_283 : (sx_wf sk_283 && sx_chk sj_P sk_CT 3000 sk_283) = true := by decide +kernel
set_option maxRecDepth 100000 in
theorem sq_284 : (sx_wf sk_284 && sx_chk sj_P sk_CT 3000 sk_284) = true := by decide +kernel
set_option maxRecDepth 100000 in
theorem sq_285 : (sx_wf sk_285 && sx_chk sj_P sk_CT 3000 sk_285) = true := by decide +kernel
set_option maxRecDepth 100000 in
theorem sq_286 : (sx_wf sk_286 && sx_chk sj_P sk_CT 3000 sk_286) = true := by decide +kernel
set_option maxRecDepth 100000 in
theorem sq_287 : (sx_wf sk_287 && sx_chk sj_P sk_CT 3000 sk_287) = true := by decide +kernel
set_option maxRecDepth 100000 in
theorem sq_288 : (sx_wf sk_288 && sx_chk sj_P sk_CT 3000 sk_288) = true := by decide +kernel
set_option maxRecDepth 100000 in
theorem sq_289 : (sx_wf sk_289 && sx_chk sj_P sk_CT 3000 sk_289) = true := by decide +kernel
set_option maxRecDepth 100000 in
theorem sq_290 : (sx_wf sk_290 && sx_chk sj_P sk_CT 3000 sk_290) = true := by decide +kernel
set_option maxRecDepth 100000 in
theorem sq_291 : (sx_wf sk_291 && sx_chk sj_P sk_CT 3000 sk_291) = true := by decide +kernel
set_option maxRecDepth 100000 in
theorem sq_292 : (sx_wf sk_292 && sx_chk sj_P sk_CT 3000 sk_292) = true := by decide +kernel
set_option maxRecDepth 100000 in
theorem sq_293 : (sx_wf sk_293 && sx_chk sj_P sk_CT 3000 sk_293) = true := by decide +kernel
set_option maxRecDepth 100000 in
theorem sq_294 : (sx_wf sk_294 && sx_chk sj_P sk_CT 3000 sk_294) = true := by decide +kernel
set_option maxRecDepth 100000 in
theorem sq_295 : (sx_wf sk_295 && sx_chk sj_P sk_CT 3000 sk_295) = true := by decide +kernel
set_option maxRecDepth 100000 in
theorem sq_296 : (sx_wf sk_296 && sx_chk sj_P sk_CT 3000 sk_296) = true := by decide +kernel
set_option maxRecDepth 100000 in
theorem sq_297 : (sx_wf sk_297 && sx_chk sj_P sk_CT 3000 sk_297) = true := by decide +kernel
set_option maxRecDepth 100000 in
theorem sq_298 : (sx_wf sk_298 && sx_chk sj_P sk_CT 3000 sk_298) = true := by decide +kernel
set_option maxRecDepth 100000 in
theorem sq_299 : (sx_wf sk_299 && sx_chk sj_P sk_CT 3000 sk_299) = true := by decide +kernel
