/-! THE CONTRACTS HOLD: printed by wip/sxp.py -/
set_option maxRecDepth 100000 in
theorem sq_340 : (sx_wf sk_340 && sx_chk sj_P sk_CT 3000 sk_340) = true := by decide +kernel
set_option maxRecDepth 100000 in
theorem sq_341 : (sx_wf sk_341 && sx_chk sj_P sk_CT 3000 sk_341) = true := by decide +kernel
set_option maxRecDepth 100000 in
theorem sq_342 : (sx_wf sk_342 && sx_chk sj_P sk_CT 3000 sk_342) = true := by decide +kernel
set_option maxRecDepth 100000 in
theorem sq_343 : (sx_wf sk_343 && sx_chk sj_P sk_CT 3000 sk_343) = true := by decide +kernel
set_option maxRecDepth 100000 in
theorem sq_344 : (sx_wf sk_344 && sx_chk sj_P sk_CT 3000 sk_344) = true := by decide +kernel
set_option maxRecDepth 100000 in
theorem sq_345 : (sx_wf sk_345 && sx_chk sj_P sk_CT 3000 sk_345) = true := by decide +kernel
set_option maxRecDepth 100000 in
theorem sq_346 : (sx_wf sk_346 && sx_chk sj_P sk_CT 3000 sk_346) = true := by decide +kernel
set_option maxRecDepth 100000 in
theorem sq_347 : (sx_wf sk_347 && sx_chk sj_P sk_CT 3000 sk_347) = true := by decide +kernel
