/-! THE CONTRACTS HOLD: printed by wip/sxp.py -/
set_option maxRecDepth 100000 in
theorem sq_345 : (sx_wf sk_345 && sx_chk sj_P sk_CT 3000 sk_345) = true := by decide +kernel
set_option maxRecDepth 100000 in
theorem sq_346 : (sx_wf sk_346 && sx_chk sj_P sk_CT 3000 sk_346) = true := by decide +kernel
set_option maxRecDepth 100000 in
theorem sq_347 : (sx_wf sk_347 && sx_chk sj_P sk_CT 3000 sk_347) = true := by decide +kernel
set_option maxRecDepth 100000 in
theorem sq_348 : (sx_wf sk_348 && sx_chk sj_P sk_CT 3000 sk_348) = true := by decide +kernel
set_option maxRecDepth 100000 in
theorem sq_349 : (sx_wf sk_349 && sx_chk sj_P sk_CT 3000 sk_349) = true := by decide +kernel
