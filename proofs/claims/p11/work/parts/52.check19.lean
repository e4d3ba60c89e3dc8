/-! THE CONTRACTS HOLD: printed by wip/sxp.py -/
set_option maxRecDepth 100000 in
theorem sq_352 : (sx_wf sk_352 && sx_chk sj_P sk_CT 3000 sk_352) = true := by decide +kernel
set_option maxRecDepth 100000 in
theorem sq_353 : (sx_wf sk_353 && sx_chk sj_P sk_CT 3000 sk_353) = true := by decide +kernel
set_option maxRecDepth 100000 in
theorem sq_354 : (sx_wf sk_354 && sx_chk sj_P sk_CT 3000 sk_354) = true := by decide +kernel
set_option maxRecDepth 100000 in
theorem sq_355 : (sx_wf sk_355 && sx_chk sj_P sk_CT 3000 sk_355) = true := by decide +kernel
set_option maxRecDepth 100000 in
theorem sq_356 : (sx_wf sk_356 && sx_chk sj_P sk_CT 3000 sk_356) = true := by decide +kernel
