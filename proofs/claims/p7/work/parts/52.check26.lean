/-! THE CONTRACTS HOLD: printed by wip/sxp.py -/
set_option maxRecDepth 100000 in
theorem sq_360 : (sx_wf sk_360 && sx_chk sj_P sk_CT 3000 sk_360) = true := by decide +kernel
set_option maxRecDepth 100000 in
theorem sq_361 : (sx_wf sk_361 && sx_chk sj_P sk_CT 3000 sk_361) = true := by decide +kernel
set_option maxRecDepth 100000 in
theorem sq_362 : (sx_wf sk_362 && sx_chk sj_P sk_CT 3000 sk_362) = true := by decide +kernel
set_option maxRecDepth 100000 in
theorem sq_363 : (sx_wf sk_363 && sx_chk sj_P sk_CT 3000 sk_363) = true := by decide +kernel
set_option maxRecDepth 100000 in
theorem sq_364 : (sx_wf sk_364 && sx_chk sj_P sk_CT 3000 sk_364) = true := by decide +kernel
