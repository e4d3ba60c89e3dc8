/-! THE CONTRACTS HOLD: printed by wip/sxp.py -/
set_option maxRecDepth 100000 in
theorem sq_348 : (sx_wf sk_348 && sx_chk sj_P sk_CT 3000 sk_348) = true := by decide +kernel
set_option maxRecDepth 100000 in
theorem sq_349 : (sx_wf sk_349 && sx_chk sj_P sk_CT 3000 sk_349) = true := by decide +kernel
set_option maxRecDepth 100000 in
theorem sq_350 : (sx_wf sk_350 && sx_chk sj_P sk_CT 3000 sk_350) = true := by decide +kernel
