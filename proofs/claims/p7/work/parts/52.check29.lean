/-! THE CONTRACTS HOLD: printed by wip/sxp.py -/
set_option maxRecDepth 100000 in
theorem sq_375 : (sx_wf sk_375 && sx_chk sj_P sk_CT 3000 sk_375) = true := by decide +kernel
set_option maxRecDepth 100000 in
theorem sq_376 : (sx_wf sk_376 && sx_chk sj_P sk_CT 3000 sk_376) = true := by decide +kernel
set_option maxRecDepth 100000 in
theorem sq_377 : (sx_wf sk_377 && sx_chk sj_P sk_CT 3000 sk_377) = true := by decide +kernel
set_option maxRecDepth 100000 in
theorem sq_378 : (sx_wf sk_378 && sx_chk sj_P sk_CT 3000 sk_378) = true := by decide +kernel
set_option maxRecDepth 100000 in
theorem sq_379 : (sx_wf sk_379 && sx_chk sj_P sk_CT 3000 sk_379) = true := by decide +kernel
