/-! THE CONTRACTS HOLD: printed by wip/sxp.py -/
set_option maxRecDepth 100000 in
theorem sq_355 : (sx_wf sk_355 && sx_chk sj_P sk_CT 3000 sk_355) = true := by decide +kernel
set_option maxRecDepth 100000 in
theorem sq_356 : (sx_wf sk_356 && sx_chk sj_P sk_CT 3000 sk_356) = true := by decide +kernel
set_option maxRecDepth 100000 in
theorem sq_357 : (sx_wf sk_357 && sx_chk sj_P sk_CT 3000 sk_357) = true := by decide +kernel
set_option maxRecDepth 100000 in
theorem sq_358 : (sx_wf sk_358 && sx_chk sj_P sk_CT 3000 sk_358) = true := by decide +kernel
set_option maxRecDepth 100000 in
theorem sq_359 : (sx_wf sk_359 && sx_chk sj_P sk_CT 3000 sk_359) = true := by decide +kernel
