/-! THE CONTRACTS HOLD: printed by wip/sxp.py -/
set_option maxRecDepth 100000 in
theorem sq_384 : (sx_wf sk_384 && sx_chk sj_P sk_CT 3000 sk_384) = true := by decide +kernel
set_option maxRecDepth 100000 in
theorem sq_385 : (sx_wf sk_385 && sx_chk sj_P sk_CT 3000 sk_385) = true := by decide +kernel
set_option maxRecDepth 100000 in
theorem sq_386 : (sx_wf sk_386 && sx_chk sj_P sk_CT 3000 sk_386) = true := by decide +kernel
set_option maxRecDepth 100000 in
theorem sq_387 : (sx_wf sk_387 && sx_chk sj_P sk_CT 3000 sk_387) = true := by decide +kernel
set_option maxRecDepth 100000 in
theorem sq_388 : (sx_wf sk_388 && sx_chk sj_P sk_CT 3000 sk_388) = true := by decide +kernel
