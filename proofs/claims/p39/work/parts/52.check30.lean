/-! THE CONTRACTS HOLD: printed by wip/sxp.py -/
set_option maxRecDepth 100000 in
theorem sq_402 : (sx_wf sk_402 && sx_chk sj_P sk_CT 3000 sk_402) = true := by decide +kernel
set_option maxRecDepth 100000 in
theorem sq_403 : (sx_wf sk_403 && sx_chk sj_P sk_CT 3000 sk_403) = true := by decide +kernel
