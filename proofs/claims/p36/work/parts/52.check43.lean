/-! THE CONTRACTS HOLD: printed by wip/sxp.py -/
set_option maxRecDepth 100000 in
theorem sq_359 : (sx_wf sk_359 && sx_chk sj_P sk_CT 3000 sk_359) = true := by decide +kernel
