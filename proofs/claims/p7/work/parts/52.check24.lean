/-! THE CONTRACTS HOLD: printed by wip/sxp.py -/
set_option maxRecDepth 100000 in
theorem sq_354 : (sx_wf sk_354 && sx_chk sj_P sk_CT 3000 sk_354) = true := by decide +kernel
