/-! THE CONTRACTS HOLD: printed by wip/sxp.py -/
set_option maxRecDepth 100000 in
theorem sq_385 : (sx_wf sk_385 && sx_chk sj_P sk_CT 3000 sk_385) = true := by decide +kernel
