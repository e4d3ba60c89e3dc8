/-! THE CONTRACTS HOLD: printed by wip/sxp.py -/
set_option maxRecDepth 100000 in
theorem sq_401 : (sx_wf sk_401 && sx_chk sj_P sk_CT 3000 sk_401) = true := by decide +kernel
