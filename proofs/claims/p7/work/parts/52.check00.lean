/-! THE CONTRACTS HOLD: printed by wip/sxp.py -/
set_option maxRecDepth 100000 in
theorem sq_0 : (sx_wf sk_0 && sx_chk sj_P sk_CT 3000 sk_0) = true := by decide +kernel
set_option maxRecDepth 100000 in
theorem sq_1 : (sx_wf sk_1 && sx_chk sj_P sk_CT 3000 sk_1) = true := by decide +kernel
set_option maxRecDepth 100000 in
theorem sq_2 : (sx_wf sk_2 && sx_chk sj_P sk_CT 3000 sk_2) = true := by decide +kernel
set_option maxRecDepth 100000 in
theorem sq_3 : (sx_wf sk_3 && sx_chk sj_P sk_CT 3000 sk_3) = true := by decide +kernel
set_option maxRecDepth 100000 in
theorem sq_4 : (sx_wf sk_4 && sx_chk sj_P sk_CT 3000 sk_4) = true := by decide +kernel
set_option maxRecDepth 100000 in
theorem sq_5 : (sx_wf sk_5 && sx_chk sj_P sk_CT 3000 sk_5) = true := by decide +kernel
set_option maxRecDepth 100000 in
theorem sq_6 : (sx_wf sk_6 && sx_chk sj_P sk_CT 3000 sk_6) = true := by decide +kernel
set_option maxRecDepth 100000 in
theorem sq_7 : (sx_wf sk_7 && sx_chk sj_P sk_CT 3000 sk_7) = true := by decide +kernel
set_option maxRecDepth 100000 in
theorem sq_8 : (sx_wf sk_8 && sx_chk sj_P sk_CT 3000 sk_8) = true := by decide +kernel
set_option maxRecDepth 100000 in
theorem sq_9 : (sx_wf sk_9 && sx_chk sj_P sk_CT 3000 sk_9) = true := by decide +kernel
set_option maxRecDepth 100000 in
theorem sq_10 : (sx_wf sk_10 && sx_chk sj_P sk_CT 3000 sk_10) = true := by decide +kernel
set_option maxRecDepth 100000 in
theorem sq_11 : (sx_wf sk_11 && sx_chk sj_P sk_CT 3000 sk_11) = true := by decide +kernel
set_option maxRecDepth 100000 in
theorem sq_12 : (sx_wf sk_12 && sx_chk sj_P sk_CT 3000 sk_12) = true := by decide +kernel
set_option maxRecDepth 100000 in
theorem sq_13 : (sx_wf sk_13 && sx_chk sj_P sk_CT 3000 sk_13) = true := by decide +kernel
set_option maxRecDepth 100000 in
theorem sq_14 : (sx_wf sk_14 && sx_chk sj_P sk_CT 3000 sk_14) = true := by decide +kernel
set_option maxRecDepth 100000 in
theorem sq_15 : (sx_wf sk_15 && sx_chk sj_P sk_CT 3000 sk_15) = true := by decide +kernel
set_option maxRecDepth 100000 in
theorem sq_16 : (sx_wf sk_16 && sx_chk sj_P sk_CT 3000 sk_16) = true := by decide +kernel
set_option maxRecDepth 100000 in
theorem sq_17 : (sx_wf sk_17 && sx_chk sj_P sk_CT 3000 sk_17) = true := by decide +kernel
set_option maxRecDepth 100000 in
theorem sq_18 : (sx_wf sk_18 && sx_chk sj_P sk_CT 3000 sk_18) = true := by decide +kernel
set_option maxRecDepth 100000 in
theorem sq_19 : (sx_wf sk_19 && sx_chk sj_P sk_CT 3000 sk_19) = true := by decide +kernel
