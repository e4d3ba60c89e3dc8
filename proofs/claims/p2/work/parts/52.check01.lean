/-! THE CONTRACTS HOLD: printed by wip/sxp.py -/
set_option maxRecDepth 100000 in
theorem sq_40 : (sx_wf sk_40 && sx_chk sj_P sk_CT 3000 sk_40) = true := by decide +kernel
set_option maxRecDepth 100000 in
theorem sq_41 : (sx_wf sk_41 && sx_chk sj_P sk_CT 3000 sk_41) = true := by decide +kernel
set_option maxRecDepth 100000 in
theorem sq_42 : (sx_wf sk_42 && sx_chk sj_P sk_CT 3000 sk_42) = true := by decide +kernel
set_option maxRecDepth 100000 in
theorem sq_43 : (sx_wf sk_43 && sx_chk sj_P sk_CT 3000 sk_43) = true := by decide +kernel
set_option maxRecDepth 100000 in
theorem sq_44 : (sx_wf sk_44 && sx_chk sj_P sk_CT 3000 sk_44) = true := by decide +kernel
set_option maxRecDepth 100000 in
theorem sq_45 : (sx_wf sk_45 && sx_chk sj_P sk_CT 3000 sk_45) = true := by decide +kernel
set_option maxRecDepth 100000 in
theorem sq_46 : (sx_wf sk_46 && sx_chk sj_P sk_CT 3000 sk_46) = true := by decide +kernel
set_option maxRecDepth 100000 in
theorem sq_47 : (sx_wf sk_47 && sx_chk sj_P sk_CT 3000 sk_47) = true := by decide +kernel
set_option maxRecDepth 100000 in
theorem sq_48 : (sx_wf sk_48 && sx_chk sj_P sk_CT 3000 sk_48) = true := by decide +kernel
set_option maxRecDepth 100000 in
theorem sq_49 : (sx_wf sk_49 && sx_chk sj_P sk_CT 3000 sk_49) = true := by decide +kernel
set_option maxRecDepth 100000 in
theorem sq_50 : (sx_wf sk_50 && sx_chk sj_P sk_CT 3000 sk_50) = true := by decide +kernel
set_option maxRecDepth 100000 in
theorem sq_51 : (sx_wf sk_51 && sx_chk sj_P sk_CT 3000 sk_51) = true := by decide +kernel
set_option maxRecDepth 100000 in
theorem sq_52 : (sx_wf sk_52 && sx_chk sj_P sk_CT 3000 sk_52) = true := by decide +kernel
set_option maxRecDepth 100000 in
theorem sq_53 : (sx_wf sk_53 && sx_chk sj_P sk_CT 3000 sk_53) = true := by decide +kernel
set_option maxRecDepth 100000 in
theorem sq_54 : (sx_wf sk_54 && sx_chk sj_P sk_CT 3000 sk_54) = true := by decide +kernel
set_option maxRecDepth 100000 in
theorem sq_55 : (sx_wf sk_55 && sx_chk sj_P sk_CT 3000 sk_55) = true := by decide +kernel
set_option maxRecDepth 100000 in
theorem sq_56 : (sx_wf sk_56 && sx_chk sj_P sk_CT 3000 sk_56) = true := by decide +kernel
set_option maxRecDepth 100000 in
theorem sq_57 : (sx_wf sk_57 && sx_chk sj_P sk_CT 3000 sk_57) = true := by decide +kernel
set_option maxRecDepth 100000 in
theorem sq_58 : (sx_wf sk_58 && sx_chk sj_P sk_CT 3000 sk_58) = true := by decide +kernel
set_option maxRecDepth 100000 in
theorem sq_59 : (sx_wf sk_59 && sx_chk sj_P sk_CT 3000 sk_59) = true := by decide +kernel
set_option maxRecDepth 100000 in
theorem sq_60 : (sx_wf sk_60 && sx_chk sj_P sk_CT 3000 sk_60) = true := by decide +kernel
set_option maxRecDepth 100000 in
theorem sq_61 : (sx_wf sk_61 && sx_chk sj_P sk_CT 3000 sk_61) = true := by decide +kernel
set_option maxRecDepth 100000 in
theorem sq_62 : (sx_wf sk_62 && sx_chk sj_P sk_CT 3000 sk_62) = true := by decide +kernel
set_option maxRecDepth 100000 in
theorem sq_63 : (sx_wf sk_63 && sx_chk sj_P sk_CT 3000 sk_63) = true := by decide +kernel
set_option maxRecDepth 100000 in
theorem sq_64 : (sx_wf sk_64 && sx_chk sj_P sk_CT 3000 sk_64) = true := by decide +kernel
set_option maxRecDepth 100000 in
theorem sq_65 : (sx_wf sk_65 && sx_chk sj_P sk_CT 3000 sk_65) = true := by decide +kernel
set_option maxRecDepth 100000 in
theorem sq_66 : (sx_wf sk_66 && sx_chk sj_P sk_CT 3000 sk_66) = true := by decide +kernel
set_option maxRecDepth 100000 in
theorem sq_67 : (sx_wf sk_67 && sx_chk sj_P sk_CT 3000 sk_67) = true := by decide +kernel
set_option maxRecDepth 100000 in
theorem sq_68 : (sx_wf sk_68 && sx_chk sj_P sk_CT 3000 sk_68) = true := by decide +kernel
set_option maxRecDepth 100000 in
theorem sq_69 : (sx_wf sk_69 && sx_chk sj_P sk_CT 3000 sk_69) = true := by decide +kernel
set_option maxRecDepth 100000 in
theorem sq_70 : (sx_wf sk_70 && sx_chk sj_P sk_CT 3000 sk_70) = true := by decide +kernel
set_option maxRecDepth 100000 in
theorem sq_71 : (sx_wf sk_71 && sx_chk sj_P sk_CT 3000 sk_71) = true := by decide +kernel
set_option maxRecDepth 100000 in
theorem sq_72 : (sx_wf sk_72 && sx_chk sj_P sk_CT 3000 sk_72) = true := by decide +kernel
set_option maxRecDepth 100000 in
theorem sq_73 : (sx_wf sk_73 && sx_chk sj_P sk_CT 3000 sk_73) = true := by decide +kernel
set_option maxRecDepth 100000 in
theorem sq_74 : (sx_wf sk_74 && sx_chk sj_P sk_CT 3000 sk_74) = true := by decide +kernel
set_option maxRecDepth 100000 in
theorem sq_75 : (sx_wf sk_75 && sx_chk sj_P sk_CT 3000 sk_75) = true := by decide +kernel
set_option maxRecDepth 100000 in
theorem sq_76 : (sx_wf sk_76 && sx_chk sj_P sk_CT 3000 sk_76) = true := by decide +kernel
set_option maxRecDepth 100000 in
theorem sq_77 : (sx_wf sk_77 && sx_chk sj_P sk_CT 3000 sk_77) = true := by decide +kernel
set_option maxRecDepth 100000 in
theorem sq_78 : (sx_wf sk_78 && sx_chk sj_P sk_CT 3000 sk_78) = true := by decide +kernel
set_option maxRecDepth 100000 in
theorem sq_79 : (sx_wf sk_79 && sx_chk sj_P sk_CT 3000 sk_79) = true := by decide +kernel
