set_option maxRecDepth 100000 in
theorem at_l10 : ax_law at_P at_DT at_O (at_B 10 10) = true := by decide +kernel
set_option maxRecDepth 100000 in
theorem at_l11 : ax_law at_P at_DT at_O (at_B 11 11) = true := by decide +kernel
set_option maxRecDepth 100000 in
theorem at_l12 : ax_law at_P at_DT at_O (at_B 12 12) = true := by decide +kernel
set_option maxRecDepth 100000 in
theorem at_l13 : ax_law at_P at_DT at_O (at_B 13 13) = true := by decide +kernel
set_option maxRecDepth 100000 in
theorem at_l14 : ax_law at_P at_DT at_O (at_B 14 14) = true := by decide +kernel
set_option maxRecDepth 100000 in
theorem at_l15 : ax_law at_P at_DT at_O (at_B 15 15) = true := by decide +kernel
set_option maxRecDepth 100000 in
theorem at_l16 : ax_law at_P at_DT at_O (at_B 16 16) = true := by decide +kernel
set_option maxRecDepth 100000 in
theorem at_l17 : ax_law at_P at_DT at_O (at_B 17 17) = true := by decide +kernel
set_option maxRecDepth 100000 in
theorem at_l18 : ax_law at_P at_DT at_O (at_B 18 18) = true := by decide +kernel
set_option maxRecDepth 100000 in
theorem at_l19 : ax_law at_P at_DT at_O (at_B 19 19) = true := by decide +kernel
