set_option maxRecDepth 100000 in
theorem at_l20 : ax_law at_P at_DT at_O (at_B 20 20) = true := by decide +kernel
set_option maxRecDepth 100000 in
theorem at_l21 : ax_law at_P at_DT at_O (at_B 21 21) = true := by decide +kernel
set_option maxRecDepth 100000 in
theorem at_l22 : ax_law at_P at_DT at_O (at_B 22 22) = true := by decide +kernel
set_option maxRecDepth 100000 in
theorem at_l23 : ax_law at_P at_DT at_O (at_B 23 23) = true := by decide +kernel
set_option maxRecDepth 100000 in
theorem at_l24 : ax_law at_P at_DT at_O (at_B 24 24) = true := by decide +kernel
set_option maxRecDepth 100000 in
theorem at_l25 : ax_law at_P at_DT at_O (at_B 25 25) = true := by decide +kernel
set_option maxRecDepth 100000 in
theorem at_l26 : ax_law at_P at_DT at_O (at_B 26 26) = true := by decide +kernel
set_option maxRecDepth 100000 in
theorem at_l27 : ax_law at_P at_DT at_O (at_B 27 27) = true := by decide +kernel
set_option maxRecDepth 100000 in
theorem at_l28 : ax_law at_P at_DT at_O (at_B 28 28) = true := by decide +kernel
set_option maxRecDepth 100000 in
theorem at_l29 : ax_law at_P at_DT at_O (at_B 29 29) = true := by decide +kernel
