section SYSG3
set_option maxRecDepth 100000 in
theorem sy_gr12 : sy_rg sy_gg 121 10 = true := by decide +kernel
set_option maxRecDepth 100000 in
theorem sy_gr13 : sy_rg sy_gg 131 10 = true := by decide +kernel
set_option maxRecDepth 100000 in
theorem sy_gr14 : sy_rg sy_gg 141 10 = true := by decide +kernel
set_option maxRecDepth 100000 in
theorem sy_gr15 : sy_rg sy_gg 151 10 = true := by decide +kernel
end SYSG3
