section SYSG0
set_option maxRecDepth 100000 in
theorem sy_gr0 : sy_rg sy_gg 1 10 = true := by decide +kernel
set_option maxRecDepth 100000 in
theorem sy_gr1 : sy_rg sy_gg 11 10 = true := by decide +kernel
set_option maxRecDepth 100000 in
theorem sy_gr2 : sy_rg sy_gg 21 10 = true := by decide +kernel
set_option maxRecDepth 100000 in
theorem sy_gr3 : sy_rg sy_gg 31 10 = true := by decide +kernel
end SYSG0
