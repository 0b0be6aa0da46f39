section SYSG2
set_option maxRecDepth 100000 in
theorem sy_gr8 : sy_rg sy_gg 81 10 = true := by decide +kernel
set_option maxRecDepth 100000 in
theorem sy_gr9 : sy_rg sy_gg 91 10 = true := by decide +kernel
set_option maxRecDepth 100000 in
theorem sy_gr10 : sy_rg sy_gg 101 10 = true := by decide +kernel
set_option maxRecDepth 100000 in
theorem sy_gr11 : sy_rg sy_gg 111 10 = true := by decide +kernel
end SYSG2
