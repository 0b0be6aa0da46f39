section SYSG4
set_option maxRecDepth 100000 in
theorem sy_gr16 : sy_rg sy_gg 161 10 = true := by decide +kernel
set_option maxRecDepth 100000 in
theorem sy_gr17 : sy_rg sy_gg 171 10 = true := by decide +kernel
set_option maxRecDepth 100000 in
theorem sy_gr18 : sy_rg sy_gg 181 10 = true := by decide +kernel
set_option maxRecDepth 100000 in
theorem sy_gr19 : sy_rg sy_gg 191 10 = true := by decide +kernel
end SYSG4
