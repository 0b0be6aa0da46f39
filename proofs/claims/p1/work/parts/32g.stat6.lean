section SYSG5
set_option maxRecDepth 100000 in
theorem sy_gr20 : sy_rg sy_gg 201 10 = true := by decide +kernel
set_option maxRecDepth 100000 in
theorem sy_gr21 : sy_rg sy_gg 211 10 = true := by decide +kernel
set_option maxRecDepth 100000 in
theorem sy_gr22 : sy_rg sy_gg 221 7 = true := by decide +kernel
end SYSG5
