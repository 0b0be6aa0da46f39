section SYSG1
set_option maxRecDepth 100000 in
theorem sy_gr4 : sy_rg sy_gg 41 10 = true := by decide +kernel
set_option maxRecDepth 100000 in
theorem sy_gr5 : sy_rg sy_gg 51 10 = true := by decide +kernel
set_option maxRecDepth 100000 in
theorem sy_gr6 : sy_rg sy_gg 61 10 = true := by decide +kernel
set_option maxRecDepth 100000 in
theorem sy_gr7 : sy_rg sy_gg 71 10 = true := by decide +kernel
end SYSG1
