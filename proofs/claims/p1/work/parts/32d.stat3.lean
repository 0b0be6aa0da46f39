section SYSG2
set_option maxRecDepth 100000 in
theorem sy_gr2 : sy_rg sy_gg 77 38 = true := by decide +kernel
end SYSG2
