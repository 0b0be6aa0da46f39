section SYSG0
set_option maxRecDepth 100000 in
theorem sy_gr0 : sy_rg sy_gg 1 38 = true := by decide +kernel
end SYSG0
