section SYSG3
set_option maxRecDepth 100000 in
theorem sy_gr3 : sy_rg sy_gg 115 38 = true := by decide +kernel
end SYSG3
