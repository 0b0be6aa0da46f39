section SYSG1
set_option maxRecDepth 100000 in
theorem sy_gr1 : sy_rg sy_gg 39 38 = true := by decide +kernel
end SYSG1
