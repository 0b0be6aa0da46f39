section SYSG5
set_option maxRecDepth 100000 in
theorem sy_gr5 : sy_rg sy_gg 191 37 = true := by decide +kernel
end SYSG5
