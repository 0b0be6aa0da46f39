section SYSG4
set_option maxRecDepth 100000 in
theorem sy_gr4 : sy_rg sy_gg 153 38 = true := by decide +kernel
end SYSG4
