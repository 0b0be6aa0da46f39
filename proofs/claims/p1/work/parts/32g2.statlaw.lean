section SYLB
set_option maxRecDepth 100000 in
theorem sy_lc18 : sy_ckn 0 ((sy_meth 0).1.drop 1520) 40 = true := by decide +kernel
set_option maxRecDepth 100000 in
theorem sy_lc19 : sy_ckn 0 ((sy_meth 0).1.drop 1560) 40 = true := by decide +kernel
set_option maxRecDepth 100000 in
theorem sy_lc20 : sy_ckn 0 ((sy_meth 0).1.drop 1600) 40 = true := by decide +kernel
set_option maxRecDepth 100000 in
theorem sy_lc21 : sy_ckn 0 ((sy_meth 0).1.drop 1640) 40 = true := by decide +kernel
set_option maxRecDepth 100000 in
theorem sy_lc22 : sy_ckn 0 ((sy_meth 0).1.drop 1680) 40 = true := by decide +kernel
set_option maxRecDepth 100000 in
theorem sy_lc23 : sy_ckn 0 ((sy_meth 0).1.drop 1720) 40 = true := by decide +kernel
set_option maxRecDepth 100000 in
theorem sy_lc24 : sy_ckn 0 ((sy_meth 0).1.drop 1760) 40 = true := by decide +kernel
set_option maxRecDepth 100000 in
theorem sy_lc25 : sy_ckn 0 ((sy_meth 0).1.drop 1800) 40 = true := by decide +kernel
set_option maxRecDepth 100000 in
theorem sy_lc26 : sy_ckn 0 ((sy_meth 0).1.drop 1840) 40 = true := by decide +kernel
set_option maxRecDepth 100000 in
theorem sy_lcz : sy_ckl 0 ((sy_meth 0).1.drop 1880) = true := by decide +kernel
end SYLB
