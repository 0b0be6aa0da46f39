section SYLA
set_option maxRecDepth 100000 in
theorem sy_lc0 : sy_ckn 0 ((sy_meth 0).1.drop 0) 120 = true := by decide +kernel
set_option maxRecDepth 100000 in
theorem sy_lc1 : sy_ckn 0 ((sy_meth 0).1.drop 120) 120 = true := by decide +kernel
set_option maxRecDepth 100000 in
theorem sy_lc2 : sy_ckn 0 ((sy_meth 0).1.drop 240) 120 = true := by decide +kernel
set_option maxRecDepth 100000 in
theorem sy_lc3 : sy_ckn 0 ((sy_meth 0).1.drop 360) 120 = true := by decide +kernel
set_option maxRecDepth 100000 in
theorem sy_lc4 : sy_ckn 0 ((sy_meth 0).1.drop 480) 120 = true := by decide +kernel
set_option maxRecDepth 100000 in
theorem sy_lc5 : sy_ckn 0 ((sy_meth 0).1.drop 600) 120 = true := by decide +kernel
set_option maxRecDepth 100000 in
theorem sy_lc6 : sy_ckn 0 ((sy_meth 0).1.drop 720) 120 = true := by decide +kernel
set_option maxRecDepth 100000 in
theorem sy_lc7 : sy_ckn 0 ((sy_meth 0).1.drop 840) 120 = true := by decide +kernel
set_option maxRecDepth 100000 in
theorem sy_lc8 : sy_ckn 0 ((sy_meth 0).1.drop 960) 120 = true := by decide +kernel
set_option maxRecDepth 100000 in
theorem sy_lc9 : sy_ckn 0 ((sy_meth 0).1.drop 1080) 120 = true := by decide +kernel
set_option maxRecDepth 100000 in
theorem sy_lc10 : sy_ckn 0 ((sy_meth 0).1.drop 1200) 40 = true := by decide +kernel
set_option maxRecDepth 100000 in
theorem sy_lc11 : sy_ckn 0 ((sy_meth 0).1.drop 1240) 40 = true := by decide +kernel
set_option maxRecDepth 100000 in
theorem sy_lc12 : sy_ckn 0 ((sy_meth 0).1.drop 1280) 40 = true := by decide +kernel
set_option maxRecDepth 100000 in
theorem sy_lc13 : sy_ckn 0 ((sy_meth 0).1.drop 1320) 40 = true := by decide +kernel
set_option maxRecDepth 100000 in
theorem sy_lc14 : sy_ckn 0 ((sy_meth 0).1.drop 1360) 40 = true := by decide +kernel
set_option maxRecDepth 100000 in
theorem sy_lc15 : sy_ckn 0 ((sy_meth 0).1.drop 1400) 40 = true := by decide +kernel
set_option maxRecDepth 100000 in
theorem sy_lc16 : sy_ckn 0 ((sy_meth 0).1.drop 1440) 40 = true := by decide +kernel
set_option maxRecDepth 100000 in
theorem sy_lc17 : sy_ckn 0 ((sy_meth 0).1.drop 1480) 40 = true := by decide +kernel
end SYLA
