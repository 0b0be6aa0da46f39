section SYSL
set_option maxRecDepth 100000 in
theorem sy_lc0 : sy_ckn 0 ((sy_meth 0).1.drop 0) 120 = true := by decide +kernel
set_option maxRecDepth 100000 in
theorem sy_lc1 : sy_ckn 0 ((sy_meth 0).1.drop 120) 120 = true := by decide +kernel
set_option maxRecDepth 100000 in
theorem sy_lc2 : sy_ckn 0 ((sy_meth 0).1.drop 240) 120 = true := by decide +kernel
set_option maxRecDepth 100000 in
theorem sy_lc3 : sy_ckn 0 ((sy_meth 0).1.drop 360) 120 = true := by decide +kernel
set_option maxRecDepth 100000 in
theorem sy_lc4 : sy_ckn 0 ((sy_meth 0).1.drop 480) 120 = true := by decide +kernel
set_option maxRecDepth 100000 in
theorem sy_lc5 : sy_ckn 0 ((sy_meth 0).1.drop 600) 120 = true := by decide +kernel
set_option maxRecDepth 100000 in
theorem sy_lc6 : sy_ckn 0 ((sy_meth 0).1.drop 720) 120 = true := by decide +kernel
set_option maxRecDepth 100000 in
theorem sy_lc7 : sy_ckn 0 ((sy_meth 0).1.drop 840) 120 = true := by decide +kernel
set_option maxRecDepth 100000 in
theorem sy_lc8 : sy_ckn 0 ((sy_meth 0).1.drop 960) 120 = true := by decide +kernel
set_option maxRecDepth 100000 in
theorem sy_lc9 : sy_ckn 0 ((sy_meth 0).1.drop 1080) 120 = true := by decide +kernel
set_option maxRecDepth 100000 in
theorem sy_lc10 : sy_ckn 0 ((sy_meth 0).1.drop 1200) 120 = true := by decide +kernel
set_option maxRecDepth 100000 in
theorem sy_lc11 : sy_ckn 0 ((sy_meth 0).1.drop 1320) 120 = true := by decide +kernel
set_option maxRecDepth 100000 in
theorem sy_lc12 : sy_ckn 0 ((sy_meth 0).1.drop 1440) 120 = true := by decide +kernel
set_option maxRecDepth 100000 in
theorem sy_lc13 : sy_ckn 0 ((sy_meth 0).1.drop 1560) 120 = true := by decide +kernel
set_option maxRecDepth 100000 in
theorem sy_lc14 : sy_ckn 0 ((sy_meth 0).1.drop 1680) 120 = true := by decide +kernel
set_option maxRecDepth 100000 in
theorem sy_lcz : sy_ckl 0 ((sy_meth 0).1.drop 1800) = true := by decide +kernel
set_option maxRecDepth 100000 in
theorem sy_fda : sy_fd2 0 = true := by decide +kernel
theorem sy_law2 : sy_gd2 0 = true := sy_fd2_ok sy_fda
set_option maxRecDepth 100000 in
theorem sy_law3 : sy_gd3 0 = true := by decide +kernel
theorem sy_law1 : sy_gd1 0 = true := by
  show sy_ckl 0 ((sy_meth 0).1.drop 0) = true
  refine sy_ckn_ok _ 120 sy_lc0 ?_
  rw [List.drop_drop]
  refine sy_ckn_ok _ 120 sy_lc1 ?_
  rw [List.drop_drop]
  refine sy_ckn_ok _ 120 sy_lc2 ?_
  rw [List.drop_drop]
  refine sy_ckn_ok _ 120 sy_lc3 ?_
  rw [List.drop_drop]
  refine sy_ckn_ok _ 120 sy_lc4 ?_
  rw [List.drop_drop]
  refine sy_ckn_ok _ 120 sy_lc5 ?_
  rw [List.drop_drop]
  refine sy_ckn_ok _ 120 sy_lc6 ?_
  rw [List.drop_drop]
  refine sy_ckn_ok _ 120 sy_lc7 ?_
  rw [List.drop_drop]
  refine sy_ckn_ok _ 120 sy_lc8 ?_
  rw [List.drop_drop]
  refine sy_ckn_ok _ 120 sy_lc9 ?_
  rw [List.drop_drop]
  refine sy_ckn_ok _ 120 sy_lc10 ?_
  rw [List.drop_drop]
  refine sy_ckn_ok _ 120 sy_lc11 ?_
  rw [List.drop_drop]
  refine sy_ckn_ok _ 120 sy_lc12 ?_
  rw [List.drop_drop]
  refine sy_ckn_ok _ 120 sy_lc13 ?_
  rw [List.drop_drop]
  refine sy_ckn_ok _ 120 sy_lc14 ?_
  rw [List.drop_drop]
  exact sy_lcz
end SYSL
