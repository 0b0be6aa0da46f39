section SYL
set_option maxRecDepth 100000 in
theorem sy_fda : sy_fd2 0 = true := by decide +kernel
theorem sy_law2 : sy_gd2 0 = true := sy_fd2_ok sy_fda
set_option maxRecDepth 100000 in
theorem sy_law3 : sy_gd3 0 = true := by decide +kernel
theorem sy_law1 : sy_gd1 0 = true := by
  show sy_ckl 0 ((sy_meth 0).1.drop 0) = true
  refine sy_ckn_ok _ 120 sy_lc0 ?_
  rw [List.drop_drop]
  refine sy_ckn_ok _ 120 sy_lc1 ?_
  rw [List.drop_drop]
  refine sy_ckn_ok _ 120 sy_lc2 ?_
  rw [List.drop_drop]
  refine sy_ckn_ok _ 120 sy_lc3 ?_
  rw [List.drop_drop]
  refine sy_ckn_ok _ 120 sy_lc4 ?_
  rw [List.drop_drop]
  refine sy_ckn_ok _ 120 sy_lc5 ?_
  rw [List.drop_drop]
  refine sy_ckn_ok _ 120 sy_lc6 ?_
  rw [List.drop_drop]
  refine sy_ckn_ok _ 120 sy_lc7 ?_
  rw [List.drop_drop]
  refine sy_ckn_ok _ 120 sy_lc8 ?_
  rw [List.drop_drop]
  refine sy_ckn_ok _ 120 sy_lc9 ?_
  rw [List.drop_drop]
  refine sy_ckn_ok _ 40 sy_lc10 ?_
  rw [List.drop_drop]
  refine sy_ckn_ok _ 40 sy_lc11 ?_
  rw [List.drop_drop]
  refine sy_ckn_ok _ 40 sy_lc12 ?_
  rw [List.drop_drop]
  refine sy_ckn_ok _ 40 sy_lc13 ?_
  rw [List.drop_drop]
  refine sy_ckn_ok _ 40 sy_lc14 ?_
  rw [List.drop_drop]
  refine sy_ckn_ok _ 40 sy_lc15 ?_
  rw [List.drop_drop]
  refine sy_ckn_ok _ 40 sy_lc16 ?_
  rw [List.drop_drop]
  refine sy_ckn_ok _ 40 sy_lc17 ?_
  rw [List.drop_drop]
  refine sy_ckn_ok _ 40 sy_lc18 ?_
  rw [List.drop_drop]
  refine sy_ckn_ok _ 40 sy_lc19 ?_
  rw [List.drop_drop]
  refine sy_ckn_ok _ 40 sy_lc20 ?_
  rw [List.drop_drop]
  refine sy_ckn_ok _ 40 sy_lc21 ?_
  rw [List.drop_drop]
  refine sy_ckn_ok _ 40 sy_lc22 ?_
  rw [List.drop_drop]
  refine sy_ckn_ok _ 40 sy_lc23 ?_
  rw [List.drop_drop]
  refine sy_ckn_ok _ 40 sy_lc24 ?_
  rw [List.drop_drop]
  refine sy_ckn_ok _ 40 sy_lc25 ?_
  rw [List.drop_drop]
  refine sy_ckn_ok _ 40 sy_lc26 ?_
  rw [List.drop_drop]
  exact sy_lcz
end SYL
