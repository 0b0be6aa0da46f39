/-! the runs of mark -/
section SYRM
set_option maxRecDepth 100000 in
theorem sy_cm0 : sy_al (sy_first 7) 1000 (sy_six6 0 2147483647) = true := by decide +kernel
set_option maxRecDepth 100000 in
theorem sy_cm1 : sy_al (sy_first 7) 1000 (sy_six6 2147483648 2147483648) = true := by decide +kernel
set_option maxRecDepth 100000 in
theorem sy_cm2 : sy_al (sy_first 7) 1000 (sy_six6 2147483649 2147483649) = true := by decide +kernel
set_option maxRecDepth 100000 in
theorem sy_cm3 : sy_al (sy_first 7) 1000 (sy_six6 2147483650 2147483650) = true := by decide +kernel
set_option maxRecDepth 100000 in
theorem sy_cm4 : sy_al (sy_first 7) 1000 (sy_six6 2147483651 2147483651) = true := by decide +kernel
set_option maxRecDepth 100000 in
theorem sy_cm5 : sy_al (sy_first 7) 1000 (sy_six6 2147483652 2147483652) = true := by decide +kernel
set_option maxRecDepth 100000 in
theorem sy_cm6 : sy_al (sy_first 7) 1000 (sy_six6 2147483653 4294967295) = true := by decide +kernel
end SYRM
