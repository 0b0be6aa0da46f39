/-! the runs: every call, every kind of argument, by the kernel -/
section SYRU
set_option maxRecDepth 100000 in
theorem sy_ca0 : sy_cas [0, 1, 2, 3, 4, 5] = true := by decide +kernel
set_option maxRecDepth 100000 in
theorem sy_ca7 : sy_cas [7, 8, 9, 10, 11, 12, 13, 14, 15, 16, 17, 18, 19, 20] = true := by decide +kernel
set_option maxRecDepth 100000 in
theorem sy_ca21 : sy_cas [21, 22, 23, 24, 25, 26, 27, 28] = true := by decide +kernel
set_option maxRecDepth 100000 in
theorem sy_ca29 : sy_cas [29, 30, 31] = true := by decide +kernel
set_option maxRecDepth 100000 in
theorem sy_ca32 : sy_cas [32, 33, 34] = true := by decide +kernel
set_option maxRecDepth 100000 in
theorem sy_ca35 : sy_cas [35, 36] = true := by decide +kernel
set_option maxRecDepth 100000 in
theorem sy_ca37 : sy_cas [37, 38, 39, 40, 41, 42] = true := by decide +kernel
set_option maxRecDepth 100000 in
theorem sy_ca43 : sy_cas [43] = true := by decide +kernel
set_option maxRecDepth 100000 in
theorem sy_ca44 : sy_cas [44, 45, 46, 47, 48, 49, 50, 51, 52, 53, 54, 55, 56, 57, 58, 59, 60, 61, 62, 63] = true := by decide +kernel
set_option maxRecDepth 100000 in
theorem sy_shortr : sy_rg (fun n => cond (Nat.beq (sy_first n).1 4) (sy_ok1 (sy_first n)) false) 0 7 = true := by decide +kernel
set_option maxRecDepth 100000 in
theorem sy_first7 : cond (Nat.beq (sy_first 7).1 8) (cond (Nat.ble (sy_first 7).2.2.2.2.2.1 600006) (Nat.ble (sy_first 7).2.2.2.2.2.2 7302064) false) false = true := by decide +kernel
end SYRU
