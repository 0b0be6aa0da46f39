/-! the words that each throw asks for -/
section SYVS
def sy_sok (ik ic : Nat) (X : String) : Prop := (∀ u ∈ vx_atS "Manypens" ic X sy_xn, u ∈ lw_tbl ∧ (goodWord u || sy_isN u) = true) ∧
  (∀ u ∈ Cond.classLink "Manypens" ik X :: Cond.initialized X :: vx_atS "Manypens" ic X sy_xn, vx_ot u = true) ∧ Bundle.fit X = true ∧ ∀ n ∈ sy_xn, Bundle.fit n = true
set_option maxRecDepth 20000 in
theorem sy_so0 : sy_sok 80 84 "java/lang/IllegalStateException" := by unfold sy_sok; decide +kernel
set_option maxRecDepth 20000 in
theorem sy_so2 : sy_sok 394 398 "java/lang/ArithmeticException" := by unfold sy_sok; decide +kernel
set_option maxRecDepth 20000 in
theorem sy_so3 : sy_sok 69 73 "java/lang/IllegalArgumentException" := by unfold sy_sok; decide +kernel
set_option maxRecDepth 20000 in
theorem sy_so4 : sy_sok 437 441 "java/lang/IndexOutOfBoundsException" := by unfold sy_sok; decide +kernel
set_option maxRecDepth 20000 in
theorem sy_so5 : sy_sok 448 452 "java/lang/UnsupportedOperationException" := by unfold sy_sok; decide +kernel
theorem sy_sok_all : ∀ k, k ≤ 16 → sy_sx k ≠ 1 → sy_sok (sy_sit k).1 (sy_sit k).2.2.1 (sy_ex (sy_sx k)) := by
  intro k h h1
  match k, h, h1 with
  | 0, _, _ => exact sy_so0
  | 1, _, h1 => exact absurd rfl h1
  | 2, _, h1 => exact absurd rfl h1
  | 3, _, _ => exact sy_so2
  | 4, _, _ => exact sy_so3
  | 5, _, _ => exact sy_so4
  | 6, _, _ => exact sy_so3
  | 7, _, h1 => exact absurd rfl h1
  | 8, _, h1 => exact absurd rfl h1
  | 9, _, h1 => exact absurd rfl h1
  | 10, _, h1 => exact absurd rfl h1
  | 11, _, h1 => exact absurd rfl h1
  | 12, _, _ => exact sy_so5
  | 13, _, _ => exact sy_so2
  | 14, _, h1 => exact absurd rfl h1
  | 15, _, _ => exact sy_so3
  | 16, _, h1 => exact absurd rfl h1
  | n + 17, h, _ => exact absurd h (by omega)
/-- java.util.NoSuchElementException: its constructor of a text isn't the first of its file -/
def sy_nse : List Cond := sy_atN "Manypens" 228 "java/util/NoSuchElementException" "java/lang/RuntimeException" ["java/lang/Exception"] 13 prog_44_method_4_code
set_option maxRecDepth 20000 in
theorem sy_nse1 : ∀ u ∈ sy_nse, u ∈ lw_tbl ∧ (goodWord u || sy_isN u) = true := by decide +kernel
set_option maxRecDepth 20000 in
theorem sy_nse2 : ∀ u ∈ Cond.classLink "Manypens" 224 "java/util/NoSuchElementException" :: Cond.initialized "java/util/NoSuchElementException" :: sy_nse, vx_ot u = true := by decide +kernel
theorem sy_nse3 : Bundle.fit "java/util/NoSuchElementException" = true ∧ Bundle.fit "java/lang/RuntimeException" = true ∧ ∀ n ∈ ["java/lang/Exception"], Bundle.fit n = true := by decide +kernel
theorem sy_nse4 : decode prog_44_method_4_code 0 = .ok (.aload_n 0, 1) ∧ decode prog_44_method_4_code 1 = .ok (.aload_n 1, 1) ∧ decode prog_44_method_4_code 2 = .ok (.invokespecial 13, 3) ∧ decode prog_44_method_4_code 5 = .ok (.return_, 1) := by decide +kernel
theorem sy_nse5 : ∀ k, k ≤ 16 → sy_sx k = 1 → (sy_sit k).1 = 224 ∧ (sy_sit k).2.2.1 = 228 := by decide
theorem sy_cast_all : ∀ a, a ≤ 5 → Cond.castable (sy_ex a) (sy_ex a) ∈ lw_tbl := by decide +kernel
end SYVS
