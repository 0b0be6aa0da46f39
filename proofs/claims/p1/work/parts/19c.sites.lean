/-! the words that each throw asks for -/
section SYVS
def sy_sok (k : Nat) : Prop := (∀ u ∈ vx_atS "Manypens" (sy_sit k).2.2.1 (sy_ex (sy_sx k)) sy_xn, u ∈ lw_tbl ∧ (goodWord u || sy_isN u) = true) ∧
  (∀ u ∈ Cond.classLink "Manypens" (sy_sit k).1 (sy_ex (sy_sx k)) :: Cond.initialized (sy_ex (sy_sx k)) :: vx_atS "Manypens" (sy_sit k).2.2.1 (sy_ex (sy_sx k)) sy_xn, vx_ot u = true) ∧ Bundle.fit (sy_ex (sy_sx k)) = true ∧ ∀ n ∈ sy_xn, Bundle.fit n = true
set_option maxRecDepth 20000 in
theorem sy_sok_all : ∀ k, k ≤ 16 → sy_sok k := by
  intro k h
  unfold sy_sok
  match k, h with
  | 0, _ => decide +kernel
  | 1, _ => decide +kernel
  | 2, _ => decide +kernel
  | 3, _ => decide +kernel
  | 4, _ => decide +kernel
  | 5, _ => decide +kernel
  | 6, _ => decide +kernel
  | 7, _ => decide +kernel
  | 8, _ => decide +kernel
  | 9, _ => decide +kernel
  | 10, _ => decide +kernel
  | 11, _ => decide +kernel
  | 12, _ => decide +kernel
  | 13, _ => decide +kernel
  | 14, _ => decide +kernel
  | 15, _ => decide +kernel
  | 16, _ => decide +kernel
theorem sy_cast_all : ∀ a, a ≤ 5 → Cond.castable (sy_ex a) (sy_ex a) ∈ lw_tbl := by decide +kernel
end SYVS
