/-! the words that each throw asks for -/
section SYVS
def sy_sok (k : Nat) : Prop := (∀ u ∈ vx_atS "Manypens" (sy_sit k).2.2.1 (sy_ex (sy_sx k)) sy_xn, u ∈ lw_tbl ∧ (goodWord u || sy_isN u) = true) ∧
  (∀ u ∈ Cond.classLink "Manypens" (sy_sit k).1 (sy_ex (sy_sx k)) :: Cond.initialized (sy_ex (sy_sx k)) :: vx_atS "Manypens" (sy_sit k).2.2.1 (sy_ex (sy_sx k)) sy_xn, vx_ot u = true) ∧ Bundle.fit (sy_ex (sy_sx k)) = true ∧ ∀ n ∈ sy_xn, Bundle.fit n = true
theorem sy_sok_all : ∀ k, k ≤ 16 → sy_sok k := by sorry
theorem sy_cast_all : ∀ a, a ≤ 5 → Cond.castable (sy_ex a) (sy_ex a) ∈ lw_tbl := by sorry
end SYVS
