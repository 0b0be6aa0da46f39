/-! all that holds at the law's entry -/
section SYEG
theorem sy_strs : ∀ k, k ≤ 16 → Cond.stringRef "Manypens" (sy_sit k).2.1 (sy_sit k).2.2.2 ∈ lw_tbl := by decide +kernel
theorem sy_ncs : ∀ a, a ≤ 5 → ∀ b, b ≤ 5 → a ≠ b → Cond.not (.castable (sy_ex a) (sy_ex b)) ∈ flatC (Jvm.Cond.and given_1 narrow_1) := by decide +kernel
theorem sy_isr1 : Cond.isRef (.static Bundle.tN "UNASSIGNED_STACK" Bundle.steD) ∈ flatC (Jvm.Cond.and given_1 narrow_1) := by decide +kernel
theorem sy_isr2 : Cond.isRef (.static Bundle.tN "SUPPRESSED_SENTINEL" Bundle.listD) ∈ flatC (Jvm.Cond.and given_1 narrow_1) := by decide +kernel
theorem sy_lst1 : Cond.laysStatic Bundle.tN "UNASSIGNED_STACK" Bundle.steD ∈ lw_tbl := by decide +kernel
theorem sy_lst2 : Cond.laysStatic Bundle.tN "SUPPRESSED_SENTINEL" Bundle.listD ∈ lw_tbl := by decide +kernel
theorem sy_tin : Cond.initialized Bundle.tN ∈ lw_tbl := by decide +kernel
theorem sy_clo : Cond.castable "[I" "java/lang/Cloneable" ∈ lw_tbl := by decide +kernel
theorem sy_GA0 {s : State} {args : Array Value} {w : sy_Wd} {L : Nat} (hts : ∀ u ∈ lw_tbl, u.before args s = true) (hgv : (Jvm.Cond.and given_1 narrow_1).before args s = true) (hK : va_K w.1 sy_cl (sy_tys w) s) (hX : va_X w.2.2.2 L w.2.2.1 s s.heap) (hbl : w.2.2.2 < s.heap.size) (hL : L ≤ 7) :
    sy_GA w L (fun q : Nat => s.heap.size ≤ q) s s.heap := by
  have hfl := flat_of_before _ hgv
  have hna : ∀ a : Nat, a < s.heap.size → ¬ (fun q : Nat => s.heap.size ≤ q) a := fun a h => Nat.not_le.mpr h
  refine ⟨⟨hK, ⟨hX, hbl, Nat.not_le.mpr hbl⟩, by omega, fun t h1 h2 => hts _ (sy_ao t h2 h1), hts _ sy_aoa, va_Nw.of rfl (hts _ sy_clo)⟩, fun u hu => ?_, ?_, ?_, fun k hk => sy_vkR (hts _ (sy_strs k hk)), fun a b ha hb hab => va_Nc.of (hfl _ (sy_ncs a ha b hb hab))⟩
  · have h1 := hts u (List.mem_filter.mp hu).1
    have hn := (List.mem_filter.mp hu).2
    cases u with
    | fieldLinkNest a i b n d t => exact va_Nw.of rfl h1
    | methodLinkNest a i x t => exact va_Nw.of rfl h1
    | castable a b => exact va_Nw.of rfl h1
    | declares x => exact va_Nw.of rfl h1
    | _ => cases hn
  · exact vx_Zqof (hts _ sy_lst1) (hts _ sy_tin) (hfl _ sy_isr1) hna
  · exact vx_Zqof (hts _ sy_lst2) (hts _ sy_tin) (hfl _ sy_isr2) hna
end SYEG
