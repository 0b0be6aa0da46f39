/-! what holds at the law's entry -/
section SYEN
theorem sy_vkR {args : Array Value} {s : State} {own tx : String} {k : Nat} (h : (Cond.stringRef own k tx).before args s = true) : ∃ sa, vk_R own k tx sa s := by
  have h1 : (Cond.stringRef own k tx).before #[] s = true := h
  have h2 := h1
  simp only [Cond.before, Cond.holds, Cond.value] at h2
  cases hc : s.vm.findClass own with
  | none => simp [hc] at h2
  | some c =>
    cases hr : s.resolvedAt? own k with
    | none => simp [hc, hr] at h2
    | some r =>
      cases r with
      | string a =>
        refine ⟨a, h1, ?_⟩
        have hr2 := hr
        unfold State.resolvedAt? at hr2
        simp only [hc, Option.bind_eq_bind, Option.bind_some] at hr2
        simp only [Term.eval, hc, Option.bind_eq_bind, Option.bind_some]
        first | (rw [hr2]; rfl) | (cases hk : s.vm.classes[c]? with
          | none => simp [hk] at hr2
          | some kk => simp [hk] at hr2 ⊢; rw [hr2]; rfl)
      | _ => simp [hc, hr] at h2
set_option maxRecDepth 20000 in
theorem sy_inst : ∀ ci, ci ≤ 15 → Cond.instantiable (sy_cn ci) (sy_cN ci) ∈ lw_tbl := by
  intro ci h
  match ci, h with
  | 0, _ => decide +kernel
  | 1, _ => decide +kernel
  | 2, _ => decide +kernel
  | 3, _ => decide +kernel
  | 4, _ => decide +kernel
  | 5, _ => decide +kernel
  | 6, _ => decide +kernel
  | 7, _ => decide +kernel
  | 8, _ => decide +kernel
  | 9, _ => decide +kernel
  | 10, _ => decide +kernel
  | 11, _ => decide +kernel
  | 12, _ => decide +kernel
  | 13, _ => decide +kernel
  | 14, _ => decide +kernel
  | 15, _ => decide +kernel
theorem sy_arrc {args : Array Value} {s : State} {ty : FieldType} (h : (Cond.arrayClass ty).before args s = true) : ∃ cA : ClassId, ArrOfT s cA ty ∧ s.vm.findClass ("[" ++ ty.toString) = some cA := by
  obtain ⟨c, k, comp, h1, h2, h3⟩ := Cond.arrayClass_spec h
  exact ⟨c, fun n z => ⟨fun k h => (by cases h), k, h2, comp, h3⟩, h1⟩
theorem sy_aw : ∀ t, t ≤ 5 → Cond.arrayClass (sy_fty t) ∈ lw_tbl := by decide +kernel
theorem sy_ao : ∀ t, t ≤ 11 → 6 ≤ t → Cond.arrayOver (.object (sy_an t)) ∈ lw_tbl := by decide +kernel
theorem sy_aoa : Cond.arrayOver (.array .boolean) ∈ lw_tbl := by decide +kernel
theorem sy_cA {args : Array Value} {s : State} (hts : ∀ u ∈ lw_tbl, u.before args s = true) : ∀ t, ∃ cA : ClassId, t ≤ 12 → ArrOfT s cA (sy_fty t) ∧ va_RA s cA (sy_fty t) := by
  intro t
  have prim : ∀ t, t ≤ 5 → ∃ cA : ClassId, ArrOfT s cA (sy_fty t) ∧ va_RA s cA (sy_fty t) := fun t ht => by
    obtain ⟨cA, h1, h2⟩ := sy_arrc (hts _ (sy_aw t ht))
    refine ⟨cA, h1, ?_⟩
    match t, ht with
    | 0, _ => exact h2
    | 1, _ => exact h2
    | 2, _ => exact h2
    | 3, _ => exact h2
    | 4, _ => exact h2
    | 5, _ => exact h2
  by_cases h5 : t ≤ 5
  · obtain ⟨cA, h⟩ := prim t h5
    exact ⟨cA, fun _ => h⟩
  · by_cases h11 : t ≤ 11
    · have hty : sy_fty t = .object (sy_an t) := by
        have h6 : 6 ≤ t := by omega
        match t, h6, h11 with
        | 6, _, _ => rfl
        | 7, _, _ => rfl
        | 8, _, _ => rfl
        | 9, _, _ => rfl
        | 10, _, _ => rfl
        | 11, _, _ => rfl
      obtain ⟨comp, c, k, g1, g2, g3, g4, g5⟩ := Cond.arrayOver_spec (hts _ (sy_ao t h11 (by omega)))
      refine ⟨c, fun _ => ?_⟩
      rw [hty]
      exact ⟨fun n z => ⟨fun k h => (by cases h), k, g3, comp, g4⟩, k, comp, g3, g4, g1, g5⟩
    · by_cases h12 : t = 12
      · subst h12
        obtain ⟨comp, c, k, g1, g3, g4, g5⟩ := Cond.arrayOver_specA (hts _ sy_aoa)
        exact ⟨c, fun _ => ⟨fun n z => ⟨fun k h => (by cases h), k, g3, comp, g4⟩, g5⟩⟩
      · obtain ⟨cA, -⟩ := prim 0 (by decide)
        exact ⟨cA, fun h => absurd h (by omega)⟩
theorem sy_K0 {args : Array Value} {s : State} (hts : ∀ u ∈ lw_tbl, u.before args s = true) : ∃ (D : va_G) (cA : Nat → ClassId), ∀ (xs : Nat → Int32) (b : Nat), va_K D sy_cl (sy_tys (D, cA, xs, b)) s := by
  have h1 : ∀ ci, ∃ x : ClassId × (Nat → Nat), ci ≤ 15 → u_Kn s (sy_cn ci) (sy_fr ci) (sy_cN ci) x.1 x.2 := by
    have one : ∀ ci, ci ≤ 15 → ∃ x : ClassId × (Nat → Nat), u_Kn s (sy_cn ci) (sy_fr ci) (sy_cN ci) x.1 x.2 := fun ci h => by
      obtain ⟨cC, iS, hk⟩ := u_known (ws := lw_tbl) hts (fun u hu => (sy_uws ci h u hu).1) (hts _ (sy_inst ci h))
      exact ⟨(cC, iS), hk⟩
    intro ci
    by_cases h : ci ≤ 15
    · obtain ⟨x, hx⟩ := one ci h
      exact ⟨x, fun _ => hx⟩
    · obtain ⟨x, -⟩ := one 0 (by decide)
      exact ⟨x, fun q => absurd q h⟩
  have h2 := sy_cA hts
  refine ⟨(fun ci => (Classical.choose (h1 ci)).1, fun ci => (Classical.choose (h1 ci)).2), fun t => Classical.choose (h2 t), fun xs b => ⟨fun c q hq => ?_, fun k q hq => ?_⟩⟩
  · have hc : c ≤ 15 := by
      have := (List.getElem?_eq_some_iff.mp hq).1
      have h16 : sy_cl.length = 16 := rfl
      omega
    rw [sy_clsT hc] at hq
    cases hq
    exact Classical.choose_spec (h1 c) hc
  · have hk : k ≤ 12 := by
      have := (List.getElem?_eq_some_iff.mp hq).1
      have h13 : (sy_tys ((fun ci => (Classical.choose (h1 ci)).1, fun ci => (Classical.choose (h1 ci)).2), fun t => Classical.choose (h2 t), xs, b)).length = 13 := by simp [sy_tys]
      omega
    rw [sy_tys_get hk] at hq
    cases hq
    exact Classical.choose_spec (h2 k) hk
end SYEN
