/-! what is told of the outside, told again inside a call -/
section SYT
theorem va_AOA_moved {ty : FieldType} {u U : State} (hvm : u.vm.Alike U.vm) (h : va_AOA ty u) : va_AOA ty U := by
  obtain ⟨comp, c, k, h1, h2, h3, h4, h5⟩ : ∃ (comp c : Nat) (k : Class), u.vm.findClass (FieldType.array ty).toString = some comp ∧ (u.vm.classes.findIdx? fun (x : Class) => match x.kind with | .array component _ => component == comp | _ => false) = some c ∧ u.vm.classes[c]? = some k ∧ k.kind = .array comp (.array ty) ∧ u.vm.findClass ("[" ++ (FieldType.array ty).toString) = some c := by
    unfold va_AOA Cond.before at h
    simp only [Cond.holds, Cond.value, beq_iff_eq] at h
    cases hc : u.vm.findClass (FieldType.array ty).toString with
    | none => simp [hc] at h
    | some comp =>
      simp only [hc, Option.bind_some, Option.bind_eq_some_iff, Option.map_eq_some_iff] at h
      obtain ⟨c, hi, k, hk, hb⟩ := h
      have hp := Array.findIdx?_eq_some_iff_getElem.mp hi
      obtain ⟨hlt, hpp, -⟩ := hp
      have hk2 : u.vm.classes[c] = k := by
        have := Array.getElem?_eq_some_iff.mp hk
        exact this.2
      rw [hk2] at hpp
      refine ⟨comp, c, k, rfl, hi, hk, ?_, ?_⟩
      · cases hkk : k.kind with
        | array comp2 ty2 =>
          rw [hkk] at hpp hb
          simp only [beq_iff_eq, Bool.and_eq_true, decide_eq_true_eq] at hpp hb
          rw [hpp, hb.1]
        | _ => rw [hkk] at hb; simp at hb
      · cases hkk : k.kind with
        | array comp2 ty2 =>
          rw [hkk] at hb
          simp only [Bool.and_eq_true, decide_eq_true_eq] at hb
          exact hb.2
        | _ => rw [hkk] at hb; simp at hb
  obtain ⟨k', hk', he⟩ := hvm.2.2 _ _ h3
  have hi : (U.vm.classes.findIdx? fun (x : Class) => match x.kind with | .array component _ => component == comp | _ => false) = some c := by
    refine (va_idx_bare U.vm comp).symm.trans ?_
    refine Eq.trans ?_ ((va_idx_bare u.vm comp).trans h2)
    first | rw [hvm.bare_eq] | rw [← hvm.bare_eq]
  have hkind : k'.kind = .array comp (.array ty) := by rw [he]; exact h4
  have f1 : U.vm.findClass (FieldType.array ty).toString = some comp := by rw [hvm.findClass]; exact h1
  have f2 : U.vm.findClass ("[" ++ (FieldType.array ty).toString) = some c := by rw [hvm.findClass]; exact h5
  unfold va_AOA Cond.before Cond.holds
  simp only [Cond.value]
  rw [f1, Option.bind_some]
  refine (congrArg (fun o : Option Nat => (o.bind (fun c => (U.vm.classes[c]?).map fun (k : Class) => match k.kind with | .array _ ty2 => decide (ty2 = FieldType.array ty) && decide (U.vm.findClass ("[" ++ (FieldType.array ty).toString) = some c) | _ => false) == some true)) hi).trans ?_
  simp [hk', hkind, f2]
/-- words of nest mates and of casts, true of the tables -/
def sy_NF (U : State) : Prop := ∀ u ∈ sy_nst, va_Nw u U
/-- what the throws rest on -/
def sy_GT (A : Nat → Prop) (U : State) (H : Heap) : Prop :=
  vx_Zq Bundle.tN "UNASSIGNED_STACK" Bundle.steD A U H ∧ vx_Zq Bundle.tN "SUPPRESSED_SENTINEL" Bundle.listD A U H ∧ (∀ k, k ≤ 16 → ∃ sa, vk_R "Manypens" (sy_sit k).2.1 (sy_sit k).2.2.2 sa U) ∧ ∀ a b, a ≤ 5 → b ≤ 5 → a ≠ b → va_Nc (sy_ex a) (sy_ex b) U
def sy_GA (w : sy_Wd) (len : Nat) (A : Nat → Prop) (U : State) (H : Heap) : Prop := sy_G w len A U H ∧ sy_NF U ∧ sy_GT A U H
theorem sy_NF_warm {s U : State} (hW : s.WarmedH U.vm) (h : sy_NF s) : sy_NF U := by
  intro u hu
  have hz := h u hu
  have hn := (List.mem_filter.mp hu).2
  cases u with
  | fieldLinkNest a i b n d t => exact va_Nw.warmF hW hz
  | methodLinkNest a i x t => exact va_Nw.warmM hW hz
  | castable a b => exact va_Nw.warmC hW hz
  | declares x => exact va_Nw.warmD hW hz
  | _ => cases hn
theorem sy_GA_tr {w : sy_Wd} {len : Nat} {A A' : Nat → Prop} {s U : State} {H H' : Heap} (h : sy_GA w len A s H) (hW : s.WarmedH U.vm) (hA : ∀ q, q < H.size → A' q → A q) (hA2 : ∀ q, A' q → A q) (hz : H.size ≤ H'.size) (hk : ∀ q : Nat, q < H.size → ¬ A q → H'[q]? = H[q]?) : sy_GA w len A' U H' := by
  obtain ⟨⟨g1, ⟨g2, g3, g4⟩, g5, g6, g7, g8⟩, hN, z1, z2, z3, z4⟩ := h
  have hal := hW.alike
  refine ⟨⟨va_K.moved hal g1, ⟨(g2.moved hal).kept (hk _ g3 g4), Nat.lt_of_lt_of_le g3 hz, fun q => g4 (hA2 _ q)⟩, g5, fun t h1 h2 => (g6 t h1 h2).moved hal, va_AOA_moved hal g7, g8.warmC hW⟩, sy_NF_warm hW hN, ?_, ?_, fun k hk2 => ?_, fun a b ha hb hab => (z4 a b ha hb hab).moved hal⟩
  · exact vx_Zq.moved hal ((z1.kept hk).narrow hA2)
  · exact vx_Zq.moved hal ((z2.kept hk).narrow hA2)
  · obtain ⟨sa, hs⟩ := z3 k hk2
    exact ⟨sa, hs.warm hW⟩
/-- the words hold: the good ones as the method's own list, the others as carried -/
theorem sy_hts {args : Array Value} {s : State} (h1 : ∀ u ∈ sy_gtb, u.before args s = true) (h2 : sy_NF s) : ∀ u ∈ sy_tbl, u.before args s = true := by
  intro u hu
  rcases List.mem_append.mp hu with hu | hu
  · exact h1 u hu
  · have hz := h2 u hu
    have hn := (List.mem_filter.mp hu).2
    cases u with
    | fieldLinkNest a i b n d t => exact va_Nw.use rfl hz
    | methodLinkNest a i x t => exact va_Nw.use rfl hz
    | castable a b => exact va_Nw.use rfl hz
    | declares x => exact va_Nw.use rfl hz
    | _ => cases hn
/-- the locals with which a method begins -/
theorem sy_rd_args : ∀ (l : List Nat) (i L j u : Nat), (∀ v ∈ l, v < 2 ^ 71) → sy_rd (sy_args l i L) j = u + 1 → (u ∈ l ∧ ∀ (w : sy_Wd) (ρ : Nat → Nat), (j, sy_v w ρ u) ∈ lv_args i (l.map (sy_v w ρ))) ∨ sy_rd L j = u + 1
  | [], i, L, j, u, _, h => Or.inr h
  | v :: l, i, L, j, u, hv, h => by
    have h : sy_rd (sy_force (sy_wr L i (Nat.succ v)) fun L => sy_args l (Nat.add i (sy_ct v)) L) j = u + 1 := h
    rw [sy_force_eq] at h
    rcases sy_rd_args l _ _ j u (fun v hm => hv v (List.mem_cons_of_mem _ hm)) h with ⟨h1, h2⟩ | h1
    · refine Or.inl ⟨List.mem_cons_of_mem _ h1, fun w ρ => ?_⟩
      show _ ∈ (i, sy_v w ρ v) :: lv_args (if (sy_v w ρ v).category = 2 then i + 2 else i + 1) (l.map (sy_v w ρ))
      have e : (if (sy_v w ρ v).category = 2 then i + 2 else i + 1) = Nat.add i (sy_ct v) := by
        rw [sy_ct_cat']
        rcases lv_cat (sy_v w ρ v) with hc | hc
        · rw [sy_ct_cat'] at hc
          rw [hc]
          rfl
        · rw [sy_ct_cat'] at hc
          rw [hc]
          rfl
      rw [e]
      exact List.mem_cons_of_mem _ (h2 w ρ)
    · have hlt : Nat.succ v < 2 ^ 72 := by
        have := hv v List.mem_cons_self
        show v + 1 < _
        omega
      rw [sy_rd_wr _ _ _ _ hlt] at h1
      by_cases hij : i = j
      · subst hij
        rw [if_pos rfl] at h1
        have e : v = u := by omega
        subst e
        exact Or.inl ⟨List.mem_cons_self, fun w ρ => List.mem_cons_self⟩
      · rw [if_neg hij] at h1
        exact Or.inr h1
theorem sy_LP_entry {w : sy_Wd} {ρ : Nat → Nat} {n nL : Nat} {l : List Nat} (hl : ∀ v ∈ l, sy_wfV n v) {ls : Array Slot} (h : lv_has ls nL (lv_args 0 (l.map (sy_v w ρ)))) : sy_LP w ρ nL n (sy_args l 0 0) ls := by
  refine sy_LP_of h fun i v hv => ?_
  rcases sy_rd_args l 0 0 i v (fun v hm => (hl v hm).1) hv with ⟨h1, h2⟩ | h1
  · exact ⟨h2 w ρ, hl v h1⟩
  · rw [sy_rd0] at h1
    cases h1
theorem sy_sl_len {w : sy_Wd} {ρ : Nat → Nat} : ∀ l : List Nat, (lg_sl (l.map (sy_v w ρ))).length = sy_cats l
  | [] => rfl
  | v :: l => by
    have e : lg_sl (sy_v w ρ v :: l.map (sy_v w ρ)) = (if (sy_v w ρ v).category = 2 then [.val (sy_v w ρ v), .second] else [.val (sy_v w ρ v)]) ++ lg_sl (l.map (sy_v w ρ)) := rfl
    show (lg_sl (sy_v w ρ v :: l.map (sy_v w ρ))).length = sy_ct v + sy_cats l
    rw [e, List.length_append, sy_sl_len l]
    rcases lv_cat (sy_v w ρ v) with hc | hc
    · rw [if_neg (by rw [hc]; decide), ← sy_ct_cat' (w := w) (ρ := ρ), hc]
      rfl
    · rw [if_pos hc, ← sy_ct_cat' (w := w) (ρ := ρ), hc]
      rfl
end SYT
