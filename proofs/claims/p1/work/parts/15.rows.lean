/-! a checked place does what its operation says -/
section SYZ
theorem sy_dc_of {cc : ByteArray} {pc n npc : Nat} {i : Instr} (h : sy_dc cc pc i n npc = true) : decode cc pc = .ok (i, n) ∧ npc = pc + n := by
  unfold sy_dc at h
  rw [Bool.and_eq_true] at h
  exact ⟨of_decide_eq_true h.1, sy_beq h.2⟩
theorem sy_dt_of {cc : ByteArray} {pc n : Nat} {i : Instr} (h : sy_dt cc pc i n = true) : decode cc pc = .ok (i, n) := of_decide_eq_true h
theorem sy_an2 {a b : Bool} (h : (a && b) = true) : a = true ∧ b = true := by rw [Bool.and_eq_true] at h; exact h
/-- what holds of the tables and of the cells outside, all through a method -/
def sy_G (w : sy_Wd) (len : Nat) (A : Nat → Prop) (U : State) (H : Heap) : Prop :=
  va_K w.1 sy_cl (sy_tys w) U ∧ (va_X w.2.2.2 len w.2.2.1 U H ∧ w.2.2.2 < H.size ∧ ¬ A w.2.2.2) ∧ len ≤ 65535 ∧ (∀ t, 6 ≤ t → t ≤ 11 → va_AO (sy_an t) U) ∧ va_AOA .boolean U ∧ va_Nw (.castable "[I" "java/lang/Cloneable") U
def sy_Cx (p : Program) (R : Room) (s : State) (m : MethodId) (args : Array Value) (meth : Method) (c : Code) (w : sy_Wd) (A : Nat → Prop) (tk : sy_T) (len : Nat) (cc : ByteArray) (own : String) (ini : Bool) (nL : Nat) (lw : List Cond) : Prop :=
  p.tables.exec = Jvm.exec ∧ c.code = cc ∧ c.maxLocals = nL ∧ s.vm.findClass own = some m.cls ∧ (∀ u ∈ sy_tbl, u.before args s = true) ∧ (∀ u ∈ lw, u ∈ sy_tbl) ∧ (ini = true → meth.name = "<init>") ∧ sy_G w len A s s.heap ∧ (∀ q, s.heap.size ≤ q → A q) ∧ sy_TK tk w.2.2.1 ∧ 4 ≤ R.frames ∧ 200 ≤ R.locals
theorem sy_tys_get {w : sy_Wd} {t : Nat} (h : t ≤ 12) : (sy_tys w)[t]? = some (w.2.1 t, sy_fty t) := by
  unfold sy_tys
  rw [List.getElem?_map, List.getElem?_range (by omega)]
  rfl
/-- the classes' words, fields and types -/
theorem sy_cls_ok : ∀ ci, ci ≤ 15 → sy_cl[ci]? = some (sy_cn ci, (match sy_cl[ci]? with | some q => q.2.1 | none => fun _ => ("", "", "", false)), sy_cN ci) := by
  intro ci h
  match ci, h with
  | 0, _ => rfl
  | 1, _ => rfl
  | 2, _ => rfl
  | 3, _ => rfl
  | 4, _ => rfl
  | 5, _ => rfl
  | 6, _ => rfl
  | 7, _ => rfl
  | 8, _ => rfl
  | 9, _ => rfl
  | 10, _ => rfl
  | 11, _ => rfl
  | 12, _ => rfl
  | 13, _ => rfl
  | 14, _ => rfl
  | 15, _ => rfl
theorem sy_fr_eq {ci k : Nat} : sy_fr ci k = (match sy_cl[ci]? with | some q => q.2.1 | none => fun _ => ("", "", "", false)) k := by
  unfold sy_fr
  cases sy_cl[ci]? <;> rfl
theorem sy_clsT {ci : Nat} (h : ci ≤ 15) : sy_cl[ci]? = some (sy_cn ci, sy_fr ci, sy_cN ci) := by
  rw [sy_cls_ok ci h]
  congr 3
  funext k
  exact sy_fr_eq.symm
set_option maxRecDepth 20000 in
theorem sy_uws : ∀ ci, ci ≤ 15 → ∀ u ∈ u_ws (sy_cn ci) (sy_fr ci) (sy_cN ci), u ∈ lw_tbl ∧ goodWord u = true := by
  intro ci h
  match ci, h with
  | 0, _ => decide +kernel
  | 1, _ => decide +kernel
  | 2, _ => decide +kernel
  | 3, _ => decide +kernel
  | 4, _ => decide +kernel
  | 5, _ => decide +kernel
  | 6, _ => decide +kernel
  | 7, _ => decide +kernel
  | 8, _ => decide +kernel
  | 9, _ => decide +kernel
  | 10, _ => decide +kernel
  | 11, _ => decide +kernel
  | 12, _ => decide +kernel
  | 13, _ => decide +kernel
  | 14, _ => decide +kernel
  | 15, _ => decide +kernel
theorem sy_tbl_mem {u : Cond} (h : u ∈ lw_tbl ∧ goodWord u = true) : u ∈ sy_tbl := List.mem_append_left _ (List.mem_filter.mpr h)
theorem sy_tbl_memN {u : Cond} (h : u ∈ lw_tbl ∧ sy_isN u = true) : u ∈ sy_tbl := List.mem_append_right _ (List.mem_filter.mpr h)
def sy_ft (ci k : Nat) : FieldType := (parseFieldDescriptor (sy_fr ci k).2.2.1).getD .int
theorem sy_ft_ok : ∀ ci, ci ≤ 15 → ∀ k, k < sy_cN ci → parseFieldDescriptor (sy_fr ci k).2.2.1 = some (sy_ft ci k) := by
  intro ci h
  match ci, h with
  | 0, _ => decide +kernel
  | 1, _ => decide +kernel
  | 2, _ => decide +kernel
  | 3, _ => decide +kernel
  | 4, _ => decide +kernel
  | 5, _ => decide +kernel
  | 6, _ => decide +kernel
  | 7, _ => decide +kernel
  | 8, _ => decide +kernel
  | 9, _ => decide +kernel
  | 10, _ => decide +kernel
  | 11, _ => decide +kernel
  | 12, _ => decide +kernel
  | 13, _ => decide +kernel
  | 14, _ => decide +kernel
  | 15, _ => decide +kernel
theorem sy_nm_ok : ∀ ci, ci ≤ 15 → ∀ a, a < sy_cN ci → ∀ b, b < sy_cN ci → a ≠ b → (sy_fr ci a).2.1 ≠ (sy_fr ci b).2.1 := by
  intro ci h
  match ci, h with
  | 0, _ => exact nmX0
  | 1, _ => exact nmX1
  | 2, _ => exact nmX2
  | 3, _ => exact nmX3
  | 4, _ => exact nmX4
  | 5, _ => exact nmX5
  | 6, _ => exact nmX6
  | 7, _ => exact nmX7
  | 8, _ => exact nmX8
  | 9, _ => exact nmX9
  | 10, _ => exact nmX10
  | 11, _ => exact nmX11
  | 12, _ => exact nmX12
  | 13, _ => exact nmX13
  | 14, _ => exact nmX14
  | 15, _ => exact nmX15
/-- a new object's fields -/
def sy_dfl (t : FieldType) (v : Nat) : Bool := match t with
  | .long => Nat.beq v 1
  | .object _ => Nat.beq v 4
  | .array _ => Nat.beq v 4
  | .float => Nat.beq v 2
  | .double => Nat.beq v 3
  | _ => Nat.beq v 0
theorem sy_dfl_ok {w : sy_Wd} {ρ : Nat → Nat} {t : FieldType} {v : Nat} (h : sy_dfl t v = true) : defaultValue t = sy_v w ρ v := by
  cases t <;> (have h := sy_beq h; subst h; rfl)
theorem sy_fi_ok : ∀ ci, ci ≤ 15 → (sy_fi ci).1 = sy_cN ci ∧ (∀ j, j < sy_cN ci → sy_dfl (sy_ft ci j) (sy_rd (sy_fi ci).2 j) = true) := by
  intro ci h
  match ci, h with
  | 0, _ => decide +kernel
  | 1, _ => decide +kernel
  | 2, _ => decide +kernel
  | 3, _ => decide +kernel
  | 4, _ => decide +kernel
  | 5, _ => decide +kernel
  | 6, _ => decide +kernel
  | 7, _ => decide +kernel
  | 8, _ => decide +kernel
  | 9, _ => decide +kernel
  | 10, _ => decide +kernel
  | 11, _ => decide +kernel
  | 12, _ => decide +kernel
  | 13, _ => decide +kernel
  | 14, _ => decide +kernel
  | 15, _ => decide +kernel
/-- the content of a new object holds numbers below 5 alone: 18 places and then nothing -/
theorem sy_fi_lt : ∀ ci, ci ≤ 15 → (sy_fi ci).2 < 2 ^ (72 * 18) ∧ ∀ j, j < 18 → sy_rd (sy_fi ci).2 j < 5 := by
  intro ci h
  match ci, h with
  | 0, _ => decide +kernel
  | 1, _ => decide +kernel
  | 2, _ => decide +kernel
  | 3, _ => decide +kernel
  | 4, _ => decide +kernel
  | 5, _ => decide +kernel
  | 6, _ => decide +kernel
  | 7, _ => decide +kernel
  | 8, _ => decide +kernel
  | 9, _ => decide +kernel
  | 10, _ => decide +kernel
  | 11, _ => decide +kernel
  | 12, _ => decide +kernel
  | 13, _ => decide +kernel
  | 14, _ => decide +kernel
  | 15, _ => decide +kernel
theorem sy_fi_wf {ci : Nat} (h : ci ≤ 15) (n j : Nat) : sy_wfV n (sy_rd (sy_fi ci).2 j) := by
  obtain ⟨h1, h2⟩ := sy_fi_lt ci h
  have h5 : sy_rd (sy_fi ci).2 j < 5 := by
    by_cases hj : j < 18
    · exact h2 j hj
    · have e : sy_rd (sy_fi ci).2 j = 0 := by
        apply Nat.eq_of_testBit_eq
        intro k
        rw [sy_rd_bit, Nat.zero_testBit, Nat.testBit_lt_two_pow (Nat.lt_of_lt_of_le h1 (Nat.pow_le_pow_right (by decide) (by omega)))]
        simp
      omega
  refine ⟨Nat.lt_trans h5 (by decide), fun q => ?_⟩
  have : sy_rd (sy_fi ci).2 j % 16 = 5 := q
  omega
/-- what may stand in a field, as the machine asks it -/
theorem sy_okf_ok {w : sy_Wd} {ρ : Nat → Nat} {t : FieldType} {y v : Nat} (ht : sy_tyc t = y) (hy : y < 7) (h : sy_okf y v = true) : narrow t (sy_v w ρ v) = sy_v w ρ v ∧ fits t (sy_v w ρ v) = true := by
  subst ht
  cases t with
  | int =>
    obtain ⟨x, hx⟩ := sy_vi_ex (w := w) (ρ := ρ) (sy_beq h)
    rw [hx]
    exact ⟨rfl, rfl⟩
  | long =>
    obtain ⟨x, hx⟩ := sy_vl_ex (w := w) (ρ := ρ) (sy_beq h)
    rw [hx]
    exact ⟨rfl, rfl⟩
  | float =>
    rcases sy_ty_tg (sy_beq h) (by decide) with ⟨q, -⟩ | ⟨q, -⟩ | ⟨q, -⟩ | ⟨-, q⟩ | ⟨q, -⟩
    · cases q
    · cases q
    · cases q
    · rw [sy_v2 q]
      exact ⟨rfl, rfl⟩
    · cases q
  | double =>
    rcases sy_ty_tg (sy_beq h) (by decide) with ⟨q, -⟩ | ⟨q, -⟩ | ⟨q, -⟩ | ⟨q, -⟩ | ⟨-, q⟩
    · cases q
    · cases q
    · cases q
    · cases q
    · rw [sy_v3 q]
      exact ⟨rfl, rfl⟩
  | object C =>
    rcases sy_vr_ex (w := w) (ρ := ρ) (sy_beq h) with hx | ⟨x, hx⟩
    · rw [hx]
      exact ⟨rfl, rfl⟩
    · rw [hx]
      exact ⟨rfl, rfl⟩
  | array C =>
    rcases sy_vr_ex (w := w) (ρ := ρ) (sy_beq h) with hx | ⟨x, hx⟩
    · rw [hx]
      exact ⟨rfl, rfl⟩
    · rw [hx]
      exact ⟨rfl, rfl⟩
  | boolean =>
    have h : cond (Nat.beq v 0) true (Nat.beq v 16) = true := h
    cases hc : Nat.beq v 0 with
    | true =>
      have e := sy_beq hc
      subst e
      exact ⟨rfl, rfl⟩
    | false =>
      rw [hc] at h
      have e : v = 16 := sy_beq h
      subst e
      exact ⟨rfl, rfl⟩
  | char =>
    have hc := sy_isch_of h
    obtain ⟨z, hz, hz2⟩ : ∃ z : Nat, sy_v w ρ v = .int (nI z) ∧ z ≤ 65535 := by
      rcases hc with hc | ⟨hc, h2⟩
      · rw [sy_v8 hc]
        have hk := sy_ch_k (w.2.2.1 (sy_py v))
        have e : sy_ch (w.2.2.1 (sy_py v)) = nI (sy_k (sy_ch (w.2.2.1 (sy_py v))) - 2147483648) := by
          rw [sy_k_eq, sy_k_nI]
          omega
        exact ⟨sy_k (sy_ch (w.2.2.1 (sy_py v))) - 2147483648, congrArg Value.int e, by omega⟩
      · exact ⟨_, sy_v0 hc, h2⟩
    rw [hz]
    have e1 : (nI z).toInt = (z : Int) := nI_toInt (by omega)
    refine ⟨?_, ?_⟩
    · show Value.int (nI z).toUInt32.toUInt16.toUInt32.toInt32 = _
      rw [← lg_i2c_nf, lg_i2c_word (by rw [e1]; omega) (by rw [e1]; omega)]
    · show (decide (0 ≤ nI z) && decide (nI z ≤ 65535)) = true
      rw [Bool.and_eq_true, decide_eq_true_iff, decide_eq_true_iff, Int32.le_iff_toInt_le, Int32.le_iff_toInt_le, e1]
      refine ⟨?_, ?_⟩
      · show (0 : Int) ≤ _
        omega
      · show _ ≤ (65535 : Int)
        omega
  | byte => exact absurd hy (by decide)
  | short => exact absurd hy (by decide)
end SYZ
