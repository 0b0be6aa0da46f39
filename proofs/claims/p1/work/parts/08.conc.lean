/-! what the abstract values and cells stand for -/
section SYC
/-- the classes and places, the array classes, the script's ints, its address -/
abbrev sy_Wd : Type := va_G × (Nat → ClassId) × (Nat → Int32) × Nat
def sy_ch (x : Int32) : Int32 := (x.toUInt32 % 65536).toInt32
def sy_v (w : sy_Wd) (ρ : Nat → Nat) (v : Nat) : Value := match sy_tg v with
  | 0 => .int (nI (sy_py v))
  | 1 => .long (lN (sy_py v))
  | 2 => .float (UInt32.ofNat (sy_py v))
  | 3 => .double (UInt64.ofNat (sy_py v))
  | 4 => .null
  | 5 => .ref (ρ (sy_py v))
  | 6 => .int (w.2.2.1 (sy_py v))
  | 7 => .long (w.2.2.1 (sy_py v)).toInt64
  | 8 => .int (sy_ch (w.2.2.1 (sy_py v)))
  | _ => .ref w.2.2.2
def sy_fty (t : Nat) : FieldType := match t with
  | 0 => .int
  | 1 => .long
  | 2 => .boolean
  | 3 => .char
  | 4 => .byte
  | 5 => .double
  | 6 => .object "Manypens$Edit"
  | 7 => .object "Manypens$Hand"
  | 8 => .object "ManypensModel$Edit"
  | 9 => .object "ManypensModel$Group"
  | 10 => .object "ManypensModel$Hand"
  | 11 => .object "ManypensModel$Letter"
  | _ => .array .boolean
def sy_tys (w : sy_Wd) : List (ClassId × FieldType) := (List.range 13).map fun t => (w.2.1 t, sy_fty t)
def sy_vi : Value → Int32 | .int x => x | _ => 0
def sy_vl : Value → Int64 | .long x => x | _ => 0
def sy_vd : Value → UInt64 | .double x => x | _ => 0
def sy_vr : Value → Option Nat | .ref a => some a | _ => none
noncomputable def sy_arr (w : sy_Wd) (ρ : Nat → Nat) (t d : Nat) : (Nat → Int32) ⊕ (Nat → Int64) ⊕ (Nat → UInt32) ⊕ (Nat → UInt64) ⊕ (Nat → Option Nat) :=
  if t = 1 then .inr (.inl fun i => sy_vl (sy_v w ρ (sy_elt 1 (sy_rd d i))))
  else if t = 5 then .inr (.inr (.inr (.inl fun i => sy_vd (sy_v w ρ (sy_elt 5 (sy_rd d i))))))
  else if t < 6 then .inl fun i => sy_vi (sy_v w ρ (sy_elt 0 (sy_rd d i)))
  else .inr (.inr (.inr (.inr fun i => sy_vr (sy_v w ρ (sy_elt 6 (sy_rd d i))))))
noncomputable def sy_ce (w : sy_Wd) (ρ : Nat → Nat) (o : sy_O) : va_E :=
  if o.1 % 2 = 0 then .inr (o.1 / 2, (List.range o.2.1).map fun k => sy_v w ρ (sy_rd o.2.2 k)) else .inl (w.2.1 (o.1 / 2), o.2.1, sy_arr w ρ (o.1 / 2) o.2.2)
noncomputable def sy_ws (w : sy_Wd) (ρ : Nat → Nat) (h : sy_H) : va_W := (List.range h.1).map fun i => (ρ i, sy_ce w ρ (sy_hg h.2 i))
/-- a value that may stand in a world of n cells -/
def sy_wfV (n v : Nat) : Prop := v < 2 ^ 71 ∧ (sy_tg v = 5 → sy_py v < n)
def sy_wfO (n : Nat) (o : sy_O) : Prop := ∀ j, sy_wfV n (sy_rd o.2.2 j)
def sy_wfH (h : sy_H) : Prop := h.1 ≤ 511 ∧ ∀ i, i < h.1 → sy_wfO h.1 (sy_hg h.2 i)
def sy_ag (n : Nat) (ρ ρ' : Nat → Nat) : Prop := ∀ k, k < n → ρ' k = ρ k
def sy_up (ρ : Nat → Nat) (n a : Nat) : Nat → Nat := fun k => if k = n then a else ρ k
theorem sy_wfV.mono {n m v : Nat} (h : sy_wfV n v) (hm : n ≤ m) : sy_wfV m v := ⟨h.1, fun q => Nat.lt_of_lt_of_le (h.2 q) hm⟩
theorem sy_wfO.mono {n m : Nat} {o : sy_O} (h : sy_wfO n o) (hm : n ≤ m) : sy_wfO m o := fun j => (h j).mono hm
theorem sy_ag.rf {n : Nat} {ρ : Nat → Nat} : sy_ag n ρ ρ := fun _ _ => rfl
theorem sy_ag.up {n : Nat} {ρ : Nat → Nat} (a : Nat) : sy_ag n ρ (sy_up ρ n a) := fun k hk => if_neg (Nat.ne_of_lt hk)
theorem sy_ag.trans {n m : Nat} {ρ ρ' ρ'' : Nat → Nat} (h : sy_ag n ρ ρ') (h2 : sy_ag m ρ' ρ'') (hm : n ≤ m) : sy_ag n ρ ρ'' := fun k hk => (h2 k (Nat.lt_of_lt_of_le hk hm)).trans (h k hk)
theorem sy_v_ag {w : sy_Wd} {ρ ρ' : Nat → Nat} {n v : Nat} (h : sy_wfV n v) (ha : sy_ag n ρ ρ') : sy_v w ρ' v = sy_v w ρ v := by
  unfold sy_v
  split <;> first | rfl | skip
  next e => rw [ha _ (h.2 e)]
theorem sy_wfV_elt {n t x : Nat} (h : sy_wfV n x) : sy_wfV n (sy_elt t x) := by
  cases x with
  | zero =>
    show sy_wfV n (sy_dv t)
    have key : ∀ z : Nat, z = 0 ∨ z = 1 ∨ z = 3 ∨ z = 4 → sy_wfV n z := fun z hz => by
      rcases hz with rfl | rfl | rfl | rfl
      all_goals exact ⟨by decide, fun q => absurd q (by decide)⟩
    apply key
    match t with
    | 0 => exact Or.inl rfl
    | 1 => exact Or.inr (Or.inl rfl)
    | 2 => exact Or.inl rfl
    | 3 => exact Or.inl rfl
    | 4 => exact Or.inl rfl
    | 5 => exact Or.inr (Or.inr (Or.inl rfl))
    | n + 6 => exact Or.inr (Or.inr (Or.inr rfl))
  | succ m => exact h
theorem sy_arr_ag {w : sy_Wd} {ρ ρ' : Nat → Nat} {n t d : Nat} (h : ∀ j, sy_wfV n (sy_rd d j)) (ha : sy_ag n ρ ρ') : sy_arr w ρ' t d = sy_arr w ρ t d := by
  unfold sy_arr
  simp only [sy_v_ag (sy_wfV_elt (h _)) ha]
theorem sy_ce_ag {w : sy_Wd} {ρ ρ' : Nat → Nat} {n : Nat} {o : sy_O} (h : sy_wfO n o) (ha : sy_ag n ρ ρ') : sy_ce w ρ' o = sy_ce w ρ o := by
  unfold sy_ce
  simp only [sy_v_ag (h _) ha, sy_arr_ag h ha]
theorem sy_ws_len {w : sy_Wd} {ρ : Nat → Nat} {h : sy_H} : (sy_ws w ρ h).length = h.1 := by simp [sy_ws]
theorem sy_ws_get {w : sy_Wd} {ρ : Nat → Nat} {h : sy_H} {i : Nat} (hi : i < h.1) : (sy_ws w ρ h)[i]? = some (ρ i, sy_ce w ρ (sy_hg h.2 i)) := by
  simp [sy_ws, hi]
theorem sy_ws_set {w : sy_Wd} {ρ : Nat → Nat} {h : sy_H} (hw : sy_wfH h) {i : Nat} (x : sy_O) (hi : i < h.1) : (sy_ws w ρ h).set i (ρ i, sy_ce w ρ x) = sy_ws w ρ (h.1, sy_hp h.2 i x) := by
  have h5 := hw.1
  apply List.ext_getElem?
  intro j
  by_cases hj : j < h.1
  · rw [sy_ws_get (h := (h.1, sy_hp h.2 i x)) hj, sy_hg_hp _ _ _ _ (by omega) (by omega)]
    by_cases hij : i = j
    · subst hij
      rw [List.getElem?_set_self (by rw [sy_ws_len]; exact hi), if_pos rfl]
    · rw [List.getElem?_set_ne hij, sy_ws_get hj, if_neg hij]
  · rw [List.getElem?_eq_none (by rw [List.length_set, sy_ws_len]; omega), List.getElem?_eq_none (by rw [sy_ws_len]; show h.1 ≤ j; omega)]
theorem sy_ws_ag {w : sy_Wd} {ρ ρ' : Nat → Nat} {h : sy_H} (hw : sy_wfH h) (ha : sy_ag h.1 ρ ρ') : sy_ws w ρ' h = sy_ws w ρ h := by
  unfold sy_ws
  apply List.map_congr_left
  intro i hi
  rw [ha i (List.mem_range.mp hi), sy_ce_ag (hw.2 i (List.mem_range.mp hi)) ha]
theorem sy_ws_push {w : sy_Wd} {ρ : Nat → Nat} {h : sy_H} (hw : sy_wfH h) (a : Nat) {x : sy_O} (hx : sy_wfO h.1 x) :
    sy_ws w ρ h ++ [(a, sy_ce w ρ x)] = sy_ws w (sy_up ρ h.1 a) (h.1 + 1, sy_hp h.2 h.1 x) := by
  have ha : sy_ag h.1 ρ (sy_up ρ h.1 a) := sy_ag.up a
  have h5 := hw.1
  apply List.ext_getElem?
  intro j
  by_cases hj : j < h.1
  · rw [List.getElem?_append_left (by rw [sy_ws_len]; exact hj), sy_ws_get hj, sy_ws_get (h := (h.1 + 1, sy_hp h.2 h.1 x)) (Nat.lt_succ_of_lt hj), sy_hg_hp _ _ _ _ (by omega) (by omega), if_neg (Nat.ne_of_gt hj), ha j hj, sy_ce_ag (hw.2 j hj) ha]
  · by_cases hj2 : j = h.1
    · subst hj2
      rw [List.getElem?_append_right (by rw [sy_ws_len]; exact Nat.le_refl _), sy_ws_len, Nat.sub_self, sy_ws_get (h := (h.1 + 1, sy_hp h.2 h.1 x)) (Nat.lt_succ_self _), sy_hg_hp _ _ _ _ (by omega) (by omega), if_pos rfl, sy_ce_ag hx ha]
      show some (a, _) = _
      rw [show sy_up ρ h.1 a h.1 = a from if_pos rfl]
    · rw [List.getElem?_eq_none (by rw [List.length_append, sy_ws_len]; show h.1 + 1 ≤ j; omega), List.getElem?_eq_none (by rw [sy_ws_len]; show h.1 + 1 ≤ j; omega)]
theorem sy_wfH_put {h : sy_H} (hw : sy_wfH h) {i : Nat} (hi : i < h.1) {x : sy_O} (hx : sy_wfO h.1 x) : sy_wfH (h.1, sy_hp h.2 i x) := by
  have h5 := hw.1
  refine ⟨h5, fun j hj => ?_⟩
  have hj : j < h.1 := hj
  show sy_wfO h.1 (sy_hg (sy_hp h.2 i x) j)
  rw [sy_hg_hp _ _ _ _ (by omega) (by omega)]
  split
  · exact hx
  · exact hw.2 j hj
theorem sy_wfH_push {h : sy_H} (hw : sy_wfH h) (h5 : h.1 + 1 ≤ 511) {x : sy_O} (hx : sy_wfO (h.1 + 1) x) : sy_wfH (h.1 + 1, sy_hp h.2 h.1 x) := by
  refine ⟨h5, fun j hj => ?_⟩
  have hj : j < h.1 + 1 := hj
  show sy_wfO (h.1 + 1) (sy_hg (sy_hp h.2 h.1 x) j)
  rw [sy_hg_hp _ _ _ _ (by omega) (by omega)]
  split
  · exact hx
  · exact (hw.2 j (by omega)).mono (Nat.le_succ _)
theorem sy_wfO_wr {n d j v : Nat} {k m : Nat} (h : ∀ j, sy_wfV n (sy_rd d j)) (hv : sy_wfV n v) : sy_wfO n (k, m, sy_wr d j v) := by
  intro i
  show sy_wfV n (sy_rd (sy_wr d j v) i)
  rw [sy_rd_wr _ _ _ _ (Nat.lt_trans hv.1 (by decide))]
  split
  · exact hv
  · exact h i
theorem sy_wfV_pk {n t x : Nat} (ht : t < 16) (h5 : t = 5 → x < n) (hx : x < 2 ^ 66) : sy_wfV n (sy_pk t x) := by
  refine ⟨?_, fun q => ?_⟩
  · show 16 * x + t < 2 ^ 71
    omega
  · rw [sy_tg_pk ht] at q
    rw [sy_py_pk ht]
    exact h5 q
/-! values by their tags -/
theorem sy_v0 {w : sy_Wd} {ρ : Nat → Nat} {v : Nat} (h : sy_tg v = 0) : sy_v w ρ v = .int (nI (sy_py v)) := by unfold sy_v; rw [h]; rfl
theorem sy_v1 {w : sy_Wd} {ρ : Nat → Nat} {v : Nat} (h : sy_tg v = 1) : sy_v w ρ v = .long (lN (sy_py v)) := by unfold sy_v; rw [h]; rfl
theorem sy_v2 {w : sy_Wd} {ρ : Nat → Nat} {v : Nat} (h : sy_tg v = 2) : sy_v w ρ v = .float (UInt32.ofNat (sy_py v)) := by unfold sy_v; rw [h]; rfl
theorem sy_v3 {w : sy_Wd} {ρ : Nat → Nat} {v : Nat} (h : sy_tg v = 3) : sy_v w ρ v = .double (UInt64.ofNat (sy_py v)) := by unfold sy_v; rw [h]; rfl
theorem sy_v4 {w : sy_Wd} {ρ : Nat → Nat} {v : Nat} (h : sy_tg v = 4) : sy_v w ρ v = .null := by unfold sy_v; rw [h]; rfl
theorem sy_v5 {w : sy_Wd} {ρ : Nat → Nat} {v : Nat} (h : sy_tg v = 5) : sy_v w ρ v = .ref (ρ (sy_py v)) := by unfold sy_v; rw [h]; rfl
theorem sy_v6 {w : sy_Wd} {ρ : Nat → Nat} {v : Nat} (h : sy_tg v = 6) : sy_v w ρ v = .int (w.2.2.1 (sy_py v)) := by unfold sy_v; rw [h]; rfl
theorem sy_v7 {w : sy_Wd} {ρ : Nat → Nat} {v : Nat} (h : sy_tg v = 7) : sy_v w ρ v = .long (w.2.2.1 (sy_py v)).toInt64 := by unfold sy_v; rw [h]; rfl
theorem sy_v8 {w : sy_Wd} {ρ : Nat → Nat} {v : Nat} (h : sy_tg v = 8) : sy_v w ρ v = .int (sy_ch (w.2.2.1 (sy_py v))) := by unfold sy_v; rw [h]; rfl
theorem sy_v9 {w : sy_Wd} {ρ : Nat → Nat} {v : Nat} (h : sy_tg v = 9) : sy_v w ρ v = .ref w.2.2.2 := by unfold sy_v; rw [h]; rfl
theorem sy_vi_ex {w : sy_Wd} {ρ : Nat → Nat} {v : Nat} (h : sy_ty v = 0) : ∃ x, sy_v w ρ v = .int x := by
  rcases sy_ty_tg h (by decide) with ⟨-, h | h | h⟩ | ⟨h, -⟩ | ⟨h, -⟩ | ⟨h, -⟩ | ⟨h, -⟩
  · exact ⟨_, sy_v0 h⟩
  · exact ⟨_, sy_v6 h⟩
  · exact ⟨_, sy_v8 h⟩
  all_goals cases h
theorem sy_vl_ex {w : sy_Wd} {ρ : Nat → Nat} {v : Nat} (h : sy_ty v = 1) : ∃ x, sy_v w ρ v = .long x := by
  rcases sy_ty_tg h (by decide) with ⟨h, -⟩ | ⟨-, h | h⟩ | ⟨h, -⟩ | ⟨h, -⟩ | ⟨h, -⟩
  · cases h
  · exact ⟨_, sy_v1 h⟩
  · exact ⟨_, sy_v7 h⟩
  all_goals cases h
theorem sy_vr_ex {w : sy_Wd} {ρ : Nat → Nat} {v : Nat} (h : sy_ty v = 2) : sy_v w ρ v = .null ∨ ∃ x, sy_v w ρ v = .ref x := by
  rcases sy_ty_tg h (by decide) with ⟨h, -⟩ | ⟨h, -⟩ | ⟨-, h | h | h⟩ | ⟨h, -⟩ | ⟨h, -⟩
  · cases h
  · cases h
  · exact Or.inl (sy_v4 h)
  · exact Or.inr ⟨_, sy_v5 h⟩
  · exact Or.inr ⟨_, sy_v9 h⟩
  all_goals cases h
theorem sy_ct_cat' {w : sy_Wd} {ρ : Nat → Nat} {v : Nat} : (sy_v w ρ v).category = sy_ct v := by
  have hg : sy_tg v < 16 := Nat.mod_lt _ (by decide)
  unfold sy_v sy_ct
  generalize sy_tg v = g at hg ⊢
  match g, hg with
  | 0, _ => exact (by decide : 1 = Nat.mod (Nat.shiftRight 1229782938515743009 (Nat.mul 4 0)) 16)
  | 1, _ => exact (by decide : 2 = Nat.mod (Nat.shiftRight 1229782938515743009 (Nat.mul 4 1)) 16)
  | 2, _ => exact (by decide : 1 = Nat.mod (Nat.shiftRight 1229782938515743009 (Nat.mul 4 2)) 16)
  | 3, _ => exact (by decide : 2 = Nat.mod (Nat.shiftRight 1229782938515743009 (Nat.mul 4 3)) 16)
  | 4, _ => exact (by decide : 1 = Nat.mod (Nat.shiftRight 1229782938515743009 (Nat.mul 4 4)) 16)
  | 5, _ => exact (by decide : 1 = Nat.mod (Nat.shiftRight 1229782938515743009 (Nat.mul 4 5)) 16)
  | 6, _ => exact (by decide : 1 = Nat.mod (Nat.shiftRight 1229782938515743009 (Nat.mul 4 6)) 16)
  | 7, _ => exact (by decide : 2 = Nat.mod (Nat.shiftRight 1229782938515743009 (Nat.mul 4 7)) 16)
  | 8, _ => exact (by decide : 1 = Nat.mod (Nat.shiftRight 1229782938515743009 (Nat.mul 4 8)) 16)
  | 9, _ => exact (by decide : 1 = Nat.mod (Nat.shiftRight 1229782938515743009 (Nat.mul 4 9)) 16)
  | 10, _ => exact (by decide : 1 = Nat.mod (Nat.shiftRight 1229782938515743009 (Nat.mul 4 10)) 16)
  | 11, _ => exact (by decide : 1 = Nat.mod (Nat.shiftRight 1229782938515743009 (Nat.mul 4 11)) 16)
  | 12, _ => exact (by decide : 1 = Nat.mod (Nat.shiftRight 1229782938515743009 (Nat.mul 4 12)) 16)
  | 13, _ => exact (by decide : 1 = Nat.mod (Nat.shiftRight 1229782938515743009 (Nat.mul 4 13)) 16)
  | 14, _ => exact (by decide : 1 = Nat.mod (Nat.shiftRight 1229782938515743009 (Nat.mul 4 14)) 16)
  | 15, _ => exact (by decide : 1 = Nat.mod (Nat.shiftRight 1229782938515743009 (Nat.mul 4 15)) 16)
  | n + 16, hg => exact absurd hg (by omega)
/-! numbers -/
theorem nI_mod (n : Nat) : nI (n % 4294967296) = nI n := by
  apply Int32.toInt_inj.mp
  unfold nI
  rw [Int32.toInt_ofNat', Int32.toInt_ofNat', Int.bmod_def, Int.bmod_def]
  have e : (Int32.size : Int) = 4294967296 := rfl
  rw [e]
  split <;> split <;> omega
theorem lN_mod (n : Nat) : lN (n % 18446744073709551616) = lN n := by
  apply Int64.toInt_inj.mp
  unfold lN
  rw [Int64.toInt_ofNat', Int64.toInt_ofNat', Int.bmod_def, Int.bmod_def]
  have e : (Int64.size : Int) = 18446744073709551616 := rfl
  rw [e]
  split <;> split <;> omega
theorem sy_iadd (a b : Nat) : nI a + nI b = nI ((a + b) % 4294967296) := by
  rw [nI_mod]
  exact (Int32.ofNat_add a b).symm
theorem sy_imul (a b : Nat) : nI a * nI b = nI ((a * b) % 4294967296) := by
  rw [nI_mod]
  exact (Int32.ofNat_mul a b).symm
theorem sy_ladd (a b : Nat) : lN a + lN b = lN ((a + b) % 18446744073709551616) := by
  rw [lN_mod]
  exact (Int64.ofNat_add a b).symm
theorem sy_lmul (a b : Nat) : lN a * lN b = lN ((a * b) % 18446744073709551616) := by
  rw [lN_mod]
  exact (Int64.ofNat_mul a b).symm
theorem sy_isub (a b : Nat) (h : b < 2 ^ 67) : nI a - nI b = nI ((a + 295147905179352825856 - b) % 4294967296) := by
  rw [nI_mod]
  have e : nI (a + 295147905179352825856 - b) = nI (a + 295147905179352825856) - nI b := Int32.ofNat_sub _ _ (by omega)
  rw [e, ← nI_mod (a + 295147905179352825856)]
  have e2 : (a + 295147905179352825856) % 4294967296 = a % 4294967296 := by omega
  rw [e2, nI_mod]
theorem sy_lsub (a b : Nat) (h : b < 2 ^ 67) : lN a - lN b = lN ((a + 295147905179352825856 - b) % 18446744073709551616) := by
  rw [lN_mod]
  have e : lN (a + 295147905179352825856 - b) = lN (a + 295147905179352825856) - lN b := Int64.ofNat_sub _ _ (by omega)
  rw [e, ← lN_mod (a + 295147905179352825856)]
  have e2 : (a + 295147905179352825856) % 18446744073709551616 = a % 18446744073709551616 := by omega
  rw [e2, lN_mod]
theorem sy_land (a b : Nat) : nI a &&& nI b = nI (a &&& b) := by
  have e : UInt32.ofNat a &&& UInt32.ofNat b = UInt32.ofNat (a &&& b) := by
    apply UInt32.toNat_inj.mp
    rw [UInt32.toNat_and, UInt32.toNat_ofNat', UInt32.toNat_ofNat', UInt32.toNat_ofNat', Nat.and_mod_two_pow]
  show (⟨UInt32.ofNat a &&& UInt32.ofNat b⟩ : Int32) = ⟨UInt32.ofNat (a &&& b)⟩
  rw [e]
/-- an int's place in the order, from 0 on -/
def sy_k (x : Int32) : Nat := (x.toInt + 2147483648).toNat
def sy_kl (x : Int64) : Nat := (x.toInt + 9223372036854775808).toNat
theorem sy_k_lt {x y : Int32} : x < y ↔ sy_k x < sy_k y := by
  have h1 := Int32.le_toInt x
  have h2 := Int32.le_toInt y
  rw [Int32.lt_iff_toInt_lt]
  unfold sy_k
  omega
theorem sy_k_le {x y : Int32} : x ≤ y ↔ sy_k x ≤ sy_k y := by
  have h1 := Int32.le_toInt x
  have h2 := Int32.le_toInt y
  rw [Int32.le_iff_toInt_le]
  unfold sy_k
  omega
theorem sy_k_eq {x y : Int32} : x = y ↔ sy_k x = sy_k y := by
  have h1 := Int32.le_toInt x
  have h2 := Int32.le_toInt y
  rw [← Int32.toInt_inj]
  unfold sy_k
  omega
theorem sy_kl_lt {x y : Int64} : x < y ↔ sy_kl x < sy_kl y := by
  have h1 := Int64.le_toInt x
  have h2 := Int64.le_toInt y
  rw [Int64.lt_iff_toInt_lt]
  unfold sy_kl
  omega
theorem sy_k_nI (n : Nat) : sy_k (nI n) = (n + 2147483648) % 4294967296 := by
  unfold sy_k nI
  rw [Int32.toInt_ofNat', Int.bmod_def]
  have e : (Int32.size : Int) = 4294967296 := rfl
  rw [e]
  split <;> omega
theorem sy_kl_lN (n : Nat) : sy_kl (lN n) = (n + 9223372036854775808) % 18446744073709551616 := by
  unfold sy_kl lN
  rw [Int64.toInt_ofNat', Int.bmod_def]
  have e : (Int64.size : Int) = 18446744073709551616 := rfl
  rw [e]
  split <;> omega
theorem sy_kl_of (x : Int32) : sy_kl x.toInt64 = sy_k x + 9223372034707292160 := by
  have h1 := Int32.le_toInt x
  unfold sy_kl sy_k
  rw [Int32.toInt_toInt64]
  omega
theorem sy_k_max (x : Int32) : sy_k x ≤ 4294967295 := by
  have h1 := Int32.toInt_lt x
  unfold sy_k
  omega
theorem sy_kl_max (x : Int64) : sy_kl x ≤ 18446744073709551615 := by
  have h1 := Int64.toInt_lt x
  unfold sy_kl
  omega
theorem sy_i2l_eq (n : Nat) : (nI n).toInt64 = lN (if 2147483648 ≤ n % 4294967296 then n % 4294967296 + 18446744069414584320 else n % 4294967296) := by
  apply Int64.toInt_inj.mp
  rw [Int32.toInt_toInt64]
  unfold nI lN
  rw [Int32.toInt_ofNat', Int64.toInt_ofNat', Int.bmod_def, Int.bmod_def]
  have e : (Int32.size : Int) = 4294967296 := rfl
  have e2 : (Int64.size : Int) = 18446744073709551616 := rfl
  rw [e, e2]
  split <;> split <;> split <;> omega
theorem sy_l2i_eq (n : Nat) : (lN n).toInt32 = nI (n % 4294967296) := by
  rw [lN_i, nI_mod]
end SYC
