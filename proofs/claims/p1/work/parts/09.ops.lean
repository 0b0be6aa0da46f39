/-! the state that abstract values stand for, and the operations that leave the heap as it is -/
section SYO
theorem Int32_not_lt {x y : Int32} : ¬ x < y ↔ y ≤ x := by
  rw [sy_k_lt, sy_k_le]
  omega
def sy_LP (w : sy_Wd) (ρ : Nat → Nat) (nL n L : Nat) (ls : Array Slot) : Prop := ls.size = nL ∧ lv_wf ls ∧ ∀ i v, sy_rd L i = v + 1 → ls[i]? = some (.val (sy_v w ρ v)) ∧ sy_wfV n v
def sy_SP (w : sy_Wd) (ρ : Nat → Nat) (n : Nat) (st : List Nat) (stC : List Value) : Prop := stC = st.map (sy_v w ρ) ∧ ∀ v ∈ st, sy_wfV n v
def sy_HP (w : sy_Wd) (A : Nat → Prop) (H0 : Heap) (ρ : Nat → Nat) (h : sy_H) (H : Heap) (locs : List Loc) : Prop := va_P w.1 sy_cl (sy_ws w ρ h) H ∧ va_D A (sy_ws w ρ h) ∧ va_S A H0 H locs ∧ sy_wfH h
theorem sy_LP.ag {w : sy_Wd} {ρ ρ' : Nat → Nat} {nL n n' L : Nat} {ls : Array Slot} (h : sy_LP w ρ nL n L ls) (ha : sy_ag n ρ ρ') (hn : n ≤ n') : sy_LP w ρ' nL n' L ls :=
  ⟨h.1, h.2.1, fun i v hv => by
    obtain ⟨h1, h2⟩ := h.2.2 i v hv
    exact ⟨by rw [h1, sy_v_ag h2 ha], h2.mono hn⟩⟩
theorem sy_SP.ag {w : sy_Wd} {ρ ρ' : Nat → Nat} {n n' : Nat} {st : List Nat} {stC : List Value} (h : sy_SP w ρ n st stC) (ha : sy_ag n ρ ρ') (hn : n ≤ n') : sy_SP w ρ' n' st stC :=
  ⟨by rw [h.1]; exact List.map_congr_left fun v hv => (sy_v_ag (h.2 v hv) ha).symm, fun v hv => (h.2 v hv).mono hn⟩
/-- the machine's own locals, listed -/
def sy_held (w : sy_Wd) (ρ : Nat → Nat) (nL L : Nat) : List (Nat × Value) := (List.range nL).filterMap fun i => if sy_rd L i = 0 then none else some (i, sy_v w ρ (sy_rd L i - 1))
theorem sy_held_mem {w : sy_Wd} {ρ : Nat → Nat} {nL L i v : Nat} (hi : i < nL) (h : sy_rd L i = v + 1) : (i, sy_v w ρ v) ∈ sy_held w ρ nL L := by
  apply List.mem_filterMap.mpr
  refine ⟨i, List.mem_range.mpr hi, ?_⟩
  rw [if_neg (by omega), h]
  rfl
theorem sy_held_has {w : sy_Wd} {ρ : Nat → Nat} {nL n L : Nat} {ls : Array Slot} (h : sy_LP w ρ nL n L ls) : lv_has ls nL (sy_held w ρ nL L) := by
  refine ⟨h.1, h.2.1, fun q hq => ?_⟩
  obtain ⟨i, -, hi⟩ := List.mem_filterMap.mp hq
  split at hi
  · cases hi
  next h0 =>
    cases hi
    exact (h.2.2 i (sy_rd L i - 1) (by omega)).1
theorem sy_LP_lt {w : sy_Wd} {ρ : Nat → Nat} {nL n L : Nat} {ls : Array Slot} (h : sy_LP w ρ nL n L ls) {i v : Nat} (hv : sy_rd L i = v + 1) : i < nL := by
  have h1 := (h.2.2 i v hv).1
  rw [← h.1]
  exact lv_lt h1
theorem sy_LP_of {w : sy_Wd} {ρ : Nat → Nat} {nL n L' : Nat} {ls' : Array Slot} {lv : List (Nat × Value)} (h : lv_has ls' nL lv) (hm : ∀ i v, sy_rd L' i = v + 1 → (i, sy_v w ρ v) ∈ lv ∧ sy_wfV n v) : sy_LP w ρ nL n L' ls' :=
  ⟨h.1, h.2.1, fun i v hv => ⟨h.2.2 _ (hm i v hv).1, (hm i v hv).2⟩⟩
theorem sy_rd_clr {L i j u : Nat} (h : sy_rd (sy_clr L i) j = u + 1) : sy_rd L j = u + 1 ∧ ¬ (j + 1 = i ∧ sy_ct u = 2) := by
  cases i with
  | zero => exact ⟨h, fun q => Nat.succ_ne_zero _ q.1⟩
  | succ k =>
    have h : sy_rd (Nat.rec (motive := fun _ => Nat) L (fun v _ => cond (Nat.beq (sy_ct v) 2) (sy_wr L k 0) L) (sy_rd L k)) j = u + 1 := h
    cases hk : sy_rd L k with
    | zero =>
      rw [hk] at h
      have h : sy_rd L j = u + 1 := h
      refine ⟨h, fun q => ?_⟩
      have : j = k := by omega
      subst this
      omega
    | succ v =>
      rw [hk] at h
      have h : sy_rd (cond (Nat.beq (sy_ct v) 2) (sy_wr L k 0) L) j = u + 1 := h
      cases hc : Nat.beq (sy_ct v) 2 with
      | true =>
        rw [hc] at h
        have h : sy_rd (sy_wr L k 0) j = u + 1 := h
        rw [sy_rd_wr _ _ _ _ (by decide)] at h
        by_cases hj : k = j
        · rw [if_pos hj] at h
          cases h
        · rw [if_neg hj] at h
          exact ⟨h, fun q => hj (by omega)⟩
      | false =>
        rw [hc] at h
        have h : sy_rd L j = u + 1 := h
        refine ⟨h, fun q => ?_⟩
        have : j = k := by omega
        subst this
        have e : v = u := by omega
        subst e
        rw [q.2] at hc
        cases hc
theorem sy_LP_sto {w : sy_Wd} {ρ : Nat → Nat} {nL n L i v : Nat} {ls ls' : Array Slot} (h : sy_LP w ρ nL n L ls) (hv : sy_wfV n v)
    (h' : lv_has ls' nL ((i, sy_v w ρ v) :: (sy_held w ρ nL L).filter (fun q => !(q.1 == i) && !(q.1 + 1 == i && q.2.category == 2)))) : sy_LP w ρ nL n (sy_sto L i v) ls' := by
  refine sy_LP_of h' fun j u hu => ?_
  have hu : sy_rd (sy_wr (sy_clr L i) i (Nat.succ v)) j = u + 1 := hu
  rw [sy_rd_wr _ _ _ _ (by have := hv.1; show v + 1 < _; omega)] at hu
  by_cases hij : i = j
  · subst hij
    rw [if_pos rfl] at hu
    have e : v = u := by omega
    subst e
    exact ⟨List.mem_cons_self, hv⟩
  · rw [if_neg hij] at hu
    obtain ⟨hu, hn⟩ := sy_rd_clr hu
    · have hw := (h.2.2 j u hu)
      refine ⟨List.mem_cons_of_mem _ (List.mem_filter.mpr ⟨sy_held_mem (sy_LP_lt h hu) hu, ?_⟩), hw.2⟩
      have h1 : (j == i) = false := by simpa using fun q => hij q.symm
      have h2 : (j + 1 == i && (sy_v w ρ u).category == 2) = false := by
        rw [sy_ct_cat']
        by_cases hj : j + 1 = i
        · have h3 : ¬ sy_ct u = 2 := fun q => hn ⟨hj, q⟩
          simp [h3]
        · simp [hj]
      show (!(j == i) && !(j + 1 == i && (sy_v w ρ u).category == 2)) = true
      rw [h1, h2]
      rfl
theorem sy_LP_sto2 {w : sy_Wd} {ρ : Nat → Nat} {nL n L i v : Nat} {ls ls' : Array Slot} (h : sy_LP w ρ nL n L ls) (hv : sy_wfV n v)
    (h' : lv_has ls' nL ((i, sy_v w ρ v) :: (sy_held w ρ nL L).filter (fun q => !(q.1 == i) && (!(q.1 == i + 1) && !(q.1 + 1 == i && q.2.category == 2))))) : sy_LP w ρ nL n (sy_sto2 L i v) ls' := by
  refine sy_LP_of h' fun j u hu => ?_
  have hu : sy_rd (sy_wr (sy_wr (sy_clr L i) i (Nat.succ v)) (Nat.succ i) 0) j = u + 1 := hu
  rw [sy_rd_wr _ _ _ _ (by decide)] at hu
  by_cases hij1 : Nat.succ i = j
  · rw [if_pos hij1] at hu
    omega
  rw [if_neg hij1, sy_rd_wr _ _ _ _ (by have := hv.1; show v + 1 < _; omega)] at hu
  by_cases hij : i = j
  · subst hij
    rw [if_pos rfl] at hu
    have e : v = u := by omega
    subst e
    exact ⟨List.mem_cons_self, hv⟩
  · rw [if_neg hij] at hu
    obtain ⟨hu, hn⟩ := sy_rd_clr hu
    · have hw := (h.2.2 j u hu)
      refine ⟨List.mem_cons_of_mem _ (List.mem_filter.mpr ⟨sy_held_mem (sy_LP_lt h hu) hu, ?_⟩), hw.2⟩
      have h1 : (j == i) = false := by simpa using fun q => hij q.symm
      have h3 : (j == i + 1) = false := by simpa using fun q => hij1 q.symm
      have h2 : (j + 1 == i && (sy_v w ρ u).category == 2) = false := by
        rw [sy_ct_cat']
        by_cases hj : j + 1 = i
        · have h3 : ¬ sy_ct u = 2 := fun q => hn ⟨hj, q⟩
          simp [h3]
        · simp [hj]
      show (!(j == i) && (!(j == i + 1) && !(j + 1 == i && (sy_v w ρ u).category == 2))) = true
      rw [h1, h2, h3]
      rfl
/-- what is told of the script is true -/
def sy_TK (tk : sy_T) (τ : Nat → Int32) : Prop := ∀ k, ((sy_tok tk k).1 = 0 → (sy_tok tk k).2.1 ≤ sy_k (τ k) ∧ sy_k (τ k) ≤ (sy_tok tk k).2.2) ∧ ((sy_tok tk k).1 = 1 → (sy_tok tk k).2.1 ≤ sy_k (sy_ch (τ k)) ∧ sy_k (sy_ch (τ k)) ≤ (sy_tok tk k).2.2) ∧ ((sy_tok tk k).1 = 2 → τ k &&& 63 = nI (sy_tok tk k).2.1 ∧ (sy_tok tk k).2.1 < 64)
theorem sy_ch_k (x : Int32) : 2147483648 ≤ sy_k (sy_ch x) ∧ sy_k (sy_ch x) ≤ 2147549183 := by
  have e : sy_ch x = nI ((x.toUInt32 % 65536).toNat) := by
    show (⟨x.toUInt32 % 65536⟩ : Int32) = ⟨UInt32.ofNat (x.toUInt32 % 65536).toNat⟩
    rw [UInt32.ofNat_toNat]
  have h : (x.toUInt32 % 65536).toNat < 65536 := by
    rw [UInt32.toNat_mod]
    exact Nat.mod_lt _ (by decide)
  rw [e, sy_k_nI]
  omega
theorem sy_iv_i {w : sy_Wd} {ρ : Nat → Nat} {tk : sy_T} (hT : sy_TK tk w.2.2.1) {v : Nat} {x : Int32} (h : sy_v w ρ v = .int x) : (sy_iv tk v).1 ≤ sy_k x ∧ sy_k x ≤ (sy_iv tk v).2 := by
  have ht : sy_tg v = 0 ∨ sy_tg v = 6 ∨ sy_tg v = 8 := by
    unfold sy_v at h
    split at h <;> first | (next e => exact Or.inl e) | (next e => exact Or.inr (Or.inl e)) | (next e => exact Or.inr (Or.inr e)) | cases h
  unfold sy_iv
  rcases ht with e | e | e
  · rw [sy_v0 e] at h
    cases h
    rw [e, sy_k_nI]
    exact ⟨Nat.le_refl _, Nat.le_refl _⟩
  · rw [sy_v6 e] at h
    cases h
    rw [e]
    show (cond (Nat.beq (sy_tok tk (sy_py v)).1 0) (sy_tok tk (sy_py v)).2 (0, 4294967295)).1 ≤ _ ∧ _ ≤ (cond (Nat.beq (sy_tok tk (sy_py v)).1 0) (sy_tok tk (sy_py v)).2 (0, 4294967295)).2
    cases hc : Nat.beq (sy_tok tk (sy_py v)).1 0 with
    | true => exact (hT (sy_py v)).1 (sy_beq hc)
    | false => exact ⟨Nat.zero_le _, sy_k_max _⟩
  · rw [sy_v8 e] at h
    cases h
    rw [e]
    show (cond (Nat.beq (sy_tok tk (sy_py v)).1 1) (sy_tok tk (sy_py v)).2 (2147483648, 2147549183)).1 ≤ _ ∧ _ ≤ (cond (Nat.beq (sy_tok tk (sy_py v)).1 1) (sy_tok tk (sy_py v)).2 (2147483648, 2147549183)).2
    cases hc : Nat.beq (sy_tok tk (sy_py v)).1 1 with
    | true => exact (hT (sy_py v)).2.1 (sy_beq hc)
    | false => exact sy_ch_k _
theorem sy_iv_l {w : sy_Wd} {ρ : Nat → Nat} {tk : sy_T} (hT : sy_TK tk w.2.2.1) {v : Nat} {x : Int64} (h : sy_v w ρ v = .long x) : (sy_iv tk v).1 ≤ sy_kl x ∧ sy_kl x ≤ (sy_iv tk v).2 := by
  have ht : sy_tg v = 1 ∨ sy_tg v = 7 := by
    unfold sy_v at h
    split at h <;> first | (next e => exact Or.inl e) | (next e => exact Or.inr e) | cases h
  unfold sy_iv
  rcases ht with e | e
  · rw [sy_v1 e] at h
    cases h
    rw [e, sy_kl_lN]
    exact ⟨Nat.le_refl _, Nat.le_refl _⟩
  · rw [sy_v7 e] at h
    cases h
    rw [e, sy_kl_of]
    have hm := sy_k_max (w.2.2.1 (sy_py v))
    show (cond (Nat.beq (sy_tok tk (sy_py v)).1 0) (Nat.add (sy_tok tk (sy_py v)).2.1 9223372034707292160, Nat.add (sy_tok tk (sy_py v)).2.2 9223372034707292160) (9223372034707292160, 9223372039002259455)).1 ≤ _ ∧ _ ≤ (cond (Nat.beq (sy_tok tk (sy_py v)).1 0) (Nat.add (sy_tok tk (sy_py v)).2.1 9223372034707292160, Nat.add (sy_tok tk (sy_py v)).2.2 9223372034707292160) (9223372034707292160, 9223372039002259455)).2
    cases hc : Nat.beq (sy_tok tk (sy_py v)).1 0 with
    | true =>
      have := (hT (sy_py v)).1 (sy_beq hc)
      show (sy_tok tk (sy_py v)).2.1 + 9223372034707292160 ≤ _ ∧ _ ≤ (sy_tok tk (sy_py v)).2.2 + 9223372034707292160
      omega
    | false =>
      show 9223372034707292160 ≤ _ ∧ _ ≤ 9223372039002259455
      omega
theorem sy_unk_ge (a b pa pb : Nat) : 2 ≤ sy_unk a b pa pb := by
  unfold sy_unk
  cases Nat.ble 6 (sy_tg a) with
  | true => exact Nat.le_add_right 2 _
  | false => exact Nat.le_add_right 2 _
theorem sy_lt_ok {tk : sy_T} {a b : Nat} {x y : Nat} (h1 : (sy_iv tk a).1 ≤ x ∧ x ≤ (sy_iv tk a).2) (h2 : (sy_iv tk b).1 ≤ y ∧ y ≤ (sy_iv tk b).2) : (sy_lt tk a b = 1 → x < y) ∧ (sy_lt tk a b = 0 → ¬ x < y) := by
  unfold sy_lt
  cases hc : Nat.ble (Nat.succ (sy_iv tk a).2) (sy_iv tk b).1 with
  | true =>
    have := sy_ble hc
    exact ⟨fun _ => (by omega), fun h => by cases h⟩
  | false =>
    cases hd : Nat.ble (sy_iv tk b).2 (sy_iv tk a).1 with
    | true =>
      have := sy_ble hd
      exact ⟨fun h => (by cases h), fun _ => by omega⟩
    | false =>
      have hu := sy_unk_ge a b (sy_iv tk b).1 (Nat.succ (sy_iv tk a).1)
      exact ⟨fun h => (by have h : sy_unk a b _ _ = 1 := h; omega), fun h => by have h : sy_unk a b _ _ = 0 := h; omega⟩
theorem sy_eq_ok {tk : sy_T} {a b : Nat} {x y : Nat} (h1 : (sy_iv tk a).1 ≤ x ∧ x ≤ (sy_iv tk a).2) (h2 : (sy_iv tk b).1 ≤ y ∧ y ≤ (sy_iv tk b).2) : (sy_eq tk a b = 1 → x = y) ∧ (sy_eq tk a b = 0 → ¬ x = y) := by
  unfold sy_eq
  cases hc : Nat.ble (Nat.succ (sy_iv tk a).2) (sy_iv tk b).1 with
  | true =>
    have := sy_ble hc
    exact ⟨fun h => (by cases h), fun _ => by omega⟩
  | false =>
    cases hd : Nat.ble (Nat.succ (sy_iv tk b).2) (sy_iv tk a).1 with
    | true =>
      have := sy_ble hd
      exact ⟨fun h => (by cases h), fun _ => by omega⟩
    | false =>
      cases he : cond (Nat.beq (sy_iv tk a).1 (sy_iv tk a).2) (cond (Nat.beq (sy_iv tk b).1 (sy_iv tk b).2) (Nat.beq (sy_iv tk a).1 (sy_iv tk b).1) false) false with
      | true =>
        obtain ⟨e1, e2⟩ := sy_and he
        obtain ⟨e2, e3⟩ := sy_and e2
        have := sy_beq e1
        have := sy_beq e2
        have := sy_beq e3
        exact ⟨fun _ => (by omega), fun h => by cases h⟩
      | false =>
        cases hf : Nat.ble 6 (sy_tg a) with
        | true =>
          have hu := sy_unk_ge a b (cond (Nat.ble (sy_iv tk b).1 (sy_iv tk a).1) (Nat.succ (sy_iv tk a).1) (sy_iv tk b).1) 0
          exact ⟨fun h => (by have h : sy_unk a b _ _ = 1 := h; omega), fun h => by have h : sy_unk a b _ _ = 0 := h; omega⟩
        | false =>
          have hu := sy_unk_ge a b 0 (cond (Nat.ble (sy_iv tk a).1 (sy_iv tk b).1) (Nat.succ (sy_iv tk b).1) (sy_iv tk a).1)
          exact ⟨fun h => (by have h : sy_unk a b _ _ = 1 := h; omega), fun h => by have h : sy_unk a b _ _ = 0 := h; omega⟩
theorem sy_fork_inv {r : Nat} {yes no Y : sy_X} (h : sy_fork r yes no = Y) (hk : Y.1 ≠ 0) : (r = 1 ∧ yes = Y) ∨ (r = 0 ∧ no = Y) := by
  match r, h with
  | 0, h => exact Or.inr ⟨rfl, h⟩
  | 1, h => exact Or.inl ⟨rfl, h⟩
  | n + 2, h => exact absurd (by rw [← h]; rfl) hk
/-- an operation's worth: where it goes on, the machine goes on -/
def sy_OK (p : Program) (l : Launch) (e : Env) (R : Room) (s : State) (m : MethodId) (args : Array Value) (below : List Frame) (meth : Method) (c : Code) (Q : State → Prop) (w : sy_Wd) (A : Nat → Prop) (nL pc npc tpc : Nat) (f : Nat → List Nat → sy_H → Nat → Nat → sy_X) : Prop :=
  ∀ (L : Nat) (st : List Nat) (h : sy_H) (cells slots : Nat) (Y : sy_X), f L st h cells slots = Y → (Y.1 = 1 ∨ Y.1 = 2) → Y.2.2.2.2.2.1 ≤ R.cells → Y.2.2.2.2.2.2 ≤ R.slots →
  ∀ (ρ : Nat → Nat) (H : Heap) (locs : List Loc) (ls : Array Slot) (stC : List Value), sy_HP w A s.heap ρ h H locs → sy_LP w ρ nL h.1 L ls → sy_SP w ρ h.1 st stC →
  (∀ (ρ' : Nat → Nat) (H' : Heap) (locs' : List Loc) (ls' : Array Slot) (stC' : List Value), sy_ag h.1 ρ ρ' → h.1 ≤ Y.2.2.2.2.1.1 → sy_HP w A s.heap ρ' Y.2.2.2.2.1 H' locs' → sy_LP w ρ' nL Y.2.2.2.2.1.1 Y.2.2.1 ls' → sy_SP w ρ' Y.2.2.2.2.1.1 Y.2.2.2.1 stC' →
    W p l e R s m args below meth c H' locs' Y.2.2.2.2.2.1 Y.2.2.2.2.2.2 Q (F0 m (if Y.1 = 1 then npc else tpc) ls' stC')) →
  W p l e R s m args below meth c H locs cells slots Q (F0 m pc ls stC)
variable {p : Program} {l : Launch} {e : Env} {R : Room} {s : State} {m : MethodId} {args : Array Value} {below : List Frame} {meth : Method} {c : Code} {Q : State → Prop} {w : sy_Wd} {A : Nat → Prop} {nL pc npc tpc : Nat} {tk : sy_T}
/-- the machine's step from pc to pc', the stack changed so -/
def sy_ST (p : Program) (l : Launch) (e : Env) (R : Room) (s : State) (m : MethodId) (args : Array Value) (below : List Frame) (meth : Method) (c : Code) (Q : State → Prop) (pc npc : Nat) (ls : Array Slot) (now next : List Value) : Prop :=
  ∀ (H : Heap) (locs : List Loc) (cells slots : Nat), W p l e R s m args below meth c H locs cells slots Q (F0 m npc ls next) → W p l e R s m args below meth c H locs cells slots Q (F0 m pc ls now)
theorem sy_SPc {ρ : Nat → Nat} {n v : Nat} {r : List Nat} {stC : List Value} (h : sy_SP w ρ n (v :: r) stC) : stC = sy_v w ρ v :: r.map (sy_v w ρ) ∧ sy_wfV n v ∧ ∀ u ∈ r, sy_wfV n u :=
  ⟨h.1, h.2 v List.mem_cons_self, fun u hu => h.2 u (List.mem_cons_of_mem _ hu)⟩
theorem sy_SPm {ρ : Nat → Nat} {n v : Nat} {r : List Nat} (hv : sy_wfV n v) (hr : ∀ u ∈ r, sy_wfV n u) : sy_SP w ρ n (v :: r) (sy_v w ρ v :: r.map (sy_v w ρ)) :=
  ⟨rfl, fun u hu => (List.mem_cons.mp hu).elim (fun e => e ▸ hv) (fun hu => hr u hu)⟩
theorem sy_ok_push {x y : Nat} (hx : ∀ n, sy_wfV n x) (hs : ∀ (ρ : Nat → Nat) (ls : Array Slot) (st : List Value), sy_ST p l e R s m args below meth c Q pc npc ls st (sy_v w ρ x :: st)) : sy_OK p l e R s m args below meth c Q w A nL pc npc tpc (sy_push tk x y) := by
  intro L st h cells slots Y hY hk hc hsl ρ H locs ls stC hH hL hS kk
  subst hY
  have hS1 := hS.1
  subst hS1
  exact hs ρ ls _ _ _ _ _ (kk ρ H locs ls _ sy_ag.rf (Nat.le_refl _) hH hL (sy_SPm (hx _) hS.2))
theorem sy_ok_load {ty x y : Nat} (hs : ∀ (ρ : Nat → Nat) (ls : Array Slot) (st : List Value) (v : Nat), sy_ty v = ty → ls[x]? = some (.val (sy_v w ρ v)) → sy_ST p l e R s m args below meth c Q pc npc ls st (sy_v w ρ v :: st)) : sy_OK p l e R s m args below meth c Q w A nL pc npc tpc (sy_load ty tk x y) := by
  intro L st h cells slots Y hY hk hc hsl ρ H locs ls stC hH hL hS kk
  have hk0 : Y.1 ≠ 0 := by omega
  have hY : Nat.rec (motive := fun _ => sy_X) (sy_no 0) (fun v _ => sy_if (Nat.beq (sy_ty v) ty) (sy_go L (v :: st) h cells slots)) (sy_rd L x) = Y := hY
  cases hr : sy_rd L x with
  | zero =>
    rw [hr] at hY
    exact absurd (by rw [← hY]; rfl) hk0
  | succ v =>
    rw [hr] at hY
    obtain ⟨h1, h2⟩ := sy_if_inv hY hk0
    subst h2
    obtain ⟨h3, h4⟩ := hL.2.2 x v hr
    have hS1 := hS.1
    subst hS1
    exact hs ρ ls _ v (sy_beq h1) h3 _ _ _ _ (kk ρ H locs ls _ sy_ag.rf (Nat.le_refl _) hH hL (sy_SPm h4 hS.2))
theorem sy_ok_stor {ty x y : Nat} (hs : ∀ (ρ : Nat → Nat) (H : Heap) (locs : List Loc) (cells slots : Nat) (ls : Array Slot) (st : List Value) (v : Nat) (lv : List (Nat × Value)), sy_ty v = ty → lv_has ls nL lv →
      (∀ ls' : Array Slot, lv_has ls' nL ((x, sy_v w ρ v) :: lv.filter (fun q => !(q.1 == x) && !(q.1 + 1 == x && q.2.category == 2))) → W p l e R s m args below meth c H locs cells slots Q (F0 m npc ls' st)) → W p l e R s m args below meth c H locs cells slots Q (F0 m pc ls (sy_v w ρ v :: st))) :
    sy_OK p l e R s m args below meth c Q w A nL pc npc tpc (sy_stor ty tk x y) := by
  intro L st h cells slots Y hY hk hc hsl ρ H locs ls stC hH hL hS kk
  have hk0 : Y.1 ≠ 0 := by omega
  obtain ⟨v, r, e1, q1⟩ := sy_p1_inv hY hk0
  subst e1
  obtain ⟨h1, h2⟩ := sy_if_inv q1 hk0
  rw [sy_force_eq] at h2
  subst h2
  obtain ⟨hS1, hv, hr⟩ := sy_SPc hS
  subst hS1
  exact hs ρ H locs cells slots ls _ v _ (sy_beq h1) (sy_held_has hL) fun ls' h' => kk ρ H locs ls' _ sy_ag.rf (Nat.le_refl _) hH (sy_LP_sto hL hv h') ⟨rfl, hr⟩
theorem sy_ok_stor2 {ty x y : Nat} (hs : ∀ (ρ : Nat → Nat) (H : Heap) (locs : List Loc) (cells slots : Nat) (ls : Array Slot) (st : List Value) (v : Nat) (lv : List (Nat × Value)), sy_ty v = ty → lv_has ls nL lv →
      (∀ ls' : Array Slot, lv_has ls' nL ((x, sy_v w ρ v) :: lv.filter (fun q => !(q.1 == x) && (!(q.1 == x + 1) && !(q.1 + 1 == x && q.2.category == 2)))) → W p l e R s m args below meth c H locs cells slots Q (F0 m npc ls' st)) → W p l e R s m args below meth c H locs cells slots Q (F0 m pc ls (sy_v w ρ v :: st))) :
    sy_OK p l e R s m args below meth c Q w A nL pc npc tpc (sy_stor2 ty tk x y) := by
  intro L st h cells slots Y hY hk hc hsl ρ H locs ls stC hH hL hS kk
  have hk0 : Y.1 ≠ 0 := by omega
  obtain ⟨v, r, e1, q1⟩ := sy_p1_inv hY hk0
  subst e1
  obtain ⟨h1, h2⟩ := sy_if_inv q1 hk0
  rw [sy_force_eq] at h2
  subst h2
  obtain ⟨hS1, hv, hr⟩ := sy_SPc hS
  subst hS1
  exact hs ρ H locs cells slots ls _ v _ (sy_beq h1) (sy_held_has hL) fun ls' h' => kk ρ H locs ls' _ sy_ag.rf (Nat.le_refl _) hH (sy_LP_sto2 hL hv h') ⟨rfl, hr⟩
theorem sy_ok_iinc {x y : Nat} (hs : ∀ (ρ : Nat → Nat) (H : Heap) (locs : List Loc) (cells slots : Nat) (ls : Array Slot) (st : List Value) (v z : Nat) (lv : List (Nat × Value)), lv_has ls nL lv → (x, Value.int (nI v)) ∈ lv → x < nL → z = (v + (y + 4294934528)) % 4294967296 →
      (∀ ls' : Array Slot, lv_has ls' nL ((x, Value.int (nI z)) :: lv.filter (fun q => !(q.1 == x) && !(q.1 + 1 == x && q.2.category == 2))) → W p l e R s m args below meth c H locs cells slots Q (F0 m npc ls' st)) → W p l e R s m args below meth c H locs cells slots Q (F0 m pc ls st)) :
    sy_OK p l e R s m args below meth c Q w A nL pc npc tpc (sy_iinc tk x y) := by
  intro L st h cells slots Y hY hk hc hsl ρ H locs ls stC hH hL hS kk
  have hk0 : Y.1 ≠ 0 := by omega
  have hY : Nat.rec (motive := fun _ => sy_X) (sy_no 0) (fun v _ => sy_if (Nat.beq (sy_tg v) 0) (sy_force (sy_sto L x (sy_pk 0 (Nat.mod (Nat.add (sy_py v) (Nat.add y 4294934528)) 4294967296))) fun L => sy_go L st h cells slots)) (sy_rd L x) = Y := hY
  cases hr : sy_rd L x with
  | zero =>
    rw [hr] at hY
    exact absurd (by rw [← hY]; rfl) hk0
  | succ v =>
    rw [hr] at hY
    obtain ⟨h1, h2⟩ := sy_if_inv hY hk0
    rw [sy_force_eq] at h2
    subst h2
    have h0 := sy_beq h1
    have hS1 := hS.1
    subst hS1
    have hm := sy_held_mem (w := w) (ρ := ρ) (sy_LP_lt hL hr) hr
    rw [sy_v0 h0] at hm
    refine hs ρ H locs cells slots ls _ (sy_py v) _ _ (sy_held_has hL) hm (sy_LP_lt hL hr) rfl fun ls' h' => kk ρ H locs ls' _ sy_ag.rf (Nat.le_refl _) hH ?_ hS
    refine sy_LP_sto hL (sy_wfV_pk (by decide) (fun q => by cases q) (Nat.lt_trans (Nat.mod_lt _ (by decide)) (by decide))) ?_
    rw [sy_v0 (sy_tg_pk (by decide)), sy_py_pk (by decide)]
    exact h'
/-- two operands, one result -/
theorem sy_ok_bin {t x y : Nat} {f : Nat → Nat → Nat} (ht : t < 5) (hf : ∀ a b, f a b < 2 ^ 66) (hs : ∀ (ρ : Nat → Nat) (ls : Array Slot) (st : List Value) (a b : Nat), sy_tg a = t → sy_tg b = t → sy_py b < 2 ^ 67 → sy_ST p l e R s m args below meth c Q pc npc ls (sy_v w ρ b :: sy_v w ρ a :: st) (sy_v w ρ (sy_pk t (f (sy_py a) (sy_py b))) :: st)) :
    sy_OK p l e R s m args below meth c Q w A nL pc npc tpc (sy_bin t f tk x y) := by
  intro L st h cells slots Y hY hk hc hsl ρ H locs ls stC hH hL hS kk
  have hk0 : Y.1 ≠ 0 := by omega
  obtain ⟨b, r, e1, q1⟩ := sy_p1_inv hY hk0
  obtain ⟨a, r, e2, q2⟩ := sy_p1_inv q1 hk0
  subst e2
  subst e1
  obtain ⟨h1, h2⟩ := sy_if_inv q2 hk0
  rw [sy_force_eq] at h2
  subst h2
  obtain ⟨h1, h3⟩ := sy_and h1
  obtain ⟨hS1, hvb, hr⟩ := sy_SPc hS
  have hva := hr a List.mem_cons_self
  subst hS1
  refine hs ρ ls _ a b (sy_beq h1) (sy_beq h3) ?_ _ _ _ _ (kk ρ H locs ls _ sy_ag.rf (Nat.le_refl _) hH hL (sy_SPm (sy_wfV_pk (by omega) (fun q => absurd q (by omega)) (hf _ _)) fun u hu => hr u (List.mem_cons_of_mem _ hu)))
  have := hvb.1
  show b / 16 < _
  omega
end SYO
