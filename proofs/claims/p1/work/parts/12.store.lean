/-! stores into arrays, clones, copies, arrays of arrays -/
section SYS
variable {p : Program} {l : Launch} {e : Env} {R : Room} {s : State} {m : MethodId} {args : Array Value} {below : List Frame} {meth : Method} {c : Code} {Q : State → Prop} {w : sy_Wd} {A : Nat → Prop} {nL pc npc tpc : Nat} {tk : sy_T}
theorem sy_p3_inv {st : List Nat} {f : Nat → Nat → Nat → List Nat → sy_X} {Y : sy_X} (h : (sy_p1 st fun v r => sy_p1 r fun i r => sy_p1 r fun a r => f a i v r) = Y) (hk : Y.1 ≠ 0) : ∃ a i v r, st = v :: i :: a :: r ∧ f a i v r = Y := by
  obtain ⟨v, r, e1, q1⟩ := sy_p1_inv h hk
  obtain ⟨i, r2, e2, q2⟩ := sy_p1_inv q1 hk
  obtain ⟨a, r3, e3, q3⟩ := sy_p1_inv q2 hk
  subst e3
  subst e2
  exact ⟨a, i, v, r3, e1, q3⟩
theorem sy_SPc3 {ρ : Nat → Nat} {n a i v : Nat} {r : List Nat} {stC : List Value} (h : sy_SP w ρ n (v :: i :: a :: r) stC) : stC = sy_v w ρ v :: sy_v w ρ i :: sy_v w ρ a :: r.map (sy_v w ρ) ∧ sy_wfV n v ∧ sy_wfV n i ∧ sy_wfV n a ∧ ∀ u ∈ r, sy_wfV n u :=
  ⟨h.1, h.2 v List.mem_cons_self, h.2 i (List.mem_cons_of_mem _ List.mem_cons_self), h.2 a (List.mem_cons_of_mem _ (List.mem_cons_of_mem _ List.mem_cons_self)), fun u hu => h.2 u (List.mem_cons_of_mem _ (List.mem_cons_of_mem _ (List.mem_cons_of_mem _ hu)))⟩
theorem sy_ok_ast {t ty x y : Nat} (hs : ∀ (ρ : Nat → Nat) (ws : va_W) (H : Heap) (locs : List Loc) (cells slots : Nat) (ls : Array Slot) (st : List Value) (q0 a n d i v : Nat), va_P w.1 sy_cl ws H → va_D A ws → va_S A s.heap H locs → ws[q0]? = some (a, .inl (w.2.1 t, n, sy_arr w ρ t d)) → i < n → n ≤ 65535 → sy_ty v = ty → v < 2 ^ 72 →
      (∀ (H1 : Heap) (locs1 : List Loc), va_P w.1 sy_cl (ws.set q0 (a, .inl (w.2.1 t, n, sy_arr w ρ t (sy_wr d i v)))) H1 → va_D A (ws.set q0 (a, .inl (w.2.1 t, n, sy_arr w ρ t (sy_wr d i v)))) → va_S A s.heap H1 locs1 → W p l e R s m args below meth c H1 locs1 cells slots Q (F0 m npc ls st)) →
      W p l e R s m args below meth c H locs cells slots Q (F0 m pc ls (sy_v w ρ v :: .int (nI i) :: .ref a :: st))) : sy_OK p l e R s m args below meth c Q w A nL pc npc tpc (sy_ast t ty tk x y) := by
  intro L st h cells slots Y hY hk hc hsl ρ H locs ls stC hH hL hS kk
  have hk0 : Y.1 ≠ 0 := by omega
  obtain ⟨a, i, v, r, e1, q1⟩ := sy_p3_inv hY hk0
  subst e1
  obtain ⟨hS1, hvv, hvi, hva, hr⟩ := sy_SPc3 hS
  subst hS1
  obtain ⟨ht, hi, k, n, d, hg, q2⟩ := sy_cell_inv q1 hk0
  obtain ⟨h1, h2⟩ := sy_if_inv q2 hk0
  obtain ⟨h1, h3⟩ := sy_and h1
  obtain ⟨i0, i1, i2, q3⟩ := sy_ix_inv h2 hk0
  rw [sy_force_eq] at q3
  subst q3
  have hk1 : k = 2 * t + 1 := sy_beq h1
  subst hk1
  have hge := sy_ws_get (w := w) (ρ := ρ) hi
  rw [hg, sy_ce_arr] at hge
  have hwf : ∀ j, sy_wfV h.1 (sy_rd d j) := by
    have h9 := hH.2.2.2.2 _ hi
    rw [hg] at h9
    exact h9
  rw [sy_v5 ht, sy_v0 i0]
  refine hs ρ _ H locs cells slots ls _ _ _ n d (sy_py i) v hH.1 hH.2.1 hH.2.2.1 hge i1 i2 (sy_beq h3) (Nat.lt_trans hvv.1 (by decide)) fun H1 locs1 g1 g2 g3 => ?_
  rw [← sy_ce_arr] at g1 g2
  exact kk ρ H1 locs1 ls _ sy_ag.rf (Nat.le_refl _) (sy_HP_set hH.2.2.2 hi (sy_wfO_wr hwf hvv) g1 g2 g3) hL ⟨rfl, hr⟩
/-- an int that is a char -/
def sy_isch (v : Nat) : Prop := sy_tg v = 8 ∨ (sy_tg v = 0 ∧ sy_py v ≤ 65535)
theorem sy_isch_of {v : Nat} (h : cond (Nat.beq (sy_tg v) 8) true (cond (Nat.beq (sy_tg v) 0) (Nat.ble (sy_py v) 65535) false) = true) : sy_isch v := by
  cases h8 : Nat.beq (sy_tg v) 8 with
  | true => exact Or.inl (sy_beq h8)
  | false =>
    rw [h8] at h
    obtain ⟨h1, h2⟩ := sy_and (a := Nat.beq (sy_tg v) 0) h
    exact Or.inr ⟨sy_beq h1, sy_ble h2⟩
theorem sy_ok_cast {x y : Nat} (hs : ∀ (ρ : Nat → Nat) (ws : va_W) (H : Heap) (locs : List Loc) (cells slots : Nat) (ls : Array Slot) (st : List Value) (q0 a n d i v : Nat), va_P w.1 sy_cl ws H → va_D A ws → va_S A s.heap H locs → ws[q0]? = some (a, .inl (w.2.1 3, n, sy_arr w ρ 3 d)) → i < n → n ≤ 65535 → sy_isch v → v < 2 ^ 72 →
      (∀ (H1 : Heap) (locs1 : List Loc), va_P w.1 sy_cl (ws.set q0 (a, .inl (w.2.1 3, n, sy_arr w ρ 3 (sy_wr d i v)))) H1 → va_D A (ws.set q0 (a, .inl (w.2.1 3, n, sy_arr w ρ 3 (sy_wr d i v)))) → va_S A s.heap H1 locs1 → W p l e R s m args below meth c H1 locs1 cells slots Q (F0 m npc ls st)) →
      W p l e R s m args below meth c H locs cells slots Q (F0 m pc ls (sy_v w ρ v :: .int (nI i) :: .ref a :: st))) : sy_OK p l e R s m args below meth c Q w A nL pc npc tpc (sy_cast tk x y) := by
  intro L st h cells slots Y hY hk hc hsl ρ H locs ls stC hH hL hS kk
  have hk0 : Y.1 ≠ 0 := by omega
  obtain ⟨a, i, v, r, e1, q1⟩ := sy_p3_inv hY hk0
  subst e1
  obtain ⟨hS1, hvv, hvi, hva, hr⟩ := sy_SPc3 hS
  subst hS1
  obtain ⟨ht, hi, k, n, d, hg, q2⟩ := sy_cell_inv q1 hk0
  obtain ⟨h1, h2⟩ := sy_if_inv q2 hk0
  obtain ⟨h1, h3⟩ := sy_and h1
  obtain ⟨i0, i1, i2, q3⟩ := sy_ix_inv h2 hk0
  rw [sy_force_eq] at q3
  subst q3
  have hk1 : k = 2 * 3 + 1 := sy_beq h1
  subst hk1
  have hge := sy_ws_get (w := w) (ρ := ρ) hi
  rw [hg, sy_ce_arr] at hge
  have hwf : ∀ j, sy_wfV h.1 (sy_rd d j) := by
    have h9 := hH.2.2.2.2 _ hi
    rw [hg] at h9
    exact h9
  rw [sy_v5 ht, sy_v0 i0]
  refine hs ρ _ H locs cells slots ls _ _ _ n d (sy_py i) v hH.1 hH.2.1 hH.2.2.1 hge i1 i2 (sy_isch_of h3) (Nat.lt_trans hvv.1 (by decide)) fun H1 locs1 g1 g2 g3 => ?_
  rw [← sy_ce_arr] at g1 g2
  exact kk ρ H1 locs1 ls _ sy_ag.rf (Nat.le_refl _) (sy_HP_set hH.2.2.2 hi (sy_wfO_wr hwf hvv) g1 g2 g3) hL ⟨rfl, hr⟩
theorem sy_ok_aast {T : Nat → Nat} {x y : Nat} (hs : ∀ (ρ : Nat → Nat) (ws : va_W) (H : Heap) (locs : List Loc) (cells slots : Nat) (ls : Array Slot) (st : List Value) (q0 a t n d i v : Nat), 6 ≤ t → t ≤ 11 → va_P w.1 sy_cl ws H → va_D A ws → va_S A s.heap H locs → ws[q0]? = some (a, .inl (w.2.1 t, n, sy_arr w ρ t d)) → i < n → n ≤ 65535 →
      (v = 4 ∨ (sy_tg v = 5 ∧ ∃ (qk : Nat) (vs : List Value), ws[qk]? = some (ρ (sy_py v), .inr (T t, vs)))) → v < 2 ^ 72 →
      (∀ (H1 : Heap) (locs1 : List Loc), va_P w.1 sy_cl (ws.set q0 (a, .inl (w.2.1 t, n, sy_arr w ρ t (sy_wr d i v)))) H1 → va_D A (ws.set q0 (a, .inl (w.2.1 t, n, sy_arr w ρ t (sy_wr d i v)))) → va_S A s.heap H1 locs1 → W p l e R s m args below meth c H1 locs1 cells slots Q (F0 m npc ls st)) →
      W p l e R s m args below meth c H locs cells slots Q (F0 m pc ls (sy_v w ρ v :: .int (nI i) :: .ref a :: st))) : sy_OK p l e R s m args below meth c Q w A nL pc npc tpc (sy_aast T tk x y) := by
  intro L st h cells slots Y hY hk hc hsl ρ H locs ls stC hH hL hS kk
  have hk0 : Y.1 ≠ 0 := by omega
  obtain ⟨a, i, v, r, e1, q1⟩ := sy_p3_inv hY hk0
  subst e1
  obtain ⟨hS1, hvv, hvi, hva, hr⟩ := sy_SPc3 hS
  subst hS1
  obtain ⟨ht, hi, k, n, d, hg, q2⟩ := sy_cell_inv q1 hk0
  obtain ⟨h1, h2⟩ := sy_if_inv q2 hk0
  obtain ⟨h1, h5⟩ := sy_and h1
  obtain ⟨h5, h6⟩ := sy_and h5
  have h5 := sy_ble h5
  have h6 := sy_ble h6
  have hk1 := sy_odd h1
  have hge := sy_ws_get (w := w) (ρ := ρ) hi
  rw [hg, hk1, sy_ce_arr] at hge
  have hwf : ∀ j, sy_wfV h.1 (sy_rd d j) := by
    have h9 := hH.2.2.2.2 _ hi
    rw [hg] at h9
    exact h9
  have fin : (v = 4 ∨ (sy_tg v = 5 ∧ ∃ (qk : Nat) (vs : List Value), (sy_ws w ρ h)[qk]? = some (ρ (sy_py v), .inr (T (k / 2), vs)))) → (sy_ix tk i n fun j => sy_force (sy_wr d j v) fun d => sy_go L r (h.1, sy_hp h.2 (sy_py a) (k, n, d)) cells slots) = Y →
      W p l e R s m args below meth c H locs cells slots Q (F0 m pc ls (sy_v w ρ v :: sy_v w ρ i :: sy_v w ρ a :: r.map (sy_v w ρ))) := by
    intro hv hq
    obtain ⟨i0, i1, i2, q3⟩ := sy_ix_inv hq hk0
    rw [sy_force_eq] at q3
    subst q3
    rw [sy_v5 ht, sy_v0 i0]
    refine hs ρ _ H locs cells slots ls _ _ _ (k / 2) n d (sy_py i) v (by omega) (by omega) hH.1 hH.2.1 hH.2.2.1 hge i1 i2 hv (Nat.lt_trans hvv.1 (by decide)) fun H1 locs1 g1 g2 g3 => ?_
    rw [← sy_ce_arr, ← hk1] at g1 g2
    exact kk ρ H1 locs1 ls _ sy_ag.rf (Nat.le_refl _) (sy_HP_set hH.2.2.2 hi (sy_wfO_wr hwf hvv) g1 g2 g3) hL ⟨rfl, hr⟩
  rcases sy_cond_inv h2 with ⟨c1, q3⟩ | ⟨c1, q3⟩
  · have hv4 : v = 4 := sy_beq c1
    subst hv4
    exact fin (Or.inl rfl) q3
  · obtain ⟨ht2, hi2, k2, n2, d2, hg2, q4⟩ := sy_cell_inv q3 hk0
    obtain ⟨h7, h8⟩ := sy_if_inv q4 hk0
    have hk2 : k2 = 2 * T (k / 2) := sy_beq h7
    have hge2 := sy_ws_get (w := w) (ρ := ρ) hi2
    rw [hg2, hk2, sy_ce_obj] at hge2
    exact fin (Or.inr ⟨ht2, _, _, hge2⟩) h8
theorem sy_ok_castA {x y : Nat} (hs : ∀ (ws : va_W) (H : Heap) (locs : List Loc) (cells slots : Nat) (ls : Array Slot) (st : List Value) (q0 a : Nat) (z : vp_A), va_P w.1 sy_cl ws H → ws[q0]? = some (a, .inl (w.2.1 x, z)) →
      W p l e R s m args below meth c H locs cells slots Q (F0 m npc ls (.ref a :: st)) → W p l e R s m args below meth c H locs cells slots Q (F0 m pc ls (.ref a :: st))) : sy_OK p l e R s m args below meth c Q w A nL pc npc tpc (sy_castA tk x y) := by
  intro L st h cells slots Y hY hk hc hsl ρ H locs ls stC hH hL hS kk
  have hk0 : Y.1 ≠ 0 := by omega
  obtain ⟨a, r, e1, q1⟩ := sy_p1_inv hY hk0
  subst e1
  obtain ⟨hS1, hva, hr⟩ := sy_SPc hS
  obtain ⟨ht, hi, k, n, d, hg, q2⟩ := sy_cell_inv q1 hk0
  obtain ⟨h1, h2⟩ := sy_if_inv q2 hk0
  subst h2
  have hk1 : k = 2 * x + 1 := sy_beq h1
  have hge := sy_ws_get (w := w) (ρ := ρ) hi
  rw [hg, hk1, sy_ce_arr] at hge
  have K := kk ρ H locs ls _ sy_ag.rf (Nat.le_refl _) hH hL hS
  subst hS1
  rw [sy_v5 ht] at K ⊢
  exact hs _ H locs cells slots ls _ _ _ _ hH.1 hge K
theorem sy_ok_clone {x y : Nat} (hs : ∀ (ρ : Nat → Nat) (ws : va_W) (H : Heap) (locs : List Loc) (cells slots : Nat) (ls : Array Slot) (st : List Value) (q0 a n d : Nat), ls.size = nL → (st.map fun v => v.category).sum ≤ 50 → va_P w.1 sy_cl ws H → va_D A ws → va_S A s.heap H locs → ws[q0]? = some (a, .inl (w.2.1 0, n, sy_arr w ρ 0 d)) → cells + 1 ≤ R.cells → slots + n ≤ R.slots →
      (∀ (q : Nat) (H1 : Heap) (locs1 : List Loc), va_P w.1 sy_cl (ws ++ [(q, .inl (w.2.1 0, n, sy_arr w ρ 0 d))]) H1 → va_D A (ws ++ [(q, .inl (w.2.1 0, n, sy_arr w ρ 0 d))]) → va_S A s.heap H1 locs1 → W p l e R s m args below meth c H1 locs1 (cells + 1) (slots + n) Q (F0 m npc ls (.ref q :: st))) →
      W p l e R s m args below meth c H locs cells slots Q (F0 m pc ls (.ref a :: st))) : sy_OK p l e R s m args below meth c Q w A nL pc npc tpc (sy_clone tk x y) := by
  intro L st h cells slots Y hY hk hc hsl ρ H locs ls stC hH hL hS kk
  have hk0 : Y.1 ≠ 0 := by omega
  obtain ⟨a, r, e1, q1⟩ := sy_p1_inv hY hk0
  subst e1
  obtain ⟨hS1, hva, hr⟩ := sy_SPc hS
  subst hS1
  obtain ⟨ht, hi, k, n, d, hg, q2⟩ := sy_cell_inv q1 hk0
  obtain ⟨h1, h2⟩ := sy_if_inv q2 hk0
  obtain ⟨h1, h9⟩ := sy_and h1
  have hk1 : k = 2 * 0 + 1 := sy_beq h1
  have hwf : ∀ j, sy_wfV h.1 (sy_rd d j) := by
    have h9 := hH.2.2.2.2 _ hi
    rw [hg] at h9
    exact h9
  obtain ⟨z1, z2, z3⟩ := sy_alloc_ok (p := p) (l := l) (e := e) (R := R) (m := m) (args := args) (below := below) (meth := meth) (c := c) (Q := Q) (npc := npc) (tpc := tpc) h2 hk hH hL hr hwf
  have hge := sy_ws_get (w := w) (ρ := ρ) hi
  rw [hg, hk1, sy_ce_arr] at hge
  rw [hk1, sy_ce_arr] at z3
  rw [sy_v5 ht]
  refine hs ρ _ H locs cells slots ls _ _ _ n d hL.1 ?_ hH.1 hH.2.1 hH.2.2.1 hge (by omega) (by omega) (z3 kk)
  have hcats : ∀ q : List Nat, ((q.map (sy_v w ρ)).map fun v => v.category).sum = sy_cats q := by
    intro q
    induction q with
    | nil => rfl
    | cons v q ih =>
      show (sy_v w ρ v).category + ((q.map (sy_v w ρ)).map fun v => v.category).sum = sy_ct v + sy_cats q
      rw [ih, sy_ct_cat']
  rw [hcats]
  exact sy_ble h9
/-- what a copy leaves -/
theorem sy_rd_cpy {d sp dp e : Nat} : ∀ (n j : Nat), sy_rd (sy_cpy d sp dp n e) j = if dp ≤ j ∧ j < dp + n then sy_rd d (sp + (j - dp)) else sy_rd e j
  | 0, j => by
    rw [if_neg (by omega)]
    rfl
  | n + 1, j => by
    show sy_rd (sy_wr (sy_cpy d sp dp n e) (dp + n) (sy_rd d (sp + n))) j = _
    rw [sy_rd_wr _ _ _ _ (sy_rd_lt _ _), sy_rd_cpy n j]
    by_cases h1 : dp + n = j
    · rw [if_pos h1, if_pos (by omega), show j - dp = n by omega]
    · rw [if_neg h1]
      by_cases h2 : dp ≤ j ∧ j < dp + n
      · rw [if_pos h2, if_pos (by omega)]
      · rw [if_neg h2, if_neg (by omega)]
theorem sy_ok_acpy {x y : Nat} (hs : ∀ (ρ : Nat → Nat) (ws : va_W) (H : Heap) (locs : List Loc) (cells slots : Nat) (ls : Array Slot) (st : List Value) (q0 q1 a0 a1 n0 n1 d0 d1 sp dp n : Nat), ls.size = nL → (st.map fun v => v.category).sum ≤ 50 → va_P w.1 sy_cl ws H → va_D A ws → va_S A s.heap H locs → ws[q0]? = some (a0, .inl (w.2.1 0, n0, sy_arr w ρ 0 d0)) → ws[q1]? = some (a1, .inl (w.2.1 0, n1, sy_arr w ρ 0 d1)) → sp + n ≤ n0 → dp + n ≤ n1 → n0 ≤ 65535 → n1 ≤ 65535 →
      (∀ (H1 : Heap) (locs1 : List Loc), va_P w.1 sy_cl (ws.set q1 (a1, .inl (w.2.1 0, n1, sy_arr w ρ 0 (sy_cpy d0 sp dp n d1)))) H1 → va_D A (ws.set q1 (a1, .inl (w.2.1 0, n1, sy_arr w ρ 0 (sy_cpy d0 sp dp n d1)))) → va_S A s.heap H1 locs1 → W p l e R s m args below meth c H1 locs1 cells slots Q (F0 m npc ls st)) →
      W p l e R s m args below meth c H locs cells slots Q (F0 m pc ls (.int (nI n) :: .int (nI dp) :: .ref a1 :: .int (nI sp) :: .ref a0 :: st))) : sy_OK p l e R s m args below meth c Q w A nL pc npc tpc (sy_acpy tk x y) := by
  intro L st h cells slots Y hY hk hc hsl ρ H locs ls stC hH hL hS kk
  have hk0 : Y.1 ≠ 0 := by omega
  obtain ⟨n, r1, e1, q1⟩ := sy_p1_inv hY hk0
  obtain ⟨dp, r2, e2, q2⟩ := sy_p1_inv q1 hk0
  obtain ⟨b, r3, e3, q3⟩ := sy_p1_inv q2 hk0
  obtain ⟨sp, r4, e4, q4⟩ := sy_p1_inv q3 hk0
  obtain ⟨a, r, e5, q5⟩ := sy_p1_inv q4 hk0
  subst e5
  subst e4
  subst e3
  subst e2
  subst e1
  have hS1 := hS.1
  have hr : ∀ u ∈ r, sy_wfV h.1 u := fun u hu => hS.2 u (List.mem_cons_of_mem _ (List.mem_cons_of_mem _ (List.mem_cons_of_mem _ (List.mem_cons_of_mem _ (List.mem_cons_of_mem _ hu)))))
  have hS1 : stC = sy_v w ρ n :: sy_v w ρ dp :: sy_v w ρ b :: sy_v w ρ sp :: sy_v w ρ a :: r.map (sy_v w ρ) := hS1
  subst hS1
  obtain ⟨ht, hi, k, n1, d, hg, q6⟩ := sy_cell_inv q5 hk0
  obtain ⟨ht2, hi2, k2, n2, d2, hg2, q7⟩ := sy_cell_inv q6 hk0
  obtain ⟨h1, h2⟩ := sy_if_inv q7 hk0
  obtain ⟨h1, h3⟩ := sy_and h1
  obtain ⟨h3, h4⟩ := sy_and h3
  obtain ⟨h4, h5⟩ := sy_and h4
  obtain ⟨h5, h6⟩ := sy_and h5
  obtain ⟨g1, g2⟩ := sy_if_inv h2 hk0
  obtain ⟨g1, g3⟩ := sy_and g1
  obtain ⟨g3, g4⟩ := sy_and g3
  obtain ⟨g4, g5⟩ := sy_and g4
  obtain ⟨g5, g6⟩ := sy_and g5
  rw [sy_force_eq] at g2
  subst g2
  have hk1 : k = 2 * 0 + 1 := sy_beq h1
  have hk2 : k2 = 2 * 0 + 1 := sy_beq h3
  have hge := sy_ws_get (w := w) (ρ := ρ) hi
  rw [hg, hk1, sy_ce_arr] at hge
  have hge2 := sy_ws_get (w := w) (ρ := ρ) hi2
  rw [hg2, hk2, sy_ce_arr] at hge2
  have hwf : ∀ j, sy_wfV h.1 (sy_rd d j) := by
    have h9 := hH.2.2.2.2 _ hi
    rw [hg] at h9
    exact h9
  have hwf2 : ∀ j, sy_wfV h.1 (sy_rd d2 j) := by
    have h9 := hH.2.2.2.2 _ hi2
    rw [hg2] at h9
    exact h9
  rw [sy_v0 (sy_beq h4), sy_v0 (sy_beq h5), sy_v0 (sy_beq h6), sy_v5 ht, sy_v5 ht2]
  have hcats : ∀ q : List Nat, ((q.map (sy_v w ρ)).map fun v => v.category).sum = sy_cats q := by
    intro q
    induction q with
    | nil => rfl
    | cons v q ih =>
      show (sy_v w ρ v).category + ((q.map (sy_v w ρ)).map fun v => v.category).sum = sy_ct v + sy_cats q
      rw [ih, sy_ct_cat']
  refine hs ρ _ H locs cells slots ls _ _ _ _ _ n1 n2 d d2 (sy_py sp) (sy_py dp) (sy_py n) hL.1 (by rw [hcats]; exact sy_ble g6) hH.1 hH.2.1 hH.2.2.1 hge hge2 (sy_ble g4) (sy_ble g5) (sy_ble g1) (sy_ble g3) fun H1 locs1 z1 z2 z3 => ?_
  rw [← sy_ce_arr, ← hk2] at z1 z2
  refine kk ρ H1 locs1 ls _ sy_ag.rf (Nat.le_refl _) (sy_HP_set hH.2.2.2 hi2 (fun j => ?_) z1 z2 z3) hL ⟨rfl, hr⟩
  show sy_wfV h.1 (sy_rd (sy_cpy d (sy_py sp) (sy_py dp) (sy_py n) d2) j)
  rw [sy_rd_cpy]
  split
  · exact hwf _
  · exact hwf2 _
end SYS
