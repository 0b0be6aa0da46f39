/-! operations on the heap -/
section SYH
variable {p : Program} {l : Launch} {e : Env} {R : Room} {s : State} {m : MethodId} {args : Array Value} {below : List Frame} {meth : Method} {c : Code} {Q : State → Prop} {w : sy_Wd} {A : Nat → Prop} {nL pc npc tpc : Nat} {tk : sy_T}
theorem sy_ce_obj {ρ : Nat → Nat} {ci n d : Nat} : sy_ce w ρ (2 * ci, n, d) = .inr (ci, (List.range n).map fun k => sy_v w ρ (sy_rd d k)) := by
  unfold sy_ce
  rw [if_pos (by show 2 * ci % 2 = 0; omega)]
  show Sum.inr (2 * ci / 2, _) = _
  rw [show 2 * ci / 2 = ci by omega]
theorem sy_ce_arr {ρ : Nat → Nat} {t n d : Nat} : sy_ce w ρ (2 * t + 1, n, d) = .inl (w.2.1 t, n, sy_arr w ρ t d) := by
  unfold sy_ce
  rw [if_neg (by show ¬ (2 * t + 1) % 2 = 0; omega)]
  show Sum.inl (w.2.1 ((2 * t + 1) / 2), n, sy_arr w ρ ((2 * t + 1) / 2) d) = _
  rw [show (2 * t + 1) / 2 = t by omega]
theorem sy_fs_set {ρ : Nat → Nat} {n d j v : Nat} (hv : v < 2 ^ 72) : ((List.range n).map fun k => sy_v w ρ (sy_rd d k)).set j (sy_v w ρ v) = (List.range n).map fun k => sy_v w ρ (sy_rd (sy_wr d j v) k) := by
  apply List.ext_getElem?
  intro i
  by_cases hi : i < n
  · rw [List.getElem?_map, List.getElem?_range hi]
    show _ = some (sy_v w ρ (sy_rd (sy_wr d j v) i))
    rw [sy_rd_wr _ _ _ _ hv]
    by_cases hij : j = i
    · subst hij
      rw [List.getElem?_set_self (by simpa using hi), if_pos rfl]
    · rw [List.getElem?_set_ne hij, List.getElem?_map, List.getElem?_range hi, if_neg hij]
      rfl
  · rw [List.getElem?_eq_none (by simp; omega), List.getElem?_eq_none (by simp; omega)]
/-- a world with one cell changed -/
theorem sy_HP_set {ρ : Nat → Nat} {h : sy_H} {H1 : Heap} {H0 : Heap} {locs1 : List Loc} {i : Nat} {x : sy_O} (hw : sy_wfH h) (hi : i < h.1) (hx : sy_wfO h.1 x)
    (h1 : va_P w.1 sy_cl ((sy_ws w ρ h).set i (ρ i, sy_ce w ρ x)) H1) (h2 : va_D A ((sy_ws w ρ h).set i (ρ i, sy_ce w ρ x))) (h3 : va_S A H0 H1 locs1) : sy_HP w A H0 ρ (h.1, sy_hp h.2 i x) H1 locs1 := by
  rw [sy_ws_set hw x hi] at h1 h2
  exact ⟨h1, h2, h3, sy_wfH_put hw hi hx⟩
/-- a world with one cell more -/
theorem sy_HP_push {ρ : Nat → Nat} {h : sy_H} {H1 : Heap} {H0 : Heap} {locs1 : List Loc} {q : Nat} {x : sy_O} (hw : sy_wfH h) (h5 : h.1 + 1 ≤ 511) (hx : sy_wfO h.1 x)
    (h1 : va_P w.1 sy_cl (sy_ws w ρ h ++ [(q, sy_ce w ρ x)]) H1) (h2 : va_D A (sy_ws w ρ h ++ [(q, sy_ce w ρ x)])) (h3 : va_S A H0 H1 locs1) : sy_HP w A H0 (sy_up ρ h.1 q) (h.1 + 1, sy_hp h.2 h.1 x) H1 locs1 := by
  rw [sy_ws_push hw q hx] at h1 h2
  exact ⟨h1, h2, h3, sy_wfH_push hw h5 (hx.mono (Nat.le_succ _))⟩
theorem sy_ok_getf {x y : Nat} (hs : ∀ (ws : va_W) (H : Heap) (locs : List Loc) (cells slots : Nat) (ls : Array Slot) (st : List Value) (q0 a : Nat) (fs : List Value) (v : Value), va_P w.1 sy_cl ws H → ws[q0]? = some (a, .inr (x / 64, fs)) → fs[x % 64]? = some v →
      W p l e R s m args below meth c H locs cells slots Q (F0 m npc ls (v :: st)) → W p l e R s m args below meth c H locs cells slots Q (F0 m pc ls (.ref a :: st))) : sy_OK p l e R s m args below meth c Q w A nL pc npc tpc (sy_getf tk x y) := by
  intro L st h cells slots Y hY hk hc hsl ρ H locs ls stC hH hL hS kk
  have hk0 : Y.1 ≠ 0 := by omega
  obtain ⟨a, r, e1, q1⟩ := sy_p1_inv hY hk0
  subst e1
  obtain ⟨hS1, hva, hr⟩ := sy_SPc hS
  subst hS1
  obtain ⟨ht, hi, k, n, d, hg, q2⟩ := sy_cell_inv q1 hk0
  obtain ⟨h1, h2⟩ := sy_if_inv q2 hk0
  obtain ⟨h1, h3⟩ := sy_and h1
  rw [sy_force_eq] at h2
  subst h2
  have hk1 : k = 2 * (x / 64) := sy_beq h1
  have hn1 : x % 64 < n := sy_ble h3
  subst hk1
  have hge := sy_ws_get (w := w) (ρ := ρ) hi
  rw [hg, sy_ce_obj] at hge
  have hwf : sy_wfV h.1 (sy_rd d (x % 64)) := by
    have h9 := hH.2.2.2.2 _ hi (x % 64)
    rw [hg] at h9
    exact h9
  rw [sy_v5 ht]
  refine hs _ H locs cells slots ls _ _ _ _ (sy_v w ρ (sy_rd d (x % 64))) hH.1 hge ?_ (kk ρ H locs ls _ sy_ag.rf (Nat.le_refl _) hH hL (sy_SPm hwf hr))
  rw [List.getElem?_map, List.getElem?_range hn1]
  rfl
theorem sy_ok_putf {x y : Nat} (hs : ∀ (ws : va_W) (H : Heap) (locs : List Loc) (cells slots : Nat) (ls : Array Slot) (st : List Value) (q0 a : Nat) (fs : List Value) (ρ : Nat → Nat) (v : Nat), va_P w.1 sy_cl ws H → va_D A ws → va_S A s.heap H locs → ws[q0]? = some (a, .inr (x / 64, fs)) → x % 64 < fs.length → sy_okf (y % 8) v = true →
      (∀ (H1 : Heap) (locs1 : List Loc), va_P w.1 sy_cl (ws.set q0 (a, .inr (x / 64, fs.set (x % 64) (sy_v w ρ v)))) H1 → va_D A (ws.set q0 (a, .inr (x / 64, fs.set (x % 64) (sy_v w ρ v)))) → va_S A s.heap H1 locs1 → W p l e R s m args below meth c H1 locs1 cells slots Q (F0 m npc ls st)) →
      W p l e R s m args below meth c H locs cells slots Q (F0 m pc ls (sy_v w ρ v :: .ref a :: st))) : sy_OK p l e R s m args below meth c Q w A nL pc npc tpc (sy_putf tk x y) := by
  intro L st h cells slots Y hY hk hc hsl ρ H locs ls stC hH hL hS kk
  have hk0 : Y.1 ≠ 0 := by omega
  obtain ⟨a, v, r, e1, q1⟩ := sy_p2_inv hY hk0
  subst e1
  obtain ⟨hS1, hvv, hva, hr⟩ := sy_SPc2 hS
  subst hS1
  obtain ⟨ht, hi, k, n, d, hg, q2⟩ := sy_cell_inv q1 hk0
  obtain ⟨h1, h2⟩ := sy_if_inv q2 hk0
  obtain ⟨h1, h3⟩ := sy_and h1
  obtain ⟨h3, h4⟩ := sy_and h3
  rw [sy_force_eq] at h2
  subst h2
  have hk1 : k = 2 * (x / 64) := sy_beq h1
  have hn1 : x % 64 < n := sy_ble h3
  subst hk1
  have hge := sy_ws_get (w := w) (ρ := ρ) hi
  rw [hg, sy_ce_obj] at hge
  have hwf : ∀ j, sy_wfV h.1 (sy_rd d j) := by
    have h9 := hH.2.2.2.2 _ hi
    rw [hg] at h9
    exact h9
  rw [sy_v5 ht]
  refine hs _ H locs cells slots ls _ _ _ _ ρ v hH.1 hH.2.1 hH.2.2.1 hge (by simpa using hn1) h4 fun H1 locs1 g1 g2 g3 => ?_
  rw [sy_fs_set (Nat.lt_trans hvv.1 (by decide)), ← sy_ce_obj] at g1 g2
  exact kk ρ H1 locs1 ls _ sy_ag.rf (Nat.le_refl _) (sy_HP_set hH.2.2.2 hi (sy_wfO_wr hwf hvv) g1 g2 g3) hL ⟨rfl, hr⟩
/-- a new cell on top of the stack -/
theorem sy_alloc_ok {h : sy_H} {L k n d cells slots : Nat} {r : List Nat} {Y : sy_X} (hY : sy_alloc h L r cells slots k n d = Y) (hk : Y.1 = 1 ∨ Y.1 = 2) {ρ : Nat → Nat} {H : Heap} {locs : List Loc} {ls : Array Slot}
    (hH : sy_HP w A s.heap ρ h H locs) (hL : sy_LP w ρ nL h.1 L ls) (hr : ∀ u ∈ r, sy_wfV h.1 u) (hx : sy_wfO h.1 (k, n, d)) :
    Y.2.2.2.2.2.1 = cells + 1 ∧ Y.2.2.2.2.2.2 = slots + n ∧
    ((∀ (ρ' : Nat → Nat) (H' : Heap) (locs' : List Loc) (ls' : Array Slot) (stC' : List Value), sy_ag h.1 ρ ρ' → h.1 ≤ Y.2.2.2.2.1.1 → sy_HP w A s.heap ρ' Y.2.2.2.2.1 H' locs' → sy_LP w ρ' nL Y.2.2.2.2.1.1 Y.2.2.1 ls' → sy_SP w ρ' Y.2.2.2.2.1.1 Y.2.2.2.1 stC' →
      W p l e R s m args below meth c H' locs' Y.2.2.2.2.2.1 Y.2.2.2.2.2.2 Q (F0 m (if Y.1 = 1 then npc else tpc) ls' stC')) →
     ∀ (q : Nat) (H1 : Heap) (locs1 : List Loc), va_P w.1 sy_cl (sy_ws w ρ h ++ [(q, sy_ce w ρ (k, n, d))]) H1 → va_D A (sy_ws w ρ h ++ [(q, sy_ce w ρ (k, n, d))]) → va_S A s.heap H1 locs1 → W p l e R s m args below meth c H1 locs1 (cells + 1) (slots + n) Q (F0 m npc ls (.ref q :: r.map (sy_v w ρ)))) := by
  have hk0 : Y.1 ≠ 0 := by omega
  obtain ⟨h1, h2⟩ := sy_if_inv hY hk0
  rw [sy_force_eq, sy_force_eq, sy_force_eq, sy_force_eq] at h2
  have h5 : h.1 + 1 ≤ 511 := sy_ble h1
  subst h2
  refine ⟨rfl, rfl, fun kk q H1 locs1 g1 g2 g3 => ?_⟩
  have ha : sy_ag h.1 ρ (sy_up ρ h.1 q) := sy_ag.up q
  have hw : sy_wfV (h.1 + 1) (sy_pk 5 h.1) := sy_wfV_pk (by decide) (fun _ => Nat.lt_succ_self _) (by omega)
  have hSP : sy_SP w (sy_up ρ h.1 q) (h.1 + 1) (sy_pk 5 h.1 :: r) (sy_v w (sy_up ρ h.1 q) (sy_pk 5 h.1) :: r.map (sy_v w (sy_up ρ h.1 q))) := sy_SPm hw fun u hu => (hr u hu).mono (Nat.le_succ _)
  have K := kk (sy_up ρ h.1 q) H1 locs1 ls _ ha (Nat.le_succ _) (sy_HP_push hH.2.2.2 h5 hx g1 g2 g3) (hL.ag ha (Nat.le_succ _)) hSP
  rw [sy_v5 (sy_tg_pk (by decide)), sy_py_pk (by decide), show sy_up ρ h.1 q h.1 = q from if_pos rfl, List.map_congr_left (fun v hv => sy_v_ag (hr v hv) ha)] at K
  exact K
theorem sy_ok_new {F : Nat → Nat × Nat} {x y : Nat} (hd : ∀ n j, sy_wfV n (sy_rd (F x).2 j)) (hs : ∀ (ρ : Nat → Nat) (ws : va_W) (H : Heap) (locs : List Loc) (cells slots : Nat) (ls : Array Slot) (st : List Value), va_P w.1 sy_cl ws H → va_D A ws → va_S A s.heap H locs → cells + 1 ≤ R.cells → slots + (F x).1 ≤ R.slots →
      (∀ (q : Nat) (H1 : Heap) (locs1 : List Loc), va_P w.1 sy_cl (ws ++ [(q, .inr (x, (List.range (F x).1).map fun k => sy_v w ρ (sy_rd (F x).2 k)))]) H1 → va_D A (ws ++ [(q, .inr (x, (List.range (F x).1).map fun k => sy_v w ρ (sy_rd (F x).2 k)))]) → va_S A s.heap H1 locs1 → W p l e R s m args below meth c H1 locs1 (cells + 1) (slots + (F x).1) Q (F0 m npc ls (.ref q :: st))) →
      W p l e R s m args below meth c H locs cells slots Q (F0 m pc ls st)) : sy_OK p l e R s m args below meth c Q w A nL pc npc tpc (sy_new F tk x y) := by
  intro L st h cells slots Y hY hk hc hsl ρ H locs ls stC hH hL hS kk
  have hS1 := hS.1
  subst hS1
  have hY : sy_alloc h L st cells slots (2 * x) (F x).1 (F x).2 = Y := hY
  obtain ⟨z1, z2, z3⟩ := sy_alloc_ok (p := p) (l := l) (e := e) (R := R) (m := m) (args := args) (below := below) (meth := meth) (c := c) (Q := Q) (npc := npc) (tpc := tpc) hY hk hH hL hS.2 (fun j => hd _ j)
  rw [sy_ce_obj] at z3
  exact hs ρ _ H locs cells slots ls _ hH.1 hH.2.1 hH.2.2.1 (by omega) (by omega) (z3 kk)
theorem sy_rd0 (j : Nat) : sy_rd 0 j = 0 := by
  apply Nat.eq_of_testBit_eq
  intro i
  rw [sy_rd_bit]
  simp
theorem sy_wfV0 (n : Nat) : sy_wfV n 0 := ⟨by decide, fun q => absurd q (by decide)⟩
theorem sy_ok_newa {x y : Nat} (hs : ∀ (ρ : Nat → Nat) (ws : va_W) (H : Heap) (locs : List Loc) (cells slots : Nat) (ls : Array Slot) (st : List Value) (n : Nat), n ≤ 65535 → va_P w.1 sy_cl ws H → va_D A ws → va_S A s.heap H locs → cells + 1 ≤ R.cells → slots + n ≤ R.slots →
      (∀ (q : Nat) (H1 : Heap) (locs1 : List Loc), va_P w.1 sy_cl (ws ++ [(q, .inl (w.2.1 x, n, sy_arr w ρ x 0))]) H1 → va_D A (ws ++ [(q, .inl (w.2.1 x, n, sy_arr w ρ x 0))]) → va_S A s.heap H1 locs1 → W p l e R s m args below meth c H1 locs1 (cells + 1) (slots + n) Q (F0 m npc ls (.ref q :: st))) →
      W p l e R s m args below meth c H locs cells slots Q (F0 m pc ls (.int (nI n) :: st))) : sy_OK p l e R s m args below meth c Q w A nL pc npc tpc (sy_newa tk x y) := by
  intro L st h cells slots Y hY hk hc hsl ρ H locs ls stC hH hL hS kk
  have hk0 : Y.1 ≠ 0 := by omega
  obtain ⟨a, r, e1, q1⟩ := sy_p1_inv hY hk0
  subst e1
  obtain ⟨hS1, hva, hr⟩ := sy_SPc hS
  subst hS1
  obtain ⟨h1, h2⟩ := sy_if_inv q1 hk0
  obtain ⟨h1, h3⟩ := sy_and h1
  have h2 : sy_alloc h L r cells slots (2 * x + 1) (sy_py a) 0 = Y := h2
  obtain ⟨z1, z2, z3⟩ := sy_alloc_ok (p := p) (l := l) (e := e) (R := R) (m := m) (args := args) (below := below) (meth := meth) (c := c) (Q := Q) (npc := npc) (tpc := tpc) h2 hk hH hL hr (fun j => by show sy_wfV _ (sy_rd 0 j); rw [sy_rd0]; exact sy_wfV0 _)
  rw [sy_ce_arr] at z3
  rw [sy_v0 (sy_beq h1)]
  exact hs ρ _ H locs cells slots ls _ _ (sy_ble h3) hH.1 hH.2.1 hH.2.2.1 (by omega) (by omega) (z3 kk)
theorem sy_ix_inv {i n : Nat} {f : Nat → sy_X} {Y : sy_X} (h : sy_ix tk i n f = Y) (hk : Y.1 ≠ 0) : sy_tg i = 0 ∧ sy_py i < n ∧ n ≤ 65535 ∧ f (sy_py i) = Y := by
  rcases sy_cond_inv h with ⟨h1, h2⟩ | ⟨-, h2⟩
  · obtain ⟨h3, h4⟩ := sy_if_inv h2 hk
    obtain ⟨h3, h5⟩ := sy_and h3
    exact ⟨sy_beq h1, sy_ble h3, sy_ble h5, h4⟩
  · exfalso
    rcases sy_cond_inv h2 with ⟨-, h2⟩ | ⟨-, h2⟩
    · rcases sy_cond_inv h2 with ⟨-, h2⟩ | ⟨-, h2⟩
      · exact hk (by rw [← h2]; rfl)
      · exact hk (by rw [← h2]; rfl)
    · exact hk (by rw [← h2]; rfl)
theorem sy_vp_in {i n : Nat} (h : i < n) (hn : n ≤ 65535) : vp_in (nI i) n := vp_in_nI h (by omega)
theorem sy_cl_nI {i : Nat} (h : i ≤ 65535) : (nI i).toNatClampNeg = i := nI_clamp (by omega)
/-- the elements of an array, by its type -/
theorem sy_ok_ald {t et ty x y : Nat} (hs : ∀ (ρ : Nat → Nat) (ws : va_W) (H : Heap) (locs : List Loc) (cells slots : Nat) (ls : Array Slot) (st : List Value) (q0 a n d i v : Nat), va_P w.1 sy_cl ws H → ws[q0]? = some (a, .inl (w.2.1 t, n, sy_arr w ρ t d)) → i < n → n ≤ 65535 → v = sy_elt et (sy_rd d i) → sy_ty v = ty →
      W p l e R s m args below meth c H locs cells slots Q (F0 m npc ls (sy_v w ρ v :: st)) → W p l e R s m args below meth c H locs cells slots Q (F0 m pc ls (.int (nI i) :: .ref a :: st))) : sy_OK p l e R s m args below meth c Q w A nL pc npc tpc (sy_ald t et ty tk x y) := by
  intro L st h cells slots Y hY hk hc hsl ρ H locs ls stC hH hL hS kk
  have hk0 : Y.1 ≠ 0 := by omega
  obtain ⟨a, i, r, e1, q1⟩ := sy_p2_inv hY hk0
  subst e1
  obtain ⟨hS1, hvi, hva, hr⟩ := sy_SPc2 hS
  subst hS1
  obtain ⟨ht, hi, k, n, d, hg, q2⟩ := sy_cell_inv q1 hk0
  obtain ⟨h1, h2⟩ := sy_if_inv q2 hk0
  obtain ⟨i0, i1, i2, q3⟩ := sy_ix_inv h2 hk0
  rw [sy_force_eq] at q3
  obtain ⟨h3, h4⟩ := sy_if_inv q3 hk0
  subst h4
  have hk1 : k = 2 * t + 1 := sy_beq h1
  subst hk1
  have hge := sy_ws_get (w := w) (ρ := ρ) hi
  rw [hg, sy_ce_arr] at hge
  have hwf : sy_wfV h.1 (sy_rd d (sy_py i)) := by
    have h9 := hH.2.2.2.2 _ hi (sy_py i)
    rw [hg] at h9
    exact h9
  rw [sy_v5 ht, sy_v0 i0]
  exact hs ρ _ H locs cells slots ls _ _ _ n d (sy_py i) _ hH.1 hge i1 i2 rfl (sy_beq h3) (kk ρ H locs ls _ sy_ag.rf (Nat.le_refl _) hH hL (sy_SPm (sy_wfV_elt hwf) hr))
theorem sy_odd {k : Nat} (h : Nat.beq (Nat.mod k 2) 1 = true) : k = 2 * (k / 2) + 1 := by
  have h1 : k % 2 = 1 := sy_beq h
  omega
theorem sy_ok_aald {x y : Nat} (hs : ∀ (ρ : Nat → Nat) (ws : va_W) (H : Heap) (locs : List Loc) (cells slots : Nat) (ls : Array Slot) (st : List Value) (q0 a t n d i v : Nat), 6 ≤ t → t ≤ 12 → va_P w.1 sy_cl ws H → ws[q0]? = some (a, .inl (w.2.1 t, n, sy_arr w ρ t d)) → i < n → n ≤ 65535 → v = sy_elt 6 (sy_rd d i) → (v = 4 ∨ sy_tg v = 5) →
      W p l e R s m args below meth c H locs cells slots Q (F0 m npc ls (sy_v w ρ v :: st)) → W p l e R s m args below meth c H locs cells slots Q (F0 m pc ls (.int (nI i) :: .ref a :: st))) : sy_OK p l e R s m args below meth c Q w A nL pc npc tpc (sy_aald tk x y) := by
  intro L st h cells slots Y hY hk hc hsl ρ H locs ls stC hH hL hS kk
  have hk0 : Y.1 ≠ 0 := by omega
  obtain ⟨a, i, r, e1, q1⟩ := sy_p2_inv hY hk0
  subst e1
  obtain ⟨hS1, hvi, hva, hr⟩ := sy_SPc2 hS
  subst hS1
  obtain ⟨ht, hi, k, n, d, hg, q2⟩ := sy_cell_inv q1 hk0
  obtain ⟨h1, h2⟩ := sy_if_inv q2 hk0
  obtain ⟨h1, h5⟩ := sy_and h1
  obtain ⟨h5, h6⟩ := sy_and h5
  have h5 := sy_ble h5
  have h6 := sy_ble h6
  obtain ⟨i0, i1, i2, q3⟩ := sy_ix_inv h2 hk0
  rw [sy_force_eq] at q3
  obtain ⟨h3, h4⟩ := sy_if_inv q3 hk0
  subst h4
  have hk1 := sy_odd h1
  have hge := sy_ws_get (w := w) (ρ := ρ) hi
  rw [hg, hk1, sy_ce_arr] at hge
  have hwf : sy_wfV h.1 (sy_rd d (sy_py i)) := by
    have h9 := hH.2.2.2.2 _ hi (sy_py i)
    rw [hg] at h9
    exact h9
  rw [sy_v5 ht, sy_v0 i0]
  exact hs ρ _ H locs cells slots ls _ _ _ _ n d (sy_py i) _ (by omega) (by omega) hH.1 hge i1 i2 rfl (sy_isr_inv h3) (kk ρ H locs ls _ sy_ag.rf (Nat.le_refl _) hH hL (sy_SPm (sy_wfV_elt hwf) hr))
theorem sy_ok_alen {len x y : Nat} (hs1 : ∀ (ws : va_W) (H : Heap) (locs : List Loc) (cells slots : Nat) (ls : Array Slot) (st : List Value) (q0 a t : Nat) (z : vp_A), t ≤ 12 → va_P w.1 sy_cl ws H → ws[q0]? = some (a, .inl (w.2.1 t, z)) →
      W p l e R s m args below meth c H locs cells slots Q (F0 m npc ls (.int (nI z.1) :: st)) → W p l e R s m args below meth c H locs cells slots Q (F0 m pc ls (.ref a :: st)))
    (hl : len ≤ 65535) (hs2 : ∀ (H : Heap) (locs : List Loc) (cells slots : Nat) (ls : Array Slot) (st : List Value), va_S A s.heap H locs → W p l e R s m args below meth c H locs cells slots Q (F0 m npc ls (.int (nI len) :: st)) → W p l e R s m args below meth c H locs cells slots Q (F0 m pc ls (.ref w.2.2.2 :: st))) :
    sy_OK p l e R s m args below meth c Q w A nL pc npc tpc (sy_alen tk len tk x y) := by
  intro L st h cells slots Y hY hk hc hsl ρ H locs ls stC hH hL hS kk
  have hk0 : Y.1 ≠ 0 := by omega
  obtain ⟨a, r, e1, q1⟩ := sy_p1_inv hY hk0
  subst e1
  obtain ⟨hS1, hva, hr⟩ := sy_SPc hS
  subst hS1
  rcases sy_cond_inv q1 with ⟨c1, q2⟩ | ⟨c1, q2⟩
  · subst q2
    rw [sy_v9 (sy_beq c1)]
    have K := kk ρ H locs ls _ sy_ag.rf (Nat.le_refl _) hH hL (sy_SPm (sy_wfV_pk (x := len) (t := 0) (by decide) (fun q => by cases q) (by omega)) hr)
    rw [sy_v0 (sy_tg_pk (by decide)), sy_py_pk (by decide)] at K
    exact hs2 H locs cells slots ls _ hH.2.2.1 K
  · obtain ⟨ht, hi, k, n, d, hg, q2⟩ := sy_cell_inv q2 hk0
    obtain ⟨h1, h2⟩ := sy_if_inv q2 hk0
    obtain ⟨h1, h5⟩ := sy_and h1
    obtain ⟨h5, h6⟩ := sy_and h5
    have h5 := sy_ble h5
    have h6 := sy_ble h6
    rw [sy_force_eq] at h2
    subst h2
    have hk1 := sy_odd h1
    have hge := sy_ws_get (w := w) (ρ := ρ) hi
    rw [hg, hk1, sy_ce_arr] at hge
    have K := kk ρ H locs ls _ sy_ag.rf (Nat.le_refl _) hH hL (sy_SPm (sy_wfV_pk (x := n) (t := 0) (by decide) (fun q => by cases q) (by omega)) hr)
    rw [sy_v0 (sy_tg_pk (by decide)), sy_py_pk (by decide)] at K
    rw [sy_v5 ht]
    exact hs1 _ H locs cells slots ls _ _ _ _ _ (by omega) hH.1 hge K
theorem sy_ok_iald {len x y : Nat} (hT : sy_TK tk w.2.2.1) (hl : len ≤ 65535) (hA : sy_OK p l e R s m args below meth c Q w A nL pc npc tpc (sy_ald 0 0 0 tk x y))
    (hs2 : ∀ (H : Heap) (locs : List Loc) (cells slots : Nat) (ls : Array Slot) (st : List Value) (i : Nat), i < len → va_S A s.heap H locs → W p l e R s m args below meth c H locs cells slots Q (F0 m npc ls (.int (w.2.2.1 i) :: st)) → W p l e R s m args below meth c H locs cells slots Q (F0 m pc ls (.int (nI i) :: .ref w.2.2.2 :: st))) :
    sy_OK p l e R s m args below meth c Q w A nL pc npc tpc (sy_iald len tk x y) := by
  intro L st h cells slots Y hY hk hc hsl ρ H locs ls stC hH hL hS kk
  have hk0 : Y.1 ≠ 0 := by omega
  obtain ⟨a, i, r, e1, q1⟩ := sy_p2_inv hY hk0
  rcases sy_cond_inv q1 with ⟨c1, q2⟩ | ⟨c1, q2⟩
  · subst e1
    obtain ⟨hS1, hvi, hva, hr⟩ := sy_SPc2 hS
    subst hS1
    obtain ⟨h1, h2⟩ := sy_if_inv q2 hk0
    obtain ⟨h1, h3⟩ := sy_and h1
    have h3 : sy_py i < len := sy_ble h3
    have h1 := sy_beq h1
    have hT0 := hT
    cases tk with
    | nil =>
      have h2 : ((8, 0, L, i :: a :: r, h, cells, slots) : sy_X) = Y := h2
      subst h2
      rcases hk with hk | hk <;> cases hk
    | cons t0 tl =>
      rw [sy_v9 (sy_beq c1), sy_v0 h1]
      rcases sy_cond_inv h2 with ⟨c2, q3⟩ | ⟨c2, q3⟩
      · rw [sy_force_eq] at q3
        subst q3
        obtain ⟨c2, c3⟩ := sy_and c2
        have b1 := (hT (sy_py i)).1 (sy_beq c2)
        have b2 := sy_beq c3
        have b3 := sy_k_max (w.2.2.1 (sy_py i))
        have K := kk ρ H locs ls _ sy_ag.rf (Nat.le_refl _) hH hL (sy_SPm (sy_wfV_pk (t := 0) (by decide) (fun q => by cases q) (Nat.lt_trans (Nat.mod_lt _ (by decide)) (by decide))) hr)
        rw [sy_v0 (sy_tg_pk (by decide)), sy_py_pk (by decide)] at K
        have e9 : w.2.2.1 (sy_py i) = nI (((sy_tok (t0 :: tl) (sy_py i)).2.1 + 2147483648) % 4294967296) := by
          rw [sy_k_eq, sy_k_nI]
          omega
        refine hs2 H locs cells slots ls _ _ h3 hH.2.2.1 ?_
        rw [e9]
        exact K
      · rw [sy_force_eq] at q3
        subst q3
        have K := kk ρ H locs ls _ sy_ag.rf (Nat.le_refl _) hH hL (sy_SPm (sy_wfV_pk (x := sy_py i) (t := 6) (by decide) (fun q => by cases q) (by omega)) hr)
        rw [sy_v6 (sy_tg_pk (by decide)), sy_py_pk (by decide)] at K
        exact hs2 H locs cells slots ls _ _ h3 hH.2.2.1 K
  · subst e1
    exact hA L _ h cells slots Y q2 hk hc hsl ρ H locs ls stC hH hL hS kk
end SYH
