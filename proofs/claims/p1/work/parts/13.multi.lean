/-! boolean[n][k] -/
section SYM
variable {p : Program} {l : Launch} {e : Env} {R : Room} {s : State} {m : MethodId} {args : Array Value} {below : List Frame} {meth : Method} {c : Code} {Q : State → Prop} {w : sy_Wd} {A : Nat → Prop} {nL pc npc tpc : Nat} {tk : sy_T}
theorem sy_hg_rows {m K : Nat} {t : sy_U9} : ∀ (n i : Nat), m + 1 + n ≤ 511 → i < 512 → sy_hg (sy_rows m K n t) i = if m + 1 ≤ i ∧ i < m + 1 + n then (5, K, 0) else sy_hg t i
  | 0, i, _, _ => by
    rw [if_neg (by omega)]
    rfl
  | n + 1, i, h, hi => by
    show sy_hg (sy_hp (sy_rows m K n t) (m + 1 + n) (5, K, 0)) i = _
    rw [sy_hg_hp _ _ _ _ (by omega) hi, sy_hg_rows n i (by omega) hi]
    by_cases h1 : m + 1 + n = i
    · rw [if_pos h1, if_pos (by omega)]
    · rw [if_neg h1]
      by_cases h2 : m + 1 ≤ i ∧ i < m + 1 + n
      · rw [if_pos h2, if_pos (by omega)]
      · rw [if_neg h2, if_neg (by omega)]
theorem sy_rd_refs {m : Nat} : ∀ (n j : Nat), m + 1 + n ≤ 511 → sy_rd (sy_refs m n) j = if j < n then sy_pk 5 (m + 1 + j) else 0
  | 0, j, _ => by
    rw [if_neg (by omega)]
    exact sy_rd0 j
  | n + 1, j, h => by
    show sy_rd (sy_wr (sy_refs m n) n (sy_pk 5 (m + 1 + n))) j = _
    have hlt : sy_pk 5 (m + 1 + n) < 2 ^ 72 := by
      show 16 * (m + 1 + n) + 5 < _
      omega
    rw [sy_rd_wr _ _ _ _ hlt, sy_rd_refs n j (by omega)]
    by_cases h1 : n = j
    · subst h1
      rw [if_pos rfl, if_pos (by omega)]
    · rw [if_neg h1]
      by_cases h2 : j < n
      · rw [if_pos h2, if_pos (by omega)]
      · rw [if_neg h2, if_neg (by omega)]
def sy_um (ρ : Nat → Nat) (m q n : Nat) (r : Nat → Nat) : Nat → Nat := fun k => if k = m then q else if m < k ∧ k < m + 1 + n then r (k - (m + 1)) else ρ k
theorem sy_um_ag {ρ : Nat → Nat} {m q n : Nat} {r : Nat → Nat} : sy_ag m ρ (sy_um ρ m q n r) := fun k hk => by
  unfold sy_um
  rw [if_neg (by omega), if_neg (by omega)]
theorem sy_um_q {ρ : Nat → Nat} {m q n : Nat} {r : Nat → Nat} : sy_um ρ m q n r m = q := if_pos rfl
theorem sy_um_r {ρ : Nat → Nat} {m q n j : Nat} {r : Nat → Nat} (h : j < n) : sy_um ρ m q n r (m + 1 + j) = r j := by
  unfold sy_um
  rw [if_neg (by omega), if_pos (by omega), show m + 1 + j - (m + 1) = j by omega]
theorem sy_arr_refs {ρ : Nat → Nat} {m q n x : Nat} {r : Nat → Nat} (hx : 6 ≤ x) (h : m + 1 + n ≤ 511) : sy_arr w (sy_um ρ m q n r) x (sy_refs m n) = .inr (.inr (.inr (.inr fun i => if i < n then some (r i) else none))) := by
  unfold sy_arr
  rw [if_neg (by omega), if_neg (by omega), if_neg (by omega)]
  congr 4
  funext i
  rw [sy_rd_refs n i h]
  by_cases hi : i < n
  · rw [if_pos hi, if_pos hi]
    have e : sy_elt 6 (sy_pk 5 (m + 1 + i)) = sy_pk 5 (m + 1 + i) := rfl
    rw [e, sy_v5 (sy_tg_pk (by decide)), sy_py_pk (by decide), sy_um_r hi]
    rfl
  · rw [if_neg hi, if_neg hi]
    rfl
theorem sy_ws_multi {ρ : Nat → Nat} {h : sy_H} (hw : sy_wfH h) {x n K q : Nat} {r : Nat → Nat} (hx : 6 ≤ x) (h5 : h.1 + 1 + n ≤ 511) :
    (sy_ws w ρ h ++ [(q, .inl (w.2.1 x, n, .inr (.inr (.inr (.inr fun i => if i < n then some (r i) else none)))))]) ++ (List.range n).map (fun i => (r i, .inl (w.2.1 2, K, sy_arr w ρ 2 0))) =
      sy_ws w (sy_um ρ h.1 q n r) (h.1 + 1 + n, sy_rows h.1 K n (sy_hp h.2 h.1 (2 * x + 1, n, sy_refs h.1 n))) := by
  apply List.ext_getElem?
  intro j
  by_cases hj : j < h.1
  · rw [List.getElem?_append_left (by rw [List.length_append, sy_ws_len]; exact Nat.lt_succ_of_lt hj), List.getElem?_append_left (by rw [sy_ws_len]; exact hj), sy_ws_get hj,
      sy_ws_get (h := (h.1 + 1 + n, sy_rows h.1 K n (sy_hp h.2 h.1 (2 * x + 1, n, sy_refs h.1 n)))) (show j < h.1 + 1 + n by omega), sy_hg_rows n j h5 (by omega), if_neg (by omega), sy_hg_hp _ _ _ _ (by omega) (by omega), if_neg (by omega), sy_um_ag j hj, sy_ce_ag (hw.2 j hj) sy_um_ag]
  · by_cases hj2 : j = h.1
    · subst hj2
      rw [List.getElem?_append_left (by rw [List.length_append, sy_ws_len]; exact Nat.lt_succ_self _), List.getElem?_append_right (by rw [sy_ws_len]; exact Nat.le_refl _), sy_ws_len, Nat.sub_self,
        sy_ws_get (h := (h.1 + 1 + n, sy_rows h.1 K n (sy_hp h.2 h.1 (2 * x + 1, n, sy_refs h.1 n)))) (show h.1 < h.1 + 1 + n by omega), sy_hg_rows n _ h5 (by omega), if_neg (by omega), sy_hg_hp _ _ _ _ (by omega) (by omega), if_pos rfl, sy_ce_arr, sy_um_q, sy_arr_refs hx h5]
      rfl
    · by_cases hj3 : j < h.1 + 1 + n
      · rw [List.getElem?_append_right (by rw [List.length_append, sy_ws_len]; show h.1 + 1 ≤ j; omega), List.length_append, sy_ws_len, List.length_singleton,
          sy_ws_get (h := (h.1 + 1 + n, sy_rows h.1 K n (sy_hp h.2 h.1 (2 * x + 1, n, sy_refs h.1 n)))) hj3, sy_hg_rows n j h5 (by omega), if_pos (by omega), List.getElem?_map, List.getElem?_range (show j - (h.1 + 1) < n by omega)]
        have e : sy_um ρ h.1 q n r j = r (j - (h.1 + 1)) := by
          have := sy_um_r (ρ := ρ) (m := h.1) (q := q) (r := r) (show j - (h.1 + 1) < n by omega)
          rw [show h.1 + 1 + (j - (h.1 + 1)) = j by omega] at this
          exact this
        have e2 : sy_ce w (sy_um ρ h.1 q n r) (5, K, 0) = .inl (w.2.1 2, K, sy_arr w (sy_um ρ h.1 q n r) 2 0) := sy_ce_arr (t := 2)
        have e3 : sy_arr w (sy_um ρ h.1 q n r) 2 0 = sy_arr w ρ 2 0 := sy_arr_ag (n := h.1) (fun j => by rw [sy_rd0]; exact sy_wfV0 _) sy_um_ag
        rw [e, e2, e3]
        rfl
      · rw [List.getElem?_eq_none (by rw [List.length_append, List.length_append, sy_ws_len, List.length_map, List.length_range]; show h.1 + 1 + n ≤ j; omega), List.getElem?_eq_none (by rw [sy_ws_len]; show h.1 + 1 + n ≤ j; omega)]
theorem sy_wfH_multi {h : sy_H} (hw : sy_wfH h) {x n K : Nat} (h5 : h.1 + 1 + n ≤ 511) : sy_wfH (h.1 + 1 + n, sy_rows h.1 K n (sy_hp h.2 h.1 (2 * x + 1, n, sy_refs h.1 n))) := by
  refine ⟨h5, fun j hj => ?_⟩
  have hj : j < h.1 + 1 + n := hj
  show sy_wfO (h.1 + 1 + n) (sy_hg (sy_rows h.1 K n (sy_hp h.2 h.1 (2 * x + 1, n, sy_refs h.1 n))) j)
  rw [sy_hg_rows n j h5 (by omega)]
  split
  · intro i
    show sy_wfV _ (sy_rd 0 i)
    rw [sy_rd0]
    exact sy_wfV0 _
  · rw [sy_hg_hp _ _ _ _ (by omega) (by omega)]
    split
    · intro i
      show sy_wfV _ (sy_rd (sy_refs h.1 n) i)
      rw [sy_rd_refs n i h5]
      split
      · exact sy_wfV_pk (by decide) (fun _ => by omega) (by omega)
      · exact sy_wfV0 _
    · exact (hw.2 j (by omega)).mono (by omega)
theorem sy_ok_mna {x y : Nat} (hx : 6 ≤ x) (hs : ∀ (ρ : Nat → Nat) (ws : va_W) (H : Heap) (locs : List Loc) (cells slots : Nat) (ls : Array Slot) (st : List Value) (n k : Nat), n ≤ 511 → k ≤ 65535 → va_P w.1 sy_cl ws H → va_D A ws → va_S A s.heap H locs → cells + (1 + n) ≤ R.cells → slots + (n + n * k) ≤ R.slots →
      (∀ (q : Nat) (r : Nat → Nat) (H1 : Heap) (locs1 : List Loc), va_P w.1 sy_cl ((ws ++ [(q, .inl (w.2.1 x, n, .inr (.inr (.inr (.inr fun i => if i < n then some (r i) else none)))))]) ++ (List.range n).map (fun i => (r i, .inl (w.2.1 2, k, sy_arr w ρ 2 0)))) H1 →
        va_D A ((ws ++ [(q, .inl (w.2.1 x, n, .inr (.inr (.inr (.inr fun i => if i < n then some (r i) else none)))))]) ++ (List.range n).map (fun i => (r i, .inl (w.2.1 2, k, sy_arr w ρ 2 0)))) → va_S A s.heap H1 locs1 → W p l e R s m args below meth c H1 locs1 (cells + 1 + n) (slots + n + n * k) Q (F0 m npc ls (.ref q :: st))) →
      W p l e R s m args below meth c H locs cells slots Q (F0 m pc ls (.int (nI k) :: .int (nI n) :: st))) : sy_OK p l e R s m args below meth c Q w A nL pc npc tpc (sy_mna tk x y) := by
  intro L st h cells slots Y hY hk hc hsl ρ H locs ls stC hH hL hS kk
  have hk0 : Y.1 ≠ 0 := by omega
  obtain ⟨n, k, r0, e1, q1⟩ := sy_p2_inv hY hk0
  subst e1
  obtain ⟨hS1, hvk, hvn, hr⟩ := sy_SPc2 hS
  subst hS1
  obtain ⟨h1, h2⟩ := sy_if_inv q1 hk0
  obtain ⟨h1, h3⟩ := sy_and h1
  obtain ⟨h3, h4⟩ := sy_and h3
  obtain ⟨h4, h6⟩ := sy_and h4
  rw [sy_force_eq, sy_force_eq, sy_force_eq, sy_force_eq, sy_force_eq] at h2
  subst h2
  have h5 : h.1 + 1 + sy_py n ≤ 511 := sy_ble h6
  have hc : cells + 1 + sy_py n ≤ R.cells := hc
  have hsl : slots + sy_py n + sy_py n * sy_py k ≤ R.slots := hsl
  rw [sy_v0 (sy_beq h1), sy_v0 (sy_beq h3)]
  refine hs ρ _ H locs cells slots ls _ (sy_py n) (sy_py k) (by omega) (sy_ble h4) hH.1 hH.2.1 hH.2.2.1 (by omega) (by omega) fun q r H1 locs1 g1 g2 g3 => ?_
  rw [sy_ws_multi hH.2.2.2 hx h5] at g1 g2
  have ha : sy_ag h.1 ρ (sy_um ρ h.1 q (sy_py n) r) := sy_um_ag
  have hw : sy_wfV (h.1 + 1 + sy_py n) (sy_pk 5 h.1) := sy_wfV_pk (by decide) (fun _ => by omega) (by omega)
  have hSP : sy_SP w (sy_um ρ h.1 q (sy_py n) r) (h.1 + 1 + sy_py n) (sy_pk 5 h.1 :: r0) (sy_v w (sy_um ρ h.1 q (sy_py n) r) (sy_pk 5 h.1) :: r0.map (sy_v w (sy_um ρ h.1 q (sy_py n) r))) := sy_SPm hw fun u hu => (hr u hu).mono (by omega)
  have K := kk (sy_um ρ h.1 q (sy_py n) r) H1 locs1 ls _ ha (show h.1 ≤ h.1 + 1 + sy_py n by omega) ⟨g1, g2, g3, sy_wfH_multi hH.2.2.2 h5⟩ (hL.ag ha (show h.1 ≤ h.1 + 1 + sy_py n by omega)) hSP
  rw [sy_v5 (sy_tg_pk (by decide)), sy_py_pk (by decide), sy_um_q, List.map_congr_left (fun v hv => sy_v_ag (hr v hv) ha)] at K
  exact K
end SYM
