/-! the runs over every script, by what is known of it -/
section SYTR
noncomputable def sy_ok1 (X : sy_X) : Bool := cond (Nat.beq X.2.1 16) (cond (Nat.ble X.2.2.2.2.2.1 600006) (Nat.ble X.2.2.2.2.2.2 7302064) false) false
noncomputable def sy_al (X0 : sy_X) (fuel : Nat) : sy_T → Bool :=
  Nat.rec (motive := fun _ => sy_T → Bool) (fun _ => false) (fun _ ih tk =>
    sy_nth false [Nat.rec (motive := fun _ => Bool) false (fun a _ => sy_force (sy_piv (Nat.div a 16)) fun p => sy_split ih tk (Nat.mod a 16) p (sy_tok tk (Nat.mod a 16))) (sy_next tk X0).2.1, false, false, false, sy_ok1 (sy_next tk X0)] (sy_next tk X0).1) fuel
theorem sy_tok_put (tk : sy_T) (k j : Nat) (q : Nat × Nat × Nat) : sy_tok (sy_put (9, 0, 0) q tk k) j = if k = j then q else sy_tok tk j := sy_put_get _ _ _ _ _
theorem sy_TK_lo {tk : sy_T} {τ : Nat → Int32} (h : sy_TK tk τ) {k m : Nat} (h1 : (sy_tok tk k).1 ≤ 1) (hz : ((sy_tok tk k).1 = 0 → sy_k (τ k) ≤ m) ∧ ((sy_tok tk k).1 = 1 → sy_k (sy_ch (τ k)) ≤ m)) : sy_TK (sy_put (9, 0, 0) ((sy_tok tk k).1, (sy_tok tk k).2.1, m) tk k) τ := by
  intro j
  rw [sy_tok_put]
  by_cases hkj : k = j
  · subst hkj
    rw [if_pos rfl]
    obtain ⟨a, b, c⟩ := h k
    exact ⟨fun q => ⟨(a q).1, hz.1 q⟩, fun q => ⟨(b q).1, hz.2 q⟩, fun q => by have q : (sy_tok tk k).1 = 2 := q; omega⟩
  · rw [if_neg hkj]
    exact h j
theorem sy_TK_hi {tk : sy_T} {τ : Nat → Int32} (h : sy_TK tk τ) {k m : Nat} (h1 : (sy_tok tk k).1 ≤ 1) (hz : ((sy_tok tk k).1 = 0 → m ≤ sy_k (τ k)) ∧ ((sy_tok tk k).1 = 1 → m ≤ sy_k (sy_ch (τ k)))) : sy_TK (sy_put (9, 0, 0) ((sy_tok tk k).1, m, (sy_tok tk k).2.2) tk k) τ := by
  intro j
  rw [sy_tok_put]
  by_cases hkj : k = j
  · subst hkj
    rw [if_pos rfl]
    obtain ⟨a, b, c⟩ := h k
    exact ⟨fun q => ⟨hz.1 q, (a q).2⟩, fun q => ⟨hz.2 q, (b q).2⟩, fun q => by have q : (sy_tok tk k).1 = 2 := q; omega⟩
  · rw [if_neg hkj]
    exact h j
def sy_fine (X0 : sy_X) (τ : Nat → Int32) : Prop := ∃ tk, sy_TK tk τ ∧ (sy_next tk X0).1 = 4 ∧ (sy_next tk X0).2.1 = 16 ∧ (sy_next tk X0).2.2.2.2.2.1 ≤ 600006 ∧ (sy_next tk X0).2.2.2.2.2.2 ≤ 7302064
theorem sy_al_ok {X0 : sy_X} {τ : Nat → Int32} : ∀ (fuel : Nat) (tk : sy_T), sy_al X0 fuel tk = true → sy_TK tk τ → sy_fine X0 τ
  | 0, tk, h, _ => nomatch h
  | fuel + 1, tk, h, hT => by
    have h : sy_nth false [Nat.rec (motive := fun _ => Bool) false (fun a _ => sy_force (sy_piv (Nat.div a 16)) fun p => sy_split (sy_al X0 fuel) tk (Nat.mod a 16) p (sy_tok tk (Nat.mod a 16))) (sy_next tk X0).2.1, false, false, false, sy_ok1 (sy_next tk X0)] (sy_next tk X0).1 = true := h
    generalize hk : (sy_next tk X0).1 = kd at h
    match kd, h with
    | 0, h =>
      generalize (sy_next tk X0).2.1 = av at h
      cases av with
      | zero => cases h
      | succ a =>
        have h : (sy_force (sy_piv (Nat.div a 16)) fun p => sy_split (sy_al X0 fuel) tk (Nat.mod a 16) p (sy_tok tk (Nat.mod a 16))) = true := h
        rw [sy_force_eq] at h
        generalize sy_piv (Nat.div a 16) = pv at h
        generalize Nat.mod a 16 = k at h
        obtain ⟨h1, h2⟩ := sy_and h
        obtain ⟨h1, h3⟩ := sy_and h1
        obtain ⟨h3, h4⟩ := sy_and h3
        obtain ⟨h4, -⟩ := sy_and h4
        rw [sy_force_eq] at h2
        obtain ⟨h5, h6⟩ := sy_and h2
        have h1 : (sy_tok tk k).2.1 + 1 ≤ pv := sy_ble h1
        have h4 := sy_ble h4
        have hp : Nat.pred pv + 1 = pv := Nat.succ_pred_eq_of_pos (by omega)
        by_cases hz : ((sy_tok tk k).1 = 0 → sy_k (τ k) ≤ Nat.pred pv) ∧ ((sy_tok tk k).1 = 1 → sy_k (sy_ch (τ k)) ≤ Nat.pred pv)
        · exact sy_al_ok fuel _ h5 (sy_TK_lo hT h4 hz)
        · refine sy_al_ok fuel _ h6 (sy_TK_hi hT h4 ⟨fun q => ?_, fun q => ?_⟩)
          · refine Nat.not_lt.mp fun hl => hz ⟨fun _ => by omega, fun q2 => by omega⟩
          · refine Nat.not_lt.mp fun hl => hz ⟨fun q2 => by omega, fun _ => by omega⟩
    | 1, h => cases h
    | 2, h => cases h
    | 3, h => cases h
    | 4, h =>
      obtain ⟨h1, h2⟩ := sy_and (h : cond (Nat.beq (sy_next tk X0).2.1 16) (cond (Nat.ble (sy_next tk X0).2.2.2.2.2.1 600006) (Nat.ble (sy_next tk X0).2.2.2.2.2.2 7302064) false) false = true)
      obtain ⟨h2, h3⟩ := sy_and h2
      exact ⟨tk, hT, hk, sy_beq h1, sy_ble h2, sy_ble h3⟩
    | n + 5, h => cases h
/-- a script's first int tells the call -/
theorem sy_six (x : Int32) : ∃ K, K < 64 ∧ x &&& 63 = nI K := by
  refine ⟨x.toUInt32.toNat &&& 63, Nat.lt_of_le_of_lt Nat.and_le_right (by decide), ?_⟩
  have e : x = nI x.toUInt32.toNat := by
    show (⟨x.toUInt32⟩ : Int32) = ⟨UInt32.ofNat x.toUInt32.toNat⟩
    rw [UInt32.ofNat_toNat]
  conv => lhs; rw [e]
  exact sy_land _ 63
theorem sy_TK_K {τ : Nat → Int32} {K : Nat} (hK : K < 64) (h : τ 0 &&& 63 = nI K) : sy_TK (sy_tkK K) τ := by
  have fu : ∀ j, ((sy_fu).1 = 0 → (sy_fu).2.1 ≤ sy_k (τ j) ∧ sy_k (τ j) ≤ (sy_fu).2.2) ∧ ((sy_fu).1 = 1 → (sy_fu).2.1 ≤ sy_k (sy_ch (τ j)) ∧ sy_k (sy_ch (τ j)) ≤ (sy_fu).2.2) ∧ ((sy_fu).1 = 2 → τ j &&& 63 = nI (sy_fu).2.1 ∧ (sy_fu).2.1 < 64) := fun j =>
    ⟨fun _ => ⟨Nat.zero_le _, sy_k_max _⟩, fun q => (by cases q), fun q => (by cases q)⟩
  have cu : ∀ j, ((sy_cu).1 = 0 → (sy_cu).2.1 ≤ sy_k (τ j) ∧ sy_k (τ j) ≤ (sy_cu).2.2) ∧ ((sy_cu).1 = 1 → (sy_cu).2.1 ≤ sy_k (sy_ch (τ j)) ∧ sy_k (sy_ch (τ j)) ≤ (sy_cu).2.2) ∧ ((sy_cu).1 = 2 → τ j &&& 63 = nI (sy_cu).2.1 ∧ (sy_cu).2.1 < 64) := fun j =>
    ⟨fun q => (by cases q), fun _ => sy_ch_k _, fun q => (by cases q)⟩
  have all : ∀ l : sy_T, (∀ q ∈ l, q = sy_fu ∨ q = sy_cu) → sy_TK ((2, K, 0) :: l) τ := by
    intro l hl j
    cases j with
    | zero => exact ⟨fun q => (by cases q), fun q => (by cases q), fun _ => ⟨h, hK⟩⟩
    | succ j =>
      have e : sy_tok ((2, K, 0) :: l) (j + 1) = (l[j]?).getD (9, 0, 0) := sy_nth_get _ _ _
      rw [e]
      cases hlj : l[j]? with
      | none => exact ⟨fun q => (by cases q), fun q => (by cases q), fun q => (by cases q)⟩
      | some r =>
        rcases hl r (List.mem_of_getElem? hlj) with rfl | rfl
        · exact fu (j + 1)
        · exact cu (j + 1)
  unfold sy_tkK
  refine all _ fun q hq => ?_
  generalize cond (Nat.beq K 0) 0 (cond (Nat.beq K 6) 1 (cond (Nat.beq K 17) 2 (cond (Nat.beq K 20) 3 9))) = z at hq
  match z, hq with
  | 0, hq =>
    have hq : q ∈ [sy_cu, sy_fu, sy_fu, sy_fu, sy_fu, sy_fu] := hq
    simp only [List.mem_cons, List.not_mem_nil, or_false] at hq
    rcases hq with hq | hq | hq | hq | hq | hq
    all_goals first | exact Or.inl hq | exact Or.inr hq
  | 1, hq =>
    have hq : q ∈ [sy_fu, sy_fu, sy_fu, sy_cu, sy_fu, sy_fu] := hq
    simp only [List.mem_cons, List.not_mem_nil, or_false] at hq
    rcases hq with hq | hq | hq | hq | hq | hq
    all_goals first | exact Or.inl hq | exact Or.inr hq
  | 2, hq =>
    have hq : q ∈ [sy_fu, sy_fu, sy_cu, sy_fu, sy_fu, sy_fu] := hq
    simp only [List.mem_cons, List.not_mem_nil, or_false] at hq
    rcases hq with hq | hq | hq | hq | hq | hq
    all_goals first | exact Or.inl hq | exact Or.inr hq
  | 3, hq =>
    have hq : q ∈ [sy_fu, sy_fu, sy_cu, sy_fu, sy_fu, sy_fu] := hq
    simp only [List.mem_cons, List.not_mem_nil, or_false] at hq
    rcases hq with hq | hq | hq | hq | hq | hq
    all_goals first | exact Or.inl hq | exact Or.inr hq
  | n + 4, hq =>
    have hq : q ∈ [sy_fu, sy_fu, sy_fu, sy_fu, sy_fu, sy_fu] := hq
    simp only [List.mem_cons, List.not_mem_nil, or_false] at hq
    rcases hq with hq | hq | hq | hq | hq | hq
    all_goals first | exact Or.inl hq | exact Or.inr hq
noncomputable def sy_cas (l : List Nat) : Bool := List.rec (motive := fun _ => Bool) true (fun K _ r => cond (sy_al (sy_first 7) 1000 (sy_tkK K)) r false) l
theorem sy_cas_of (l : List Nat) (h : sy_cas l = true) : ∀ K ∈ l, sy_al (sy_first 7) 1000 (sy_tkK K) = true := by
  induction l with
  | nil =>
    intro K hK
    cases hK
  | cons a l ih =>
    have h : cond (sy_al (sy_first 7) 1000 (sy_tkK a)) (sy_cas l) false = true := h
    generalize hg : sy_al (sy_first 7) 1000 (sy_tkK a) = g at h
    obtain ⟨h1, h2⟩ := sy_and h
    intro K hK
    rcases List.mem_cons.mp hK with hK | hK
    · rw [hK, hg]
      exact h1
    · exact ih h2 K hK
/-- the call of K = 6, its hand known to lie within -/
noncomputable def sy_six6 (lo hi : Nat) : sy_T := sy_put (9, 0, 0) (0, lo, hi) (sy_tkK 6) 1
end SYTR
