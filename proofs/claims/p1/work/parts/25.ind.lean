/-! the induction -/
section SYI2
variable {l : Launch} {w : sy_Wd} {tk : sy_T} {len fuel : Nat}
def sy_rm (d : Nat) (X : sy_X) : Room := { frames := sy_rf d, cells := X.2.2.2.2.2.1, slots := X.2.2.2.2.2.2, locals := sy_rl d }
/-- what is asked of the statics -/
def sy_Ok : Prop := ∀ i, 1 ≤ i → i ≤ 227 → (sy_meth i).1 = [] ∨ (sy_gd1 i = true ∧ sy_gd2 i = true ∧ sy_gd3 i = true ∧ sy_gd4 i = true)
theorem sy_contract (hl : l.stackTraces = false) (hT : sy_TK tk w.2.2.1) (hSd : sy_Sd l w tk len fuel) {i d sz : Nat} {ρ : Nat → Nat} {h : sy_H} {vals : List Nat} {X : sy_X} (hi0 : i ≠ 0) (hi2 : i ≤ 227) (hg1 : sy_gd1 i = true) (hg2 : sy_gd2 i = true) (hg3 : sy_gd3 i = true) (hg4 : sy_gd4 i = true)
    (hrun : sy_run tk len fuel d (sy_meth i) (sy_meth i).1 (sy_args vals 0 0) [] h 0 0 = X) (hX : X.1 = 3 ∨ X.1 = 4 ∨ X.1 = 6) (hv : ∀ v ∈ vals, sy_wfV h.1 v) (hw : sy_wfH h) (hcat : sy_cats vals ≤ sy_il i) :
    vx_Met l (sy_im i) (sy_cw i :: sy_gtb) (sy_rm d X) (sy_Pc w len ρ h sz vals) (sy_Qc w (va_A (sy_ws w ρ h) sz) ρ h.1 X) (sy_XC w (va_A (sy_ws w ρ h) sz) ρ h.1 X) X.2.2.2.2.2.1 X.2.2.2.2.2.2 (va_A (sy_ws w ρ h) sz) := by
  obtain ⟨f1, f2, f3, f4, f5, f6, f7, f8⟩ := sy_gd3_of hg3
  have key : ∀ {p : Program} {e : Env} {s : State} {m : MethodId} {args : Array Value} {below : List Frame} {meth : Method} {c : Code} {s₁ : State}, BodyLoose p l (sy_im i) (headSpec (sy_cw i :: sy_gtb) (sy_rm d X)) (sy_ib i) (sy_il i) (sy_ir i) e s m args below meth c s₁ → c.maxLocals = sy_il i → c.exceptionTable.toList = tableOf (sy_hh i) → sy_Pc w len ρ h sz vals args s →
      W p l e (headSpec (sy_cw i :: sy_gtb) (sy_rm d X)).room s m args below meth c s.heap [] 0 0 (vx_MQ below (sy_Qc w (va_A (sy_ws w ρ h) sz) ρ h.1 X) (sy_XC w (va_A (sy_ws w ρ h) sz) ρ h.1 X) args s X.2.2.2.2.2.1 X.2.2.2.2.2.2 (va_A (sy_ws w ρ h) sz)) (entryFrame m args (sy_il i)) := by
    intro p e s m args below meth c s₁ B hml htab hP
    have hts : ∀ u ∈ sy_cw i :: sy_gtb, u.before args s = true := atoms_spec (ws := sy_cw i :: sy_gtb) B.pre
    have hsz : s.heap.size = sz := hP.2.1
    refine sy_body hSd hi0 hi2 hg1 hg3 hrun hX hv hw hcat ?_ (Nat.le_refl _) (Nat.le_refl _) hP
    refine ⟨B.exec, B.bytes, hml, findClass_of_methodNamed B.named, fun u hu => hts u (List.mem_cons_of_mem _ hu), fun q => (name_of_methodNamed B.named B.method).1.trans q, hP.2.2.2.2, fun q hq => Or.inr (by omega), hT, B.notSynchronized, B.returns, fun _ => htab, Nat.le_refl _, Nat.le_refl _, hl, sy_gd2_of hg2, hg3, hg1⟩
  by_cases hh : sy_hh i = []
  · refine sy_ofW (cc := sy_ib i) (maxL := sy_il i) (ret := sy_ir i) f6 (by rw [sy_cw_nil hh]) ?_
    intro p e s m args below meth c s₁ B hml ht hP
    refine key B hml ?_ hP
    rw [hh]
    exact List.eq_nil_iff_forall_not_mem.mpr ht
  · refine sy_ofWH (cc := sy_ib i) (maxL := sy_il i) (ret := sy_ir i) (hh := sy_hh i) f6 (by rw [sy_cw_cons hh]) ?_
    intro p e s m args below meth c s₁ B hml hP
    have hts : ∀ u ∈ sy_cw i :: sy_gtb, u.before args s = true := atoms_spec (ws := sy_cw i :: sy_gtb) B.pre
    have h1 := hts _ List.mem_cons_self
    rw [sy_cw_cons hh] at h1
    exact key B hml (vx_table (x := sy_im i) B h1) hP
/-- behind a call: on with the world that it leaves -/
theorem sy_after {p : Program} {e : Env} {R : Room} {s : State} {m : MethodId} {args : Array Value} {below : List Frame} {meth : Method} {c : Code} {Q : State → Prop} {A : Nat → Prop} {H : Heap} {locs : List Loc} {cells slots pc : Nat} {ls : Array Slot} {st0 rest : List Value} {ρ : Nat → Nat} {h : sy_H} {X : sy_X}
    (hr : vx_Run p l e R s m args below meth c H locs cells slots X.2.2.2.2.2.1 X.2.2.2.2.2.2 (F0 m pc ls st0) rest (sy_Qc w (va_A (sy_ws w ρ h) H.size) ρ h.1 X (#[] : Array Value)) (sy_XC w (va_A (sy_ws w ρ h) H.size) ρ h.1 X) (va_A (sy_ws w ρ h) H.size))
    (hH : sy_HP w A s.heap ρ h H locs) (hA : ∀ q, s.heap.size ≤ q → A q)
    (kk : ∀ (ρ' : Nat → Nat) (H' : Heap) (locs' : List Loc), sy_ag h.1 ρ ρ' → h.1 ≤ X.2.2.2.2.1.1 → sy_HP w A s.heap ρ' X.2.2.2.2.1 H' locs' →
      (X.1 = 3 → W p l e R s m args below meth c H' locs' (cells + X.2.2.2.2.2.1) (slots + X.2.2.2.2.2.2) Q (F0 m (pc + 3) ls rest)) ∧
      (X.1 = 4 → sy_wfV X.2.2.2.2.1.1 X.2.1 → W p l e R s m args below meth c H' locs' (cells + X.2.2.2.2.2.1) (slots + X.2.2.2.2.2.2) Q (F0 m (pc + 3) ls (sy_v w ρ' X.2.1 :: rest))) ∧
      (X.1 = 6 → X.2.1 ≤ 5 → ∀ (q : Addr) (ce : Cell), H'[q]? = some ce → ce.vm = .none → s.vm.findClass (sy_ex X.2.1) = some ce.cls → vx_W p l e R s m args below meth c H' locs' (cells + X.2.2.2.2.2.1) (slots + X.2.2.2.2.2.2) Q (F0 m pc ls rest) q)) :
    W p l e R s m args below meth c H locs cells slots Q (F0 m pc ls st0) := by
  have hsub : ∀ q, va_A (sy_ws w ρ h) H.size q → A q := by
    intro q hq
    rcases hq with ⟨k, e', hk⟩ | hq
    · exact hH.2.1.2 k (q, e') hk
    · exact hA q (Nat.le_trans hH.2.2.1.1 hq)
  have hDw : ∀ {ρ' : Nat → Nat}, va_D (va_A (sy_ws w ρ h) H.size) (sy_ws w ρ' X.2.2.2.2.1) → va_D A (sy_ws w ρ' X.2.2.2.2.1) := fun hd => ⟨hd.1, fun k q hk => hsub _ (hd.2 k q hk)⟩
  intro T hT X0
  rcases hr T hT X0 with ⟨v, st₀, t, T', L, h0, X', hL, e1, e2, ⟨ρ', ⟨a1, a2, a3, a4, a5⟩, hF, hor⟩, st⟩ | ⟨q, st₀, t, T', L, E, ce, h0, X', hL, e1, e2, ⟨b1, b2, b3, ρ', ⟨a1, a2, a3, a4, a5⟩, hF⟩, hce, hcv, hcl, st⟩
  · obtain ⟨k1, k2, k3⟩ := vx_keep h0 e1 hH.2.2.1 (fun q _ hq => hsub q hq) hsub hL hF
    obtain ⟨K3, K4, K6⟩ := kk ρ' T'.heap (locs ++ L) a1 a2 ⟨by rw [e1]; exact a3, hDw a4, k3, a5⟩
    rcases hor with ⟨c1, c2⟩ | ⟨c1, c2, c3⟩
    · cases c2
      obtain ⟨t2, g1, g2⟩ := K3 c1 T' rfl X'
      exact ⟨t2, st t2 g1, g2⟩
    · cases c3
      obtain ⟨t2, g1, g2⟩ := K4 c1 c2 T' rfl X'
      exact ⟨t2, st t2 g1, g2⟩
  · obtain ⟨k1, k2, k3⟩ := vx_keep h0 e1 hH.2.2.1 (fun q _ hq => hsub q hq) hsub hL hF
    obtain ⟨K3, K4, K6⟩ := kk ρ' T'.heap (locs ++ L) a1 a2 ⟨by rw [e1]; exact a3, hDw a4, k3, a5⟩
    subst b3
    obtain ⟨t2, g1, g2⟩ := K6 b1 b2 q ce (by rw [e1]; exact hce) hcv hcl T' rfl X'
    exact ⟨t2, st.trans g1, g2⟩
end SYI2
