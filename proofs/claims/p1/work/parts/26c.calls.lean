/-! calls, of each kind -/
section SYCL
variable {l : Launch} {w : sy_Wd} {tk : sy_T} {len : Nat}
/-- a contract without a throw -/
theorem sy_met_of {y : MethodName} {ws : List Cond} {rm : Room} {Pc : Array Value → State → Prop} {Qc : Array Value → State → Outcome → State → Prop} {XC : String → State → State → Prop} {mc ms : Nat} {free : Addr → Prop} (h : vx_Met l y ws rm Pc Qc XC mc ms free) (hno : ∀ E st t, ¬ XC E st t) : Met l y ws rm Pc Qc mc ms free := by
  intro p e ha hf hk s m args below h1 h2 h3 h4
  obtain ⟨n, o, g1, g2, g3, g4⟩ := h p e ha hf hk s m args below h1 h2 h3 h4
  refine ⟨n, o, g1, g2, g3, ?_⟩
  rcases g4 with g4 | ⟨q, -, E, ce, L, hx, -⟩
  · exact g4
  · exact absurd hx (hno _ _ _)
theorem sy_run_of {p : Program} {e : Env} {R : Room} {s : State} {m : MethodId} {args : Array Value} {below : List Frame} {meth : Method} {c : Code} {H : Heap} {locs : List Loc} {cells slots mc ms : Nat} {g : JFrame} {rest : List Value} {Qa : State → Outcome → State → Prop} {XC : String → State → State → Prop} {free : Addr → Prop}
    (h : va_Run p l e R s m args below meth c H locs cells slots mc ms g rest Qa free) : vx_Run p l e R s m args below meth c H locs cells slots mc ms g rest Qa XC free := fun T hT X => by
  obtain ⟨v, st₀, t, T', L, h0, X', hL, e1, e2, hq, st⟩ := h T hT X
  exact Or.inl ⟨v, st₀, t, T', L, h0, X', hL, e1, e2, hq, st⟩
/-- what the stack holds for a call: the arguments, the one it is called on below them -/
theorem sy_stk {st : List Nat} {n : Nat} (hn : n ≤ st.length) (h1 : 1 ≤ n) : ∃ vb As, (st.take n).reverse = vb :: As ∧ As.length = n - 1 ∧ st = As.reverse ++ vb :: st.drop n ∧ sy_nth 0 st (Nat.pred n) = vb := by
  cases hv : (st.take n).reverse with
  | nil =>
    have := congrArg List.length hv
    rw [List.length_reverse, List.length_take, List.length_nil] at this
    omega
  | cons vb As =>
    have hl := congrArg List.length hv
    rw [List.length_reverse, List.length_take, List.length_cons] at hl
    have ht : st.take n = As.reverse ++ [vb] := by
      have := congrArg List.reverse hv
      rw [List.reverse_reverse, List.reverse_cons] at this
      exact this
    have hs : st = As.reverse ++ vb :: st.drop n := by
      conv => lhs; rw [← List.take_append_drop n st, ht]
      simp
    refine ⟨vb, As, rfl, by omega, hs, ?_⟩
    rw [sy_nth_get]
    show (st[n - 1]?).getD 0 = vb
    rw [hs, List.getElem?_append_right (by rw [List.length_reverse]; omega), List.length_reverse, show n - 1 - As.length = 0 by omega]
    rfl
theorem sy_callrun {p : Program} {e : Env} {R : Room} {s : State} {m : MethodId} {args : Array Value} {below : List Frame} {meth : Method} {c : Code} {A : Nat → Prop} {i d d' pc z x y npc : Nat} {ρ : Nat → Nat} {h : sy_H} {H : Heap} {locs : List Loc} {cells slots L : Nat} {ls : Array Slot} {st : List Nat} {Z : sy_X}
    (hC : sy_Ct l p R s m args meth c w A tk len i d) (hd : d = d' + 1) (hz1 : 80 ≤ z) (hz2 : z ≤ 84) (hck : sy_ck2 i pc z x y npc = true) (hg3 : sy_gd3 x = true) (hg4 : sy_gd4 x = true) (hH : sy_HP w A s.heap ρ h H locs) (hL : sy_LP w ρ (sy_il i) h.1 L ls)
    (hn : y % 16 ≤ st.length) (hcat : sy_cats (st.drop (y % 16)) ≤ 8) (hrecv : sy_recv (sy_meth x).2.2.2 (sy_nth 0 st (Nat.pred (y % 16))) h = true)
    (hM : vx_Met l (sy_im x) (sy_cw x :: sy_gtb) (sy_rm d' Z) (sy_Pc w len ρ h H.size (st.take (y % 16)).reverse) (sy_Qc w (va_A (sy_ws w ρ h) H.size) ρ h.1 Z) (sy_XC w (va_A (sy_ws w ρ h) H.size) ρ h.1 Z) Z.2.2.2.2.2.1 Z.2.2.2.2.2.2 (va_A (sy_ws w ρ h) H.size))
    (hspec : z = 82 → Z.1 ≠ 6) (hf : cells + Z.2.2.2.2.2.1 ≤ R.cells ∧ slots + Z.2.2.2.2.2.2 ≤ R.slots) :
    npc = pc + 3 ∧ vx_Run p l e R s m args below meth c H locs cells slots Z.2.2.2.2.2.1 Z.2.2.2.2.2.2 (F0 m pc ls (st.map (sy_v w ρ))) ((st.drop (y % 16)).map (sy_v w ρ)) (sy_Qc w (va_A (sy_ws w ρ h) H.size) ρ h.1 Z (#[] : Array Value)) (sy_XC w (va_A (sy_ws w ρ h) H.size) ρ h.1 Z) (va_A (sy_ws w ρ h) H.size) := by
  obtain ⟨r1, r2, r3, r4, r5, r6⟩ := sy_callfacts (d' := d') (Z := Z) hC hd hg3 hg4
  obtain ⟨hx, hb, hml, hown, hg, hini, hGA, hA, hT, hlocks, hret, htab, hfr, hlo, hl, hiw, hgi3, hgi1⟩ := hC
  obtain ⟨f1, f2, f3, f4, f5, f6, f7, f8⟩ := sy_gd3_of hg3
  have hts := sy_hts hg hGA.2.1
  have hwd : ∀ {u : Cond}, sy_wd (sy_iw i) u = true → u.before args s = true := fun q => hts _ (hiw _ (of_decide_eq_true q))
  have S : CallFix p m c (sy_ib i) (sy_il i) s args sy_tbl (sy_im i).cls := ⟨hx, hb, hml, hown, hts⟩
  have hroom : 2 * (F0 m pc ls (st.map (sy_v w ρ))).monitorRoom + (((st.drop (y % 16)).map (sy_v w ρ)).map fun v => v.category).sum ≤ 8 := by
    refine lv_room ?_
    rw [sy_catsum]
    exact hcat
  have hz : z = 80 ∨ z = 81 ∨ z = 82 ∨ z = 83 ∨ z = 84 := by omega
  rcases hz with hz | hz | hz | hz | hz
  · subst hz
    obtain ⟨c1, g⟩ := sy_an2 hck
    obtain ⟨c2, g⟩ := sy_an2 g
    obtain ⟨c3, g⟩ := sy_an2 g
    obtain ⟨c4, g⟩ := sy_an2 g
    obtain ⟨c5, g⟩ := sy_an2 g
    obtain ⟨c6, g⟩ := sy_an2 g
    obtain ⟨c7, g⟩ := sy_an2 g
    obtain ⟨c8, g⟩ := sy_an2 g
    obtain ⟨c9, g⟩ := sy_an2 g
    obtain ⟨c10, g⟩ := sy_an2 g
    obtain ⟨c11, -⟩ := sy_an2 g
    obtain ⟨hdg, hnp⟩ := sy_dc_of c1
    have c7 := sy_ble c7
    have hh0 := of_decide_eq_true c8
    obtain ⟨vb, As, s1, s2, s3, s4⟩ := sy_stk hn c7
    rw [s4] at hrecv
    rw [sy_cw_nil hh0] at hM r5 r6
    obtain ⟨ci, hci⟩ : ∃ ci, (sy_meth x).2.2.2 = ci + 1 := ⟨(sy_meth x).2.2.2 - 1, by have := sy_ble c9; omega⟩
    have c10 := sy_ble c10
    have c11 := of_decide_eq_true c11
    rw [hci] at hrecv c10 c11
    obtain ⟨v1, v2⟩ := sy_and (hrecv : cond (cond (Nat.beq (sy_tg vb) 5) (Nat.ble (Nat.succ (sy_py vb)) h.1) false) (Nat.beq (sy_hg h.2 (sy_py vb)).1 (Nat.mul 2 ci)) false = true)
    obtain ⟨v1, v3⟩ := sy_and v1
    have v3 : sy_py vb < h.1 := sy_ble v3
    have hge := sy_ws_get (w := w) (ρ := ρ) v3
    have hcell : sy_hg h.2 (sy_py vb) = (2 * ci, (sy_hg h.2 (sy_py vb)).2.1, (sy_hg h.2 (sy_py vb)).2.2) := by
      have e1 : (sy_hg h.2 (sy_py vb)).1 = 2 * ci := sy_beq v2
      rw [← e1]
    rw [hcell, sy_ce_obj] at hge
    have hrc := va_recv hGA.1.1 hH.1 (sy_clsT (show ci ≤ 15 by omega)) hge
    refine ⟨hnp, ?_⟩
    have hmap : st.map (sy_v w ρ) = (As.map (sy_v w ρ)).reverse ++ .ref (ρ (sy_py vb)) :: (st.drop (y % 16)).map (sy_v w ρ) := by
      conv => lhs; rw [s3]
      rw [List.map_append, List.map_cons, List.map_reverse, sy_v5 (sy_beq v1)]
    have hvals : ((st.take (y % 16)).reverse.map (sy_v w ρ)) = .ref (ρ (sy_py vb)) :: As.map (sy_v w ρ) := by
      rw [s1, List.map_cons, sy_v5 (sy_beq v1)]
    have hrow := vx_runV (C := (sy_im x).cls) (b := ρ (sy_py vb)) (As := As.map (sy_v w ρ)) (index := y / 16) (n := y % 16 - 1) (rest := (st.drop (y % 16)).map (sy_v w ρ)) (g := F0 m pc ls (st.map (sy_v w ρ))) (locs := locs) (below := below) (e := e) (meth := meth) S hM
      ⟨⟨r1, r2, r3, r4, r5, List.mem_cons_self, r6, hwd c5, ⟨f7, f8⟩, sy_ar_of (of_decide_eq_true c6), hwd c2⟩, hwd c3, hwd c4⟩ ⟨sy_blind, by rw [← (c11 : sy_cn ci = (sy_im x).cls)]; exact hrc, fun U hU hW => by
        have := sy_pc (vals := (st.take (y % 16)).reverse) hGA hH hA hU hW
        rw [hvals] at this
        exact this⟩ rfl (by rw [List.length_map]; exact s2) hL.1 hmap hroom hdg hf
    exact hrow
  · subst hz
    cases hck
  · subst hz
    obtain ⟨c1, g⟩ := sy_an2 hck
    obtain ⟨c2, g⟩ := sy_an2 g
    obtain ⟨c3, g⟩ := sy_an2 g
    obtain ⟨c5, g⟩ := sy_an2 g
    obtain ⟨c6, g⟩ := sy_an2 g
    obtain ⟨c7, g⟩ := sy_an2 g
    obtain ⟨c8, g⟩ := sy_an2 g
    obtain ⟨c9, g⟩ := sy_an2 g
    obtain ⟨c10, g⟩ := sy_an2 g
    obtain ⟨c11, -⟩ := sy_an2 g
    obtain ⟨hdg, hnp⟩ := sy_dc_of c1
    have c7 := sy_ble c7
    have hh0 := of_decide_eq_true c8
    obtain ⟨vb, As, s1, s2, s3, s4⟩ := sy_stk hn c7
    rw [s4] at hrecv
    rw [sy_cw_nil hh0, of_decide_eq_true c10] at hM r5 r6
    obtain ⟨ci, hci⟩ : ∃ ci, (sy_meth x).2.2.2 = ci + 1 := ⟨(sy_meth x).2.2.2 - 1, by have := sy_ble c11; omega⟩
    rw [hci] at hrecv
    obtain ⟨v1, v2⟩ := sy_and (hrecv : cond (cond (Nat.beq (sy_tg vb) 5) (Nat.ble (Nat.succ (sy_py vb)) h.1) false) (Nat.beq (sy_hg h.2 (sy_py vb)).1 (Nat.mul 2 ci)) false = true)
    obtain ⟨v1, v3⟩ := sy_and v1
    refine ⟨hnp, ?_⟩
    have hmap : st.map (sy_v w ρ) = (As.map (sy_v w ρ)).reverse ++ .ref (ρ (sy_py vb)) :: (st.drop (y % 16)).map (sy_v w ρ) := by
      conv => lhs; rw [s3]
      rw [List.map_append, List.map_cons, List.map_reverse, sy_v5 (sy_beq v1)]
    have hvals : ((st.take (y % 16)).reverse.map (sy_v w ρ)) = .ref (ρ (sy_py vb)) :: As.map (sy_v w ρ) := by
      rw [s1, List.map_cons, sy_v5 (sy_beq v1)]
    have hM2 := sy_met_of hM (fun E st' t hx => hspec rfl hx.1)
    have hrow := va_runI (b := ρ (sy_py vb)) (As := As.map (sy_v w ρ)) (index := y / 16) (n := y % 16 - 1) (rest := (st.drop (y % 16)).map (sy_v w ρ)) (g := F0 m pc ls (st.map (sy_v w ρ))) (locs := locs) (below := below) (e := e) (meth := meth) S hM2
      ⟨⟨r1, r2, r3, r4, r5, List.mem_cons_self, r6, hwd c5, ⟨f7, f8⟩, sy_ar_of (of_decide_eq_true c6), hwd c2⟩, of_decide_eq_true c9, hwd c3⟩ ⟨sy_blind, fun U hU hW => by
        have := sy_pc (vals := (st.take (y % 16)).reverse) hGA hH hA hU hW
        rw [hvals] at this
        exact this⟩ rfl (by rw [List.length_map]; exact s2) hL.1 hmap hroom hdg hf
    exact sy_run_of hrow
  · subst hz
    obtain ⟨c1, g⟩ := sy_an2 hck
    obtain ⟨c2, g⟩ := sy_an2 g
    obtain ⟨c3, g⟩ := sy_an2 g
    obtain ⟨c5, g⟩ := sy_an2 g
    obtain ⟨c6, g⟩ := sy_an2 g
    obtain ⟨c8, -⟩ := sy_an2 g
    obtain ⟨hdg, hnp⟩ := sy_dc_of c1
    have hh0 := of_decide_eq_true c8
    rw [sy_cw_nil hh0] at hM r5 r6
    refine ⟨hnp, ?_⟩
    have hmap : st.map (sy_v w ρ) = (((st.take (y % 16)).reverse).map (sy_v w ρ)).reverse ++ (st.drop (y % 16)).map (sy_v w ρ) := by
      rw [← List.map_reverse, List.reverse_reverse, ← List.map_append, List.take_append_drop]
    have hrow := vx_runS (As := ((st.take (y % 16)).reverse).map (sy_v w ρ)) (index := y / 16) (n := y % 16) (rest := (st.drop (y % 16)).map (sy_v w ρ)) (g := F0 m pc ls (st.map (sy_v w ρ))) (locs := locs) (below := below) (e := e) (meth := meth) S hM
      ⟨⟨r1, r2, r3, r4, r5, List.mem_cons_self, r6, hwd c5, ⟨f7, f8⟩, sy_ar_of (of_decide_eq_true c6), hwd c2⟩, hwd c3⟩ ⟨sy_blind, fun U hU hW => sy_pc hGA hH hA hU hW⟩ rfl (by rw [List.length_map, List.length_reverse, List.length_take]; omega) hL.1 hmap hroom hdg hf
    exact hrow
  · subst hz
    obtain ⟨c1, g⟩ := sy_an2 hck
    obtain ⟨c2, g⟩ := sy_an2 g
    obtain ⟨c3, g⟩ := sy_an2 g
    obtain ⟨c5, g⟩ := sy_an2 g
    obtain ⟨c6, g⟩ := sy_an2 g
    obtain ⟨c8, -⟩ := sy_an2 g
    obtain ⟨hdg, hnp⟩ := sy_dc_of c1
    have hh0 := of_decide_eq_true c8
    rw [sy_cw_cons hh0] at hM r5 r6
    refine ⟨hnp, ?_⟩
    have hmap : st.map (sy_v w ρ) = (((st.take (y % 16)).reverse).map (sy_v w ρ)).reverse ++ (st.drop (y % 16)).map (sy_v w ρ) := by
      rw [← List.map_reverse, List.reverse_reverse, ← List.map_append, List.take_append_drop]
    have hrow := vx_runSX (hh := sy_hh x) (As := ((st.take (y % 16)).reverse).map (sy_v w ρ)) (index := y / 16) (n := y % 16) (rest := (st.drop (y % 16)).map (sy_v w ρ)) (g := F0 m pc ls (st.map (sy_v w ρ))) (locs := locs) (below := below) (e := e) (meth := meth) S hM
      ⟨⟨r1, r2, r3, r4, r5, List.mem_cons_self⟩, r6, hwd c5, ⟨f7, f8⟩, sy_ar_of (of_decide_eq_true c6), hwd c2, hwd c3⟩ ⟨sy_blind, fun U hU hW => sy_pc hGA hH hA hU hW⟩ rfl (by rw [List.length_map, List.length_reverse, List.length_take]; omega) hL.1 hmap hroom hdg hf
    exact hrow
theorem sy_call_x {i pc z x y npc : Nat} (hz1 : 80 ≤ z) (hz2 : z ≤ 84) (hck : sy_ck2 i pc z x y npc = true) : 1 ≤ x ∧ x ≤ 227 := by
  have hz : z = 80 ∨ z = 81 ∨ z = 82 ∨ z = 83 ∨ z = 84 := by omega
  rcases hz with hz | hz | hz | hz | hz
  · subst hz
    obtain ⟨-, g⟩ := sy_an2 hck
    obtain ⟨-, g⟩ := sy_an2 g
    obtain ⟨-, g⟩ := sy_an2 g
    obtain ⟨-, g⟩ := sy_an2 g
    obtain ⟨-, g⟩ := sy_an2 g
    obtain ⟨-, g⟩ := sy_an2 g
    obtain ⟨-, g⟩ := sy_an2 g
    obtain ⟨-, g⟩ := sy_an2 g
    obtain ⟨-, g⟩ := sy_an2 g
    obtain ⟨-, g⟩ := sy_an2 g
    obtain ⟨-, g⟩ := sy_an2 g
    obtain ⟨g1, g2⟩ := sy_an2 g
    exact ⟨sy_ble g1, sy_ble g2⟩
  · subst hz
    cases hck
  · subst hz
    obtain ⟨-, g⟩ := sy_an2 hck
    obtain ⟨-, g⟩ := sy_an2 g
    obtain ⟨-, g⟩ := sy_an2 g
    obtain ⟨-, g⟩ := sy_an2 g
    obtain ⟨-, g⟩ := sy_an2 g
    obtain ⟨-, g⟩ := sy_an2 g
    obtain ⟨-, g⟩ := sy_an2 g
    obtain ⟨-, g⟩ := sy_an2 g
    obtain ⟨-, g⟩ := sy_an2 g
    obtain ⟨-, g⟩ := sy_an2 g
    obtain ⟨g1, g2⟩ := sy_an2 g
    exact ⟨sy_ble g1, sy_ble g2⟩
  · subst hz
    obtain ⟨-, g⟩ := sy_an2 hck
    obtain ⟨-, g⟩ := sy_an2 g
    obtain ⟨-, g⟩ := sy_an2 g
    obtain ⟨-, g⟩ := sy_an2 g
    obtain ⟨-, g⟩ := sy_an2 g
    obtain ⟨-, g⟩ := sy_an2 g
    obtain ⟨g1, g2⟩ := sy_an2 g
    exact ⟨sy_ble g1, sy_ble g2⟩
  · subst hz
    obtain ⟨-, g⟩ := sy_an2 hck
    obtain ⟨-, g⟩ := sy_an2 g
    obtain ⟨-, g⟩ := sy_an2 g
    obtain ⟨-, g⟩ := sy_an2 g
    obtain ⟨-, g⟩ := sy_an2 g
    obtain ⟨-, g⟩ := sy_an2 g
    obtain ⟨g1, g2⟩ := sy_an2 g
    exact ⟨sy_ble g1, sy_ble g2⟩
/-- a handler's three places: store the exception, a number, back -/
theorem sy_caught_ok {p : Program} {e : Env} {R : Room} {s : State} {m : MethodId} {args : Array Value} {below : List Frame} {meth : Method} {c : Code} {Q : State → Prop} {A : Nat → Prop} {i d n L : Nat} {ρ : Nat → Nat} {H : Heap} {locs : List Loc} {cells slots : Nat} {ls : Array Slot} {dl : List sy_E} {qa : Nat}
    (hC : sy_Ct l p R s m args meth c w A tk len i d) (hL : sy_LP w ρ (sy_il i) n L ls) (hck : sy_ckl i dl = true) (t1 : cond (Nat.beq (sy_nth sy_e0 dl 0).2.1 21) true (Nat.beq (sy_nth sy_e0 dl 0).2.1 22) = true) (t3 : (sy_nth sy_e0 dl 1).2.1 = 1) (t4 : (sy_nth sy_e0 dl 2).2.1 = 56) (hy : (sy_nth sy_e0 dl 2).2.2.2 = 0)
    (kk : ∀ (ls2 : Array Slot) (pc2 : Nat), ls2.size = sy_il i → (sy_ir i).map sy_tyc = some 0 → decode (sy_ib i) pc2 = .ok (sy_ri 0, 1) → ∀ v0 : Int32, (v0 = nI (sy_py (sy_nth sy_e0 dl 1).2.2.1) ∧ sy_tg (sy_nth sy_e0 dl 1).2.2.1 = 0 ∧ (sy_nth sy_e0 dl 1).2.2.1 < 2 ^ 71) → W p l e R s m args below meth c H locs cells slots Q (F0 m pc2 ls2 [.int v0])) :
    W p l e R s m args below meth c H locs cells slots Q (F0 m (sy_nth sy_e0 dl 0).1 ls [.ref qa]) := by
  obtain ⟨hx, hb, hml, hown, hg, hini, hGA, hA, hT, hlocks, hret, htab, hfr, hlo, hl, hiw, hgi3, hgi1⟩ := hC
  match dl, hck, t1, t3, t4, hy, kk with
  | [], _, t1, _, _, _, _ => cases t1
  | [_], _, _, t3, _, _, _ => cases t3
  | [_, _], _, _, _, t4, _, _ => cases t4
  | e1 :: e2 :: e3 :: k, hck, t1, t3, t4, hy, kk =>
    obtain ⟨k1, hck⟩ := sy_and hck
    obtain ⟨k2, hck⟩ := sy_and hck
    obtain ⟨k3, -⟩ := sy_and hck
    obtain ⟨a1, -⟩ := sy_an2 k1
    obtain ⟨a2, -⟩ := sy_an2 k2
    obtain ⟨a3, b3⟩ := sy_an2 k3
    have t3 : e2.2.1 = 1 := t3
    have t4 : e3.2.1 = 56 := t4
    have hy : e3.2.2.2 = 0 := hy
    rw [t3] at a2
    rw [t4] at a3 b3
    rw [hy] at a3 b3
    obtain ⟨c1, c2⟩ := sy_an2 a2
    obtain ⟨c1, hn2⟩ := sy_dc_of c1
    obtain ⟨c2, c3⟩ := sy_an2 c2
    obtain ⟨c3, c4⟩ := sy_an2 c3
    have hn2 : e3.1 = e2.1 + 1 := hn2
    obtain ⟨b3, -⟩ := sy_an2 b3
    have htail : ∀ ls2 : Array Slot, ls2.size = sy_il i → W p l e R s m args below meth c H locs cells slots Q (F0 m e2.1 ls2 []) := fun ls2 hsz => by
      refine lv_iconst hx hb c1 (of_decide_eq_true c2) ?_
      rw [← hn2]
      refine kk ls2 e3.1 hsz (of_decide_eq_true b3) (sy_dt_of a3) _ ⟨rfl, sy_beq c3, ?_⟩
      have := sy_ble c4
      show e2.2.2.1 < _
      omega
    have hz : e1.2.1 = 21 ∨ e1.2.1 = 22 := by
      have t1 : cond (Nat.beq e1.2.1 21) true (Nat.beq e1.2.1 22) = true := t1
      cases hb1 : Nat.beq e1.2.1 21 with
      | true => exact Or.inl (sy_beq hb1)
      | false =>
        rw [hb1] at t1
        exact Or.inr (sy_beq t1)
    show W p l e R s m args below meth c H locs cells slots Q (F0 m e1.1 ls [.ref qa])
    rcases hz with hz | hz
    · rw [hz] at a1
      obtain ⟨d1, d2⟩ := sy_an2 a1
      obtain ⟨d1, hn1⟩ := sy_dc_of d1
      have hn1 : e2.1 = e1.1 + 2 := hn1
      refine lv_astore hx hb d1 (sy_held_has hL) (sy_ble d2) rfl fun ls' h' => ?_
      rw [← hn1]
      exact htail ls' h'.1
    · rw [hz] at a1
      obtain ⟨d1, d2⟩ := sy_an2 a1
      obtain ⟨d2, d3⟩ := sy_an2 d2
      obtain ⟨d1, hn1⟩ := sy_dc_of d1
      have hn1 : e2.1 = e1.1 + 1 := hn1
      refine lv_astore_n hx hb d1 (Nat.mod_eq_of_lt (Nat.lt_succ_of_le (sy_ble d2))) (sy_held_has hL) (sy_ble d3) rfl fun ls' h' => ?_
      rw [← hn1]
      exact htail ls' h'.1
end SYCL
