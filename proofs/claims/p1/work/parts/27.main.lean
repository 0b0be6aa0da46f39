/-! the main induction -/
section SYK1
variable {l : Launch} {w : sy_Wd} {tk : sy_T} {len : Nat}
theorem sy_word_at {args a' : Array Value} {s U : State} {u : Cond} (hW : s.WarmedH U.vm) (hg : goodWord u = true) (h : u.before args s = true) : u.before a' U = true := word_at hW (good_of_word hg) h
theorem sy_nth_drop {α : Type} (d : α) (l : List α) (n : Nat) : sy_nth d (l.drop n) 0 = sy_nth d l n := by
  rw [sy_nth_get, sy_nth_get, List.getElem?_drop, Nat.add_zero]
theorem sy_room_f {d r : Nat} (h : sy_rf (d + 1) ≤ r) : sy_rf d + 1 ≤ r := by
  unfold sy_rf at h ⊢
  omega
theorem sy_room_l {il d r : Nat} (h1 : il ≤ 100) (h : sy_rl (d + 1) ≤ r) : 8 + (il + 11) + sy_rl d ≤ r := by
  have h2 : 300 * (d + 1) + 300 ≤ r := h
  show 8 + (il + 11) + 300 * (d + 1) ≤ r
  generalize 300 * (d + 1) = z at h2 ⊢
  clear h
  omega
/-- a call's premises, of any kind -/
theorem sy_callfacts {p : Program} {R : Room} {s : State} {m : MethodId} {args : Array Value} {meth : Method} {c : Code} {A : Nat → Prop} {i d d' x : Nat} {Z : sy_X} (hC : sy_Ct l p R s m args meth c w A tk len i d) (hd : d = d' + 1) (hx3 : sy_gd3 x = true) (hx4 : sy_gd4 x = true) :
    (sy_rm d' Z).cells = Z.2.2.2.2.2.1 ∧ (sy_rm d' Z).slots = Z.2.2.2.2.2.2 ∧ (sy_rm d' Z).frames + 1 ≤ R.frames ∧ 8 + (sy_il x + 11) + (sy_rm d' Z).locals ≤ R.locals ∧ (∀ u ∈ sy_cw x :: sy_gtb, ∀ (a' : Array Value) (U : State), s.WarmedH U.vm → u.before a' U = true) ∧ (sy_cw x).before args s = true := by
  obtain ⟨hx, hb, hml, hown, hg, hini, hGA, hA, hT, hlocks, hret, htab, hf, hlo, hl, hiw, hg3, hg1⟩ := hC
  obtain ⟨f1, f2, f3, f4, f5, f6, f7, f8⟩ := sy_gd3_of hx3
  obtain ⟨g1, g2⟩ := sy_an2 hx4
  have hcw : sy_cw x ∈ sy_gtb := List.mem_filter.mpr ⟨of_decide_eq_true g1, g2⟩
  refine ⟨rfl, rfl, ?_, ?_, fun u hu a' U hW => ?_, hg _ hcw⟩
  · subst hd
    exact sy_room_f hf
  · subst hd
    exact sy_room_l f3 hlo
  · rcases List.mem_cons.mp hu with rfl | hu
    · exact sy_word_at hW g2 (hg _ hcw)
    · exact sy_word_at hW (List.mem_filter.mp hu).2 (hg _ hu)
/-- what a callee is given -/
theorem sy_pc {s : State} {A : Nat → Prop} {H : Heap} {locs : List Loc} {ρ : Nat → Nat} {h : sy_H} {vals : List Nat} (hGA : sy_GA w len A s s.heap) (hH : sy_HP w A s.heap ρ h H locs) (hA : ∀ q, s.heap.size ≤ q → A q) {U : State} (hU : U.heap = H) (hW : s.WarmedH U.vm) :
    sy_Pc w len ρ h H.size vals (vals.map (sy_v w ρ)).toArray U := by
  have hsub : ∀ q, va_A (sy_ws w ρ h) H.size q → A q := by
    intro q hq
    rcases hq with ⟨k, e', hk⟩ | hq
    · exact hH.2.1.2 k (q, e') hk
    · exact hA q (Nat.le_trans hH.2.2.1.1 hq)
  refine ⟨rfl, by rw [hU], by rw [hU]; exact hH.1, hH.2.1.self, ?_⟩
  rw [hU]
  exact sy_GA_tr hGA hW (fun q _ hq => hsub q hq) hsub hH.2.2.1.1 hH.2.2.1.2.1
theorem sy_blind {ρ : Nat → Nat} {h : sy_H} {sz : Nat} {vals : List Nat} : FrameBlind (sy_Pc w len ρ h sz vals) := by
  intro a U g mk hP
  obtain ⟨h1, h2, h3, h4, h5⟩ := hP
  exact ⟨h1, h2, h3, h4, sy_GA_tr (U := U.calling g mk a) (H' := U.heap) h5 (State.WarmedH.refl U) (fun _ _ q => q) (fun _ q => q) (Nat.le_refl _) (fun _ _ _ => rfl)⟩
theorem sy_ar_of {y : MethodName} {n : Nat} (h : sy_ar y = some n) : ∀ sig, parseMethodDescriptor y.desc = some sig → n = sig.parameters.length := by
  intro sig hs
  unfold sy_ar at h
  rw [hs] at h
  exact (Option.some.inj h).symm
theorem sy_sound (hl : l.stackTraces = false) (hT : sy_TK tk w.2.2.1) (hOk : sy_Ok) : ∀ fuel, sy_Sd l w tk len fuel
  | 0 => by
    intro d i rest L st h cells slots X hi hck hrun hX0
    exact absurd (by rw [← hrun]; rfl) hX0
  | fuel + 1 => by
    have IH := sy_sound hl hT hOk fuel
    intro d i rest L st h cells slots X hi hck hrun hX0 p e R s m args below meth c Q A hC hcc hss ρ H locs ls stC hH hL hS hE
    have hC0 := hC
    obtain ⟨hx, hb, hml, hown, hg, hini, hGA, hA, hTT, hlocks, hret, htab, hf, hlo, hlt, hiw, hg3, hg1⟩ := hC0
    have hcx := hC.cx
    have hts := sy_hts hg hGA.2.1
    cases rest with
    | nil => exact absurd (by rw [← hrun]; rfl) hX0
    | cons en k =>
    obtain ⟨hce, hckk⟩ := sy_and hck
    obtain ⟨hc1, hc2⟩ := sy_an2 hce
    rw [sy_run_succ] at hrun
    generalize hY : (sy_op len en.2.1).1 tk en.2.2.1 en.2.2.2 L st h cells slots = Y at hrun
    show W p l e R s m args below meth c H locs cells slots Q (F0 m en.1 ls stC)
    have hmn := mn_op len tk en.2.2.1 en.2.2.2 L st h cells slots en.2.1
    rw [hY] at hmn
    -- on to the next places
    have next : ∀ (k' : List sy_E) (L' : Nat) (st' : List Nat) (h' : sy_H) (c' s' : Nat), sy_ckl i k' = true → X = sy_run tk len fuel d (sy_meth i) k' L' st' h' c' s' → h.1 ≤ h'.1 →
        ∀ (ρ' : Nat → Nat) (H' : Heap) (locs' : List Loc) (ls' : Array Slot) (stC' : List Value), sy_ag h.1 ρ ρ' → sy_HP w A s.heap ρ' h' H' locs' → sy_LP w ρ' (sy_il i) h'.1 L' ls' → sy_SP w ρ' h'.1 st' stC' →
          W p l e R s m args below meth c H' locs' c' s' Q (F0 m (sy_nth sy_e0 k' 0).1 ls' stC') := fun k' L' st' h' c' s' g1 g2 g3 ρ' H' locs' ls' stC' g4 g5 g6 g7 =>
      IH d i k' L' st' h' c' s' X hi g1 g2.symm hX0 p e R s m args below meth c Q A hC hcc hss ρ' H' locs' ls' stC' g5 g6 g7 (hE.ag g4 g3)
    have bound : ∀ (k' : List sy_E) (L' : Nat) (st' : List Nat) (h' : sy_H) (c' s' : Nat), X = sy_run tk len fuel d (sy_meth i) k' L' st' h' c' s' → c' ≤ R.cells ∧ s' ≤ R.slots := fun k' L' st' h' c' s' g => by
      have hm := sy_mono tk len fuel d (sy_meth i) k' L' st' h' c' s'
      rw [← g] at hm
      obtain ⟨m1, m2⟩ := hm hX0
      exact ⟨Nat.le_trans m1 hcc, Nat.le_trans m2 hss⟩
    rcases sy_step_inv hrun hX0 with ⟨h1, h2⟩ | ⟨h1, h90, h2⟩ | ⟨h1, hz, h2⟩ | ⟨h1, hz1, hz2, h2⟩ | ⟨h1, hz1, hz2, h2⟩ | ⟨h1, hz1, hz2, hcat, h2⟩ | ⟨h1, h2⟩
    · have hz : en.2.1 ≠ 90 := fun q => by
        rw [q] at hY
        have hk := sy_tsw_k (tk := tk) (sw := sy_sw) (df := 0) (x := en.2.2.1) (y := en.2.2.2) (L := L) (c := cells) (s := slots) (st := st) (h := h)
        exact hk (by have hY : sy_tsw sy_sw 0 tk en.2.2.1 en.2.2.2 L st h cells slots = Y := hY; rw [hY]; exact h1)
      obtain ⟨b1, b2⟩ := bound _ _ _ _ _ _ h2
      refine sy_rowall (l := l) (e := e) (below := below) (Q := Q) hcx en.2.1 hz hc1 L st h cells slots Y hY (Or.inl h1) b1 b2 ρ H locs ls stC hH hL hS ?_
      intro ρ' H' locs' ls' stC' ha hn hH' hL' hS'
      rw [if_pos h1]
      exact next _ _ _ _ _ _ hckk h2 hn ρ' H' locs' ls' stC' ha hH' hL' hS'
    · by_cases hz : en.2.1 = 90
      · rw [hz] at hY hc2
        have hY9 : sy_tsw sy_sw 0 tk en.2.2.1 en.2.2.2 L st h cells slots = Y := hY
        obtain ⟨a, r, e1, q1⟩ := sy_p1_inv hY9 (by rw [h1]; decide)
        subst e1
        obtain ⟨hS1, hva, hr⟩ := sy_SPc hS
        subst hS1
        obtain ⟨q2, q3⟩ := sy_if_inv q1 (by rw [h1]; decide)
        obtain ⟨q2, q4⟩ := sy_and q2
        have q4 := sy_ble q4
        rw [sy_force_eq] at q3
        subst q3
        have hc2 : (match decode (sy_ib i) en.1 with | .ok (.tableswitch d lo hi offs, _) => sy_swk (sy_meth i).1 en.1 lo hi d offs | _ => false) = true := hc2
        rw [sy_v0 (sy_beq q2)]
        have hint : (nI (sy_py a)).toInt = (sy_py a : Int) := nI_toInt (by omega)
        have hck' : sy_ckl i ((sy_meth i).1.drop (sy_nth 0 sy_sw (sy_py a))) = true := sy_ckl_drop _ _ hg1
        have fin := next _ _ _ _ _ _ hck' h2 (Nat.le_refl _) ρ H locs ls _ sy_ag.rf hH hL ⟨rfl, hr⟩
        cases hdec : decode (sy_ib i) en.1 with
        | error z => rw [hdec] at hc2; cases hc2
        | ok v =>
          rw [hdec] at hc2
          obtain ⟨ins, ln⟩ := v
          cases ins with
          | tableswitch df lo hi offs =>
            obtain ⟨g0, g1⟩ := sy_an2 (hc2 : sy_swk (sy_meth i).1 en.1 lo hi df offs = true)
            have g0 := of_decide_eq_true g0
            have g2 := of_decide_eq_true (List.all_eq_true.mp g1 (sy_py a) (List.mem_range.mpr (by omega)))
            rw [show sy_nth sy_e0 ((sy_meth i).1.drop (sy_nth 0 sy_sw (sy_py a))) 0 = _ from sy_nth_drop _ _ _] at fin
            unfold sy_off at g2
            by_cases hlo' : ((sy_py a : Nat) : Int) < lo ∨ hi < ((sy_py a : Nat) : Int)
            · rw [if_pos hlo'] at g2
              exact lv_tableOut hx hb hdec (by rw [hint]; exact hlo') g2.symm fin
            · rw [if_neg hlo'] at g2
              have hin : (((sy_py a : Nat) : Int) - lo).toNat < offs.size := by omega
              rw [Array.getElem?_eq_getElem hin] at g2
              exact lv_tableIn hx hb hdec (by rw [hint]; omega) (by rw [hint]; omega) (by rw [hint]; exact Array.getElem?_eq_getElem hin) g2.symm fin
          | _ => cases hc2
      · have hy := h90.resolve_left hz
        have hck' : sy_ckl i ((sy_meth i).1.drop Y.2.1) = true := sy_ckl_drop _ _ hg1
        obtain ⟨b1, b2⟩ := bound _ _ _ _ _ _ h2
        refine sy_rowall (l := l) (e := e) (below := below) (Q := Q) hcx en.2.1 hz hc1 L st h cells slots Y hY (Or.inr h1) b1 b2 ρ H locs ls stC hH hL hS ?_
        intro ρ' H' locs' ls' stC' ha hn hH' hL' hS'
        rw [if_neg (by rw [h1]; decide), ← hy]
        exact next _ _ _ _ _ _ hck' h2 hn ρ' H' locs' ls' stC' ha hH' hL' hS'
    · rw [hz] at hY hc1 hc2
      have hY9 : sy_retv tk en.2.2.1 en.2.2.2 L st h cells slots = Y := hY
      obtain ⟨q1, q2⟩ := sy_if_inv hY9 (by rw [h1]; decide)
      have hst : st = [] := by
        cases st with
        | nil => rfl
        | cons a r => cases q1
      subst hst
      subst q2
      subst h2
      have hS1 := hS.1
      subst hS1
      exact (hE ρ H locs ls en.1 sy_ag.rf (Nat.le_refl _) hH hL.1).1 h1 (of_decide_eq_true hc2) (sy_dt_of hc1)
    · have hret4 : sy_ret tk en.2.2.1 en.2.2.2 L st h cells slots = Y ∧ decode (sy_ib i) en.1 = .ok (sy_ri en.2.2.2, 1) ∧ (sy_ir i).map sy_tyc = some en.2.2.2 := by
        have hz : en.2.1 = 56 ∨ en.2.1 = 57 ∨ en.2.1 = 58 ∨ en.2.1 = 59 ∨ en.2.1 = 60 := by omega
        rcases hz with hz | hz | hz | hz | hz <;> rw [hz] at hY hc1 hc2
        · obtain ⟨g1, g2⟩ := sy_an2 hc2
          refine ⟨hY, ?_, of_decide_eq_true g1⟩
          have g2 : en.2.2.2 = 0 ∨ en.2.2.2 = 5 ∨ en.2.2.2 = 6 := by
            rw [Bool.or_eq_true, Bool.or_eq_true] at g2
            rcases g2 with g2 | g2 | g2
            · exact Or.inl (sy_beq g2)
            · exact Or.inr (Or.inl (sy_beq g2))
            · exact Or.inr (Or.inr (sy_beq g2))
          have hr : sy_ri en.2.2.2 = .ireturn := by rcases g2 with g2 | g2 | g2 <;> rw [g2] <;> rfl
          rw [hr]
          exact sy_dt_of hc1
        · obtain ⟨g1, g2⟩ := sy_an2 hc2
          refine ⟨hY, ?_, of_decide_eq_true g1⟩
          rw [sy_beq g2]
          exact sy_dt_of hc1
        · obtain ⟨g1, g2⟩ := sy_an2 hc2
          refine ⟨hY, ?_, of_decide_eq_true g1⟩
          rw [sy_beq g2]
          exact sy_dt_of hc1
        · obtain ⟨g1, g2⟩ := sy_an2 hc2
          refine ⟨hY, ?_, of_decide_eq_true g1⟩
          rw [sy_beq g2]
          exact sy_dt_of hc1
        · obtain ⟨g1, g2⟩ := sy_an2 hc2
          refine ⟨hY, ?_, of_decide_eq_true g1⟩
          rw [sy_beq g2]
          exact sy_dt_of hc1
      obtain ⟨hY4, hdec, hty⟩ := hret4
      obtain ⟨a, r, e1, q1⟩ := sy_p1_inv hY4 (by rw [h1]; decide)
      subst e1
      obtain ⟨q2, q3⟩ := sy_if_inv q1 (by rw [h1]; decide)
      have hr : r = [] ∧ sy_okf en.2.2.2 a = true := by
        cases r with
        | nil => exact ⟨rfl, q2⟩
        | cons b t => cases q2
      obtain ⟨hr, hok⟩ := hr
      subst hr
      subst q3
      subst h2
      obtain ⟨hS1, hva, -⟩ := sy_SPc hS
      subst hS1
      exact (hE ρ H locs ls en.1 sy_ag.rf (Nat.le_refl _) hH hL.1).2.1 h1 hva _ hty hok hdec
    · sorry
    · have hY6 : sy_thr tk en.2.2.1 en.2.2.2 L st h cells slots = Y := by
        have hz : en.2.1 = 88 ∨ en.2.1 = 89 := by omega
        rcases hz with hz | hz <;> (rw [hz] at hY; exact hY)
      subst hY6
      rcases sy_cond_inv h2.symm with ⟨-, h3⟩ | ⟨-, h3⟩
      · subst h3
        have hS1 := hS.1
        subst hS1
        refine (hE ρ H locs ls en.1 sy_ag.rf (Nat.le_refl _) hH hL.1).2.2.2.1 rfl en.2.1 en.2.2.2 _ _ hz1 hz2 hc2 ?_ cells slots rfl rfl
        rw [sy_catsum]
        exact hcat
      · exact absurd (by rw [← h3]; rfl) hX0
    · subst h2
      exact (hE ρ H locs ls 0 sy_ag.rf (Nat.le_refl _) hH hL.1).2.2.2.2 rfl stC hL hS
end SYK1
