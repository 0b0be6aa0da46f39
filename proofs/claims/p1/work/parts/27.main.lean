/-! the main induction -/
section SYK2
variable {l : Launch} {w : sy_Wd} {tk : sy_T} {len : Nat}
theorem sy_sound (hl : l.stackTraces = false) (hT : sy_TK tk w.2.2.1) (hOk : sy_Ok) : ∀ fuel, sy_Sd l w tk len fuel
  | 0 => by
    intro d i rest L st h cells slots X hi hck hrun hX0
    exact absurd (by rw [← hrun]; rfl) hX0
  | fuel + 1 => by
    have IH := sy_sound hl hT hOk fuel
    intro d i rest L st h cells slots X hi hck hrun hX0 p e R s m args below meth c Q A hC hcc hss ρ H locs ls stC hH hL hS hE
    have hC0 := hC
    obtain ⟨hx, hb, hml, hown, hg, hini, hGA, hA, hTT, hlocks, hret, htab, hf, hlo, hlt, hiw, hg3, hg1⟩ := hC0
    have hcx := hC.cx
    have hts := sy_hts hg hGA.2.1
    cases rest with
    | nil => exact absurd (by rw [← hrun]; rfl) hX0
    | cons en k =>
    obtain ⟨hce, hckk⟩ := sy_and hck
    obtain ⟨hc1, hc2⟩ := sy_an2 hce
    rw [sy_run_succ] at hrun
    generalize hY : (sy_op len en.2.1).1 tk en.2.2.1 en.2.2.2 L st h cells slots = Y at hrun
    show W p l e R s m args below meth c H locs cells slots Q (F0 m en.1 ls stC)
    have hmn := mn_op len tk en.2.2.1 en.2.2.2 L st h cells slots en.2.1
    rw [hY] at hmn
    -- on to the next places
    have next : ∀ (k' : List sy_E) (L' : Nat) (st' : List Nat) (h' : sy_H) (c' s' : Nat), sy_ckl i k' = true → X = sy_run tk len fuel d (sy_meth i) k' L' st' h' c' s' → h.1 ≤ h'.1 →
        ∀ (ρ' : Nat → Nat) (H' : Heap) (locs' : List Loc) (ls' : Array Slot) (stC' : List Value), sy_ag h.1 ρ ρ' → sy_HP w A s.heap ρ' h' H' locs' → sy_LP w ρ' (sy_il i) h'.1 L' ls' → sy_SP w ρ' h'.1 st' stC' →
          W p l e R s m args below meth c H' locs' c' s' Q (F0 m (sy_nth sy_e0 k' 0).1 ls' stC') := fun k' L' st' h' c' s' g1 g2 g3 ρ' H' locs' ls' stC' g4 g5 g6 g7 =>
      IH d i k' L' st' h' c' s' X hi g1 g2.symm hX0 p e R s m args below meth c Q A hC hcc hss ρ' H' locs' ls' stC' g5 g6 g7 (hE.ag g4 g3)
    have bound : ∀ (k' : List sy_E) (L' : Nat) (st' : List Nat) (h' : sy_H) (c' s' : Nat), X = sy_run tk len fuel d (sy_meth i) k' L' st' h' c' s' → c' ≤ R.cells ∧ s' ≤ R.slots := fun k' L' st' h' c' s' g => by
      have hm := sy_mono tk len fuel d (sy_meth i) k' L' st' h' c' s'
      rw [← g] at hm
      obtain ⟨m1, m2⟩ := hm hX0
      exact ⟨Nat.le_trans m1 hcc, Nat.le_trans m2 hss⟩
    rcases sy_step_inv hrun hX0 with ⟨h1, h2⟩ | ⟨h1, h90, h2⟩ | ⟨h1, hz, h2⟩ | ⟨h1, hz1, hz2, h2⟩ | ⟨h1, hz1, hz2, h2⟩ | ⟨h1, hz1, hz2, hcat, h2⟩ | ⟨h1, h2⟩
    · have hz : en.2.1 ≠ 90 := fun q => by
        rw [q] at hY
        have hk := sy_tsw_k (tk := tk) (sw := sy_sw) (df := 0) (x := en.2.2.1) (y := en.2.2.2) (L := L) (c := cells) (s := slots) (st := st) (h := h)
        exact hk (by have hY : sy_tsw sy_sw 0 tk en.2.2.1 en.2.2.2 L st h cells slots = Y := hY; rw [hY]; exact h1)
      obtain ⟨b1, b2⟩ := bound _ _ _ _ _ _ h2
      refine sy_rowall (l := l) (e := e) (below := below) (Q := Q) hcx en.2.1 hz hc1 L st h cells slots Y hY (Or.inl h1) b1 b2 ρ H locs ls stC hH hL hS ?_
      intro ρ' H' locs' ls' stC' ha hn hH' hL' hS'
      rw [if_pos h1]
      exact next _ _ _ _ _ _ hckk h2 hn ρ' H' locs' ls' stC' ha hH' hL' hS'
    · by_cases hz : en.2.1 = 90
      · rw [hz] at hY hc2
        have hY9 : sy_tsw sy_sw 0 tk en.2.2.1 en.2.2.2 L st h cells slots = Y := hY
        obtain ⟨a, r, e1, q1⟩ := sy_p1_inv hY9 (by rw [h1]; decide)
        subst e1
        obtain ⟨hS1, hva, hr⟩ := sy_SPc hS
        subst hS1
        obtain ⟨q2, q3⟩ := sy_if_inv q1 (by rw [h1]; decide)
        obtain ⟨q2, q4⟩ := sy_and q2
        have q4 := sy_ble q4
        rw [sy_force_eq] at q3
        subst q3
        have hc2 : (match decode (sy_ib i) en.1 with | .ok (.tableswitch d lo hi offs, _) => sy_swk (sy_meth i).1 en.1 lo hi d offs | _ => false) = true := hc2
        rw [sy_v0 (sy_beq q2)]
        have hint : (nI (sy_py a)).toInt = (sy_py a : Int) := nI_toInt (by omega)
        have hck' : sy_ckl i ((sy_meth i).1.drop (sy_nth 0 sy_sw (sy_py a))) = true := sy_ckl_drop _ _ hg1
        have fin := next _ _ _ _ _ _ hck' h2 (Nat.le_refl _) ρ H locs ls _ sy_ag.rf hH hL ⟨rfl, hr⟩
        cases hdec : decode (sy_ib i) en.1 with
        | error z => rw [hdec] at hc2; cases hc2
        | ok v =>
          rw [hdec] at hc2
          obtain ⟨ins, ln⟩ := v
          cases ins with
          | tableswitch df lo hi offs =>
            obtain ⟨g0, g1⟩ := sy_an2 (hc2 : sy_swk (sy_meth i).1 en.1 lo hi df offs = true)
            have g0 := of_decide_eq_true g0
            have g2 := of_decide_eq_true (List.all_eq_true.mp g1 (sy_py a) (List.mem_range.mpr (by omega)))
            rw [show sy_nth sy_e0 ((sy_meth i).1.drop (sy_nth 0 sy_sw (sy_py a))) 0 = _ from sy_nth_drop _ _ _] at fin
            unfold sy_off at g2
            by_cases hlo' : ((sy_py a : Nat) : Int) < lo ∨ hi < ((sy_py a : Nat) : Int)
            · rw [if_pos hlo'] at g2
              exact lv_tableOut hx hb hdec (by rw [hint]; exact hlo') g2.symm fin
            · rw [if_neg hlo'] at g2
              have hin : (((sy_py a : Nat) : Int) - lo).toNat < offs.size := by omega
              rw [Array.getElem?_eq_getElem hin] at g2
              exact lv_tableIn hx hb hdec (by rw [hint]; omega) (by rw [hint]; omega) (by rw [hint]; exact Array.getElem?_eq_getElem hin) g2.symm fin
          | _ => cases hc2
      · have hy := h90.resolve_left hz
        have hck' : sy_ckl i ((sy_meth i).1.drop Y.2.1) = true := sy_ckl_drop _ _ hg1
        obtain ⟨b1, b2⟩ := bound _ _ _ _ _ _ h2
        refine sy_rowall (l := l) (e := e) (below := below) (Q := Q) hcx en.2.1 hz hc1 L st h cells slots Y hY (Or.inr h1) b1 b2 ρ H locs ls stC hH hL hS ?_
        intro ρ' H' locs' ls' stC' ha hn hH' hL' hS'
        rw [if_neg (by rw [h1]; decide), ← hy]
        exact next _ _ _ _ _ _ hck' h2 hn ρ' H' locs' ls' stC' ha hH' hL' hS'
    · rw [hz] at hY hc1 hc2
      have hY9 : sy_retv tk en.2.2.1 en.2.2.2 L st h cells slots = Y := hY
      obtain ⟨q1, q2⟩ := sy_if_inv hY9 (by rw [h1]; decide)
      have hst : st = [] := by
        cases st with
        | nil => rfl
        | cons a r => cases q1
      subst hst
      subst q2
      subst h2
      have hS1 := hS.1
      subst hS1
      exact (hE ρ H locs ls en.1 sy_ag.rf (Nat.le_refl _) hH hL.1).1 h1 (of_decide_eq_true hc2) (sy_dt_of hc1)
    · have hret4 : sy_ret tk en.2.2.1 en.2.2.2 L st h cells slots = Y ∧ decode (sy_ib i) en.1 = .ok (sy_ri en.2.2.2, 1) ∧ (sy_ir i).map sy_tyc = some en.2.2.2 := by
        have hz : en.2.1 = 56 ∨ en.2.1 = 57 ∨ en.2.1 = 58 ∨ en.2.1 = 59 ∨ en.2.1 = 60 := by omega
        rcases hz with hz | hz | hz | hz | hz <;> rw [hz] at hY hc1 hc2
        · obtain ⟨g1, g2⟩ := sy_an2 hc2
          refine ⟨hY, ?_, of_decide_eq_true g1⟩
          have g2 : en.2.2.2 = 0 ∨ en.2.2.2 = 5 ∨ en.2.2.2 = 6 := by
            rw [Bool.or_eq_true, Bool.or_eq_true] at g2
            rcases g2 with g2 | g2 | g2
            · exact Or.inl (sy_beq g2)
            · exact Or.inr (Or.inl (sy_beq g2))
            · exact Or.inr (Or.inr (sy_beq g2))
          have hr : sy_ri en.2.2.2 = .ireturn := by rcases g2 with g2 | g2 | g2 <;> rw [g2] <;> rfl
          rw [hr]
          exact sy_dt_of hc1
        · obtain ⟨g1, g2⟩ := sy_an2 hc2
          refine ⟨hY, ?_, of_decide_eq_true g1⟩
          rw [sy_beq g2]
          exact sy_dt_of hc1
        · obtain ⟨g1, g2⟩ := sy_an2 hc2
          refine ⟨hY, ?_, of_decide_eq_true g1⟩
          rw [sy_beq g2]
          exact sy_dt_of hc1
        · obtain ⟨g1, g2⟩ := sy_an2 hc2
          refine ⟨hY, ?_, of_decide_eq_true g1⟩
          rw [sy_beq g2]
          exact sy_dt_of hc1
        · obtain ⟨g1, g2⟩ := sy_an2 hc2
          refine ⟨hY, ?_, of_decide_eq_true g1⟩
          rw [sy_beq g2]
          exact sy_dt_of hc1
      obtain ⟨hY4, hdec, hty⟩ := hret4
      obtain ⟨a, r, e1, q1⟩ := sy_p1_inv hY4 (by rw [h1]; decide)
      subst e1
      obtain ⟨q2, q3⟩ := sy_if_inv q1 (by rw [h1]; decide)
      have hr : r = [] ∧ sy_okf en.2.2.2 a = true := by
        cases r with
        | nil => exact ⟨rfl, q2⟩
        | cons b t => cases q2
      obtain ⟨hr, hok⟩ := hr
      subst hr
      subst q3
      subst h2
      obtain ⟨hS1, hva, -⟩ := sy_SPc hS
      subst hS1
      exact (hE ρ H locs ls en.1 sy_ag.rf (Nat.le_refl _) hH hL.1).2.1 h1 hva _ hty hok hdec
    · obtain ⟨d', hd, hn, hcat8, hrecv, hcatL, hback⟩ := sy_k5_inv h2.symm hX0
      have hYc : Y = (5, en.2.2.1, L, st, h, cells, slots) := by
        have hz : en.2.1 = 80 ∨ en.2.1 = 81 ∨ en.2.1 = 82 ∨ en.2.1 = 83 ∨ en.2.1 = 84 := by omega
        rcases hz with hz | hz | hz | hz | hz <;> (rw [hz] at hY; exact hY.symm)
      subst hYc
      have hn : en.2.2.2 % 16 ≤ st.length := hn
      have hcat8 : sy_cats (st.drop (en.2.2.2 % 16)) ≤ 8 := hcat8
      have hrecv : sy_recv (sy_meth en.2.2.1).2.2.2 (sy_nth 0 st (Nat.pred (en.2.2.2 % 16))) h = true := hrecv
      have hcatL : sy_cats (st.take (en.2.2.2 % 16)).reverse ≤ (sy_meth en.2.2.1).2.1 := hcatL
      have hback : sy_back (sy_run tk len fuel) d (sy_meth i) en.1 en.2.1 k L (st.drop (en.2.2.2 % 16)) cells slots (sy_run tk len fuel d' (sy_meth en.2.2.1) (sy_meth en.2.2.1).1 (sy_args (st.take (en.2.2.2 % 16)).reverse 0 0) [] h 0 0) = X := hback
      generalize hZ : sy_run tk len fuel d' (sy_meth en.2.2.1) (sy_meth en.2.2.1).1 (sy_args (st.take (en.2.2.2 % 16)).reverse 0 0) [] h 0 0 = Z at hback
      have hbi := sy_back_inv hback hX0
      have hZ3 : Z.1 = 3 ∨ Z.1 = 4 ∨ Z.1 = 6 := by
        rcases hbi with ⟨q, -⟩ | ⟨q, -⟩ | ⟨q, -⟩ | ⟨q, -⟩
        · exact Or.inl q
        · exact Or.inr (Or.inl q)
        · exact Or.inr (Or.inr q)
        · exact Or.inr (Or.inr q)
      have hspec : en.2.1 = 82 → Z.1 ≠ 6 := fun q => by
        rcases hbi with ⟨q2, -⟩ | ⟨q2, -⟩ | ⟨q2, q3, -⟩ | ⟨q2, q3, -⟩
        · omega
        · omega
        · exact absurd q q3
        · exact absurd q q3
      have hroom : cells + Z.2.2.2.2.2.1 ≤ R.cells ∧ slots + Z.2.2.2.2.2.2 ≤ R.slots := by
        rcases hbi with ⟨-, q⟩ | ⟨-, q⟩ | ⟨-, -, -, q⟩ | ⟨-, -, q0, -, q⟩
        · exact bound _ _ _ _ _ _ q
        · exact bound _ _ _ _ _ _ q
        · rw [q] at hcc hss
          exact ⟨hcc, hss⟩
        · rw [q] at hX0 hcc hss
          obtain ⟨-, q9⟩ := sy_if_inv (rfl : sy_caught _ _ _ _ = _) hX0
          rw [← q9] at hcc hss
          exact ⟨hcc, hss⟩
      have hx12 : 1 ≤ en.2.2.1 ∧ en.2.2.1 ≤ 227 := sy_call_x hz1 hz2 hc2
      rcases hOk en.2.2.1 hx12.1 hx12.2 with hnil | ⟨g1, g2, g3, g4⟩
      · exfalso
        rw [hnil] at hZ
        have hZ0 : Z.1 = 0 := by
          rw [← hZ]
          cases fuel <;> rfl
        omega
      · have f1 := (sy_gd3_of g3).1
        have hvals : ∀ v ∈ (st.take (en.2.2.2 % 16)).reverse, sy_wfV h.1 v := fun v hv => hS.2 v (List.mem_of_mem_take (List.mem_reverse.mp hv))
        have hM := sy_contract (sz := H.size) (ρ := ρ) hl hT IH (by omega) hx12.2 g1 g2 g3 g4 hZ hZ3 hvals hH.2.2.2 (by rw [← f1]; exact hcatL)
        have hS1 := hS.1
        subst hS1
        obtain ⟨hnp, hrow⟩ := sy_callrun (e := e) (below := below) hC hd hz1 hz2 hc2 g3 g4 hH hL hn hcat8 hrecv hM hspec hroom
        refine sy_after hrow hH hA fun ρ' H' locs' ha hn' hH' => ⟨fun h3 => ?_, fun h4 hv => ?_, fun h6 h5 q ce hq hv hcl => ?_⟩
        · rcases hbi with ⟨-, q⟩ | ⟨q, -⟩ | ⟨q, -⟩ | ⟨q, -⟩
          · have hSd : sy_SP w ρ h.1 (st.drop (en.2.2.2 % 16)) ((st.drop (en.2.2.2 % 16)).map (sy_v w ρ)) := ⟨rfl, fun v hv => hS.2 v (List.mem_of_mem_drop hv)⟩
            have K := next _ _ _ _ _ _ hckk q hn' ρ' H' locs' ls _ ha hH' (hL.ag ha hn') (hSd.ag ha hn')
            rw [hnp] at K
            exact K
          · omega
          · omega
          · omega
        · rcases hbi with ⟨q, -⟩ | ⟨-, q⟩ | ⟨q, -⟩ | ⟨q, -⟩
          · omega
          · have hSd : sy_SP w ρ h.1 (st.drop (en.2.2.2 % 16)) ((st.drop (en.2.2.2 % 16)).map (sy_v w ρ)) := ⟨rfl, fun v hv => hS.2 v (List.mem_of_mem_drop hv)⟩
            have hSd2 := hSd.ag ha hn'
            have hSP : sy_SP w ρ' Z.2.2.2.2.1.1 (Z.2.1 :: st.drop (en.2.2.2 % 16)) (sy_v w ρ' Z.2.1 :: (st.drop (en.2.2.2 % 16)).map (sy_v w ρ)) :=
              ⟨by rw [hSd2.1]; rfl, fun v hvm => (List.mem_cons.mp hvm).elim (fun e9 => e9 ▸ hv) (fun h9 => hSd2.2 v h9)⟩
            have K := next _ _ _ _ _ _ hckk q hn' ρ' H' locs' ls _ ha hH' (hL.ag ha hn') hSP
            rw [hnp] at K
            exact K
          · omega
          · omega
        · rcases hbi with ⟨q9, -⟩ | ⟨q9, -⟩ | ⟨-, -, q8, q9⟩ | ⟨-, -, q7, q8, q9⟩
          · omega
          · omega
          · subst q9
            have hhi : sy_hh i = [] := by
              have hlen4 := (sy_gd3_of hg3).2.2.2.1
              rw [q8] at hlen4
              exact List.eq_nil_of_length_eq_zero hlen4.symm
            exact (hE ρ' H' locs' ls en.1 ha hn' hH' hL.1).2.2.1 rfl h5 hhi q ce _ hq hv hcl
          · have hX0' := hX0
            rw [q9] at hX0'
            obtain ⟨t1, t2⟩ := sy_if_inv (rfl : sy_caught _ _ _ _ = _) hX0'
            obtain ⟨t1, t3⟩ := sy_and t1
            obtain ⟨t3, t4⟩ := sy_and t3
            have t3 := sy_beq t3
            have t4 := sy_beq t4
            have hXe : X = (4, (sy_nth sy_e0 ((sy_meth i).1.drop q7) 1).2.2.1, 0, [], Z.2.2.2.2.1, cells + Z.2.2.2.2.2.1, slots + Z.2.2.2.2.2.2) := q9.trans t2.symm
            have hckd := sy_ckl_drop _ q7 hg1
            refine sy_catch hC h5 q8 hq hv hcl fun hy0 => ?_
            have hy2 : (sy_nth sy_e0 ((sy_meth i).1.drop q7) 2).2.2.2 = 0 := by
              rw [sy_nth_get, List.getElem?_drop]
              rw [sy_nth_get] at hy0
              exact hy0
            rw [show (sy_nth sy_e0 (sy_meth i).1 q7) = sy_nth sy_e0 ((sy_meth i).1.drop q7) 0 from (sy_nth_drop _ _ _).symm]
            generalize (sy_meth i).1.drop q7 = dl at t1 t3 t4 hXe hckd hy2 ⊢
            exact sy_caught_ok (e := e) (below := below) (Q := Q) hC (hL.ag ha hn') hckd t1 t3 t4 hy2 fun ls2 pc2 hsz2 hty2 hdec2 v0 hv0 => by
              subst hXe
              have K := (hE ρ' H' locs' ls2 pc2 ha hn' hH' hsz2).2.1 rfl (by
                refine ⟨hv0.2.2, fun q => ?_⟩
                have q : sy_tg (sy_nth sy_e0 dl 1).2.2.1 = 5 := q
                rw [hv0.2.1] at q
                cases q) 0 hty2 (by
                show Nat.beq (sy_ty (sy_nth sy_e0 dl 1).2.2.1) 0 = true
                unfold sy_ty
                rw [hv0.2.1]
                rfl) hdec2
              have K : W p l e R s m args below meth c H' locs' (cells + Z.2.2.2.2.2.1) (slots + Z.2.2.2.2.2.2) Q (F0 m pc2 ls2 [sy_v w ρ' (sy_nth sy_e0 dl 1).2.2.1]) := K
              rw [sy_v0 hv0.2.1, ← hv0.1] at K
              exact K
    · have hY6 : sy_thr tk en.2.2.1 en.2.2.2 L st h cells slots = Y := by
        have hz : en.2.1 = 88 ∨ en.2.1 = 89 := by omega
        rcases hz with hz | hz <;> (rw [hz] at hY; exact hY)
      subst hY6
      rcases sy_cond_inv h2.symm with ⟨-, h3⟩ | ⟨-, h3⟩
      · subst h3
        have hS1 := hS.1
        subst hS1
        refine (hE ρ H locs ls en.1 sy_ag.rf (Nat.le_refl _) hH hL.1).2.2.2.1 rfl en.2.1 en.2.2.2 _ _ hz1 hz2 hc2 ?_ cells slots rfl rfl
        rw [sy_catsum]
        exact hcat
      · exact absurd (by rw [← h3]; rfl) hX0
    · subst h2
      exact (hE ρ H locs ls 0 sy_ag.rf (Nat.le_refl _) hH hL.1).2.2.2.2 rfl stC hL hS
end SYK2
