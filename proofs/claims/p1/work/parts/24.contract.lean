/-! the contract of a method, out of its run -/
section SYY
variable {l : Launch} {w : sy_Wd} {tk : sy_T} {len fuel : Nat}
theorem sy_LPsz {ρ : Nat → Nat} {nL n L : Nat} {ls : Array Slot} (h : sy_LP w ρ nL n L ls) : ls.size = nL := h.1
/-- the statics' facts of a method, taken apart -/
theorem sy_gd3_of {i : Nat} (h : sy_gd3 i = true) : (sy_meth i).2.1 = sy_il i ∧ (sy_nth sy_e0 (sy_meth i).1 0).1 = 0 ∧ sy_il i ≤ 100 ∧ (sy_meth i).2.2.1.length = (sy_hh i).length ∧ (∀ q ∈ (sy_meth i).2.2.1.zip (sy_hh i), sy_ckh i q.1 q.2 = true) ∧ plainFor (sy_im i) = true ∧ (sy_im i).cls ≠ "java/lang/invoke/MethodHandle" ∧ (sy_im i).cls ≠ "java/lang/invoke/VarHandle" := by
  obtain ⟨h1, h2⟩ := sy_an2 h
  obtain ⟨h2, h3⟩ := sy_an2 h2
  obtain ⟨h3, h4⟩ := sy_an2 h3
  obtain ⟨h4, h5⟩ := sy_an2 h4
  obtain ⟨h5, h6⟩ := sy_an2 h5
  obtain ⟨h6, h7⟩ := sy_an2 h6
  obtain ⟨h7, h8⟩ := sy_an2 h7
  exact ⟨sy_beq h1, sy_beq h2, sy_ble h3, of_decide_eq_true h4, List.all_eq_true.mp h5, h6, of_decide_eq_true h7, of_decide_eq_true h8⟩
theorem sy_gd2_of {i : Nat} (h : sy_gd2 i = true) : ∀ u ∈ sy_iw i, u ∈ sy_tbl := by
  intro u hu
  obtain ⟨h1, h2⟩ := sy_an2 (List.all_eq_true.mp h u hu)
  have h1 := of_decide_eq_true h1
  cases hg : goodWord u with
  | true => exact sy_tbl_mem ⟨h1, hg⟩
  | false =>
    rw [hg] at h2
    exact sy_tbl_memN ⟨h1, h2⟩
theorem sy_cw_nil {i : Nat} (h : sy_hh i = []) : sy_cw i = .code (sy_im i) (sy_ib i) (sy_il i) (sy_ir i) := by
  unfold sy_cw
  rw [h]
theorem sy_cw_cons {i : Nat} (h : sy_hh i ≠ []) : sy_cw i = .codeWith (sy_im i) (sy_ib i) (sy_il i) (sy_ir i) (sy_hh i) := by
  unfold sy_cw
  cases hh : sy_hh i with
  | nil => exact absurd hh h
  | cons a t => rfl
theorem sy_sx_le : ∀ y, y ≤ 16 → sy_sx y ≤ 5 := by decide
/-- how a method's run may end, each led to the contract's end -/
theorem sy_ends {p : Program} {e : Env} {R : Room} {s : State} {m : MethodId} {args : Array Value} {below : List Frame} {meth : Method} {c : Code} {A : Nat → Prop} {i d n : Nat} {ρ : Nat → Nat} {X : sy_X} (hC : sy_Ct l p R s m args meth c w A tk len i d) (hX : X.1 = 3 ∨ X.1 = 4 ∨ X.1 = 6) (hi0 : i ≠ 0)
    (hc : X.2.2.2.2.2.1 ≤ R.cells) (hs : X.2.2.2.2.2.2 ≤ R.slots) : sy_En p l e R s m args below meth c (vx_MQ below (sy_Qc w A ρ n X) (sy_XC w A ρ n X) args s X.2.2.2.2.2.1 X.2.2.2.2.2.2 A) w A i n ρ X := by
  have hC0 := hC
  obtain ⟨hx, hb, hml, hown, hg, hini, hGA, hA, hT, hlocks, hret, htab, hf, hlo, hl, hiw, hg3, hg1⟩ := hC
  have htab := htab hi0
  intro ρ' H' locs' ls' pc' ha hn hH hsz
  have hWq : ∀ t : State, t.heap = H' → sy_Wq w A ρ n X ρ' t.heap := fun t ht => by
    rw [ht]
    exact ⟨ha, hn, hH.1, hH.2.1, hH.2.2.2⟩
  have hfree : ∀ q ∈ locs', A q.base := hH.2.2.1.2.2
  refine ⟨fun h3 hr hd => ?_, fun h4 hv y hy hok hd => ?_, fun h6 h5 hh q ce st hq hv hcl => ?_, fun h6 z y npc st hz1 hz2 hck hst cells slots hcc hss => ?_, fun h8 => by omega⟩
  · exact vx_ret (W.vret hx hb (hret.trans hr) (fun t ht hW => ⟨ρ', hWq t ht, hH.2.2.1.F ht, Or.inl ⟨h3, rfl⟩⟩) hfree hd hlocks)
  · have hQ : ∀ t : State, t.heap = H' → s.WarmedH t.vm → sy_Qc w A ρ n X args s (.returned (some (sy_v w ρ' X.2.1))) t := fun t ht hW => ⟨ρ', hWq t ht, hH.2.2.1.F ht, Or.inr ⟨h4, hv, rfl⟩⟩
    cases hrt : sy_ir i with
    | none =>
      rw [hrt] at hy
      cases hy
    | some ty =>
      rw [hrt] at hy hret
      have hy : sy_tyc ty = y := Option.some.inj hy
      have hy7 : y < 7 := by
        subst hy
        cases ty with
        | byte => exact absurd hok (by show ¬ false = true; decide)
        | short => exact absurd hok (by show ¬ false = true; decide)
        | _ => first | (show (0 : Nat) < 7; decide) | (show (1 : Nat) < 7; decide) | (show (2 : Nat) < 7; decide) | (show (3 : Nat) < 7; decide) | (show (4 : Nat) < 7; decide) | (show (5 : Nat) < 7; decide) | (show (6 : Nat) < 7; decide)
      obtain ⟨n1, n2⟩ := sy_okf_ok (w := w) (ρ := ρ') hy hy7 hok
      subst hy
      cases ty with
      | int =>
        obtain ⟨z, hz⟩ := sy_vi_ex (w := w) (ρ := ρ') (sy_beq hok)
        rw [hz] at hQ ⊢
        exact vx_ret (W.iret hx hb hret hQ hfree hd hlocks)
      | long =>
        obtain ⟨z, hz⟩ := sy_vl_ex (w := w) (ρ := ρ') (sy_beq hok)
        rw [hz] at hQ ⊢
        exact vx_ret (W.lret hx hb hret hQ hfree hd hlocks)
      | float =>
        rcases sy_ty_tg (sy_beq hok) (by decide) with ⟨q, -⟩ | ⟨q, -⟩ | ⟨q, -⟩ | ⟨-, q⟩ | ⟨q, -⟩
        · cases q
        · cases q
        · cases q
        · rw [sy_v2 q] at hQ ⊢
          exact vx_ret (W.fret hx hb hret hQ hfree hd hlocks)
        · cases q
      | double =>
        rcases sy_ty_tg (sy_beq hok) (by decide) with ⟨q, -⟩ | ⟨q, -⟩ | ⟨q, -⟩ | ⟨q, -⟩ | ⟨-, q⟩
        · cases q
        · cases q
        · cases q
        · cases q
        · rw [sy_v3 q] at hQ ⊢
          exact vx_ret (W.dret hx hb hret hQ hfree hd hlocks)
      | object C =>
        exact vx_ret (W.aret hx hb hret (Or.inl ⟨_, rfl⟩) (sy_vr_ex (sy_beq hok)) hQ hfree hd hlocks)
      | array C =>
        exact vx_ret (W.aret hx hb hret (Or.inr ⟨_, rfl⟩) (sy_vr_ex (sy_beq hok)) hQ hfree hd hlocks)
      | boolean =>
        have hz : ∃ z, sy_v w ρ' X.2.1 = .int z := by
          have hok : cond (Nat.beq X.2.1 0) true (Nat.beq X.2.1 16) = true := hok
          cases hc0 : Nat.beq X.2.1 0 with
          | true => rw [sy_beq hc0]; exact ⟨_, rfl⟩
          | false =>
            rw [hc0] at hok
            rw [(sy_beq hok : X.2.1 = 16)]
            exact ⟨_, rfl⟩
        obtain ⟨z, hz⟩ := hz
        rw [hz] at hQ n1 ⊢
        exact vx_ret (W.zret hx hb hret n1 hQ hfree hd hlocks)
      | char =>
        have hz : ∃ z, sy_v w ρ' X.2.1 = .int z := by
          rcases sy_isch_of hok with hc0 | ⟨hc0, -⟩
          · exact ⟨_, sy_v8 hc0⟩
          · exact ⟨_, sy_v0 hc0⟩
        obtain ⟨z, hz⟩ := hz
        rw [hz] at hQ n1 ⊢
        exact vx_ret (W.zret hx hb hret n1 hQ hfree hd hlocks)
      | byte => exact absurd hy7 (by decide)
      | short => exact absurd hy7 (by decide)
  · refine vx_outP hown hlocks (fun z hz => ?_) hq hv hcl (fun t ht _ => ⟨h6, h5, rfl, ρ', hWq t ht, hH.2.2.1.F ht⟩) hfree (Nat.le_refl _) (Nat.le_refl _)
    rw [htab, hh] at hz
    cases hz
  · have hts := sy_hts hg hGA.2.1
    obtain ⟨z1, z2, z3, z4⟩ := hGA.2.2
    have fin : ∀ {ik is ic : Nat}, (sy_sit y) = (ik, is, ic, (sy_sit y).2.2.2) → sy_wd (sy_iw i) (.classLink (sy_im i).cls ik (sy_ex X.2.1)) = true → sy_wd (sy_iw i) (.initialized (sy_ex X.2.1)) = true → (sy_im i).cls = "Manypens" → y ≤ 16 → X.2.1 = sy_sx y → sy_hh i = [] →
        decode (sy_ib i) pc' = .ok (.new ik, 3) → decode (sy_ib i) (pc' + 3) = .ok (.dup, 1) →
        ((decode (sy_ib i) (pc' + 4) = .ok (.ldc is, 2) ∧ decode (sy_ib i) (pc' + 6) = .ok (.invokespecial ic, 3) ∧ decode (sy_ib i) (pc' + 9) = .ok (.athrow, 1)) ∨ (decode (sy_ib i) (pc' + 4) = .ok (.ldc_w is, 3) ∧ decode (sy_ib i) (pc' + 7) = .ok (.invokespecial ic, 3) ∧ decode (sy_ib i) (pc' + 10) = .ok (.athrow, 1))) →
        W p l e R s m args below meth c H' locs' cells slots (vx_MQ below (sy_Qc w A ρ n X) (sy_XC w A ρ n X) args s X.2.2.2.2.2.1 X.2.2.2.2.2.2 A) (F0 m pc' ls' st) := by
      intro ik is ic hsit w1 w2 hM hy hxy hh d0 d3 dd
      obtain ⟨sa, hsa⟩ := z3 y hy
      rw [hsit] at hsa
      have k1 := hts _ (hiw _ (of_decide_eq_true w1))
      have k2 := hts _ (hiw _ (of_decide_eq_true w2))
      rw [hM] at hown k1
      have hout : ∀ (q : Nat), ∀ x ∈ c.exceptionTable.toList, covers x q = false := fun q x hx => by
        rw [htab, hh] at hx
        cases hx
      have hfr : sy_xn.length + 3 < R.frames := by
        unfold sy_rf at hf
        show 2 + 3 < _
        omega
      have hlo2 : (st.map fun v => v.category).sum + (13 * (sy_xn.length + 1) + 43) ≤ R.locals := by
        unfold sy_rl at hlo
        show _ + (13 * (2 + 1) + 43) ≤ _
        omega
      have hxx : ∀ t : State, s.vm.Alike t.vm → H'.size ≤ t.heap.size → (∀ q : Nat, q < H'.size → t.heap[q]? = H'[q]?) → sy_XC w A ρ n X (sy_ex X.2.1) s t := by
        intro t _ hz1 hz2
        have hP' : va_P w.1 sy_cl (sy_ws w ρ' X.2.2.2.2.1) t.heap := hH.1.kept fun k q hk => hz2 q.1 (hH.1 k q hk).lt
        refine ⟨h6, ?_, rfl, ρ', ⟨ha, hn, hP', hH.2.1, hH.2.2.2⟩, Nat.le_trans hH.2.2.1.1 hz1, fun q hq hqA => ?_⟩
        · rw [hxy]
          exact sy_sx_le y hy
        · rw [hz2 q (Nat.lt_of_lt_of_le hq hH.2.2.1.1)]
          exact hH.2.2.1.2.1 q hq hqA
      have toB : ∀ {W0 : List Cond}, (∀ u ∈ W0, u ∈ lw_tbl ∧ (goodWord u || sy_isN u) = true) → ∀ u ∈ W0, u.before args s = true := fun o1 u hu => by
        obtain ⟨q1, q2⟩ := o1 u hu
        cases hgw : goodWord u with
        | true => exact hts u (sy_tbl_mem ⟨q1, hgw⟩)
        | false =>
          rw [hgw] at q2
          exact hts u (sy_tbl_memN ⟨q1, q2⟩)
      by_cases hx1 : sy_sx y = 1
      · obtain ⟨i1, i2⟩ := sy_nse5 y hy hx1
        rw [hsit] at i1 i2
        have i1 : ik = 224 := i1
        have i2 : ic = 228 := i2
        subst i1
        subst i2
        have hE1 : sy_ex X.2.1 = "java/util/NoSuchElementException" := by
          rw [hxy, hx1]
          rfl
        rw [hE1] at k1 k2 hxx
        obtain ⟨n1, n2, n3⟩ := sy_nse3
        obtain ⟨e0, e1, e2, e5⟩ := sy_nse4
        have go : ∀ {p6 : Nat}, ((decode (sy_ib i) (pc' + 4) = .ok (.ldc is, 2) ∧ p6 = pc' + 6) ∨ (decode (sy_ib i) (pc' + 4) = .ok (.ldc_w is, 3) ∧ p6 = pc' + 7)) → decode (sy_ib i) p6 = .ok (.invokespecial 228, 3) → decode (sy_ib i) (p6 + 3) = .ok (.athrow, 1) →
            W p l e R s m args below meth c H' locs' cells slots (vx_MQ below (sy_Qc w A ρ n X) (sy_XC w A ρ n X) args s X.2.2.2.2.2.1 X.2.2.2.2.2.2 A) (F0 m pc' ls' st) := fun d4 d6 d9 =>
          sy_makeN hx hb hl hown n1 n2 n3 e0 e1 e2 e5 k1 k2 hsa (toB sy_nse1) sy_nse2 z1 z2 hH.2.2.1 (hsz.trans hml.symm) d0 d3 d4 d6 hfr hlo2 (by omega) (by omega) fun q H1 ce g1 g2 g3 g4 g5 =>
            sy_athrow hx hb d9 (vx_outP hown hlocks (fun z hz => Or.inl (hout _ z hz)) g1 g2 g3 (fun t ht hal => hxx t hal (by rw [ht]; exact g4) (fun q hq => by rw [ht]; exact g5 q hq)) hfree (by omega) (by omega))
        rcases dd with ⟨d4, d6, d9⟩ | ⟨d4, d7, d10⟩
        · exact go (Or.inl ⟨d4, rfl⟩) d6 d9
        · exact go (Or.inr ⟨d4, rfl⟩) d7 d10
      · obtain ⟨o1, o2, o3, o4⟩ := sy_sok_all y hy hx1
        rw [← hxy, hsit] at o1 o2
        rw [← hxy] at o3
        have hat := toB o1
        rcases dd with ⟨d4, d6, d9⟩ | ⟨d4, d7, d10⟩
        · exact vx_throwS hx hb hl hown o3 o4 k1 k2 hsa hat o2 z1 z2 hH.2.2.1 (hsz.trans hml.symm) d0 d3 d4 d6 d9 (hout _) hfr hlo2 (by omega) (by omega) hlocks hxx hfree (by omega) (by omega)
        · exact vx_throwSW hx hb hl hown o3 o4 k1 k2 hsa hat o2 z1 z2 hH.2.2.1 (hsz.trans hml.symm) d0 d3 d4 d7 d10 (hout _) hfr hlo2 (by omega) (by omega) hlocks hxx hfree (by omega) (by omega)
    have hz : z = 88 ∨ z = 89 := by omega
    rcases hz with rfl | rfl
    · obtain ⟨c1, g⟩ := sy_an2 hck
      obtain ⟨c2, g⟩ := sy_an2 g
      obtain ⟨c3, g⟩ := sy_an2 g
      obtain ⟨c4, g⟩ := sy_an2 g
      obtain ⟨c5, g⟩ := sy_an2 g
      obtain ⟨c6, g⟩ := sy_an2 g
      obtain ⟨c7, g⟩ := sy_an2 g
      obtain ⟨c8, g⟩ := sy_an2 g
      obtain ⟨c9, g⟩ := sy_an2 g
      obtain ⟨c10, c11⟩ := sy_an2 g
      exact fin rfl c6 c7 (of_decide_eq_true c8) (sy_ble c9) (sy_beq c10) (of_decide_eq_true c11) (sy_dt_of c1) (sy_dt_of c2) (Or.inl ⟨sy_dt_of c3, sy_dt_of c4, sy_dt_of c5⟩)
    · obtain ⟨c1, g⟩ := sy_an2 hck
      obtain ⟨c2, g⟩ := sy_an2 g
      obtain ⟨c3, g⟩ := sy_an2 g
      obtain ⟨c4, g⟩ := sy_an2 g
      obtain ⟨c5, g⟩ := sy_an2 g
      obtain ⟨c6, g⟩ := sy_an2 g
      obtain ⟨c7, g⟩ := sy_an2 g
      obtain ⟨c8, g⟩ := sy_an2 g
      obtain ⟨c9, g⟩ := sy_an2 g
      obtain ⟨c10, c11⟩ := sy_an2 g
      exact fin rfl c6 c7 (of_decide_eq_true c8) (sy_ble c9) (sy_beq c10) (of_decide_eq_true c11) (sy_dt_of c1) (sy_dt_of c2) (Or.inr ⟨sy_dt_of c3, sy_dt_of c4, sy_dt_of c5⟩)
/-- the body of a method, from its entry -/
theorem sy_body {p : Program} {e : Env} {s : State} {m : MethodId} {args : Array Value} {below : List Frame} {meth : Method} {c : Code} {R : Room} {i d sz : Nat} {ρ : Nat → Nat} {h : sy_H} {vals : List Nat} {X : sy_X} (hSd : sy_Sd l w tk len fuel) (hi0 : i ≠ 0) (hi2 : i ≤ 227) (hg1 : sy_gd1 i = true) (hg3 : sy_gd3 i = true)
    (hrun : sy_run tk len fuel d (sy_meth i) (sy_meth i).1 (sy_args vals 0 0) [] h 0 0 = X) (hX : X.1 = 3 ∨ X.1 = 4 ∨ X.1 = 6) (hv : ∀ v ∈ vals, sy_wfV h.1 v) (hw : sy_wfH h) (hcat : sy_cats vals ≤ sy_il i)
    (hC : sy_Ct l p R s m args meth c w (va_A (sy_ws w ρ h) sz) tk len i d) (hc : X.2.2.2.2.2.1 ≤ R.cells) (hs : X.2.2.2.2.2.2 ≤ R.slots) (hP : sy_Pc w len ρ h sz vals args s) :
    W p l e R s m args below meth c s.heap [] 0 0 (vx_MQ below (sy_Qc w (va_A (sy_ws w ρ h) sz) ρ h.1 X) (sy_XC w (va_A (sy_ws w ρ h) sz) ρ h.1 X) args s X.2.2.2.2.2.1 X.2.2.2.2.2.2 (va_A (sy_ws w ρ h) sz)) (entryFrame m args (sy_il i)) := by
  obtain ⟨hargs, hsz, hPw, hDw, hGA⟩ := hP
  obtain ⟨f1, f2, f3, f4, f5, f6, f7, f8⟩ := sy_gd3_of hg3
  subst hargs
  have hl := lv_entry (vals.map (sy_v w ρ)) (n := sy_il i) (by rw [sy_sl_len]; exact hcat)
  rw [lg_entry_eq]
  generalize (lg_sl (vals.map (sy_v w ρ)) ++ List.replicate (sy_il i - (lg_sl (vals.map (sy_v w ρ))).length) Slot.unset).toArray = ls at hl ⊢
  have K := hSd d i (sy_meth i).1 (sy_args vals 0 0) [] h 0 0 X hi2 hg1 hrun (by omega) p e R s m _ below meth c _ _ hC hc hs ρ s.heap [] ls [] ⟨hPw, hDw, va_S.rf, hw⟩ (sy_LP_entry hv hl) ⟨rfl, fun v hv => nomatch hv⟩ (sy_ends hC hX hi0 hc hs)
  rw [f2] at K
  exact K
end SYY
