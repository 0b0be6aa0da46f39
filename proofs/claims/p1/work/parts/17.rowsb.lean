/-! the operations, one by one: the heap -/
section SYZ2
theorem sy_elt_self {t v : Nat} (h : v = 0 → sy_dv t = 0) : sy_elt t v = v := by
  cases v with
  | zero => exact h rfl
  | succ k => rfl
theorem sy_arr_i {w : sy_Wd} {ρ : Nat → Nat} {t d i v : Nat} {z : Int32} (h1 : t ≠ 1) (h5 : t ≠ 5) (h6 : t < 6) (hv : v < 2 ^ 72) (hz : sy_v w ρ v = .int z) : sy_arr w ρ t (sy_wr d i v) = .inl (upd (fun j => sy_vi (sy_v w ρ (sy_elt 0 (sy_rd d j)))) i z) := by
  unfold sy_arr
  rw [if_neg h1, if_neg h5, if_pos h6]
  congr 1
  funext j
  rw [sy_rd_wr _ _ _ _ hv]
  unfold upd
  by_cases hij : i = j
  · subst hij
    rw [if_pos rfl, if_pos rfl, sy_elt_self (fun _ => rfl), hz]
    rfl
  · rw [if_neg hij, if_neg (fun q => hij q.symm)]
theorem sy_arr_l {w : sy_Wd} {ρ : Nat → Nat} {d i v : Nat} {z : Int64} (hv : v < 2 ^ 72) (hz : sy_v w ρ v = .long z) : sy_arr w ρ 1 (sy_wr d i v) = .inr (.inl (vp_updL (fun j => sy_vl (sy_v w ρ (sy_elt 1 (sy_rd d j)))) i z)) := by
  unfold sy_arr
  rw [if_pos rfl]
  congr 2
  funext j
  rw [sy_rd_wr _ _ _ _ hv]
  unfold vp_updL
  by_cases hij : i = j
  · subst hij
    rw [if_pos rfl, if_pos rfl, sy_elt_self (fun q => by rw [q] at hz; cases hz), hz]
    rfl
  · rw [if_neg hij, if_neg (fun q => hij q.symm)]
theorem sy_arr_r {w : sy_Wd} {ρ : Nat → Nat} {t d i v : Nat} (h6 : 6 ≤ t) (hv : v < 2 ^ 72) (h0 : v ≠ 0) : sy_arr w ρ t (sy_wr d i v) = .inr (.inr (.inr (.inr (va_up (fun j => sy_vr (sy_v w ρ (sy_elt 6 (sy_rd d j)))) i (sy_vr (sy_v w ρ v)))))) := by
  unfold sy_arr
  rw [if_neg (by omega), if_neg (by omega), if_neg (by omega)]
  congr 4
  funext j
  rw [sy_rd_wr _ _ _ _ hv]
  unfold va_up
  by_cases hij : i = j
  · subst hij
    rw [if_pos rfl, if_pos rfl, sy_elt_self (fun q => absurd q h0)]
  · rw [if_neg hij, if_neg (fun q => hij q.symm)]
variable {p : Program} {l : Launch} {e : Env} {R : Room} {s : State} {m : MethodId} {args : Array Value} {below : List Frame} {meth : Method} {c : Code} {Q : State → Prop} {w : sy_Wd} {A : Nat → Prop} {tk : sy_T} {len : Nat} {cc : ByteArray} {own host : String} {ini : Bool} {nL : Nat} {code : List sy_E} {lw : List Cond} {pc x y npc : Nat}
theorem sy_r62 (hC : sy_Cx p R s m args meth c w A tk len cc own ini nL lw) (h : sy_ck cc own host ini nL code lw pc 62 x y npc = true) : sy_OK p l e R s m args below meth c Q w A nL pc npc y (sy_getf tk x y) := by
  obtain ⟨hx, hb, hml, hown, hts, hlw, hini, hG, hA, hT, hRf, hRl⟩ := hC
  obtain ⟨hK, ⟨hX, hbl, hbA⟩, hlen, hAO, hAOA, hCl⟩ := hG
  obtain ⟨g, h2⟩ := sy_an2 h
  obtain ⟨h1, hn⟩ := sy_dc_of g
  obtain ⟨h3, h4⟩ := sy_an2 h2
  obtain ⟨h4, h5⟩ := sy_an2 h4
  have h3 := sy_ble h3
  have h4 : x % 64 < sy_cN (x / 64) := sy_ble h4
  subst hn
  have hin : ∀ u ∈ u_ws (sy_cn (x / 64)) (sy_fr (x / 64)) (sy_cN (x / 64)), u ∈ sy_tbl := fun u hu => sy_tbl_mem (sy_uws _ h3 u hu)
  have hl := hts _ (hlw _ (of_decide_eq_true h5))
  exact sy_ok_getf fun ws H locs cells slots ls st q0 a fs v hP he hv k => va_get hx hb hts hin hown hK hP q0 he (sy_clsT h3) (x % 64) h4 hl (fun _ z => z) hv h1 k
theorem sy_r63 (hC : sy_Cx p R s m args meth c w A tk len cc own ini nL lw) (h : sy_ck cc own host ini nL code lw pc 63 x y npc = true) : sy_OK p l e R s m args below meth c Q w A nL pc npc y (sy_getf tk x y) := by
  obtain ⟨hx, hb, hml, hown, hts, hlw, hini, hG, hA, hT, hRf, hRl⟩ := hC
  obtain ⟨hK, ⟨hX, hbl, hbA⟩, hlen, hAO, hAOA, hCl⟩ := hG
  obtain ⟨g, h2⟩ := sy_an2 h
  obtain ⟨h1, hn⟩ := sy_dc_of g
  obtain ⟨h3, h4⟩ := sy_an2 h2
  obtain ⟨h4, h5⟩ := sy_an2 h4
  have h3 := sy_ble h3
  have h4 : x % 64 < sy_cN (x / 64) := sy_ble h4
  subst hn
  have hin : ∀ u ∈ u_ws (sy_cn (x / 64)) (sy_fr (x / 64)) (sy_cN (x / 64)), u ∈ sy_tbl := fun u hu => sy_tbl_mem (sy_uws _ h3 u hu)
  have hl := hts _ (hlw _ (of_decide_eq_true h5))
  exact sy_ok_getf fun ws H locs cells slots ls st q0 a fs v hP he hv k => va_getN hx hb hts hin hown hK hP q0 he (sy_clsT h3) (x % 64) h4 hl (fun _ z => z) hv h1 k
theorem sy_r64 (hC : sy_Cx p R s m args meth c w A tk len cc own ini nL lw) (h : sy_ck cc own host ini nL code lw pc 64 x y npc = true) : sy_OK p l e R s m args below meth c Q w A nL pc npc y (sy_putf tk x y) := by
  obtain ⟨hx, hb, hml, hown, hts, hlw, hini, hG, hA, hT, hRf, hRl⟩ := hC
  obtain ⟨hK, ⟨hX, hbl, hbA⟩, hlen, hAO, hAOA, hCl⟩ := hG
  obtain ⟨g, h2⟩ := sy_an2 h
  obtain ⟨h1, hn⟩ := sy_dc_of g
  obtain ⟨h3, h4⟩ := sy_an2 h2
  obtain ⟨h4, h5⟩ := sy_an2 h4
  have h3 := sy_ble h3
  have h4 : x % 64 < sy_cN (x / 64) := sy_ble h4
  subst hn
  have hin : ∀ u ∈ u_ws (sy_cn (x / 64)) (sy_fr (x / 64)) (sy_cN (x / 64)), u ∈ sy_tbl := fun u hu => sy_tbl_mem (sy_uws _ h3 u hu)
  obtain ⟨h5, h6⟩ := sy_an2 h5
  obtain ⟨h6, h7⟩ := sy_an2 h6
  have hl := hts _ (hlw _ (of_decide_eq_true h5))
  have h6 := of_decide_eq_true h6
  have hd := sy_ft_ok _ h3 _ h4
  rw [hd] at h6
  have h6 : sy_tyc (sy_ft (x / 64) (x % 64)) = y % 8 := Option.some.inj h6
  have h7 := of_decide_eq_true h7
  refine sy_ok_putf fun ws H locs cells slots ls st q0 a fs ρ v hP hD hS he hlf hok k => ?_
  have hy7 : y % 8 < 7 := by
    have h9 : y % 8 < 8 := Nat.mod_lt _ (by decide)
    have h8 : ¬ y % 8 = 7 := fun q => by rw [q] at hok; cases hok
    omega
  obtain ⟨hn1, hn2⟩ := sy_okf_ok (w := w) (ρ := ρ) h6 hy7 hok
  exact va_put hx hb hts hin (sy_ft (x / 64)) (sy_ft_ok _ h3) (sy_nm_ok _ h3) hown hK hP hD hS q0 he (sy_clsT h3) (x % 64) h4 hl (fun _ z => z) h7 hd hn1 hn2 hlf h1 k
theorem sy_r65 (hC : sy_Cx p R s m args meth c w A tk len cc own ini nL lw) (h : sy_ck cc own host ini nL code lw pc 65 x y npc = true) : sy_OK p l e R s m args below meth c Q w A nL pc npc y (sy_putf tk x y) := by
  obtain ⟨hx, hb, hml, hown, hts, hlw, hini, hG, hA, hT, hRf, hRl⟩ := hC
  obtain ⟨hK, ⟨hX, hbl, hbA⟩, hlen, hAO, hAOA, hCl⟩ := hG
  obtain ⟨g, h2⟩ := sy_an2 h
  obtain ⟨h1, hn⟩ := sy_dc_of g
  obtain ⟨h3, h4⟩ := sy_an2 h2
  obtain ⟨h4, h5⟩ := sy_an2 h4
  have h3 := sy_ble h3
  have h4 : x % 64 < sy_cN (x / 64) := sy_ble h4
  subst hn
  have hin : ∀ u ∈ u_ws (sy_cn (x / 64)) (sy_fr (x / 64)) (sy_cN (x / 64)), u ∈ sy_tbl := fun u hu => sy_tbl_mem (sy_uws _ h3 u hu)
  obtain ⟨h5, h6⟩ := sy_an2 h5
  obtain ⟨h6, h7⟩ := sy_an2 h6
  have hl := hts _ (hlw _ (of_decide_eq_true h5))
  have h6 := of_decide_eq_true h6
  have hd := sy_ft_ok _ h3 _ h4
  rw [hd] at h6
  have h6 : sy_tyc (sy_ft (x / 64) (x % 64)) = y % 8 := Option.some.inj h6
  have h7 := of_decide_eq_true h7
  refine sy_ok_putf fun ws H locs cells slots ls st q0 a fs ρ v hP hD hS he hlf hok k => ?_
  have hy7 : y % 8 < 7 := by
    have h9 : y % 8 < 8 := Nat.mod_lt _ (by decide)
    have h8 : ¬ y % 8 = 7 := fun q => by rw [q] at hok; cases hok
    omega
  obtain ⟨hn1, hn2⟩ := sy_okf_ok (w := w) (ρ := ρ) h6 hy7 hok
  exact va_putN hx hb hts hin (sy_ft (x / 64)) (sy_ft_ok _ h3) (sy_nm_ok _ h3) hown hK hP hD hS q0 he (sy_clsT h3) (x % 64) h4 hl (fun _ z => z) h7 hd hn1 hn2 hlf h1 k
theorem sy_r66 (hC : sy_Cx p R s m args meth c w A tk len cc own ini nL lw) (h : sy_ck cc own host ini nL code lw pc 66 x y npc = true) : sy_OK p l e R s m args below meth c Q w A nL pc npc y (sy_putf tk x y) := by
  obtain ⟨hx, hb, hml, hown, hts, hlw, hini, hG, hA, hT, hRf, hRl⟩ := hC
  obtain ⟨hK, ⟨hX, hbl, hbA⟩, hlen, hAO, hAOA, hCl⟩ := hG
  obtain ⟨g, h2⟩ := sy_an2 h
  obtain ⟨h1, hn⟩ := sy_dc_of g
  obtain ⟨h3, h4⟩ := sy_an2 h2
  obtain ⟨h4, h5⟩ := sy_an2 h4
  have h3 := sy_ble h3
  have h4 : x % 64 < sy_cN (x / 64) := sy_ble h4
  subst hn
  have hin : ∀ u ∈ u_ws (sy_cn (x / 64)) (sy_fr (x / 64)) (sy_cN (x / 64)), u ∈ sy_tbl := fun u hu => sy_tbl_mem (sy_uws _ h3 u hu)
  obtain ⟨h5, h6⟩ := sy_an2 h5
  obtain ⟨h6, h7⟩ := sy_an2 h6
  have hl := hts _ (hlw _ (of_decide_eq_true h5))
  have h6 := of_decide_eq_true h6
  have hd := sy_ft_ok _ h3 _ h4
  rw [hd] at h6
  have h6 : sy_tyc (sy_ft (x / 64) (x % 64)) = y % 8 := Option.some.inj h6
  obtain ⟨h7, h8⟩ := sy_an2 h7
  obtain ⟨h8, h9⟩ := sy_an2 h8
  have h7 := of_decide_eq_true h7
  have h9 := of_decide_eq_true h9
  refine sy_ok_putf fun ws H locs cells slots ls st q0 a fs ρ v hP hD hS he hlf hok k => ?_
  have hy7 : y % 8 < 7 := by
    have z9 : y % 8 < 8 := Nat.mod_lt _ (by decide)
    have z8 : ¬ y % 8 = 7 := fun q => by rw [q] at hok; cases hok
    omega
  obtain ⟨hn1, hn2⟩ := sy_okf_ok (w := w) (ρ := ρ) h6 hy7 hok
  exact va_putF hx hb hts hin (sy_ft (x / 64)) (sy_ft_ok _ h3) (sy_nm_ok _ h3) hown hK hP hD hS q0 he (sy_clsT h3) (x % 64) h4 hl (fun _ z => z) h7 (hini h8) h9 hd hn1 hn2 hlf h1 k
theorem sy_r67 (hC : sy_Cx p R s m args meth c w A tk len cc own ini nL lw) (h : sy_ck cc own host ini nL code lw pc 67 x y npc = true) : sy_OK p l e R s m args below meth c Q w A nL pc npc y (sy_new sy_fi tk x y) := by
  obtain ⟨hx, hb, hml, hown, hts, hlw, hini, hG, hA, hT, hRf, hRl⟩ := hC
  obtain ⟨hK, ⟨hX, hbl, hbA⟩, hlen, hAO, hAOA, hCl⟩ := hG
  obtain ⟨g, h2⟩ := sy_an2 h
  obtain ⟨h1, hn⟩ := sy_dc_of g
  obtain ⟨h3, h4⟩ := sy_an2 h2
  obtain ⟨h4, h5⟩ := sy_an2 h4
  obtain ⟨h5, h6⟩ := sy_an2 h5
  have h3 := sy_ble h3
  subst hn
  have hin : ∀ u ∈ u_ws (sy_cn x) (sy_fr x) (sy_cN x), u ∈ sy_tbl := fun u hu => sy_tbl_mem (sy_uws _ h3 u hu)
  obtain ⟨f1, f2⟩ := sy_fi_ok x h3
  refine sy_ok_new (sy_fi_wf h3) fun ρ ws H locs cells slots ls st hP hD hS hc hs k => ?_
  rw [f1] at hs k
  refine va_new hx hb hts hin (sy_ft x) (sy_ft_ok _ h3) hown (hts _ (hlw _ (of_decide_eq_true h4))) (hts _ (hlw _ (of_decide_eq_true h5))) (hts _ (hlw _ (of_decide_eq_true h6))) hK hP hD hS hA (sy_clsT h3) (fs := (List.range (sy_cN x)).map fun k => sy_v w ρ (sy_rd (sy_fi x).2 k)) (fun j hj => ?_) hc hs h1 fun q H1 g1 g2 g3 => k q H1 locs g1 g2 g3
  unfold vp_V
  rw [List.getD_eq_getElem?_getD, List.getElem?_map, List.getElem?_range hj]
  exact sy_dfl_ok (f2 j hj)
theorem sy_r68 (hC : sy_Cx p R s m args meth c w A tk len cc own ini nL lw) (h : sy_ck cc own host ini nL code lw pc 68 x y npc = true) : sy_OK p l e R s m args below meth c Q w A nL pc npc y (sy_newa tk x y) := by
  obtain ⟨hx, hb, hml, hown, hts, hlw, hini, hG, hA, hT, hRf, hRl⟩ := hC
  obtain ⟨hK, ⟨hX, hbl, hbA⟩, hlen, hAO, hAOA, hCl⟩ := hG
  obtain ⟨g, h2⟩ := sy_an2 h
  obtain ⟨h1, hn⟩ := sy_dc_of g
  obtain ⟨h3, h4⟩ := sy_an2 h2
  have h3 := sy_ble h3
  have h4 := hts _ (hlw _ (of_decide_eq_true h4))
  subst hn
  have hty : newarray.typeOf (sy_aty x) = sy_fty x := by
    match x, h3 with
    | 0, _ => rfl
    | 1, _ => rfl
    | 2, _ => rfl
    | 3, _ => rfl
    | 4, _ => rfl
    | 5, _ => rfl
  have hcb : componentBytes (sy_fty x) ≤ 8 := by
    match x, h3 with
    | 0, _ => decide
    | 1, _ => decide
    | 2, _ => decide
    | 3, _ => decide
    | 4, _ => decide
    | 5, _ => decide
  refine sy_ok_newa fun ρ ws H locs cells slots ls st n hn hP hD hS hc hs k => ?_
  refine va_newa hx hb h4 hty hK hP hD hS hA (a0 := (n, sy_arr w ρ x 0)) (fun cA => ?_) (nI_pos (by omega)) (nI_clamp (by omega)) (Nat.le_trans (Nat.mul_le_mul hn hcb) (by decide)) hc hs h1 fun q cA H1 g0 g1 g2 g3 => ?_
  · match x, h3 with
    | 0, _ => show arrV cA n (fun j => .int (sy_vi (sy_v w ρ (sy_elt 0 (sy_rd 0 j))))) = _; simp only [sy_rd0]; rfl
    | 1, _ => show arrV cA n (fun j => .long (sy_vl (sy_v w ρ (sy_elt 1 (sy_rd 0 j))))) = _; simp only [sy_rd0]; rfl
    | 2, _ => show arrV cA n (fun j => .int (sy_vi (sy_v w ρ (sy_elt 0 (sy_rd 0 j))))) = _; simp only [sy_rd0]; rfl
    | 3, _ => show arrV cA n (fun j => .int (sy_vi (sy_v w ρ (sy_elt 0 (sy_rd 0 j))))) = _; simp only [sy_rd0]; rfl
    | 4, _ => show arrV cA n (fun j => .int (sy_vi (sy_v w ρ (sy_elt 0 (sy_rd 0 j))))) = _; simp only [sy_rd0]; rfl
    | 5, _ => show arrV cA n (fun j => .double (sy_vd (sy_v w ρ (sy_elt 5 (sy_rd 0 j))))) = _; simp only [sy_rd0]; rfl
  · have e1 := (g0.2 (sy_tys w).length _ (by rw [List.getElem?_append_right (Nat.le_refl _), Nat.sub_self]; rfl)).2
    have e2 := (hK.2 x _ (sy_tys_get (w := w) (by omega))).2
    have e3 : cA = w.2.1 x := by
      match x, h3 with
      | 0, _ => exact Option.some.inj (e1.symm.trans e2)
      | 1, _ => exact Option.some.inj (e1.symm.trans e2)
      | 2, _ => exact Option.some.inj (e1.symm.trans e2)
      | 3, _ => exact Option.some.inj (e1.symm.trans e2)
      | 4, _ => exact Option.some.inj (e1.symm.trans e2)
      | 5, _ => exact Option.some.inj (e1.symm.trans e2)
    subst e3
    exact k q H1 locs g1 g2 g3
theorem sy_r69 (hC : sy_Cx p R s m args meth c w A tk len cc own ini nL lw) (h : sy_ck cc own host ini nL code lw pc 69 x y npc = true) : sy_OK p l e R s m args below meth c Q w A nL pc npc y (sy_newa tk x y) := by
  obtain ⟨hx, hb, hml, hown, hts, hlw, hini, hG, hA, hT, hRf, hRl⟩ := hC
  obtain ⟨hK, ⟨hX, hbl, hbA⟩, hlen, hAO, hAOA, hCl⟩ := hG
  obtain ⟨g, h2⟩ := sy_an2 h
  obtain ⟨h1, hn⟩ := sy_dc_of g
  obtain ⟨h3, h4⟩ := sy_an2 h2
  obtain ⟨h4, h5⟩ := sy_an2 h4
  have h3 := sy_ble h3
  have h4 := sy_ble h4
  have h5 := hts _ (hlw _ (of_decide_eq_true h5))
  subst hn
  have hty : sy_fty x = .object (sy_an x) := by
    match x, h3, h4 with
    | 6, _, _ => rfl
    | 7, _, _ => rfl
    | 8, _, _ => rfl
    | 9, _, _ => rfl
    | 10, _, _ => rfl
    | 11, _, _ => rfl
  have harr : ∀ ρ, sy_arr w ρ x 0 = .inr (.inr (.inr (.inr fun _ => none))) := by
    intro ρ
    unfold sy_arr
    rw [if_neg (by omega), if_neg (by omega), if_neg (by omega)]
    simp only [sy_rd0]
    rfl
  refine sy_ok_newa fun ρ ws H locs cells slots ls st n hn hP hD hS hc hs k => ?_
  rw [harr] at k
  refine va_newq hx hb hown h5 (hAO x h3 h4) hK hP hD hS hA (nI_pos (by omega)) (nI_clamp (by omega)) (by omega) hc hs h1 fun q cA H1 g0 g1 g2 g3 => ?_
  have e1 := (g0.2 (sy_tys w).length _ (by rw [List.getElem?_append_right (Nat.le_refl _), Nat.sub_self]; rfl)).2
  have e2 := (hK.2 x _ (sy_tys_get (w := w) (by omega))).2
  rw [hty] at e2
  obtain ⟨_, _, _, _, _, e1⟩ := e1
  obtain ⟨_, _, _, _, _, e2⟩ := e2
  have e3 : cA = w.2.1 x := Option.some.inj (e1.symm.trans e2)
  subst e3
  exact k q H1 locs g1 g2 g3
theorem sy_r70 (hC : sy_Cx p R s m args meth c w A tk len cc own ini nL lw) (h : sy_ck cc own host ini nL code lw pc 70 x y npc = true) : sy_OK p l e R s m args below meth c Q w A nL pc npc y (sy_alen tk len tk x y) := by
  obtain ⟨hx, hb, hml, hown, hts, hlw, hini, hG, hA, hT, hRf, hRl⟩ := hC
  obtain ⟨hK, ⟨hX, hbl, hbA⟩, hlen, hAO, hAOA, hCl⟩ := hG
  obtain ⟨h1, hn⟩ := sy_dc_of h
  subst hn
  exact sy_ok_alen (fun ws H locs cells slots ls st q0 a t z ht hP ha k => va_alen hx hb hK hP q0 t ha (sy_tys_get ht) rfl h1 k) hlen fun H locs cells slots ls st hS k => va_slen hx hb hX hbl hbA hS h1 k
theorem sy_r71 (hC : sy_Cx p R s m args meth c w A tk len cc own ini nL lw) (h : sy_ck cc own host ini nL code lw pc 71 x y npc = true) : sy_OK p l e R s m args below meth c Q w A nL pc npc y (sy_iald len tk x y) := by
  obtain ⟨hx, hb, hml, hown, hts, hlw, hini, hG, hA, hT, hRf, hRl⟩ := hC
  obtain ⟨hK, ⟨hX, hbl, hbA⟩, hlen, hAO, hAOA, hCl⟩ := hG
  obtain ⟨h1, hn⟩ := sy_dc_of h
  subst hn
  refine sy_ok_iald hT hlen (sy_ok_ald fun ρ ws H locs cells slots ls st q0 a n d i v hP ha hi hn hv ht k => ?_) fun H locs cells slots ls st i hi hS k => ?_
  · obtain ⟨z, hz⟩ := sy_vi_ex (w := w) (ρ := ρ) ht
    refine va_iald hx hb hK hP q0 0 ha (sy_tys_get (by decide)) (sy_vp_in hi hn) h1 ?_
    rw [sy_cl_nI (by omega)]
    show W p l e R s m args below meth c H locs cells slots Q (F0 m (pc + 1) ls (.int (sy_vi (sy_v w ρ (sy_elt 0 (sy_rd d i)))) :: st))
    rw [← hv, hz]
    rw [hz] at k
    exact k
  · refine va_sld hx hb hX hbl hbA hS (sy_vp_in hi (by omega)) h1 ?_
    rw [sy_cl_nI (by omega)]
    exact k
theorem sy_r72 (hC : sy_Cx p R s m args meth c w A tk len cc own ini nL lw) (h : sy_ck cc own host ini nL code lw pc 72 x y npc = true) : sy_OK p l e R s m args below meth c Q w A nL pc npc y (sy_ald 1 1 1 tk x y) := by
  obtain ⟨hx, hb, hml, hown, hts, hlw, hini, hG, hA, hT, hRf, hRl⟩ := hC
  obtain ⟨hK, ⟨hX, hbl, hbA⟩, hlen, hAO, hAOA, hCl⟩ := hG
  obtain ⟨h1, hn⟩ := sy_dc_of h
  subst hn
  refine sy_ok_ald fun ρ ws H locs cells slots ls st q0 a n d i v hP ha hi hn hv ht k => ?_
  obtain ⟨z, hz⟩ := sy_vl_ex (w := w) (ρ := ρ) ht
  refine va_lald hx hb hK hP q0 1 ha (sy_tys_get (by decide)) (sy_vp_in hi hn) h1 ?_
  rw [sy_cl_nI (by omega)]
  show W p l e R s m args below meth c H locs cells slots Q (F0 m (pc + 1) ls (.long (sy_vl (sy_v w ρ (sy_elt 1 (sy_rd d i)))) :: st))
  rw [← hv, hz]
  rw [hz] at k
  exact k
theorem sy_r74 (hC : sy_Cx p R s m args meth c w A tk len cc own ini nL lw) (h : sy_ck cc own host ini nL code lw pc 74 x y npc = true) : sy_OK p l e R s m args below meth c Q w A nL pc npc y (sy_ald 2 0 0 tk x y) := by
  obtain ⟨hx, hb, hml, hown, hts, hlw, hini, hG, hA, hT, hRf, hRl⟩ := hC
  obtain ⟨hK, ⟨hX, hbl, hbA⟩, hlen, hAO, hAOA, hCl⟩ := hG
  obtain ⟨h1, hn⟩ := sy_dc_of h
  subst hn
  refine sy_ok_ald fun ρ ws H locs cells slots ls st q0 a n d i v hP ha hi hn hv ht k => ?_
  obtain ⟨z, hz⟩ := sy_vi_ex (w := w) (ρ := ρ) ht
  refine va_zald hx hb hK hP q0 2 ha (sy_tys_get (by decide)) (sy_vp_in hi hn) h1 ?_
  rw [sy_cl_nI (by omega)]
  show W p l e R s m args below meth c H locs cells slots Q (F0 m (pc + 1) ls (.int (sy_vi (sy_v w ρ (sy_elt 0 (sy_rd d i)))) :: st))
  rw [← hv, hz]
  rw [hz] at k
  exact k
theorem sy_r73 (hC : sy_Cx p R s m args meth c w A tk len cc own ini nL lw) (h : sy_ck cc own host ini nL code lw pc 73 x y npc = true) : sy_OK p l e R s m args below meth c Q w A nL pc npc y (sy_aald tk x y) := by
  obtain ⟨hx, hb, hml, hown, hts, hlw, hini, hG, hA, hT, hRf, hRl⟩ := hC
  obtain ⟨hK, ⟨hX, hbl, hbA⟩, hlen, hAO, hAOA, hCl⟩ := hG
  obtain ⟨h1, hn⟩ := sy_dc_of h
  subst hn
  refine sy_ok_aald fun ρ ws H locs cells slots ls st q0 a t n d i v h6 h12 hP ha hi hn hv ht k => ?_
  have harr : sy_arr w ρ t d = .inr (.inr (.inr (.inr fun i => sy_vr (sy_v w ρ (sy_elt 6 (sy_rd d i)))))) := by
    unfold sy_arr
    rw [if_neg (by omega), if_neg (by omega), if_neg (by omega)]
  rw [harr] at ha
  have hz : va_rf (sy_vr (sy_v w ρ (sy_elt 6 (sy_rd d i)))) = sy_v w ρ v := by
    rw [← hv]
    rcases ht with ht | ht
    · rw [ht]
      rfl
    · rw [sy_v5 ht]
      rfl
  rw [← hz] at k
  have hin := sy_vp_in hi hn
  by_cases ht12 : t = 12
  · subst ht12
    have hlt : (nI i).toNatClampNeg < n := Nat.not_le.mp fun q => hin (Or.inr q)
    have hti := hK.2 12 _ (sy_tys_get (w := w) (by decide))
    refine W.aald (v := va_rf (sy_vr (sy_v w ρ (sy_elt 6 (sy_rd d i))))) (ty := .array .boolean) hx hb (hP q0 _ ha) (hti.1 n (fun j => va_rf (sy_vr (sy_v w ρ (sy_elt 6 (sy_rd d j)))))) rfl (fun q => by cases q) (by show ¬ ((nI i) < 0 ∨ (arrV _ _ _).slots.size ≤ _); rw [arrV_size]; exact hin) (by show (arrV _ _ _).slots[_]? = _; rw [arrV_read _ _ hlt, sy_cl_nI (by omega)]) rfl rfl h1 k
  · have hty : sy_fty t = .object (sy_an t) := by
      have h11 : t ≤ 11 := by omega
      match t, h6, h11 with
      | 6, _, _ => rfl
      | 7, _, _ => rfl
      | 8, _, _ => rfl
      | 9, _, _ => rfl
      | 10, _, _ => rfl
      | 11, _, _ => rfl
    refine va_aldq hx hb hK hP q0 t ha (by rw [sy_tys_get h12, hty]) hin h1 ?_
    rw [sy_cl_nI (by omega)]
    exact k
theorem sy_r75 (hC : sy_Cx p R s m args meth c w A tk len cc own ini nL lw) (h : sy_ck cc own host ini nL code lw pc 75 x y npc = true) : sy_OK p l e R s m args below meth c Q w A nL pc npc y (sy_ast 0 0 tk x y) := by
  obtain ⟨hx, hb, hml, hown, hts, hlw, hini, hG, hA, hT, hRf, hRl⟩ := hC
  obtain ⟨hK, ⟨hX, hbl, hbA⟩, hlen, hAO, hAOA, hCl⟩ := hG
  obtain ⟨h1, hn⟩ := sy_dc_of h
  subst hn
  refine sy_ok_ast fun ρ ws H locs cells slots ls st q0 a n d i v hP hD hS ha hi hn ht hv k => ?_
  obtain ⟨z, hz⟩ := sy_vi_ex (w := w) (ρ := ρ) ht
  rw [sy_arr_i (by decide) (by decide) (by decide) hv hz] at k
  rw [hz]
  refine va_iast hx hb hK hP hD hS q0 0 ha (sy_tys_get (by decide)) (sy_vp_in hi hn) h1 fun H1 locs1 g1 g2 g3 => ?_
  rw [sy_cl_nI (by omega)] at g1 g2
  exact k H1 locs1 g1 g2 g3
theorem sy_r76 (hC : sy_Cx p R s m args meth c w A tk len cc own ini nL lw) (h : sy_ck cc own host ini nL code lw pc 76 x y npc = true) : sy_OK p l e R s m args below meth c Q w A nL pc npc y (sy_ast 1 1 tk x y) := by
  obtain ⟨hx, hb, hml, hown, hts, hlw, hini, hG, hA, hT, hRf, hRl⟩ := hC
  obtain ⟨hK, ⟨hX, hbl, hbA⟩, hlen, hAO, hAOA, hCl⟩ := hG
  obtain ⟨h1, hn⟩ := sy_dc_of h
  subst hn
  refine sy_ok_ast fun ρ ws H locs cells slots ls st q0 a n d i v hP hD hS ha hi hn ht hv k => ?_
  obtain ⟨z, hz⟩ := sy_vl_ex (w := w) (ρ := ρ) ht
  rw [sy_arr_l hv hz] at k
  rw [hz]
  refine va_last hx hb hK hP hD hS q0 1 ha (sy_tys_get (by decide)) (sy_vp_in hi hn) h1 fun H1 locs1 g1 g2 g3 => ?_
  rw [sy_cl_nI (by omega)] at g1 g2
  exact k H1 locs1 g1 g2 g3
theorem sy_r77 (hC : sy_Cx p R s m args meth c w A tk len cc own ini nL lw) (h : sy_ck cc own host ini nL code lw pc 77 x y npc = true) : sy_OK p l e R s m args below meth c Q w A nL pc npc y (sy_aast sy_at tk x y) := by
  obtain ⟨hx, hb, hml, hown, hts, hlw, hini, hG, hA, hT, hRf, hRl⟩ := hC
  obtain ⟨hK, ⟨hX, hbl, hbA⟩, hlen, hAO, hAOA, hCl⟩ := hG
  obtain ⟨h1, hn⟩ := sy_dc_of h
  subst hn
  refine sy_ok_aast fun ρ ws H locs cells slots ls st q0 a t n d i v h6 h11 hP hD hS ha hi hn hv hlt k => ?_
  have harr : sy_arr w ρ t d = .inr (.inr (.inr (.inr fun i => sy_vr (sy_v w ρ (sy_elt 6 (sy_rd d i)))))) := by
    unfold sy_arr
    rw [if_neg (by omega), if_neg (by omega), if_neg (by omega)]
  rw [harr] at ha
  have hty : sy_fty t = .object (sy_an t) ∧ sy_at t ≤ 15 ∧ sy_cn (sy_at t) = sy_an t := by
    match t, h6, h11 with
    | 6, _, _ => exact ⟨rfl, by decide, rfl⟩
    | 7, _, _ => exact ⟨rfl, by decide, rfl⟩
    | 8, _, _ => exact ⟨rfl, by decide, rfl⟩
    | 9, _, _ => exact ⟨rfl, by decide, rfl⟩
    | 10, _, _ => exact ⟨rfl, by decide, rfl⟩
    | 11, _, _ => exact ⟨rfl, by decide, rfl⟩
  have hv0 : v ≠ 0 := by
    rcases hv with hv | ⟨hv, -⟩
    · omega
    · intro q
      rw [q] at hv
      cases hv
  rw [sy_arr_r h6 hlt hv0] at k
  have ht : (sy_tys w)[t]? = some (w.2.1 t, .object (sy_an t)) := by rw [sy_tys_get (by omega), hty.1]
  rcases hv with hv | ⟨hv, qk, vs, hq⟩
  · subst hv
    refine va_astqN hx hb hK hP hD hS q0 t ha ht (sy_vp_in hi hn) h1 fun H1 locs1 g1 g2 g3 => ?_
    rw [sy_cl_nI (by omega)] at g1 g2
    exact k H1 locs1 g1 g2 g3
  · rw [sy_v5 hv] at k ⊢
    refine va_astq hx hb hK hP hD hS q0 t qk (sy_at t) ha (r := (sy_cn (sy_at t), sy_fr (sy_at t), sy_cN (sy_at t))) (by rw [ht, hty.2.2]) hq (sy_clsT hty.2.1) (sy_vp_in hi hn) h1 fun H1 locs1 g1 g2 g3 => ?_
    rw [sy_cl_nI (by omega)] at g1 g2
    exact k H1 locs1 g1 g2 g3
theorem sy_r78 (hC : sy_Cx p R s m args meth c w A tk len cc own ini nL lw) (h : sy_ck cc own host ini nL code lw pc 78 x y npc = true) : sy_OK p l e R s m args below meth c Q w A nL pc npc y (sy_cast tk x y) := by
  obtain ⟨hx, hb, hml, hown, hts, hlw, hini, hG, hA, hT, hRf, hRl⟩ := hC
  obtain ⟨hK, ⟨hX, hbl, hbA⟩, hlen, hAO, hAOA, hCl⟩ := hG
  obtain ⟨h1, hn⟩ := sy_dc_of h
  subst hn
  refine sy_ok_cast fun ρ ws H locs cells slots ls st q0 a n d i v hP hD hS ha hi hn ht hv k => ?_
  have hok : sy_okf 6 v = true := by
    show cond (Nat.beq (sy_tg v) 8) true (cond (Nat.beq (sy_tg v) 0) (Nat.ble (sy_py v) 65535) false) = true
    rcases ht with ht | ⟨ht, h2⟩
    · rw [ht]
      rfl
    · rw [ht]
      exact Nat.ble_eq_true_of_le h2
  obtain ⟨n1, -⟩ := sy_okf_ok (w := w) (ρ := ρ) (t := .char) rfl (by decide) hok
  have hty0 : sy_ty v = 0 := by
    rcases ht with ht | ⟨ht, -⟩
    · unfold sy_ty
      rw [ht]
      decide
    · unfold sy_ty
      rw [ht]
      decide
  obtain ⟨z, hz⟩ := sy_vi_ex (w := w) (ρ := ρ) hty0
  rw [sy_arr_i (by decide) (by decide) (by decide) hv hz] at k
  rw [hz] at n1 ⊢
  refine va_cast hx hb hK hP hD hS q0 3 ha (sy_tys_get (by decide)) (sy_vp_in hi hn) h1 fun H1 locs1 g1 g2 g3 => ?_
  have e : vp_nar .char z = z := by
    unfold vp_nar
    rw [n1]
  rw [sy_cl_nI (by omega), e] at g1 g2
  exact k H1 locs1 g1 g2 g3
theorem sy_r79 (hC : sy_Cx p R s m args meth c w A tk len cc own ini nL lw) (h : sy_ck cc own host ini nL code lw pc 79 x y npc = true) : sy_OK p l e R s m args below meth c Q w A nL pc npc y (sy_castA tk x y) := by
  obtain ⟨hx, hb, hml, hown, hts, hlw, hini, hG, hA, hT, hRf, hRl⟩ := hC
  obtain ⟨hK, ⟨hX, hbl, hbA⟩, hlen, hAO, hAOA, hCl⟩ := hG
  obtain ⟨g, h2⟩ := sy_an2 h
  obtain ⟨h1, hn⟩ := sy_dc_of g
  obtain ⟨h3, h4⟩ := sy_an2 h2
  have h3 : x = 0 := sy_beq h3
  subst hn
  subst h3
  have hnm : s.vm.findClass "[I" = some (w.2.1 0) := (hK.2 0 _ (sy_tys_get (w := w) (by decide))).2
  exact sy_ok_castA fun ws H locs cells slots ls st q0 a z hP ha k => va_castA hx hb hown (hts _ (hlw _ (of_decide_eq_true h4))) hP q0 ha hnm h1 k
theorem sy_r85 (hC : sy_Cx p R s m args meth c w A tk len cc own ini nL lw) (h : sy_ck cc own host ini nL code lw pc 85 x y npc = true) : sy_OK p l e R s m args below meth c Q w A nL pc npc y (sy_clone tk x y) := by
  obtain ⟨hx, hb, hml, hown, hts, hlw, hini, hG, hA, hT, hRf, hRl⟩ := hC
  obtain ⟨hK, ⟨hX, hbl, hbA⟩, hlen, hAO, hAOA, hCl⟩ := hG
  obtain ⟨g, h2⟩ := sy_an2 h
  obtain ⟨h1, hn⟩ := sy_dc_of g
  obtain ⟨h3, h4⟩ := sy_an2 h2
  obtain ⟨h4, h5⟩ := sy_an2 h4
  obtain ⟨h5, h6⟩ := sy_an2 h5
  obtain ⟨h6, h7⟩ := sy_an2 h6
  subst hn
  have hnm : s.vm.findClass "[I" = some (w.2.1 0) := (hK.2 0 _ (sy_tys_get (w := w) (by decide))).2
  refine sy_ok_clone fun ρ ws H locs cells slots ls st q0 a n d hls hcat hP hD hS ha hc hs k => ?_
  refine va_clone hx hb (hml.trans hls.symm) hown (hts _ (hlw _ (of_decide_eq_true h3))) (hts _ (hlw _ (of_decide_eq_true h4))) (hts _ (hlw _ (of_decide_eq_true h5))) (hts _ (hlw _ (of_decide_eq_true h6))) (hts _ (hlw _ (of_decide_eq_true h7))) hCl hK hP hD hS hA q0 0 ha (sy_tys_get (by decide)) hnm (fun i v hv => ?_) (by omega) (by omega) hc hs h1 fun q H1 g0 g1 g2 g3 => k q H1 locs g1 g2 g3
  have hv : (arrV (w.2.1 0) n (fun j => .int (sy_vi (sy_v w ρ (sy_elt 0 (sy_rd d j)))))).slots[i]? = some v := hv
  have hlt := (Array.getElem?_eq_some_iff.mp hv).1
  rw [arrV_size] at hlt
  rw [arrV_read _ _ hlt] at hv
  cases hv
  rfl
theorem sy_r86 (hC : sy_Cx p R s m args meth c w A tk len cc own ini nL lw) (h : sy_ck cc own host ini nL code lw pc 86 x y npc = true) : sy_OK p l e R s m args below meth c Q w A nL pc npc y (sy_acpy tk x y) := by
  obtain ⟨hx, hb, hml, hown, hts, hlw, hini, hG, hA, hT, hRf, hRl⟩ := hC
  obtain ⟨hK, ⟨hX, hbl, hbA⟩, hlen, hAO, hAOA, hCl⟩ := hG
  obtain ⟨g, h2⟩ := sy_an2 h
  obtain ⟨h1, hn⟩ := sy_dc_of g
  obtain ⟨h3, h4⟩ := sy_an2 h2
  obtain ⟨h4, h5⟩ := sy_an2 h4
  obtain ⟨h5, h6⟩ := sy_an2 h5
  subst hn
  refine sy_ok_acpy fun ρ ws H locs cells slots ls st q0 q1 a0 a1 n0 n1 d0 d1 sp dp n hls hcat hP hD hS ha0 ha1 hb0 hb1 hc0 hc1 k => ?_
  have e : sy_arr w ρ 0 (sy_cpy d0 sp dp n d1) = .inl (va_cpy (fun j => sy_vi (sy_v w ρ (sy_elt 0 (sy_rd d0 j)))) (fun j => sy_vi (sy_v w ρ (sy_elt 0 (sy_rd d1 j)))) sp dp n) := by
    unfold sy_arr
    rw [if_neg (by decide), if_neg (by decide), if_pos (by decide)]
    congr 1
    funext j
    rw [sy_rd_cpy]
    unfold va_cpy
    split <;> rfl
  rw [e] at k
  refine va_copyi hx hb (hml.trans hls.symm) hown (hts _ (hlw _ (of_decide_eq_true h3))) (hts _ (hlw _ (of_decide_eq_true h4))) (hts _ (hlw _ (of_decide_eq_true h5))) (hts _ (hlw _ (of_decide_eq_true h6))) hK hP hD hS q0 q1 0 0 ha0 ha1 (sy_tys_get (by decide)) (sy_tys_get (by decide)) rfl (nI_pos (by omega)) (nI_pos (by omega)) (nI_pos (by omega)) (by rw [sy_cl_nI (by omega), sy_cl_nI (by omega)]; exact hb0) (by rw [sy_cl_nI (by omega), sy_cl_nI (by omega)]; exact hb1) (fun i _ => rfl) (by omega) ?_ h1 fun H1 locs1 g1 g2 g3 => ?_
  · have : nativeFrameWords "java/lang/System" "arraycopy" 5 ≤ 100 := by decide +kernel
    omega
  · rw [sy_cl_nI (by omega), sy_cl_nI (by omega), sy_cl_nI (by omega)] at g1 g2
    exact k H1 locs1 g1 g2 g3
theorem sy_r87 (hC : sy_Cx p R s m args meth c w A tk len cc own ini nL lw) (h : sy_ck cc own host ini nL code lw pc 87 x y npc = true) : sy_OK p l e R s m args below meth c Q w A nL pc npc y (sy_mna tk x y) := by
  obtain ⟨hx, hb, hml, hown, hts, hlw, hini, hG, hA, hT, hRf, hRl⟩ := hC
  obtain ⟨hK, ⟨hX, hbl, hbA⟩, hlen, hAO, hAOA, hCl⟩ := hG
  obtain ⟨g, h2⟩ := sy_an2 h
  obtain ⟨h1, hn⟩ := sy_dc_of g
  obtain ⟨h3, h4⟩ := sy_an2 h2
  obtain ⟨h4, h5⟩ := sy_an2 h4
  have h3 : x = 12 := sy_beq h3
  subst hn
  subst h3
  have hcy : s.vm.findClass (FieldType.array .boolean).toString = some (w.2.1 2) := (hK.2 2 _ (sy_tys_get (w := w) (by decide))).2
  refine sy_ok_mna (by decide) fun ρ ws H locs cells slots ls st n k hn hk hP hD hS hc hs kk => ?_
  have hP' : va_P w.1 sy_cl (ws ++ va_pl [] (fun _ => .inl (w.2.1 2, k, sy_arr w ρ 2 0))) H := by
    show va_P w.1 sy_cl (ws ++ []) H
    rw [List.append_nil]
    exact hP
  have hD' : va_D A (ws ++ va_pl [] (fun _ => .inl (w.2.1 2, k, sy_arr w ρ 2 0))) := by
    show va_D A (ws ++ [])
    rw [List.append_nil]
    exact hD
  refine va_mna (ty := .boolean) hx hb hown (hts _ (hlw _ (of_decide_eq_true h4))) hAOA (hts _ (hlw _ (of_decide_eq_true h5))) hcy hK hP' hD' hS hA (z := (k, sy_arr w ρ 2 0)) (nI_pos (by omega)) (nI_pos (by omega)) (nI_clamp (by omega)) (nI_clamp (by omega)) (by omega) (by show k * 1 ≤ _; omega) (by omega) rfl rfl hc hs (fun cc => ?_) h1 fun q r cA H1 r1 r2 g0 g1 g2 g3 => ?_
  · show _ = arrV cc k (fun j => .int (sy_vi (sy_v w ρ (sy_elt 0 (sy_rd 0 j)))))
    simp only [sy_rd0]
    exact arrV_new _ _ _
  · have e1 := (g0.2 (sy_tys w).length _ (by rw [List.getElem?_append_right (Nat.le_refl _), Nat.sub_self]; rfl)).2
    have e2 := (hK.2 12 _ (sy_tys_get (w := w) (by decide))).2
    have e3 : cA = w.2.1 12 := Option.some.inj (e1.symm.trans e2)
    subst e3
    have e4 : va_pl ([] ++ (List.range n).map r) (vr_up (fun _ => Sum.inl (w.2.1 2, k, sy_arr w ρ 2 0)) ((List.range n).map r) (.inl (w.2.1 2, k, sy_arr w ρ 2 0))) = (List.range n).map (fun i => (r i, .inl (w.2.1 2, k, sy_arr w ρ 2 0))) := by
      unfold va_pl vr_up
      rw [List.nil_append, List.map_map]
      apply List.map_congr_left
      intro i _
      simp
    rw [e4] at g1 g2
    exact kk q r H1 locs g1 g2 g3
end SYZ2
