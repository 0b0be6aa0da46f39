/-! the operations, one by one: numbers, locals, jumps -/
section SYZ1
variable {p : Program} {l : Launch} {e : Env} {R : Room} {s : State} {m : MethodId} {args : Array Value} {below : List Frame} {meth : Method} {c : Code} {Q : State → Prop} {w : sy_Wd} {A : Nat → Prop} {tk : sy_T} {len : Nat} {cc : ByteArray} {own host : String} {ini : Bool} {nL : Nat} {code : List sy_E} {lw : List Cond} {pc x y npc : Nat}
theorem sy_r1 (hC : sy_Cx p R s m args meth c w A tk len cc own ini nL lw) (h : sy_ck cc own host ini nL code lw pc 1 x y npc = true) : sy_OK p l e R s m args below meth c Q w A nL pc npc y (sy_push tk x y) := by
  obtain ⟨hx, hb, hml, hown, hts, hlw, hini, hG, hA, hT, hRf, hRl⟩ := hC
  obtain ⟨g, h2⟩ := sy_an2 h
  obtain ⟨h1, hn⟩ := sy_dc_of g
  obtain ⟨h2, h3⟩ := sy_an2 h2
  obtain ⟨h3, h4⟩ := sy_an2 h3
  subst hn
  have ht : sy_tg x = 0 := sy_beq h3
  have hle := sy_ble h4
  refine sy_ok_push (fun n => ⟨by omega, fun q => by rw [ht] at q; cases q⟩) fun ρ ls st H locs cells slots k => ?_
  rw [sy_v0 ht] at k
  exact lv_iconst hx hb h1 (of_decide_eq_true h2) k
theorem sy_r2 (hC : sy_Cx p R s m args meth c w A tk len cc own ini nL lw) (h : sy_ck cc own host ini nL code lw pc 2 x y npc = true) : sy_OK p l e R s m args below meth c Q w A nL pc npc y (sy_push tk x y) := by
  obtain ⟨hx, hb, hml, hown, hts, hlw, hini, hG, hA, hT, hRf, hRl⟩ := hC
  obtain ⟨g, h2⟩ := sy_an2 h
  obtain ⟨h1, hn⟩ := sy_dc_of g
  obtain ⟨h2, h3⟩ := sy_an2 h2
  obtain ⟨h3, h4⟩ := sy_an2 h3
  subst hn
  have ht : sy_tg x = 0 := sy_beq h3
  have hle := sy_ble h4
  refine sy_ok_push (fun n => ⟨by omega, fun q => by rw [ht] at q; cases q⟩) fun ρ ls st H locs cells slots k => ?_
  rw [sy_v0 ht] at k
  exact lv_bipush hx hb h1 (of_decide_eq_true h2) k
theorem sy_r3 (hC : sy_Cx p R s m args meth c w A tk len cc own ini nL lw) (h : sy_ck cc own host ini nL code lw pc 3 x y npc = true) : sy_OK p l e R s m args below meth c Q w A nL pc npc y (sy_push tk x y) := by
  obtain ⟨hx, hb, hml, hown, hts, hlw, hini, hG, hA, hT, hRf, hRl⟩ := hC
  obtain ⟨g, h2⟩ := sy_an2 h
  obtain ⟨h1, hn⟩ := sy_dc_of g
  obtain ⟨h2, h3⟩ := sy_an2 h2
  obtain ⟨h3, h4⟩ := sy_an2 h3
  subst hn
  have ht : sy_tg x = 0 := sy_beq h3
  have hle := sy_ble h4
  refine sy_ok_push (fun n => ⟨by omega, fun q => by rw [ht] at q; cases q⟩) fun ρ ls st H locs cells slots k => ?_
  rw [sy_v0 ht] at k
  exact lv_sipush hx hb h1 (of_decide_eq_true h2) k
theorem sy_r4 (hC : sy_Cx p R s m args meth c w A tk len cc own ini nL lw) (h : sy_ck cc own host ini nL code lw pc 4 x y npc = true) : sy_OK p l e R s m args below meth c Q w A nL pc npc y (sy_push tk x y) := by
  obtain ⟨hx, hb, hml, hown, hts, hlw, hini, hG, hA, hT, hRf, hRl⟩ := hC
  obtain ⟨g, h2⟩ := sy_an2 h
  obtain ⟨h1, hn⟩ := sy_dc_of g
  obtain ⟨h2, h3⟩ := sy_an2 h2
  obtain ⟨h3, h4⟩ := sy_an2 h3
  subst hn
  have ht : sy_tg x = 1 := sy_beq h3
  have hle := sy_ble h4
  refine sy_ok_push (fun n => ⟨by omega, fun q => by rw [ht] at q; cases q⟩) fun ρ ls st H locs cells slots k => ?_
  rw [sy_v1 ht] at k
  exact lv_lconst hx hb h1 (of_decide_eq_true h2) k
theorem sy_r6 (hC : sy_Cx p R s m args meth c w A tk len cc own ini nL lw) (h : sy_ck cc own host ini nL code lw pc 6 x y npc = true) : sy_OK p l e R s m args below meth c Q w A nL pc npc y (sy_push tk x y) := by
  obtain ⟨hx, hb, hml, hown, hts, hlw, hini, hG, hA, hT, hRf, hRl⟩ := hC
  obtain ⟨g, h2⟩ := sy_an2 h
  obtain ⟨h1, hn⟩ := sy_dc_of g
  obtain ⟨h2, h3⟩ := sy_an2 h2
  obtain ⟨h3, h4⟩ := sy_an2 h3
  subst hn
  have ht : sy_tg x = 0 := sy_beq h3
  have hle := sy_ble h4
  refine sy_ok_push (fun n => ⟨by omega, fun q => by rw [ht] at q; cases q⟩) fun ρ ls st H locs cells slots k => ?_
  rw [sy_v0 ht] at k
  exact lv_ldc hx hb hown (hts _ (hlw _ (of_decide_eq_true h2))) h1 k
theorem sy_r7 (hC : sy_Cx p R s m args meth c w A tk len cc own ini nL lw) (h : sy_ck cc own host ini nL code lw pc 7 x y npc = true) : sy_OK p l e R s m args below meth c Q w A nL pc npc y (sy_push tk x y) := by
  obtain ⟨hx, hb, hml, hown, hts, hlw, hini, hG, hA, hT, hRf, hRl⟩ := hC
  obtain ⟨g, h2⟩ := sy_an2 h
  obtain ⟨h1, hn⟩ := sy_dc_of g
  obtain ⟨h2, h3⟩ := sy_an2 h2
  obtain ⟨h3, h4⟩ := sy_an2 h3
  subst hn
  have ht : sy_tg x = 0 := sy_beq h3
  have hle := sy_ble h4
  refine sy_ok_push (fun n => ⟨by omega, fun q => by rw [ht] at q; cases q⟩) fun ρ ls st H locs cells slots k => ?_
  rw [sy_v0 ht] at k
  exact lv_ldcw hx hb hown (hts _ (hlw _ (of_decide_eq_true h2))) h1 k
theorem sy_r8 (hC : sy_Cx p R s m args meth c w A tk len cc own ini nL lw) (h : sy_ck cc own host ini nL code lw pc 8 x y npc = true) : sy_OK p l e R s m args below meth c Q w A nL pc npc y (sy_push tk x y) := by
  obtain ⟨hx, hb, hml, hown, hts, hlw, hini, hG, hA, hT, hRf, hRl⟩ := hC
  obtain ⟨g, h2⟩ := sy_an2 h
  obtain ⟨h1, hn⟩ := sy_dc_of g
  obtain ⟨h2, h3⟩ := sy_an2 h2
  obtain ⟨h3, h4⟩ := sy_an2 h3
  subst hn
  have ht : sy_tg x = 1 := sy_beq h3
  have hle := sy_ble h4
  refine sy_ok_push (fun n => ⟨by omega, fun q => by rw [ht] at q; cases q⟩) fun ρ ls st H locs cells slots k => ?_
  rw [sy_v1 ht] at k
  exact lv_ldc2 hx hb hown (hts _ (hlw _ (of_decide_eq_true h2))) h1 k
theorem sy_r5 (hC : sy_Cx p R s m args meth c w A tk len cc own ini nL lw) (h : sy_ck cc own host ini nL code lw pc 5 x y npc = true) : sy_OK p l e R s m args below meth c Q w A nL pc npc y (sy_push tk x y) := by
  obtain ⟨hx, hb, hml, hown, hts, hlw, hini, hG, hA, hT, hRf, hRl⟩ := hC
  obtain ⟨g, h2⟩ := sy_an2 h
  obtain ⟨h1, hn⟩ := sy_dc_of g
  have h2 : x = 4 := sy_beq h2
  subst hn
  subst h2
  refine sy_ok_push (fun n => ⟨by decide, fun q => absurd q (by decide)⟩) fun ρ ls st H locs cells slots k => ?_
  exact lv_null hx hb h1 k
theorem sy_r9 (hC : sy_Cx p R s m args meth c w A tk len cc own ini nL lw) (h : sy_ck cc own host ini nL code lw pc 9 x y npc = true) : sy_OK p l e R s m args below meth c Q w A nL pc npc y (sy_push tk x y) := by
  obtain ⟨hx, hb, hml, hown, hts, hlw, hini, hG, hA, hT, hRf, hRl⟩ := hC
  obtain ⟨g, h2⟩ := sy_an2 h
  obtain ⟨h1, hn⟩ := sy_dc_of g
  have h2 : x = 2 := sy_beq h2
  subst hn
  subst h2
  refine sy_ok_push (fun n => ⟨by decide, fun q => absurd q (by decide)⟩) fun ρ ls st H locs cells slots k => ?_
  exact lv_fconst0 hx hb h1 k
theorem sy_r10 (hC : sy_Cx p R s m args meth c w A tk len cc own ini nL lw) (h : sy_ck cc own host ini nL code lw pc 10 x y npc = true) : sy_OK p l e R s m args below meth c Q w A nL pc npc y (sy_push tk x y) := by
  obtain ⟨hx, hb, hml, hown, hts, hlw, hini, hG, hA, hT, hRf, hRl⟩ := hC
  obtain ⟨g, h2⟩ := sy_an2 h
  obtain ⟨h1, hn⟩ := sy_dc_of g
  have h2 : x = 3 := sy_beq h2
  subst hn
  subst h2
  refine sy_ok_push (fun n => ⟨by decide, fun q => absurd q (by decide)⟩) fun ρ ls st H locs cells slots k => ?_
  exact lv_dconst0 hx hb h1 k
theorem sy_r11 (hC : sy_Cx p R s m args meth c w A tk len cc own ini nL lw) (h : sy_ck cc own host ini nL code lw pc 11 x y npc = true) : sy_OK p l e R s m args below meth c Q w A nL pc npc y (sy_load 0 tk x y) := by
  obtain ⟨hx, hb, hml, hown, hts, hlw, hini, hG, hA, hT, hRf, hRl⟩ := hC
  obtain ⟨h1, hn⟩ := sy_dc_of h
  subst hn
  refine sy_ok_load fun ρ ls st v hv hl H locs cells slots k => ?_
  obtain ⟨z, hz⟩ := sy_vi_ex (w := w) (ρ := ρ) hv
  rw [hz] at hl k
  exact lv_iload hx hb h1 hl k
theorem sy_r12 (hC : sy_Cx p R s m args meth c w A tk len cc own ini nL lw) (h : sy_ck cc own host ini nL code lw pc 12 x y npc = true) : sy_OK p l e R s m args below meth c Q w A nL pc npc y (sy_load 0 tk x y) := by
  obtain ⟨hx, hb, hml, hown, hts, hlw, hini, hG, hA, hT, hRf, hRl⟩ := hC
  obtain ⟨h, h2⟩ := sy_an2 h
  obtain ⟨h1, hn⟩ := sy_dc_of h
  have hi : ((Fin.ofNat 4 x : Fin 4) : Nat) = x := Nat.mod_eq_of_lt (Nat.lt_succ_of_le (sy_ble h2))
  subst hn
  refine sy_ok_load fun ρ ls st v hv hl H locs cells slots k => ?_
  obtain ⟨z, hz⟩ := sy_vi_ex (w := w) (ρ := ρ) hv
  rw [hz] at hl k
  exact lv_iload_n hx hb h1 hi hl k
theorem sy_r13 (hC : sy_Cx p R s m args meth c w A tk len cc own ini nL lw) (h : sy_ck cc own host ini nL code lw pc 13 x y npc = true) : sy_OK p l e R s m args below meth c Q w A nL pc npc y (sy_load 1 tk x y) := by
  obtain ⟨hx, hb, hml, hown, hts, hlw, hini, hG, hA, hT, hRf, hRl⟩ := hC
  obtain ⟨h1, hn⟩ := sy_dc_of h
  subst hn
  refine sy_ok_load fun ρ ls st v hv hl H locs cells slots k => ?_
  obtain ⟨z, hz⟩ := sy_vl_ex (w := w) (ρ := ρ) hv
  rw [hz] at hl k
  exact lv_lload hx hb h1 hl k
theorem sy_r14 (hC : sy_Cx p R s m args meth c w A tk len cc own ini nL lw) (h : sy_ck cc own host ini nL code lw pc 14 x y npc = true) : sy_OK p l e R s m args below meth c Q w A nL pc npc y (sy_load 1 tk x y) := by
  obtain ⟨hx, hb, hml, hown, hts, hlw, hini, hG, hA, hT, hRf, hRl⟩ := hC
  obtain ⟨h, h2⟩ := sy_an2 h
  obtain ⟨h1, hn⟩ := sy_dc_of h
  have hi : ((Fin.ofNat 4 x : Fin 4) : Nat) = x := Nat.mod_eq_of_lt (Nat.lt_succ_of_le (sy_ble h2))
  subst hn
  refine sy_ok_load fun ρ ls st v hv hl H locs cells slots k => ?_
  obtain ⟨z, hz⟩ := sy_vl_ex (w := w) (ρ := ρ) hv
  rw [hz] at hl k
  exact lv_lload_n hx hb h1 hi hl k
theorem sy_r15 (hC : sy_Cx p R s m args meth c w A tk len cc own ini nL lw) (h : sy_ck cc own host ini nL code lw pc 15 x y npc = true) : sy_OK p l e R s m args below meth c Q w A nL pc npc y (sy_load 2 tk x y) := by
  obtain ⟨hx, hb, hml, hown, hts, hlw, hini, hG, hA, hT, hRf, hRl⟩ := hC
  obtain ⟨h1, hn⟩ := sy_dc_of h
  subst hn
  refine sy_ok_load fun ρ ls st v hv hl H locs cells slots k => ?_
  rcases sy_vr_ex (w := w) (ρ := ρ) hv with hz | ⟨z, hz⟩
  · rw [hz] at hl k
    exact lv_aloadN hx hb h1 hl k
  · rw [hz] at hl k
    exact lv_aload hx hb h1 hl k
theorem sy_r16 (hC : sy_Cx p R s m args meth c w A tk len cc own ini nL lw) (h : sy_ck cc own host ini nL code lw pc 16 x y npc = true) : sy_OK p l e R s m args below meth c Q w A nL pc npc y (sy_load 2 tk x y) := by
  obtain ⟨hx, hb, hml, hown, hts, hlw, hini, hG, hA, hT, hRf, hRl⟩ := hC
  obtain ⟨h, h2⟩ := sy_an2 h
  obtain ⟨h1, hn⟩ := sy_dc_of h
  have hi : ((Fin.ofNat 4 x : Fin 4) : Nat) = x := Nat.mod_eq_of_lt (Nat.lt_succ_of_le (sy_ble h2))
  subst hn
  refine sy_ok_load fun ρ ls st v hv hl H locs cells slots k => ?_
  rcases sy_vr_ex (w := w) (ρ := ρ) hv with hz | ⟨z, hz⟩
  · rw [hz] at hl k
    exact lv_aload_nN hx hb h1 hi hl k
  · rw [hz] at hl k
    exact lv_aload_n hx hb h1 hi hl k
theorem sy_r17 (hC : sy_Cx p R s m args meth c w A tk len cc own ini nL lw) (h : sy_ck cc own host ini nL code lw pc 17 x y npc = true) : sy_OK p l e R s m args below meth c Q w A nL pc npc y (sy_stor 0 tk x y) := by
  obtain ⟨hx, hb, hml, hown, hts, hlw, hini, hG, hA, hT, hRf, hRl⟩ := hC
  obtain ⟨h, h2⟩ := sy_an2 h
  obtain ⟨h1, hn⟩ := sy_dc_of h
  have h3 := sy_ble h2
  subst hn
  refine sy_ok_stor fun ρ H locs cells slots ls st v lv hv hl k => ?_
  obtain ⟨z, hz⟩ := sy_vi_ex (w := w) (ρ := ρ) hv
  rw [hz] at k ⊢
  exact lv_istore hx hb h1 hl h3 rfl k
theorem sy_r18 (hC : sy_Cx p R s m args meth c w A tk len cc own ini nL lw) (h : sy_ck cc own host ini nL code lw pc 18 x y npc = true) : sy_OK p l e R s m args below meth c Q w A nL pc npc y (sy_stor 0 tk x y) := by
  obtain ⟨hx, hb, hml, hown, hts, hlw, hini, hG, hA, hT, hRf, hRl⟩ := hC
  obtain ⟨h, h2⟩ := sy_an2 h
  obtain ⟨h1, hn⟩ := sy_dc_of h
  obtain ⟨h2, h3⟩ := sy_an2 h2
  have hi : ((Fin.ofNat 4 x : Fin 4) : Nat) = x := Nat.mod_eq_of_lt (Nat.lt_succ_of_le (sy_ble h2))
  have h3 := sy_ble h3
  subst hn
  refine sy_ok_stor fun ρ H locs cells slots ls st v lv hv hl k => ?_
  obtain ⟨z, hz⟩ := sy_vi_ex (w := w) (ρ := ρ) hv
  rw [hz] at k ⊢
  exact lv_istore_n hx hb h1 hi hl h3 rfl k
theorem sy_r19 (hC : sy_Cx p R s m args meth c w A tk len cc own ini nL lw) (h : sy_ck cc own host ini nL code lw pc 19 x y npc = true) : sy_OK p l e R s m args below meth c Q w A nL pc npc y (sy_stor2 1 tk x y) := by
  obtain ⟨hx, hb, hml, hown, hts, hlw, hini, hG, hA, hT, hRf, hRl⟩ := hC
  obtain ⟨h, h2⟩ := sy_an2 h
  obtain ⟨h1, hn⟩ := sy_dc_of h
  have h3 := sy_ble h2
  subst hn
  refine sy_ok_stor2 fun ρ H locs cells slots ls st v lv hv hl k => ?_
  obtain ⟨z, hz⟩ := sy_vl_ex (w := w) (ρ := ρ) hv
  rw [hz] at k ⊢
  exact lv_lstore hx hb h1 hl h3 rfl k
theorem sy_r20 (hC : sy_Cx p R s m args meth c w A tk len cc own ini nL lw) (h : sy_ck cc own host ini nL code lw pc 20 x y npc = true) : sy_OK p l e R s m args below meth c Q w A nL pc npc y (sy_stor2 1 tk x y) := by
  obtain ⟨hx, hb, hml, hown, hts, hlw, hini, hG, hA, hT, hRf, hRl⟩ := hC
  obtain ⟨h, h2⟩ := sy_an2 h
  obtain ⟨h1, hn⟩ := sy_dc_of h
  obtain ⟨h2, h3⟩ := sy_an2 h2
  have hi : ((Fin.ofNat 4 x : Fin 4) : Nat) = x := Nat.mod_eq_of_lt (Nat.lt_succ_of_le (sy_ble h2))
  have h3 := sy_ble h3
  subst hn
  refine sy_ok_stor2 fun ρ H locs cells slots ls st v lv hv hl k => ?_
  obtain ⟨z, hz⟩ := sy_vl_ex (w := w) (ρ := ρ) hv
  rw [hz] at k ⊢
  exact lv_lstore_n hx hb h1 hi hl h3 rfl k
theorem sy_r21 (hC : sy_Cx p R s m args meth c w A tk len cc own ini nL lw) (h : sy_ck cc own host ini nL code lw pc 21 x y npc = true) : sy_OK p l e R s m args below meth c Q w A nL pc npc y (sy_stor 2 tk x y) := by
  obtain ⟨hx, hb, hml, hown, hts, hlw, hini, hG, hA, hT, hRf, hRl⟩ := hC
  obtain ⟨h, h2⟩ := sy_an2 h
  obtain ⟨h1, hn⟩ := sy_dc_of h
  have h3 := sy_ble h2
  subst hn
  refine sy_ok_stor fun ρ H locs cells slots ls st v lv hv hl k => ?_
  rcases sy_vr_ex (w := w) (ρ := ρ) hv with hz | ⟨z, hz⟩
  · rw [hz] at k ⊢
    exact lv_astoreN hx hb h1 hl h3 rfl k
  · rw [hz] at k ⊢
    exact lv_astore hx hb h1 hl h3 rfl k
theorem sy_r22 (hC : sy_Cx p R s m args meth c w A tk len cc own ini nL lw) (h : sy_ck cc own host ini nL code lw pc 22 x y npc = true) : sy_OK p l e R s m args below meth c Q w A nL pc npc y (sy_stor 2 tk x y) := by
  obtain ⟨hx, hb, hml, hown, hts, hlw, hini, hG, hA, hT, hRf, hRl⟩ := hC
  obtain ⟨h, h2⟩ := sy_an2 h
  obtain ⟨h1, hn⟩ := sy_dc_of h
  obtain ⟨h2, h3⟩ := sy_an2 h2
  have hi : ((Fin.ofNat 4 x : Fin 4) : Nat) = x := Nat.mod_eq_of_lt (Nat.lt_succ_of_le (sy_ble h2))
  have h3 := sy_ble h3
  subst hn
  refine sy_ok_stor fun ρ H locs cells slots ls st v lv hv hl k => ?_
  rcases sy_vr_ex (w := w) (ρ := ρ) hv with hz | ⟨z, hz⟩
  · rw [hz] at k ⊢
    exact lv_astore_nN hx hb h1 hi hl h3 rfl k
  · rw [hz] at k ⊢
    exact lv_astore_n hx hb h1 hi hl h3 rfl k
theorem sy_r23 (hC : sy_Cx p R s m args meth c w A tk len cc own ini nL lw) (h : sy_ck cc own host ini nL code lw pc 23 x y npc = true) : sy_OK p l e R s m args below meth c Q w A nL pc npc y (sy_stor 3 tk x y) := by
  obtain ⟨hx, hb, hml, hown, hts, hlw, hini, hG, hA, hT, hRf, hRl⟩ := hC
  obtain ⟨h, h2⟩ := sy_an2 h
  obtain ⟨h1, hn⟩ := sy_dc_of h
  have h3 := sy_ble h2
  subst hn
  refine sy_ok_stor fun ρ H locs cells slots ls st v lv hv hl k => ?_
  have hz : sy_v w ρ v = .float (UInt32.ofNat (sy_py v)) := by
    rcases sy_ty_tg hv (by decide) with ⟨q, -⟩ | ⟨q, -⟩ | ⟨q, -⟩ | ⟨-, q⟩ | ⟨q, -⟩
    · cases q
    · cases q
    · cases q
    · exact sy_v2 q
    · cases q
  rw [hz] at k ⊢
  exact lv_fstore hx hb h1 hl h3 rfl k
theorem sy_r24 (hC : sy_Cx p R s m args meth c w A tk len cc own ini nL lw) (h : sy_ck cc own host ini nL code lw pc 24 x y npc = true) : sy_OK p l e R s m args below meth c Q w A nL pc npc y (sy_stor2 4 tk x y) := by
  obtain ⟨hx, hb, hml, hown, hts, hlw, hini, hG, hA, hT, hRf, hRl⟩ := hC
  obtain ⟨h, h2⟩ := sy_an2 h
  obtain ⟨h1, hn⟩ := sy_dc_of h
  have h3 := sy_ble h2
  subst hn
  refine sy_ok_stor2 fun ρ H locs cells slots ls st v lv hv hl k => ?_
  have hz : sy_v w ρ v = .double (UInt64.ofNat (sy_py v)) := by
    rcases sy_ty_tg hv (by decide) with ⟨q, -⟩ | ⟨q, -⟩ | ⟨q, -⟩ | ⟨q, -⟩ | ⟨-, q⟩
    · cases q
    · cases q
    · cases q
    · cases q
    · exact sy_v3 q
  rw [hz] at k ⊢
  exact lv_dstore hx hb h1 hl h3 rfl k
theorem sy_r25 (hC : sy_Cx p R s m args meth c w A tk len cc own ini nL lw) (h : sy_ck cc own host ini nL code lw pc 25 x y npc = true) : sy_OK p l e R s m args below meth c Q w A nL pc npc y (sy_iinc tk x y) := by
  obtain ⟨hx, hb, hml, hown, hts, hlw, hini, hG, hA, hT, hRf, hRl⟩ := hC
  obtain ⟨h, h2⟩ := sy_an2 h
  obtain ⟨h1, hn⟩ := sy_dc_of h
  subst hn
  have h2 := of_decide_eq_true h2
  refine sy_ok_iinc fun ρ H locs cells slots ls st v z lv hl hm hxn hz k => ?_
  obtain ⟨i, hi⟩ := List.getElem?_of_mem hm
  exact lv_iinc hx hb h1 hl hi (by rw [h2, sy_iadd, ← hz]) hxn rfl k
theorem sy_r26 (hC : sy_Cx p R s m args meth c w A tk len cc own ini nL lw) (h : sy_ck cc own host ini nL code lw pc 26 x y npc = true) : sy_OK p l e R s m args below meth c Q w A nL pc npc y (sy_bin 0 (fun a b => Nat.mod (Nat.add a b) 4294967296) tk x y) := by
  obtain ⟨hx, hb, hml, hown, hts, hlw, hini, hG, hA, hT, hRf, hRl⟩ := hC
  obtain ⟨h1, hn⟩ := sy_dc_of h
  subst hn
  refine sy_ok_bin (by decide) (fun a b => Nat.lt_trans (Nat.mod_lt _ (by decide)) (by decide)) fun ρ ls st a b ha hb2 hlt H locs cells slots k => ?_
  rw [sy_v0 (sy_tg_pk (by decide)), sy_py_pk (by decide)] at k
  rw [sy_v0 ha, sy_v0 hb2]
  refine lv_iadd hx hb h1 ?_
  rw [sy_iadd]
  exact k
theorem sy_r27 (hC : sy_Cx p R s m args meth c w A tk len cc own ini nL lw) (h : sy_ck cc own host ini nL code lw pc 27 x y npc = true) : sy_OK p l e R s m args below meth c Q w A nL pc npc y (sy_bin 0 (fun a b => Nat.mod (Nat.sub (Nat.add a 295147905179352825856) b) 4294967296) tk x y) := by
  obtain ⟨hx, hb, hml, hown, hts, hlw, hini, hG, hA, hT, hRf, hRl⟩ := hC
  obtain ⟨h1, hn⟩ := sy_dc_of h
  subst hn
  refine sy_ok_bin (by decide) (fun a b => Nat.lt_trans (Nat.mod_lt _ (by decide)) (by decide)) fun ρ ls st a b ha hb2 hlt H locs cells slots k => ?_
  rw [sy_v0 (sy_tg_pk (by decide)), sy_py_pk (by decide)] at k
  rw [sy_v0 ha, sy_v0 hb2]
  refine lv_isub hx hb h1 ?_
  rw [sy_isub _ _ hlt]
  exact k
theorem sy_r28 (hC : sy_Cx p R s m args meth c w A tk len cc own ini nL lw) (h : sy_ck cc own host ini nL code lw pc 28 x y npc = true) : sy_OK p l e R s m args below meth c Q w A nL pc npc y (sy_bin 0 (fun a b => Nat.mod (Nat.mul a b) 4294967296) tk x y) := by
  obtain ⟨hx, hb, hml, hown, hts, hlw, hini, hG, hA, hT, hRf, hRl⟩ := hC
  obtain ⟨h1, hn⟩ := sy_dc_of h
  subst hn
  refine sy_ok_bin (by decide) (fun a b => Nat.lt_trans (Nat.mod_lt _ (by decide)) (by decide)) fun ρ ls st a b ha hb2 hlt H locs cells slots k => ?_
  rw [sy_v0 (sy_tg_pk (by decide)), sy_py_pk (by decide)] at k
  rw [sy_v0 ha, sy_v0 hb2]
  refine lv_imul hx hb h1 ?_
  rw [sy_imul]
  exact k
theorem sy_r30 (hC : sy_Cx p R s m args meth c w A tk len cc own ini nL lw) (h : sy_ck cc own host ini nL code lw pc 30 x y npc = true) : sy_OK p l e R s m args below meth c Q w A nL pc npc y (sy_bin 1 (fun a b => Nat.mod (Nat.add a b) 18446744073709551616) tk x y) := by
  obtain ⟨hx, hb, hml, hown, hts, hlw, hini, hG, hA, hT, hRf, hRl⟩ := hC
  obtain ⟨h1, hn⟩ := sy_dc_of h
  subst hn
  refine sy_ok_bin (by decide) (fun a b => Nat.lt_trans (Nat.mod_lt _ (by decide)) (by decide)) fun ρ ls st a b ha hb2 hlt H locs cells slots k => ?_
  rw [sy_v1 (sy_tg_pk (by decide)), sy_py_pk (by decide)] at k
  rw [sy_v1 ha, sy_v1 hb2]
  refine lv_ladd hx hb h1 ?_
  rw [sy_ladd]
  exact k
theorem sy_r31 (hC : sy_Cx p R s m args meth c w A tk len cc own ini nL lw) (h : sy_ck cc own host ini nL code lw pc 31 x y npc = true) : sy_OK p l e R s m args below meth c Q w A nL pc npc y (sy_bin 1 (fun a b => Nat.mod (Nat.sub (Nat.add a 295147905179352825856) b) 18446744073709551616) tk x y) := by
  obtain ⟨hx, hb, hml, hown, hts, hlw, hini, hG, hA, hT, hRf, hRl⟩ := hC
  obtain ⟨h1, hn⟩ := sy_dc_of h
  subst hn
  refine sy_ok_bin (by decide) (fun a b => Nat.lt_trans (Nat.mod_lt _ (by decide)) (by decide)) fun ρ ls st a b ha hb2 hlt H locs cells slots k => ?_
  rw [sy_v1 (sy_tg_pk (by decide)), sy_py_pk (by decide)] at k
  rw [sy_v1 ha, sy_v1 hb2]
  refine lv_lsub hx hb h1 ?_
  rw [sy_lsub _ _ hlt]
  exact k
theorem sy_r32 (hC : sy_Cx p R s m args meth c w A tk len cc own ini nL lw) (h : sy_ck cc own host ini nL code lw pc 32 x y npc = true) : sy_OK p l e R s m args below meth c Q w A nL pc npc y (sy_bin 1 (fun a b => Nat.mod (Nat.mul a b) 18446744073709551616) tk x y) := by
  obtain ⟨hx, hb, hml, hown, hts, hlw, hini, hG, hA, hT, hRf, hRl⟩ := hC
  obtain ⟨h1, hn⟩ := sy_dc_of h
  subst hn
  refine sy_ok_bin (by decide) (fun a b => Nat.lt_trans (Nat.mod_lt _ (by decide)) (by decide)) fun ρ ls st a b ha hb2 hlt H locs cells slots k => ?_
  rw [sy_v1 (sy_tg_pk (by decide)), sy_py_pk (by decide)] at k
  rw [sy_v1 ha, sy_v1 hb2]
  refine lv_lmul hx hb h1 ?_
  rw [sy_lmul]
  exact k
theorem sy_r29 (hC : sy_Cx p R s m args meth c w A tk len cc own ini nL lw) (h : sy_ck cc own host ini nL code lw pc 29 x y npc = true) : sy_OK p l e R s m args below meth c Q w A nL pc npc y (sy_iand tk x y) := by
  obtain ⟨hx, hb, hml, hown, hts, hlw, hini, hG, hA, hT, hRf, hRl⟩ := hC
  obtain ⟨h1, hn⟩ := sy_dc_of h
  subst hn
  exact sy_ok_iand hT fun ls st a b H locs cells slots k => lv_iand hx hb h1 k
theorem sy_r33 (hC : sy_Cx p R s m args meth c w A tk len cc own ini nL lw) (h : sy_ck cc own host ini nL code lw pc 33 x y npc = true) : sy_OK p l e R s m args below meth c Q w A nL pc npc y (sy_i2l tk x y) := by
  obtain ⟨hx, hb, hml, hown, hts, hlw, hini, hG, hA, hT, hRf, hRl⟩ := hC
  obtain ⟨h1, hn⟩ := sy_dc_of h
  subst hn
  exact sy_ok_i2l fun ls st a H locs cells slots k => lv_i2l hx hb h1 rfl k
theorem sy_r34 (hC : sy_Cx p R s m args meth c w A tk len cc own ini nL lw) (h : sy_ck cc own host ini nL code lw pc 34 x y npc = true) : sy_OK p l e R s m args below meth c Q w A nL pc npc y (sy_l2i tk x y) := by
  obtain ⟨hx, hb, hml, hown, hts, hlw, hini, hG, hA, hT, hRf, hRl⟩ := hC
  obtain ⟨h1, hn⟩ := sy_dc_of h
  subst hn
  exact sy_ok_l2i fun ls st a H locs cells slots k => lv_l2i hx hb h1 rfl k
theorem sy_r35 (hC : sy_Cx p R s m args meth c w A tk len cc own ini nL lw) (h : sy_ck cc own host ini nL code lw pc 35 x y npc = true) : sy_OK p l e R s m args below meth c Q w A nL pc npc y (sy_i2c tk x y) := by
  obtain ⟨hx, hb, hml, hown, hts, hlw, hini, hG, hA, hT, hRf, hRl⟩ := hC
  obtain ⟨h1, hn⟩ := sy_dc_of h
  subst hn
  exact sy_ok_i2c hT fun ls st a H locs cells slots k => lv_i2c hx hb h1 rfl k
theorem sy_r36 (hC : sy_Cx p R s m args meth c w A tk len cc own ini nL lw) (h : sy_ck cc own host ini nL code lw pc 36 x y npc = true) : sy_OK p l e R s m args below meth c Q w A nL pc npc y (sy_lcmp tk x y) := by
  obtain ⟨hx, hb, hml, hown, hts, hlw, hini, hG, hA, hT, hRf, hRl⟩ := hC
  obtain ⟨h1, hn⟩ := sy_dc_of h
  subst hn
  exact sy_ok_lcmp hT fun ls st a b H locs cells slots k => W.lcmp hx hb h1 k
theorem sy_r37 (hC : sy_Cx p R s m args meth c w A tk len cc own ini nL lw) (h : sy_ck cc own host ini nL code lw pc 37 x y npc = true) : sy_OK p l e R s m args below meth c Q w A nL pc npc y (sy_dup tk x y) := by
  obtain ⟨hx, hb, hml, hown, hts, hlw, hini, hG, hA, hT, hRf, hRl⟩ := hC
  obtain ⟨h1, hn⟩ := sy_dc_of h
  subst hn
  exact sy_ok_dup fun ls st a ha H locs cells slots k => lv_dup hx hb h1 ha k
theorem sy_r38 (hC : sy_Cx p R s m args meth c w A tk len cc own ini nL lw) (h : sy_ck cc own host ini nL code lw pc 38 x y npc = true) : sy_OK p l e R s m args below meth c Q w A nL pc npc y (sy_pop tk x y) := by
  obtain ⟨hx, hb, hml, hown, hts, hlw, hini, hG, hA, hT, hRf, hRl⟩ := hC
  obtain ⟨h1, hn⟩ := sy_dc_of h
  subst hn
  exact sy_ok_pop fun ls st a ha H locs cells slots k => lv_pop hx hb h1 ha k
theorem sy_r39 (hC : sy_Cx p R s m args meth c w A tk len cc own ini nL lw) (h : sy_ck cc own host ini nL code lw pc 39 x y npc = true) : sy_OK p l e R s m args below meth c Q w A nL pc npc y (sy_ifc sy_eq false tk x y) := by
  obtain ⟨hx, hb, hml, hown, hts, hlw, hini, hG, hA, hT, hRf, hRl⟩ := hC
  obtain ⟨h, h2⟩ := sy_an2 h
  obtain ⟨h1, hn⟩ := sy_dc_of h
  subst hn
  have ht : (pc : Int) + ((y : Int) - pc) = (y : Int) := by omega
  exact sy_ok_ifc false (sy_dec_eq hT) fun H locs cells slots ls st a kt kf => lv_if_eq hx hb h1 ht kt kf
theorem sy_r45 (hC : sy_Cx p R s m args meth c w A tk len cc own ini nL lw) (h : sy_ck cc own host ini nL code lw pc 45 x y npc = true) : sy_OK p l e R s m args below meth c Q w A nL pc npc y (sy_icmp sy_eq false tk x y) := by
  obtain ⟨hx, hb, hml, hown, hts, hlw, hini, hG, hA, hT, hRf, hRl⟩ := hC
  obtain ⟨h, h2⟩ := sy_an2 h
  obtain ⟨h1, hn⟩ := sy_dc_of h
  subst hn
  have ht : (pc : Int) + ((y : Int) - pc) = (y : Int) := by omega
  exact sy_ok_icmp false (sy_dec_eq hT) fun H locs cells slots ls st a b kt kf => lv_icmp_eq hx hb h1 ht kt kf
theorem sy_r40 (hC : sy_Cx p R s m args meth c w A tk len cc own ini nL lw) (h : sy_ck cc own host ini nL code lw pc 40 x y npc = true) : sy_OK p l e R s m args below meth c Q w A nL pc npc y (sy_ifc sy_eq true tk x y) := by
  obtain ⟨hx, hb, hml, hown, hts, hlw, hini, hG, hA, hT, hRf, hRl⟩ := hC
  obtain ⟨h, h2⟩ := sy_an2 h
  obtain ⟨h1, hn⟩ := sy_dc_of h
  subst hn
  have ht : (pc : Int) + ((y : Int) - pc) = (y : Int) := by omega
  exact sy_ok_ifc true (sy_dec_eq hT) fun H locs cells slots ls st a kt kf => lv_if_ne hx hb h1 ht kt kf
theorem sy_r46 (hC : sy_Cx p R s m args meth c w A tk len cc own ini nL lw) (h : sy_ck cc own host ini nL code lw pc 46 x y npc = true) : sy_OK p l e R s m args below meth c Q w A nL pc npc y (sy_icmp sy_eq true tk x y) := by
  obtain ⟨hx, hb, hml, hown, hts, hlw, hini, hG, hA, hT, hRf, hRl⟩ := hC
  obtain ⟨h, h2⟩ := sy_an2 h
  obtain ⟨h1, hn⟩ := sy_dc_of h
  subst hn
  have ht : (pc : Int) + ((y : Int) - pc) = (y : Int) := by omega
  exact sy_ok_icmp true (sy_dec_eq hT) fun H locs cells slots ls st a b kt kf => lv_icmp_ne hx hb h1 ht kt kf
theorem sy_r41 (hC : sy_Cx p R s m args meth c w A tk len cc own ini nL lw) (h : sy_ck cc own host ini nL code lw pc 41 x y npc = true) : sy_OK p l e R s m args below meth c Q w A nL pc npc y (sy_ifc sy_lt false tk x y) := by
  obtain ⟨hx, hb, hml, hown, hts, hlw, hini, hG, hA, hT, hRf, hRl⟩ := hC
  obtain ⟨h, h2⟩ := sy_an2 h
  obtain ⟨h1, hn⟩ := sy_dc_of h
  subst hn
  have ht : (pc : Int) + ((y : Int) - pc) = (y : Int) := by omega
  exact sy_ok_ifc false (sy_dec_lt hT) fun H locs cells slots ls st a kt kf => lv_if_lt hx hb h1 ht kt kf
theorem sy_r47 (hC : sy_Cx p R s m args meth c w A tk len cc own ini nL lw) (h : sy_ck cc own host ini nL code lw pc 47 x y npc = true) : sy_OK p l e R s m args below meth c Q w A nL pc npc y (sy_icmp sy_lt false tk x y) := by
  obtain ⟨hx, hb, hml, hown, hts, hlw, hini, hG, hA, hT, hRf, hRl⟩ := hC
  obtain ⟨h, h2⟩ := sy_an2 h
  obtain ⟨h1, hn⟩ := sy_dc_of h
  subst hn
  have ht : (pc : Int) + ((y : Int) - pc) = (y : Int) := by omega
  exact sy_ok_icmp false (sy_dec_lt hT) fun H locs cells slots ls st a b kt kf => lv_icmp_lt hx hb h1 ht kt kf
theorem sy_r42 (hC : sy_Cx p R s m args meth c w A tk len cc own ini nL lw) (h : sy_ck cc own host ini nL code lw pc 42 x y npc = true) : sy_OK p l e R s m args below meth c Q w A nL pc npc y (sy_ifc sy_lt true tk x y) := by
  obtain ⟨hx, hb, hml, hown, hts, hlw, hini, hG, hA, hT, hRf, hRl⟩ := hC
  obtain ⟨h, h2⟩ := sy_an2 h
  obtain ⟨h1, hn⟩ := sy_dc_of h
  subst hn
  have ht : (pc : Int) + ((y : Int) - pc) = (y : Int) := by omega
  exact sy_ok_ifc true (sy_dec_lt hT) fun H locs cells slots ls st a kt kf => lv_if_ge hx hb h1 ht (fun z => kt (Int32_not_lt.mpr z)) (fun z => kf (Classical.not_not.mp fun q => z (Int32_not_lt.mp q)))
theorem sy_r48 (hC : sy_Cx p R s m args meth c w A tk len cc own ini nL lw) (h : sy_ck cc own host ini nL code lw pc 48 x y npc = true) : sy_OK p l e R s m args below meth c Q w A nL pc npc y (sy_icmp sy_lt true tk x y) := by
  obtain ⟨hx, hb, hml, hown, hts, hlw, hini, hG, hA, hT, hRf, hRl⟩ := hC
  obtain ⟨h, h2⟩ := sy_an2 h
  obtain ⟨h1, hn⟩ := sy_dc_of h
  subst hn
  have ht : (pc : Int) + ((y : Int) - pc) = (y : Int) := by omega
  exact sy_ok_icmp true (sy_dec_lt hT) fun H locs cells slots ls st a b kt kf => lv_icmp_ge hx hb h1 ht (fun z => kt (Int32_not_lt.mpr z)) (fun z => kf (Classical.not_not.mp fun q => z (Int32_not_lt.mp q)))
theorem sy_r43 (hC : sy_Cx p R s m args meth c w A tk len cc own ini nL lw) (h : sy_ck cc own host ini nL code lw pc 43 x y npc = true) : sy_OK p l e R s m args below meth c Q w A nL pc npc y (sy_ifc sy_gt false tk x y) := by
  obtain ⟨hx, hb, hml, hown, hts, hlw, hini, hG, hA, hT, hRf, hRl⟩ := hC
  obtain ⟨h, h2⟩ := sy_an2 h
  obtain ⟨h1, hn⟩ := sy_dc_of h
  subst hn
  have ht : (pc : Int) + ((y : Int) - pc) = (y : Int) := by omega
  exact sy_ok_ifc false (sy_dec_gt hT) fun H locs cells slots ls st a kt kf => lv_if_gt hx hb h1 ht kt kf
theorem sy_r49 (hC : sy_Cx p R s m args meth c w A tk len cc own ini nL lw) (h : sy_ck cc own host ini nL code lw pc 49 x y npc = true) : sy_OK p l e R s m args below meth c Q w A nL pc npc y (sy_icmp sy_gt false tk x y) := by
  obtain ⟨hx, hb, hml, hown, hts, hlw, hini, hG, hA, hT, hRf, hRl⟩ := hC
  obtain ⟨h, h2⟩ := sy_an2 h
  obtain ⟨h1, hn⟩ := sy_dc_of h
  subst hn
  have ht : (pc : Int) + ((y : Int) - pc) = (y : Int) := by omega
  exact sy_ok_icmp false (sy_dec_gt hT) fun H locs cells slots ls st a b kt kf => lv_icmp_gt hx hb h1 ht kt kf
theorem sy_r44 (hC : sy_Cx p R s m args meth c w A tk len cc own ini nL lw) (h : sy_ck cc own host ini nL code lw pc 44 x y npc = true) : sy_OK p l e R s m args below meth c Q w A nL pc npc y (sy_ifc sy_gt true tk x y) := by
  obtain ⟨hx, hb, hml, hown, hts, hlw, hini, hG, hA, hT, hRf, hRl⟩ := hC
  obtain ⟨h, h2⟩ := sy_an2 h
  obtain ⟨h1, hn⟩ := sy_dc_of h
  subst hn
  have ht : (pc : Int) + ((y : Int) - pc) = (y : Int) := by omega
  exact sy_ok_ifc true (sy_dec_gt hT) fun H locs cells slots ls st a kt kf => lv_if_le hx hb h1 ht (fun z => kt (Int32_not_lt.mpr z)) (fun z => kf (Classical.not_not.mp fun q => z (Int32_not_lt.mp q)))
theorem sy_r50 (hC : sy_Cx p R s m args meth c w A tk len cc own ini nL lw) (h : sy_ck cc own host ini nL code lw pc 50 x y npc = true) : sy_OK p l e R s m args below meth c Q w A nL pc npc y (sy_icmp sy_gt true tk x y) := by
  obtain ⟨hx, hb, hml, hown, hts, hlw, hini, hG, hA, hT, hRf, hRl⟩ := hC
  obtain ⟨h, h2⟩ := sy_an2 h
  obtain ⟨h1, hn⟩ := sy_dc_of h
  subst hn
  have ht : (pc : Int) + ((y : Int) - pc) = (y : Int) := by omega
  exact sy_ok_icmp true (sy_dec_gt hT) fun H locs cells slots ls st a b kt kf => lv_icmp_le hx hb h1 ht (fun z => kt (Int32_not_lt.mpr z)) (fun z => kf (Classical.not_not.mp fun q => z (Int32_not_lt.mp q)))
theorem sy_r51 (hC : sy_Cx p R s m args meth c w A tk len cc own ini nL lw) (h : sy_ck cc own host ini nL code lw pc 51 x y npc = true) : sy_OK p l e R s m args below meth c Q w A nL pc npc y (sy_acmp false tk x y) := by
  obtain ⟨hx, hb, hml, hown, hts, hlw, hini, hG, hA, hT, hRf, hRl⟩ := hC
  obtain ⟨h, h2⟩ := sy_an2 h
  obtain ⟨h1, hn⟩ := sy_dc_of h
  subst hn
  have ht : (pc : Int) + ((y : Int) - pc) = (y : Int) := by omega
  exact sy_ok_acmp false fun H locs cells slots ls st a b kt kf => lv_acmp_eq hx hb h1 ht kt kf
theorem sy_r52 (hC : sy_Cx p R s m args meth c w A tk len cc own ini nL lw) (h : sy_ck cc own host ini nL code lw pc 52 x y npc = true) : sy_OK p l e R s m args below meth c Q w A nL pc npc y (sy_acmp true tk x y) := by
  obtain ⟨hx, hb, hml, hown, hts, hlw, hini, hG, hA, hT, hRf, hRl⟩ := hC
  obtain ⟨h, h2⟩ := sy_an2 h
  obtain ⟨h1, hn⟩ := sy_dc_of h
  subst hn
  have ht : (pc : Int) + ((y : Int) - pc) = (y : Int) := by omega
  exact sy_ok_acmp true fun H locs cells slots ls st a b kt kf => lv_acmp_ne hx hb h1 ht kt kf
theorem sy_r53 (hC : sy_Cx p R s m args meth c w A tk len cc own ini nL lw) (h : sy_ck cc own host ini nL code lw pc 53 x y npc = true) : sy_OK p l e R s m args below meth c Q w A nL pc npc y (sy_nul false tk x y) := by
  obtain ⟨hx, hb, hml, hown, hts, hlw, hini, hG, hA, hT, hRf, hRl⟩ := hC
  obtain ⟨h, h2⟩ := sy_an2 h
  obtain ⟨h1, hn⟩ := sy_dc_of h
  subst hn
  have ht : (pc : Int) + ((y : Int) - pc) = (y : Int) := by omega
  exact sy_ok_nul false (fun ls st a H locs cells slots k => lv_ifnull hx hb h1 k) (fun ls st H locs cells slots k => lv_ifnullN hx hb h1 ht k)
theorem sy_r54 (hC : sy_Cx p R s m args meth c w A tk len cc own ini nL lw) (h : sy_ck cc own host ini nL code lw pc 54 x y npc = true) : sy_OK p l e R s m args below meth c Q w A nL pc npc y (sy_nul true tk x y) := by
  obtain ⟨hx, hb, hml, hown, hts, hlw, hini, hG, hA, hT, hRf, hRl⟩ := hC
  obtain ⟨h, h2⟩ := sy_an2 h
  obtain ⟨h1, hn⟩ := sy_dc_of h
  subst hn
  have ht : (pc : Int) + ((y : Int) - pc) = (y : Int) := by omega
  exact sy_ok_nul true (fun ls st a H locs cells slots k => lv_ifnonnull hx hb h1 ht k) (fun ls st H locs cells slots k => lv_ifnonnullN hx hb h1 k)
theorem sy_r55 (hC : sy_Cx p R s m args meth c w A tk len cc own ini nL lw) (h : sy_ck cc own host ini nL code lw pc 55 x y npc = true) : sy_OK p l e R s m args below meth c Q w A nL pc npc y (sy_goto tk x y) := by
  obtain ⟨hx, hb, hml, hown, hts, hlw, hini, hG, hA, hT, hRf, hRl⟩ := hC
  obtain ⟨h1, h2⟩ := sy_an2 h
  have h1 := sy_dt_of h1
  have ht : (pc : Int) + ((y : Int) - pc) = (y : Int) := by omega
  exact sy_ok_goto fun ls st H locs cells slots k => lv_goto hx hb h1 ht k
end SYZ1
