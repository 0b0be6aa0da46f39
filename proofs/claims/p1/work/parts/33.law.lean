/-! THE CLAIM OUT OF ONE WALK OF THE LAW'S BODY. Your part is whole_start (and what it stands on); all else here is the same for every law, but numbers. -/
def R_law : String := "ManypensLaw"
def lw_P (b : Addr) (xs : List Int32) (args : Array Value) (s : State) : Prop := args = #[.ref b] ∧ s.IntsAt b xs ∧ xs.length ≤ 7 ∧ (Jvm.Cond.and given_1 narrow_1).before args s = true
/-- what a walk over the start with the record d0 says of its end, said of the start itself -/
theorem lw_closed {s t : State} {o : Outcome} {d0 : Drawn} {L : List Loc} {k n : Nat} (hd0 : s.drawn.sameBut d0 lw_cs) (hv : ∃ v, o = .returned v) (hW : (s.setDrawn d0).WarmedH t.vm) (hs : (s.setDrawn d0).sameButNew ({ t with vm := s.vm } : State) L k n) : State.butDraws s t lw_cs (fun t1 => Framed s o t1 L k n) := by
  have h2 : t.drawn = d0 := congrArg State.drawn hs.1
  refine ⟨⟨hv, hW, State.sameButNew.setDrawn hs s.drawn⟩, ?_, by decide⟩
  rw [h2]
  exact hd0
def lw_Q (_ : Array Value) (s : State) (o : Outcome) (t : State) : Prop := o = .returned (some (.int 1)) ∧ State.butDraws s t lw_cs (fun t1 => Framed s o t1 [] 600006 7302064)
def lw_Z (below : List Frame) (a : Array Value) (s : State) : State → Prop := fun t => ∃ o, t.status = .running ∧ Ended t below o ∧ lw_Q a s o t
/-- the law's own end, with 1 on the stack, nothing written that was there before, its room as the claim has it; d0: the record of draws at this point (at the entry s.drawn: begin with 'refine W.base ?_' and 'have hd0 := Drawn.sameBut.refl s.drawn lw_cs') -/
theorem lw_ret {p : Program} {l : Launch} {e : Env} {s : State} {m : MethodId} {below : List Frame} {meth : Method} {c : Code} {b : Nat} {d0 : Drawn} (hd0 : s.drawn.sameBut d0 lw_cs) (hx : p.tables.exec = Jvm.exec) (hb : c.code = code) (hr : meth.sig.returnType = ret) (hlocks : meth.locks = false) {pc : Nat} {H : Heap} {ls : Array Slot} (hdg : decode code pc = .ok (.ireturn, 1)) : W p l e room_1 (s.setDrawn d0) m #[Value.ref b] below meth c H [] 600006 7302064 (lw_Z below #[Value.ref b] s) (F0 m pc ls [.int 1]) := by
  intro T hT X
  obtain ⟨fs, hret, hrun, hended, hW, hframe⟩ := X.leave (v := some (.int 1)) (hlocks := hlocks) (fun h => by rw [hr] at h; cases h)
  have hmeth' : T.vm.method? m = some meth := X.method'
  refine ⟨T.setFrames fs, ?_, .returned (some (.int 1)), hrun, hended, rfl, lw_closed hd0 ⟨_, rfl⟩ hW hframe⟩
  jvm_step X.here [X.here.top, hx, hb, hdg, hmeth', hr, ret, narrow_b1]
  (try refine ⟨rfl, ?_⟩); (try refine ⟨rfl, ?_⟩)
  first | (intro acts; rw [hret _ acts rfl rfl rfl]) | rw [hret _ _ rfl rfl rfl]
  exact Steps.refl _
/-- what holds at the law's entry: the machine, the code, the tables' words (any of lw_tbl by 'hts w (by decide +kernel)'), the script of L ints xs at the cell b, what the Statement gives of the start (any of its parts by flat_of_before) -/
def lw_At (p : Program) (s : State) (m : MethodId) (meth : Method) (c : Code) (b L : Nat) (xs : Nat → Int32) : Prop :=
  p.tables.exec = Jvm.exec ∧ c.code = code ∧ meth.sig.returnType = ret ∧ c.maxLocals = 9 ∧ s.vm.findClass R_law = some m.cls ∧ (∀ w ∈ lw_tbl, w.before #[Value.ref b] s = true) ∧ va_X b L xs s s.heap ∧ b < s.heap.size ∧ meth.locks = false ∧ (Jvm.Cond.and given_1 narrow_1).before #[Value.ref b] s = true
theorem sy_seek_ok {i : Nat} (pc : Nat) : ∀ l : List sy_E, sy_ckl i l = true → sy_ckl i (sy_seek l pc) = true ∧ (sy_seek l pc = [] ∨ (sy_nth sy_e0 (sy_seek l pc) 0).1 = pc)
  | [], _ => ⟨rfl, Or.inl rfl⟩
  | e :: k, h => by
    show sy_ckl i (cond (Nat.beq e.1 pc) (e :: k) (sy_seek k pc)) = true ∧ (cond (Nat.beq e.1 pc) (e :: k) (sy_seek k pc) = [] ∨ (sy_nth sy_e0 (cond (Nat.beq e.1 pc) (e :: k) (sy_seek k pc)) 0).1 = pc)
    cases hb : Nat.beq e.1 pc with
    | true => exact ⟨h, Or.inr (sy_beq hb)⟩
    | false => exact sy_seek_ok pc k (sy_and h).2
theorem sy_lists : ∀ K, K < 64 → K = 6 ∨ K ∈ [0, 1, 2, 3, 4, 5] ∨ K ∈ [7, 8, 9, 10, 11, 12, 13, 14, 15, 16, 17, 18, 19, 20] ∨ K ∈ [21, 22, 23, 24, 25, 26, 27, 28] ∨ K ∈ [29, 30, 31] ∨ K ∈ [32, 33, 34] ∨ K ∈ [35, 36] ∨ K ∈ [37, 38, 39, 40, 41, 42] ∨ K ∈ [43] ∨ K ∈ [44, 45, 46, 47, 48, 49, 50, 51, 52, 53, 54, 55, 56, 57, 58, 59, 60, 61, 62, 63] := by decide
theorem sy_six6_TK {τ : Nat → Int32} (h : sy_TK (sy_tkK 6) τ) {lo hi : Nat} (h1 : lo ≤ sy_k (τ 1)) (h2 : sy_k (τ 1) ≤ hi) : sy_TK (sy_six6 lo hi) τ := by
  intro j
  unfold sy_six6
  rw [sy_tok_put]
  by_cases hj : 1 = j
  · subst hj
    rw [if_pos rfl]
    exact ⟨fun _ => ⟨h1, h2⟩, fun q => (by cases q), fun q => (by cases q)⟩
  · rw [if_neg hj]
    exact h j
theorem sy_fine_all (xs : Nat → Int32) : sy_fine (sy_first 7) xs := by
  obtain ⟨K, hK, hxK⟩ := sy_six (xs 0)
  have hTK := sy_TK_K hK hxK
  rcases sy_lists K hK with h | h | h | h | h | h | h | h | h | h
  · subst h
    have hm := sy_k_max (xs 1)
    by_cases c0 : sy_k (xs 1) ≤ 2147483647
    · exact sy_al_ok _ _ sy_cm0 (sy_six6_TK hTK (Nat.zero_le _) c0)
    by_cases c1 : sy_k (xs 1) ≤ 2147483648
    · exact sy_al_ok _ _ sy_cm1 (sy_six6_TK hTK (by omega) c1)
    by_cases c2 : sy_k (xs 1) ≤ 2147483649
    · exact sy_al_ok _ _ sy_cm2 (sy_six6_TK hTK (by omega) c2)
    by_cases c3 : sy_k (xs 1) ≤ 2147483650
    · exact sy_al_ok _ _ sy_cm3 (sy_six6_TK hTK (by omega) c3)
    by_cases c4 : sy_k (xs 1) ≤ 2147483651
    · exact sy_al_ok _ _ sy_cm4 (sy_six6_TK hTK (by omega) c4)
    by_cases c5 : sy_k (xs 1) ≤ 2147483652
    · exact sy_al_ok _ _ sy_cm5 (sy_six6_TK hTK (by omega) c5)
    · exact sy_al_ok _ _ sy_cm6 (sy_six6_TK hTK (by omega) hm)
  · exact sy_al_ok _ _ (sy_cas_of _ sy_ca0 K h) hTK
  · exact sy_al_ok _ _ (sy_cas_of _ sy_ca7 K h) hTK
  · exact sy_al_ok _ _ (sy_cas_of _ sy_ca21 K h) hTK
  · exact sy_al_ok _ _ (sy_cas_of _ sy_ca29 K h) hTK
  · exact sy_al_ok _ _ (sy_cas_of _ sy_ca32 K h) hTK
  · exact sy_al_ok _ _ (sy_cas_of _ sy_ca35 K h) hTK
  · exact sy_al_ok _ _ (sy_cas_of _ sy_ca37 K h) hTK
  · exact sy_al_ok _ _ (sy_cas_of _ sy_ca43 K h) hTK
  · exact sy_al_ok _ _ (sy_cas_of _ sy_ca44 K h) hTK
theorem sy_TK_nil (τ : Nat → Int32) : sy_TK [] τ := fun _ => ⟨fun q => (by cases q), fun q => (by cases q), fun q => (by cases q)⟩
theorem sy_room1 {X : sy_X} (h : Nat.ble X.2.2.2.2.2.1 600006 = true) : X.2.2.2.2.2.1 ≤ room_1.cells := Nat.le_trans (sy_ble h) (Nat.le_of_eq (show 600006 = room_1.cells from rfl))
theorem sy_room2 {X : sy_X} (h : Nat.ble X.2.2.2.2.2.2 7302064 = true) : X.2.2.2.2.2.2 ≤ room_1.slots := Nat.le_trans (sy_ble h) (Nat.le_of_eq (show 7302064 = room_1.slots from rfl))
theorem sy_rm1 : 600006 = room_1.cells := rfl
theorem sy_rm2 : 7302064 = room_1.slots := rfl
theorem sy_ne0 {a b : Nat} (h : a = Nat.succ b) : a ≠ 0 := fun q => Nat.succ_ne_zero b (h.symm.trans q)
theorem sy_first_eq (len : Nat) : sy_run [] len 100000 12 (sy_meth 0) (sy_meth 0).1 (sy_args [9] 0 0) [] sy_heap0 0 0 = sy_first len := (sy_first.eq_1 len).symm
theorem sy_next_eq (tk : sy_T) (X : sy_X) : sy_run tk 7 100000 12 (sy_meth 0) (sy_seek (sy_meth 0).1 X.2.1) X.2.2.1 X.2.2.2.1 X.2.2.2.2.1 X.2.2.2.2.2.1 X.2.2.2.2.2.2 = sy_next tk X := (sy_next.eq_1 tk X).symm
theorem whole_start {p : Program} {e : Env} {s : State} {m : MethodId} {below : List Frame} {meth : Method} {c : Code} (l : Launch) (hflags : l.flags = flags0) {b L : Nat} {xs : Nat → Int32} (hL : L ≤ 7) (C0 : lw_At p s m meth c b L xs) : W p l e room_1 s m #[Value.ref b] below meth c s.heap [] 0 0 (lw_Z below #[Value.ref b] s) (entryFrame m ([Value.ref b] : List Value).toArray 9) := by
  obtain ⟨hx, hb, hr, hml, hown, hts, hX, hbl, hlocks, hgv⟩ := id C0
  have hl : l.stackTraces = false := by
    unfold Launch.stackTraces
    rw [hflags]
    decide
  obtain ⟨D, cA, hK⟩ := sy_K0 hts
  have hA : ∀ q : Nat, s.heap.size ≤ q → (fun q : Nat => s.heap.size ≤ q) q := fun _ h => h
  have hGA : sy_GA (D, cA, xs, b) L (fun q : Nat => s.heap.size ≤ q) s s.heap := sy_GA0 hts hgv (hK xs b) hX hbl hL
  have hCt : ∀ tk, sy_TK tk xs → sy_Ct l p room_1 s m #[Value.ref b] meth c (D, cA, xs, b) (fun q : Nat => s.heap.size ≤ q) tk L 0 12 := fun tk hT =>
    ⟨hx, hb, hml, hown, fun u hu => hts u (List.mem_filter.mp hu).1, fun q => absurd q (by decide), hGA, hA, hT, hlocks, hr, fun q => absurd rfl q, by decide, by decide, hl, sy_gd2_of sy_law2, sy_law3, sy_law1⟩
  have hd0 := Drawn.sameBut.refl s.drawn lw_cs
  have hlv := lv_entry ([.ref b]) (n := 9) (Nat.le_of_ble_eq_true rfl)
  rw [lg_entry_eq]
  generalize (lg_sl ([.ref b]) ++ List.replicate (9 - (lg_sl ([.ref b])).length) Slot.unset).toArray = ls at hlv ⊢
  have hlv : lv_has ls 9 (lv_args 0 ([9].map (sy_v (D, cA, xs, b) (fun _ => 0)))) := hlv
  have hLP : sy_LP (D, cA, xs, b) (fun _ => 0) (sy_il 0) 0 (sy_args [9] 0 0) ls := sy_LP_entry (fun v hv => by
    rcases List.mem_cons.mp hv with rfl | hv
    · exact ⟨by decide, fun q => absurd q (by decide)⟩
    · cases hv) hlv
  have hHP : sy_HP (D, cA, xs, b) (fun q : Nat => s.heap.size ≤ q) s.heap (fun _ => 0) sy_heap0 s.heap [] :=
    ⟨fun k q hk => (by cases hk), ⟨fun i j p q hp => (by cases hp), fun k q hk => (by cases hk)⟩, va_S.rf, Nat.zero_le _, fun i hi => absurd hi (Nat.not_lt_zero _)⟩
  have fin : ∀ (X : sy_X) (n : Nat) (ρ : Nat → Nat), X.1 = 4 → X.2.1 = 16 → X.2.2.2.2.2.1 ≤ 600006 → X.2.2.2.2.2.2 ≤ 7302064 → sy_En p l e room_1 s m #[Value.ref b] below meth c (lw_Z below #[Value.ref b] s) (D, cA, xs, b) (fun q : Nat => s.heap.size ≤ q) 0 n ρ X := by
    intro X n ρ f4 f16 fc fs ρ' H' locs' ls' pc' ha hn hH hsz
    refine ⟨fun h => by omega, fun _ hv y hy hok hd => ?_, fun h => by omega, fun h => by omega, fun h => by omega⟩
    have hy5 : y = 5 := (Option.some.inj (show some 5 = some y from hy)).symm
    subst hy5
    rw [f16]
    refine va_forget (fun q hq => hH.2.2.1.2.2 q hq) ?_
    refine W.widen fc fs ?_
    exact lw_ret (d0 := s.drawn) hd0 hx hb hr hlocks hd
  by_cases hL7 : L = 7
  · subst hL7
    obtain ⟨tk, hTk, f4, f16, fc, fs⟩ := sy_fine_all xs
    obtain ⟨k8, kk⟩ := sy_and sy_first7
    obtain ⟨kc, ks⟩ := sy_and kk
    have k8 := sy_beq k8
    refine sy_sound hl (sy_TK_nil _) sy_ok_all 100000 12 0 (sy_meth 0).1 (sy_args [9] 0 0) [] sy_heap0 0 0 (sy_first 7) (by decide) sy_law1 (sy_first_eq 7) (sy_ne0 k8) p e room_1 s m _ below meth c _ _ (hCt [] (sy_TK_nil _)) (sy_room1 kc) (sy_room2 ks) (fun _ => 0) s.heap [] ls [] hHP hLP ⟨rfl, fun v hv => nomatch hv⟩ ?_
    intro ρ' H' locs' ls' pc' ha hn hH hsz
    refine ⟨fun h => by omega, fun h => by omega, fun h => by omega, fun h => by omega, fun _ stC hLP' hSP' => ?_⟩
    obtain ⟨g1, g2⟩ := sy_seek_ok (i := 0) (sy_first 7).2.1 (sy_meth 0).1 sy_law1
    have K := sy_sound hl hTk sy_ok_all 100000 12 0 (sy_seek (sy_meth 0).1 (sy_first 7).2.1) (sy_first 7).2.2.1 (sy_first 7).2.2.2.1 (sy_first 7).2.2.2.2.1 (sy_first 7).2.2.2.2.2.1 (sy_first 7).2.2.2.2.2.2 (sy_next tk (sy_first 7)) (by decide) g1 (sy_next_eq tk (sy_first 7)) (sy_ne0 f4) p e room_1 s m _ below meth c _ _ (hCt tk hTk) (Nat.le_trans fc (Nat.le_of_eq sy_rm1)) (Nat.le_trans fs (Nat.le_of_eq sy_rm2)) ρ' H' locs' ls' stC hH hLP' hSP' (fin _ _ _ f4 f16 fc fs)
    rcases g2 with g2 | g2
    · exfalso
      have h0 : (sy_next tk (sy_first 7)).1 = 0 := by
        unfold sy_next
        rw [g2]
        rfl
      omega
    · rw [g2] at K
      exact K
  · have hs := sy_rg_of _ sy_shortr L (by omega)
    rw [Nat.zero_add] at hs
    obtain ⟨k4, kk⟩ := sy_and hs
    obtain ⟨k16, kk⟩ := sy_and (kk : cond (Nat.beq (sy_first L).2.1 16) (cond (Nat.ble (sy_first L).2.2.2.2.2.1 600006) (Nat.ble (sy_first L).2.2.2.2.2.2 7302064) false) false = true)
    obtain ⟨kc, ks⟩ := sy_and kk
    have k4 := sy_beq k4
    exact sy_sound hl (sy_TK_nil _) sy_ok_all 100000 12 0 (sy_meth 0).1 (sy_args [9] 0 0) [] sy_heap0 0 0 (sy_first L) (by decide) sy_law1 (sy_first_eq L) (sy_ne0 k4) p e room_1 s m _ below meth c _ _ (hCt [] (sy_TK_nil _)) (sy_room1 kc) (sy_room2 ks) (fun _ => 0) s.heap [] ls [] hHP hLP ⟨rfl, fun v hv => nomatch hv⟩ (fin _ _ _ k4 (sy_beq k16) (sy_ble kc) (sy_ble ks))
-- ===== YOUR PART ENDS =====
set_option maxHeartbeats 4000000 in
theorem lw_walk (l : Launch) (hflags : l.flags = flags0) (b : Addr) (xs : List Int32) : MetFree l x (headSpec (Jvm.Cond.code x code maxLocals ret :: tables_1) room_1) (lw_P b xs) (fun _ _ _ _ _ => True) lw_Q := by
  refine MetFree.of_bodyS (code := code) (maxLocals := maxLocals) (ret := ret) (by decide) ?_ ?_
  · intro args s m h hn
    obtain ⟨meth, c, h1, h2, h3, h4, h5, h6, -, -⟩ := Cond.code_spec hn (atoms_spec (ws := Jvm.Cond.code x code maxLocals ret :: tables_1) h _ List.mem_cons_self)
    exact ⟨meth, c, h1, h2, h3, h4, h5, h6⟩
  · intro p e s m args below meth c s₁ B hml0 hP _
    obtain ⟨rfl, hx, hbd, hgv⟩ := hP
    obtain ⟨scr, harrAt, hlist, hof, hsmall⟩ := hx
    obtain ⟨hcb, hkn, -, -⟩ := State.arrayAt?_spec harrAt
    have hown : s.vm.findClass R_law = some m.cls := findClass_of_methodNamed B.named
    have hts0 : ∀ c ∈ (Jvm.Cond.code x code maxLocals ret :: tables_1), c.before #[Value.ref b] s = true := atoms_spec (ws := Jvm.Cond.code x code maxLocals ret :: tables_1) B.pre
    have hts : ∀ w ∈ lw_tbl, w.before #[Value.ref b] s = true := k2_hts_sels lw_privs (fun w hw => hts0 w (List.mem_cons_of_mem _ hw)) lw_privs_ok
    have hml : c.maxLocals = 9 := B.maxLocals_eq (hts0 _ List.mem_cons_self)
    have X₀ : Stand p l e room_1 s m #[Value.ref b] below meth c s₁ [] 0 0 := Stand.of_body B
    have hh0 : s₁.heap = s.heap := by rw [B.state]; rfl
    have hsz : scr.slots.size = xs.length := by rw [← Array.length_toList, hlist, List.length_map]
    have hval : ∀ j : Nat, j < xs.length → scr.slots[j]? = some (.int (xs.getD j 0)) := fun j hj => by
      rw [← Array.getElem?_toList, hlist]
      simp [hj]
    have hbl : b < s.heap.size := (Array.getElem?_eq_some_iff.mp hcb).1
    have hX : va_X b xs.length (fun j => xs.getD j 0) s s.heap := ⟨scr, hcb, hof, hkn, hsz, hval⟩
    have K : W p l e room_1 s m #[Value.ref b] below meth c s₁.heap [] 0 0 (lw_Z below #[Value.ref b] s) (entryFrame m ([Value.ref b] : List Value).toArray 9) := by
      rw [hh0]
      exact whole_start l hflags hbd ⟨B.exec, B.bytes, B.returns, hml, hown, hts, hX, hbl, B.notSynchronized, hgv⟩
    obtain ⟨t, a1, o, b1, b2, b3⟩ := K s₁ rfl X₀
    exact ⟨t, o, a1, b1, b2, b3⟩
theorem lw_pre_spec {args : Array Value} {s : State} (h : (Jvm.Cond.and given_1 narrow_1).before args s = true) (hr : rest_1_c.before args s = true) : ∃ (b : Addr) (xs : List Int32), lw_P b xs args s := by
  have hs := flat_of_before _ h
  have hq := flat_of_before _ hr
  have hc : (Cond.count 1).before args s = true := hs _ (by decide +kernel)
  have harr : (Cond.arrayOf (.arg 0) .int).before args s = true := hs _ (by decide +kernel)
  have hle : (Cond.le (.length (.arg 0)) (.int 7)).before args s = true := hs _ (by decide +kernel)
  have hlen : (Cond.isInt (.length (.arg 0))).before args s = true := hq _ (by decide +kernel)
  have hall : (Cond.all (.arg 0) (.isInt (.elem (.arg 0) (.index 0)))).before args s = true := hq _ (by decide +kernel)
  obtain ⟨b, xs, hb, hx⟩ := State.ints_of_pre rfl harr hlen hall
  have hsm : xs.length < 2 ^ 31 := hx.choose_spec.2.2.2
  have hev : (Term.length (.arg 0)).eval args s none [] s = some (.int xs.length.toInt32) := hx.length_eval hb
  have hv := Cond.le_ints hev (show (Term.int 7).eval args s none [] s = some (.int 7) from rfl)
  have hd : xs.length.toInt32 ≤ 7 := by
    simpa [Cond.before, Cond.holds, hv] using hle
  have hN : xs.length ≤ 7 := (Int32.ofNat_le_ofNat hsm (by decide)).mp (show Int32.ofNat xs.length ≤ Int32.ofNat 7 from hd)
  exact ⟨b, xs, Cond.one_arg hc (show args[0]? = some (.ref b) from hb), hx, hN, h⟩
theorem lw_comes (l : Launch) (hflags : l.flags = flags0) : Comes l x (Jvm.Cond.code x code maxLocals ret :: tables_1) room_1 (fun tb e args s => Calls_1 tb e args s ∧ rest_1 tb e args s ∧ Pre_1 tb e args s)
    (fun _ _ args s o t => lw_Q args s o t) := by
  intro p e ha hc hk s m args below hf hfit hheap happ hpre
  obtain ⟨b, xs, hP⟩ := lw_pre_spec hpre.2.2 hpre.2.1
  obtain ⟨k, o, h1, h2, h3, hQ⟩ := lw_walk l hflags b xs p e ha hc hk s m args below hf ((Spec.applies_iff_loose hf).mp happ).1 hP trivial
  exact ⟨k, o, h1, h2, h3, hQ⟩
theorem lw_frame {s t : State} {o : Outcome} {args : Array Value} (h : State.butDraws s t lw_cs (fun t1 => Framed s o t1 [] 600006 7302064)) :
    State.butDraws s t [Jvm.Choice.named "NaN.bits"] (fun t1 => Framed s o t1 (fieldLocs frame_1_writes args s ++ arrayLocs frame_1_arrays args s ++ staticLocs frame_1_statics s) 600006 7302064) := h
theorem lw_limb (L : Cond) (hL : ∀ (args : Array Value) (s t : State), L.after args s (.returned (some (.int 1))) t = true) :
    ArmFor flags0 classFile x code maxLocals ret World_1 tables_1 room_1 Calls_1 rest_1 Pre_1
      (fun tb e a s o t => postC L tb e a s o t ∧ State.butDraws s t [Jvm.Choice.named "NaN.bits"] (fun t1 => Framed s o t1 (fieldLocs frame_1_writes a s ++ arrayLocs frame_1_arrays a s ++ staticLocs frame_1_statics s) 600006 7302064)) := by
  intro l hflags _ _ p e ha hc hk s m args below hf hfit hheap happ hpre
  obtain ⟨k, o, h1, h2, h3, rfl, hF⟩ := lw_comes l hflags p e ha hc hk s m args below hf hfit hheap happ hpre
  exact ⟨k, _, h1, h2, h3, hL args s _, lw_frame hF⟩
theorem i_vc : Claimed_1_1 ∧ Claimed_1_2 := ⟨lw_limb limb_1_1 (fun args s t => by simp [limb_1_1, Cond.after, Cond.holds, Cond.value]), lw_limb limb_1_2 (fun args s t => Cond.after_iff.mpr (by
  first | (rw [show limb_1_2 = Cond.eq .result (.int 1) from rfl, Cond.eq_ints (x := 1) (y := 1) rfl rfl]; simp; done) | (simp [limb_1_2, Cond.value, Term.eval]; done)))⟩
