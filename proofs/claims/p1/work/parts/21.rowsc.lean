/-! every checked place, by its number -/
section SYZ3
variable {p : Program} {l : Launch} {e : Env} {R : Room} {s : State} {m : MethodId} {args : Array Value} {below : List Frame} {meth : Method} {c : Code} {Q : State → Prop} {w : sy_Wd} {A : Nat → Prop} {tk : sy_T} {len : Nat} {cc : ByteArray} {own host : String} {ini : Bool} {nL : Nat} {code : List sy_E} {lw : List Cond} {pc x y npc : Nat}
theorem sy_catsum {ρ : Nat → Nat} : ∀ q : List Nat, ((q.map (sy_v w ρ)).map fun v => v.category).sum = sy_cats q
  | [] => rfl
  | v :: q => by
    show (sy_v w ρ v).category + ((q.map (sy_v w ρ)).map fun v => v.category).sum = sy_ct v + sy_cats q
    rw [sy_catsum q, sy_ct_cat']
theorem sy_r91 (hC : sy_Cx p R s m args meth c w A tk len cc own ini nL lw) (h : sy_ck cc own host ini nL code lw pc 91 x y npc = true) : sy_OK p l e R s m args below meth c Q w A nL pc npc y (sy_obin tk x y) := by
  obtain ⟨hx, hb, hml, hown, hts, hlw, hini, hG, hA, hT, hRf, hRl⟩ := hC
  obtain ⟨g, h2⟩ := sy_an2 h
  obtain ⟨h1, hn⟩ := sy_dc_of g
  obtain ⟨h3, h4⟩ := sy_an2 h2
  obtain ⟨h4, h5⟩ := sy_an2 h4
  subst hn
  intro L st h cells slots Y hY hk hc hsl ρ H locs ls stC hH hL hS kk
  have hk0 : Y.1 ≠ 0 := by omega
  obtain ⟨a, r, e1, q1⟩ := sy_p1_inv hY hk0
  subst e1
  obtain ⟨hS1, hva, hr⟩ := sy_SPc hS
  subst hS1
  obtain ⟨h6, h7⟩ := sy_if_inv q1 hk0
  obtain ⟨h6, h8⟩ := sy_and h6
  subst h7
  rw [sy_v5 (sy_beq h6)]
  have h8 := sy_ble h8
  refine W.objInit hx hb hown (hts _ (hlw _ (of_decide_eq_true h3))) (hts _ (hlw _ (of_decide_eq_true h4))) (hts _ (hlw _ (of_decide_eq_true h5))) rfl (by rw [hml]; exact hL.1) rfl h1 (by omega) ?_ (kk ρ H locs ls _ sy_ag.rf (Nat.le_refl _) hH hL ⟨rfl, hr⟩)
  rw [sy_catsum]
  show 2 * (F0 m pc ls _).monitorRoom + _ + 12 ≤ _
  have e : (F0 m pc ls (.ref (ρ (sy_py a)) :: r.map (sy_v w ρ))).monitorRoom = 0 := rfl
  rw [e]
  omega
theorem sy_ok_vac {npc tpc : Nat} {f : Nat → List Nat → sy_H → Nat → Nat → sy_X} (hf : ∀ L st h c s, (f L st h c s).1 ≠ 1 ∧ (f L st h c s).1 ≠ 2) : sy_OK p l e R s m args below meth c Q w A nL pc npc tpc f := by
  intro L st h cells slots Y hY hk
  subst hY
  exact absurd hk (fun q => q.elim (hf _ _ _ _ _).1 (hf _ _ _ _ _).2)
theorem sy_ret_k {x y L c s : Nat} {st : List Nat} {h : sy_H} : (sy_ret tk x y L st h c s).1 ≠ 1 ∧ (sy_ret tk x y L st h c s).1 ≠ 2 := by
  cases st with
  | nil => exact ⟨(by show (0 : Nat) ≠ 1; decide), (by show (0 : Nat) ≠ 2; decide)⟩
  | cons a r =>
    show (sy_if (cond (sy_isc r) false (sy_okf y a)) (4, a, L, [], h, c, s)).1 ≠ 1 ∧ (sy_if (cond (sy_isc r) false (sy_okf y a)) (4, a, L, [], h, c, s)).1 ≠ 2
    cases cond (sy_isc r) false (sy_okf y a) with
    | true => exact ⟨(by show (4 : Nat) ≠ 1; decide), (by show (4 : Nat) ≠ 2; decide)⟩
    | false => exact ⟨(by show (0 : Nat) ≠ 1; decide), (by show (0 : Nat) ≠ 2; decide)⟩
theorem sy_retv_k {x y L c s : Nat} {st : List Nat} {h : sy_H} : (sy_retv tk x y L st h c s).1 ≠ 1 ∧ (sy_retv tk x y L st h c s).1 ≠ 2 := by
  cases st with
  | nil => exact ⟨(by show (3 : Nat) ≠ 1; decide), (by show (3 : Nat) ≠ 2; decide)⟩
  | cons a r => exact ⟨(by show (0 : Nat) ≠ 1; decide), (by show (0 : Nat) ≠ 2; decide)⟩
theorem sy_rowall (hC : sy_Cx p R s m args meth c w A tk len cc own ini nL lw) : ∀ z, z ≠ 90 → sy_ck cc own host ini nL code lw pc z x y npc = true → sy_OK p l e R s m args below meth c Q w A nL pc npc y ((sy_op len z).1 tk x y)
  | 0, _, _ => sy_ok_vac fun _ _ _ _ _ => ⟨(by show (0 : Nat) ≠ 1; decide), (by show (0 : Nat) ≠ 2; decide)⟩
  | 1, _, h => sy_r1 hC h
  | 2, _, h => sy_r2 hC h
  | 3, _, h => sy_r3 hC h
  | 4, _, h => sy_r4 hC h
  | 5, _, h => sy_r5 hC h
  | 6, _, h => sy_r6 hC h
  | 7, _, h => sy_r7 hC h
  | 8, _, h => sy_r8 hC h
  | 9, _, h => sy_r9 hC h
  | 10, _, h => sy_r10 hC h
  | 11, _, h => sy_r11 hC h
  | 12, _, h => sy_r12 hC h
  | 13, _, h => sy_r13 hC h
  | 14, _, h => sy_r14 hC h
  | 15, _, h => sy_r15 hC h
  | 16, _, h => sy_r16 hC h
  | 17, _, h => sy_r17 hC h
  | 18, _, h => sy_r18 hC h
  | 19, _, h => sy_r19 hC h
  | 20, _, h => sy_r20 hC h
  | 21, _, h => sy_r21 hC h
  | 22, _, h => sy_r22 hC h
  | 23, _, h => sy_r23 hC h
  | 24, _, h => sy_r24 hC h
  | 25, _, h => sy_r25 hC h
  | 26, _, h => sy_r26 hC h
  | 27, _, h => sy_r27 hC h
  | 28, _, h => sy_r28 hC h
  | 29, _, h => sy_r29 hC h
  | 30, _, h => sy_r30 hC h
  | 31, _, h => sy_r31 hC h
  | 32, _, h => sy_r32 hC h
  | 33, _, h => sy_r33 hC h
  | 34, _, h => sy_r34 hC h
  | 35, _, h => sy_r35 hC h
  | 36, _, h => sy_r36 hC h
  | 37, _, h => sy_r37 hC h
  | 38, _, h => sy_r38 hC h
  | 39, _, h => sy_r39 hC h
  | 40, _, h => sy_r40 hC h
  | 41, _, h => sy_r41 hC h
  | 42, _, h => sy_r42 hC h
  | 43, _, h => sy_r43 hC h
  | 44, _, h => sy_r44 hC h
  | 45, _, h => sy_r45 hC h
  | 46, _, h => sy_r46 hC h
  | 47, _, h => sy_r47 hC h
  | 48, _, h => sy_r48 hC h
  | 49, _, h => sy_r49 hC h
  | 50, _, h => sy_r50 hC h
  | 51, _, h => sy_r51 hC h
  | 52, _, h => sy_r52 hC h
  | 53, _, h => sy_r53 hC h
  | 54, _, h => sy_r54 hC h
  | 55, _, h => sy_r55 hC h
  | 56, _, _ => sy_ok_vac fun _ _ _ _ _ => sy_ret_k (tk := tk) (x := x) (y := y)
  | 57, _, _ => sy_ok_vac fun _ _ _ _ _ => sy_ret_k (tk := tk) (x := x) (y := y)
  | 58, _, _ => sy_ok_vac fun _ _ _ _ _ => sy_ret_k (tk := tk) (x := x) (y := y)
  | 59, _, _ => sy_ok_vac fun _ _ _ _ _ => sy_ret_k (tk := tk) (x := x) (y := y)
  | 60, _, _ => sy_ok_vac fun _ _ _ _ _ => sy_ret_k (tk := tk) (x := x) (y := y)
  | 61, _, _ => sy_ok_vac fun _ _ _ _ _ => sy_retv_k (tk := tk) (x := x) (y := y)
  | 62, _, h => sy_r62 hC h
  | 63, _, h => sy_r63 hC h
  | 64, _, h => sy_r64 hC h
  | 65, _, h => sy_r65 hC h
  | 66, _, h => sy_r66 hC h
  | 67, _, h => sy_r67 hC h
  | 68, _, h => sy_r68 hC h
  | 69, _, h => sy_r69 hC h
  | 70, _, h => sy_r70 hC h
  | 71, _, h => sy_r71 hC h
  | 72, _, h => sy_r72 hC h
  | 73, _, h => sy_r73 hC h
  | 74, _, h => sy_r74 hC h
  | 75, _, h => sy_r75 hC h
  | 76, _, h => sy_r76 hC h
  | 77, _, h => sy_r77 hC h
  | 78, _, h => sy_r78 hC h
  | 79, _, h => sy_r79 hC h
  | 80, _, _ => sy_ok_vac fun _ _ _ _ _ => ⟨(by show (5 : Nat) ≠ 1; decide), (by show (5 : Nat) ≠ 2; decide)⟩
  | 81, _, _ => sy_ok_vac fun _ _ _ _ _ => ⟨(by show (5 : Nat) ≠ 1; decide), (by show (5 : Nat) ≠ 2; decide)⟩
  | 82, _, _ => sy_ok_vac fun _ _ _ _ _ => ⟨(by show (5 : Nat) ≠ 1; decide), (by show (5 : Nat) ≠ 2; decide)⟩
  | 83, _, _ => sy_ok_vac fun _ _ _ _ _ => ⟨(by show (5 : Nat) ≠ 1; decide), (by show (5 : Nat) ≠ 2; decide)⟩
  | 84, _, _ => sy_ok_vac fun _ _ _ _ _ => ⟨(by show (5 : Nat) ≠ 1; decide), (by show (5 : Nat) ≠ 2; decide)⟩
  | 85, _, h => sy_r85 hC h
  | 86, _, h => sy_r86 hC h
  | 87, _, h => sy_r87 hC h
  | 88, _, _ => sy_ok_vac fun _ _ _ _ _ => ⟨(by show (6 : Nat) ≠ 1; decide), (by show (6 : Nat) ≠ 2; decide)⟩
  | 89, _, _ => sy_ok_vac fun _ _ _ _ _ => ⟨(by show (6 : Nat) ≠ 1; decide), (by show (6 : Nat) ≠ 2; decide)⟩
  | 90, hz, _ => absurd rfl hz
  | 91, _, h => sy_r91 hC h
  | _ + 92, _, _ => sy_ok_vac fun _ _ _ _ _ => ⟨(by show (0 : Nat) ≠ 1; decide), (by show (0 : Nat) ≠ 2; decide)⟩
end SYZ3
