/-! the run of the abstract machine -/
section SYR
noncomputable def sy_ops (len : Nat) : List sy_F := [fun _ _ _ _ _ _ _ _ => sy_no 0,
  sy_push, sy_push, sy_push, sy_push, sy_push, sy_push, sy_push, sy_push, sy_push, sy_push,
  sy_load 0, sy_load 0, sy_load 1, sy_load 1, sy_load 2, sy_load 2, sy_stor 0, sy_stor 0, sy_stor2 1, sy_stor2 1, sy_stor 2, sy_stor 2, sy_stor 3, sy_stor2 4,
  sy_iinc, sy_bin 0 (fun a b => Nat.mod (Nat.add a b) 4294967296), sy_bin 0 (fun a b => Nat.mod (Nat.sub (Nat.add a 295147905179352825856) b) 4294967296), sy_bin 0 (fun a b => Nat.mod (Nat.mul a b) 4294967296), sy_iand,
  sy_bin 1 (fun a b => Nat.mod (Nat.add a b) 18446744073709551616), sy_bin 1 (fun a b => Nat.mod (Nat.sub (Nat.add a 295147905179352825856) b) 18446744073709551616), sy_bin 1 (fun a b => Nat.mod (Nat.mul a b) 18446744073709551616),
  sy_i2l, sy_l2i, sy_i2c, sy_lcmp, sy_dup, sy_pop,
  sy_ifc sy_eq false, sy_ifc sy_eq true, sy_ifc sy_lt false, sy_ifc sy_lt true, sy_ifc sy_gt false, sy_ifc sy_gt true,
  sy_icmp sy_eq false, sy_icmp sy_eq true, sy_icmp sy_lt false, sy_icmp sy_lt true, sy_icmp sy_gt false, sy_icmp sy_gt true,
  sy_acmp false, sy_acmp true, sy_nul false, sy_nul true, sy_goto, sy_ret, sy_ret, sy_ret, sy_ret, sy_ret, sy_retv,
  sy_getf, sy_getf, sy_putf, sy_putf, sy_putf, sy_new sy_fi, sy_newa, sy_newa, fun tk => sy_alen tk len tk, sy_iald len, sy_ald 1 1 1, sy_aald, sy_ald 2 0 0, sy_ast 0 0, sy_ast 1 1, sy_aast sy_at, sy_cast,
  sy_castA, sy_call, sy_call, sy_call, sy_call, sy_call, sy_clone, sy_acpy, sy_mna, sy_thr, sy_thr, sy_tsw sy_sw 0, sy_obin]
def sy_M0 : sy_M := ([], 0, [], 0)
noncomputable def sy_meth (i : Nat) : sy_M := sy_nth sy_M0 (sy_nth [] sy_P (Nat.div i 16)) (Nat.mod i 16)
/-- the locals with which a method begins -/
noncomputable def sy_args (l : List Nat) : Nat → Nat → Nat := List.rec (motive := fun _ => Nat → Nat → Nat) (fun _ L => L) (fun v _ ih i L => sy_force (sy_wr L i (Nat.succ v)) fun L => ih (Nat.add i (sy_ct v)) L) l
/-- the handler of pc for the class E -/
noncomputable def sy_hand (hs : List (Nat × Nat × Nat × Nat)) (pc E : Nat) : Nat := List.rec (motive := fun _ => Nat) 0 (fun x _ r => cond (cond (Nat.ble x.1 pc) (cond (Nat.ble (Nat.succ pc) x.2.1) (Nat.beq x.2.2.2 E) false) false) (Nat.succ x.2.2.1) r) hs
noncomputable def sy_e0 : sy_E := (0, 0, 0, 0)
/-- a handler: astore, iconst, ireturn -/
noncomputable def sy_caught (k : List sy_E) (h : sy_H) (c s : Nat) : sy_X :=
  sy_if (cond (cond (Nat.beq (sy_nth sy_e0 k 0).2.1 21) true (Nat.beq (sy_nth sy_e0 k 0).2.1 22)) (cond (Nat.beq (sy_nth sy_e0 k 1).2.1 1) (Nat.beq (sy_nth sy_e0 k 2).2.1 56) false) false) (4, (sy_nth sy_e0 k 1).2.2.1, 0, [], h, c, s)
abbrev sy_R : Type := Nat → sy_M → List sy_E → Nat → List Nat → sy_H → Nat → Nat → sy_X
noncomputable def sy_b3 (ih : sy_R) (d : Nat) (M : sy_M) (k : List sy_E) (L : Nat) (st : List Nat) (c s : Nat) (X : sy_X) : sy_X :=
  sy_force (Nat.add c X.2.2.2.2.2.1) fun c => sy_force (Nat.add s X.2.2.2.2.2.2) fun s => ih d M k L st X.2.2.2.2.1 c s
noncomputable def sy_b4 (ih : sy_R) (d : Nat) (M : sy_M) (k : List sy_E) (L : Nat) (st : List Nat) (c s : Nat) (X : sy_X) : sy_X :=
  sy_force (Nat.add c X.2.2.2.2.2.1) fun c => sy_force (Nat.add s X.2.2.2.2.2.2) fun s => sy_force X.2.1 fun v => ih d M k L (v :: st) X.2.2.2.2.1 c s
noncomputable def sy_b6 (M : sy_M) (pc z : Nat) (c s : Nat) (X : sy_X) : sy_X :=
  sy_if (cond (Nat.beq z 82) false true) (sy_force (Nat.add c X.2.2.2.2.2.1) fun c => sy_force (Nat.add s X.2.2.2.2.2.2) fun s =>
    Nat.rec (motive := fun _ => sy_X) (cond (Nat.beq (sy_len M.2.2.1) 0) (6, X.2.1, 0, [], X.2.2.2.2.1, c, s) (sy_no 0)) (fun p _ => sy_caught (sy_drop M.1 p) X.2.2.2.2.1 c s) (sy_hand M.2.2.1 pc X.2.1))
/-- behind a call -/
noncomputable def sy_back (ih : sy_R) (d : Nat) (M : sy_M) (pc z : Nat) (k : List sy_E) (L : Nat) (st : List Nat) (c s : Nat) (X : sy_X) : sy_X :=
  sy_nth (sy_no 0) [sy_no X.2.1, sy_no 0, sy_no 0, sy_b3 ih d M k L st c s X, sy_b4 ih d M k L st c s X, sy_no 0, sy_b6 M pc z c s X] X.1
noncomputable def sy_k1 (ih : sy_R) (d : Nat) (M : sy_M) (k : List sy_E) (X : sy_X) : sy_X := ih d M k X.2.2.1 X.2.2.2.1 X.2.2.2.2.1 X.2.2.2.2.2.1 X.2.2.2.2.2.2
/-- a jump: the place has the pc y (but for the switch, which names its places itself) -/
noncomputable def sy_k2 (ih : sy_R) (d : Nat) (M : sy_M) (z y : Nat) (X : sy_X) : sy_X := sy_force X.2.1 fun a => sy_if (cond (Nat.beq z 90) true (Nat.beq (sy_nth sy_e0 (sy_drop M.1 a) 0).1 y)) (sy_k1 ih d M (sy_drop M.1 a) X)
/-- the one it is called on is of that class -/
noncomputable def sy_recv (ci v : Nat) (h : sy_H) : Bool := Nat.rec (motive := fun _ => Bool) true (fun k _ => cond (cond (Nat.beq (sy_tg v) 5) (Nat.ble (Nat.succ (sy_py v)) h.1) false) (Nat.beq (sy_hg h.2 (sy_py v)).1 (Nat.mul 2 k)) false) ci
noncomputable def sy_k5 (ih : sy_R) (d : Nat) (M : sy_M) (pc z n : Nat) (k : List sy_E) (X : sy_X) : sy_X :=
  Nat.rec (motive := fun _ => sy_X) (sy_no 0) (fun d' _ => sy_if (cond (Nat.ble n (sy_len X.2.2.2.1)) (Nat.ble (sy_cats (sy_drop X.2.2.2.1 n)) 8) false)
    (sy_force X.2.1 fun a => sy_if (cond (sy_recv (sy_meth a).2.2.2 (sy_nth 0 X.2.2.2.1 (Nat.pred n)) X.2.2.2.2.1) (Nat.ble (sy_cats (sy_rev X.2.2.2.1 n [])) (sy_meth a).2.1) false) (sy_back ih d M pc z k X.2.2.1 (sy_drop X.2.2.2.1 n) X.2.2.2.2.2.1 X.2.2.2.2.2.2 (ih d' (sy_meth a) (sy_meth a).1 (sy_args (sy_rev X.2.2.2.1 n []) 0 0) [] X.2.2.2.2.1 0 0)))) d
noncomputable def sy_k6 (M : sy_M) (X : sy_X) : sy_X := cond (Nat.beq (sy_len M.2.2.1) 0) (6, X.2.1, 0, [], X.2.2.2.2.1, X.2.2.2.2.2.1, X.2.2.2.2.2.2) (sy_no 0)
noncomputable def sy_in (a z b : Nat) : Bool := cond (Nat.ble a z) (Nat.ble z b) false
noncomputable def sy_stepx (ih : sy_R) (d : Nat) (M : sy_M) (pc z y : Nat) (k : List sy_E) (X Z : sy_X) : sy_X :=
  sy_nth (sy_no 0) [sy_no X.2.1, sy_no 0, sy_k2 ih d M z y X, sy_if (Nat.beq z 61) X, sy_if (sy_in 56 z 60) X, sy_if (sy_in 80 z 84) (sy_k5 ih d M pc z (Nat.mod y 16) k X), sy_if (sy_in 88 z 89) (sy_if (Nat.ble (sy_cats Z.2.2.2.1) 50) (sy_k6 M X)), sy_no 0, Z] X.1
noncomputable def sy_step (ih : sy_R) (d : Nat) (M : sy_M) (pc z y : Nat) (k : List sy_E) (X Z : sy_X) : sy_X := cond (Nat.beq X.1 1) (sy_k1 ih d M k X) (sy_stepx ih d M pc z y k X Z)
noncomputable def sy_mk (l : List sy_F) : List (sy_F × Unit) := List.rec (motive := fun _ => List (sy_F × Unit)) [] (fun a _ r => (a, ()) :: r) l
/-- an operation by its number: a pair, so that the kernel looks it up apart from its arguments -/
noncomputable def sy_op (len z : Nat) : sy_F × Unit := sy_nth (fun _ _ _ _ _ _ _ _ => sy_no 0, ()) (sy_mk (sy_ops len)) z
noncomputable def sy_ent (tk : sy_T) (len : Nat) (ih : sy_R) (d : Nat) (M : sy_M) (L : Nat) (st : List Nat) (h : sy_H) (c s : Nat) (e : sy_E) (k : List sy_E) : sy_X :=
  Prod.rec (motive := fun _ => sy_X) (fun pc r => Prod.rec (motive := fun _ => sy_X) (fun z r => Prod.rec (motive := fun _ => sy_X) (fun x y => sy_step ih d M pc z y k ((sy_op len z).1 tk x y L st h c s) (8, pc, L, st, h, c, s)) r) r) e
noncomputable def sy_run (tk : sy_T) (len : Nat) (fuel : Nat) : sy_R :=
  Nat.rec (motive := fun _ => sy_R) (fun _ _ _ _ _ _ _ _ => sy_no 0) (fun _ ih d M rest L st h c s => List.rec (motive := fun _ => sy_X) (sy_no 0) (fun e k _ => sy_ent tk len ih d M L st h c s e k) rest) fuel
def sy_heap0 : sy_H := (0, sy_z9)
/-- the law from its entry to the first look at the script, L ints long -/
noncomputable def sy_first (len : Nat) : sy_X := sy_run [] len 100000 12 (sy_meth 0) (sy_meth 0).1 (sy_args [9] 0 0) [] sy_heap0 0 0
noncomputable def sy_seek (l : List sy_E) (pc : Nat) : List sy_E := List.rec (motive := fun _ => List sy_E) [] (fun e k r => cond (Nat.beq e.1 pc) (e :: k) r) l
/-- from there on, with what is known of the script -/
noncomputable def sy_next (tk : sy_T) (X : sy_X) : sy_X := sy_run tk 7 100000 12 (sy_meth 0) (sy_seek (sy_meth 0).1 X.2.1) X.2.2.1 X.2.2.2.1 X.2.2.2.2.1 X.2.2.2.2.2.1 X.2.2.2.2.2.2
noncomputable def sy_piv (p : Nat) : Nat := cond (Nat.ble 9223372034707292160 p) (Nat.sub p 9223372034707292160) p
noncomputable def sy_split (ih : sy_T → Bool) (tk : sy_T) (k p : Nat) (q : Nat × Nat × Nat) : Bool :=
  cond (cond (Nat.ble (Nat.succ q.2.1) p) (cond (Nat.ble p q.2.2) (cond (Nat.ble q.1 1) (Nat.ble k 6) false) false) false) (sy_force (Nat.pred p) fun m => cond (ih (sy_put (9, 0, 0) (q.1, q.2.1, m) tk k)) (ih (sy_put (9, 0, 0) (q.1, p, q.2.2) tk k)) false) false
/-- on every script of which tk is true, the law answers 1 -/
noncomputable def sy_all (X0 : sy_X) (fuel : Nat) : sy_T → Bool :=
  Nat.rec (motive := fun _ => sy_T → Bool) (fun _ => false) (fun _ ih tk =>
    sy_nth false [Nat.rec (motive := fun _ => Bool) false (fun a _ => sy_force (sy_piv (Nat.div a 16)) fun p => sy_split ih tk (Nat.mod a 16) p (sy_tok tk (Nat.mod a 16))) (sy_next tk X0).2.1, false, false, false, Nat.beq (sy_next tk X0).2.1 16] (sy_next tk X0).1) fuel
/-- the starting knowledge: the call, and whether place j is read as a char -/
noncomputable def sy_fu : Nat × Nat × Nat := (0, 0, 4294967295)
noncomputable def sy_cu : Nat × Nat × Nat := (1, 2147483648, 2147549183)
noncomputable def sy_tkK (K : Nat) : sy_T := (2, K, 0) :: sy_nth [sy_fu, sy_fu, sy_fu, sy_fu, sy_fu, sy_fu]
  [[sy_cu, sy_fu, sy_fu, sy_fu, sy_fu, sy_fu], [sy_fu, sy_fu, sy_fu, sy_cu, sy_fu, sy_fu], [sy_fu, sy_fu, sy_cu, sy_fu, sy_fu, sy_fu], [sy_fu, sy_fu, sy_cu, sy_fu, sy_fu, sy_fu]]
  (cond (Nat.beq K 0) 0 (cond (Nat.beq K 6) 1 (cond (Nat.beq K 17) 2 (cond (Nat.beq K 20) 3 9))))
noncomputable def sy_cases (l : List Nat) : Bool := List.rec (motive := fun _ => Bool) true (fun K _ r => cond (sy_all (sy_first 7) 1000 (sy_tkK K)) r false) l
end SYR
