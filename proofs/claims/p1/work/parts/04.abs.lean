/-! The abstract machine: values packed into numbers (16 * payload + tag), contents and locals as numbers with places of 72 bits, evaluated by the kernel -/
section SY
noncomputable def sy_nth {α : Type} (d : α) (l : List α) : Nat → α := List.rec (motive := fun _ => Nat → α) (fun _ => d) (fun a _ ih n => Nat.rec (motive := fun _ => α) a (fun m _ => ih m) n) l
noncomputable def sy_drop {α : Type} (l : List α) : Nat → List α := List.rec (motive := fun _ => Nat → List α) (fun _ => []) (fun a t ih n => Nat.rec (motive := fun _ => List α) (a :: t) (fun m _ => ih m) n) l
noncomputable def sy_pad {α : Type} (d x : α) (n : Nat) : List α := Nat.rec (motive := fun _ => List α) [x] (fun _ r => d :: r) n
noncomputable def sy_put {α : Type} (d x : α) (l : List α) : Nat → List α := List.rec (motive := fun _ => Nat → List α) (fun n => sy_pad d x n) (fun a t ih n => Nat.rec (motive := fun _ => List α) (x :: t) (fun m _ => a :: ih m) n) l
noncomputable def sy_force {α : Type} (n : Nat) (f : Nat → α) : α := Nat.rec (motive := fun _ => α) (f 0) (fun m _ => f (Nat.succ m)) n
noncomputable def sy_len {α : Type} (l : List α) : Nat := List.rec (motive := fun _ => Nat) 0 (fun _ _ n => Nat.succ n) l
noncomputable def sy_take {α : Type} (l : List α) : Nat → List α := List.rec (motive := fun _ => Nat → List α) (fun _ => []) (fun a _ ih n => Nat.rec (motive := fun _ => List α) [] (fun m _ => a :: ih m) n) l
/-- the first n, turned round, ahead of acc -/
noncomputable def sy_rev (l : List Nat) : Nat → List Nat → List Nat := List.rec (motive := fun _ => Nat → List Nat → List Nat) (fun _ acc => acc) (fun a _ ih n acc => Nat.rec (motive := fun _ => List Nat) acc (fun m _ => ih m (a :: acc)) n) l
def sy_rd (c i : Nat) : Nat := Nat.mod (Nat.shiftRight c (Nat.mul 72 i)) 4722366482869645213696
def sy_wr (c i v : Nat) : Nat := Nat.xor c (Nat.shiftLeft (Nat.xor (sy_rd c i) v) (Nat.mul 72 i))
def sy_tg (v : Nat) : Nat := Nat.mod v 16
def sy_py (v : Nat) : Nat := Nat.div v 16
def sy_pk (t n : Nat) : Nat := Nat.add (Nat.mul 16 n) t
/-- a place in the code: pc, operation, two numbers -/
abbrev sy_E : Type := Nat × Nat × Nat × Nat
/-- what is known of the script's ints: 0 the int lies within, 1 its char lies within, 2 its low six bits are (the bounds shifted by 2^31) -/
abbrev sy_T : Type := List (Nat × Nat × Nat)
/-- a cell: 2 * class (an object) or 2 * type + 1 (an array); its length; its content -/
abbrev sy_O : Type := Nat × Nat × Nat
abbrev sy_U0 : Type := sy_O
abbrev sy_U1 : Type := sy_U0 × sy_U0
abbrev sy_U2 : Type := sy_U1 × sy_U1
abbrev sy_U3 : Type := sy_U2 × sy_U2
abbrev sy_U4 : Type := sy_U3 × sy_U3
abbrev sy_U5 : Type := sy_U4 × sy_U4
abbrev sy_U6 : Type := sy_U5 × sy_U5
abbrev sy_U7 : Type := sy_U6 × sy_U6
abbrev sy_U8 : Type := sy_U7 × sy_U7
abbrev sy_U9 : Type := sy_U8 × sy_U8
abbrev sy_H : Type := Nat × sy_U9
/-- kind; a number; locals; stack; heap; cells; slots -/
abbrev sy_X : Type := Nat × Nat × Nat × List Nat × sy_H × Nat × Nat
/-- code; locals; handlers (from, to, place, class); 1 + the class of the one it is called on -/
abbrev sy_M : Type := List sy_E × Nat × List (Nat × Nat × Nat × Nat) × Nat
def sy_o0 : sy_O := (0, 0, 0)
def sy_bt (i q : Nat) : Bool := Nat.beq (Nat.mod (Nat.div i q) 2) 1
noncomputable def sy_gl {α : Type} (q : Nat) (g : Nat → α → sy_O) (i : Nat) (t : α × α) : sy_O := cond (sy_bt i q) (g i t.2) (g i t.1)
noncomputable def sy_pl {α : Type} (q : Nat) (g : Nat → sy_O → α → α) (i : Nat) (x : sy_O) (t : α × α) : α × α := cond (sy_bt i q) (t.1, g i x t.2) (g i x t.1, t.2)
def sy_g0 (_ : Nat) (t : sy_U0) : sy_O := t
def sy_q0 (_ : Nat) (x : sy_O) (_ : sy_U0) : sy_U0 := x
noncomputable def sy_g1 : Nat → sy_U1 → sy_O := sy_gl 1 sy_g0
noncomputable def sy_q1 : Nat → sy_O → sy_U1 → sy_U1 := sy_pl 1 sy_q0
noncomputable def sy_g2 : Nat → sy_U2 → sy_O := sy_gl 2 sy_g1
noncomputable def sy_q2 : Nat → sy_O → sy_U2 → sy_U2 := sy_pl 2 sy_q1
noncomputable def sy_g3 : Nat → sy_U3 → sy_O := sy_gl 4 sy_g2
noncomputable def sy_q3 : Nat → sy_O → sy_U3 → sy_U3 := sy_pl 4 sy_q2
noncomputable def sy_g4 : Nat → sy_U4 → sy_O := sy_gl 8 sy_g3
noncomputable def sy_q4 : Nat → sy_O → sy_U4 → sy_U4 := sy_pl 8 sy_q3
noncomputable def sy_g5 : Nat → sy_U5 → sy_O := sy_gl 16 sy_g4
noncomputable def sy_q5 : Nat → sy_O → sy_U5 → sy_U5 := sy_pl 16 sy_q4
noncomputable def sy_g6 : Nat → sy_U6 → sy_O := sy_gl 32 sy_g5
noncomputable def sy_q6 : Nat → sy_O → sy_U6 → sy_U6 := sy_pl 32 sy_q5
noncomputable def sy_g7 : Nat → sy_U7 → sy_O := sy_gl 64 sy_g6
noncomputable def sy_q7 : Nat → sy_O → sy_U7 → sy_U7 := sy_pl 64 sy_q6
noncomputable def sy_g8 : Nat → sy_U8 → sy_O := sy_gl 128 sy_g7
noncomputable def sy_q8 : Nat → sy_O → sy_U8 → sy_U8 := sy_pl 128 sy_q7
noncomputable def sy_g9 : Nat → sy_U9 → sy_O := sy_gl 256 sy_g8
noncomputable def sy_q9 : Nat → sy_O → sy_U9 → sy_U9 := sy_pl 256 sy_q8
noncomputable def sy_hg (t : sy_U9) (i : Nat) : sy_O := sy_g9 i t
noncomputable def sy_hp (t : sy_U9) (i : Nat) (x : sy_O) : sy_U9 := sy_q9 i x t
def sy_z0 : sy_U0 := sy_o0
def sy_z1 : sy_U1 := (sy_z0, sy_z0)
def sy_z2 : sy_U2 := (sy_z1, sy_z1)
def sy_z3 : sy_U3 := (sy_z2, sy_z2)
def sy_z4 : sy_U4 := (sy_z3, sy_z3)
def sy_z5 : sy_U5 := (sy_z4, sy_z4)
def sy_z6 : sy_U6 := (sy_z5, sy_z5)
def sy_z7 : sy_U7 := (sy_z6, sy_z6)
def sy_z8 : sy_U8 := (sy_z7, sy_z7)
def sy_z9 : sy_U9 := (sy_z8, sy_z8)
noncomputable def sy_no (a : Nat) : sy_X := (0, a, 0, [], (0, sy_z9), 0, 0)
noncomputable def sy_go (L : Nat) (st : List Nat) (h : sy_H) (c s : Nat) : sy_X := (1, 0, L, st, h, c, s)
/-- 0 int, 1 long, 2 reference, 3 float, 4 double -/
noncomputable def sy_ty (v : Nat) : Nat := Nat.mod (Nat.shiftRight 11068045922228388624 (Nat.mul 4 (sy_tg v))) 16
noncomputable def sy_ct (v : Nat) : Nat := Nat.mod (Nat.shiftRight 1229782938515743009 (Nat.mul 4 (sy_tg v))) 16
/-- pop one -/
noncomputable def sy_hd (st : List Nat) : Nat := List.rec (motive := fun _ => Nat) 0 (fun v _ _ => v) st
noncomputable def sy_tl (st : List Nat) : List Nat := List.rec (motive := fun _ => List Nat) [] (fun _ r _ => r) st
noncomputable def sy_isc (st : List Nat) : Bool := List.rec (motive := fun _ => Bool) false (fun _ _ _ => true) st
noncomputable def sy_p1 (st : List Nat) (f : Nat → List Nat → sy_X) : sy_X := cond (sy_isc st) (f (sy_hd st) (sy_tl st)) (sy_no 0)
noncomputable def sy_if (b : Bool) (x : sy_X) : sy_X := cond b x (sy_no 0)
abbrev sy_F : Type := sy_T → Nat → Nat → Nat → List Nat → sy_H → Nat → Nat → sy_X
noncomputable def sy_push : sy_F := fun _ x _ L st h c s => sy_go L (x :: st) h c s
noncomputable def sy_load (ty : Nat) : sy_F := fun _ x _ L st h c s =>
  Nat.rec (motive := fun _ => sy_X) (sy_no 0) (fun v _ => sy_if (Nat.beq (sy_ty v) ty) (sy_go L (v :: st) h c s)) (sy_rd L x)
noncomputable def sy_clr (L i : Nat) : Nat := Nat.rec (motive := fun _ => Nat) L (fun j _ => Nat.rec (motive := fun _ => Nat) L (fun v _ => cond (Nat.beq (sy_ct v) 2) (sy_wr L j 0) L) (sy_rd L j)) i
noncomputable def sy_sto (L i v : Nat) : Nat := sy_wr (sy_clr L i) i (Nat.succ v)
noncomputable def sy_sto2 (L i v : Nat) : Nat := sy_wr (sy_sto L i v) (Nat.succ i) 0
/-- a store of one slot; the method's locals bound x by the table -/
noncomputable def sy_stor (ty : Nat) : sy_F := fun _ x _ L st h c s => sy_p1 st fun v r => sy_if (Nat.beq (sy_ty v) ty) (sy_force (sy_sto L x v) fun L => sy_go L r h c s)
noncomputable def sy_stor2 (ty : Nat) : sy_F := fun _ x _ L st h c s => sy_p1 st fun v r => sy_if (Nat.beq (sy_ty v) ty) (sy_force (sy_sto2 L x v) fun L => sy_go L r h c s)
noncomputable def sy_iinc : sy_F := fun _ x y L st h c s =>
  Nat.rec (motive := fun _ => sy_X) (sy_no 0) (fun v _ => sy_if (Nat.beq (sy_tg v) 0) (sy_force (sy_sto L x (sy_pk 0 (Nat.mod (Nat.add (sy_py v) (Nat.add y 4294934528)) 4294967296))) fun L => sy_go L st h c s)) (sy_rd L x)
noncomputable def sy_bin (t : Nat) (f : Nat → Nat → Nat) : sy_F := fun _ _ _ L st h c s => sy_p1 st fun b r => sy_p1 r fun a r =>
  sy_if (cond (Nat.beq (sy_tg a) t) (Nat.beq (sy_tg b) t) false) (sy_force (sy_pk t (f (sy_py a) (sy_py b))) fun v => sy_go L (v :: r) h c s)
noncomputable def sy_tok (tk : sy_T) (k : Nat) : Nat × Nat × Nat := sy_nth (9, 0, 0) tk k
noncomputable def sy_iand : sy_F := fun tk _ _ L st h c s => sy_p1 st fun b r => sy_p1 r fun a r =>
  cond (Nat.beq (sy_tg a) 0) (sy_if (Nat.beq (sy_tg b) 0) (sy_force (sy_pk 0 (Nat.land (sy_py a) (sy_py b))) fun v => sy_go L (v :: r) h c s))
    (sy_if (cond (Nat.beq (sy_tg a) 6) (cond (Nat.beq b 1008) (Nat.beq (sy_tok tk (sy_py a)).1 2) false) false) (sy_force (sy_pk 0 (sy_tok tk (sy_py a)).2.1) fun v => sy_go L (v :: r) h c s))
noncomputable def sy_i2l : sy_F := fun _ _ _ L st h c s => sy_p1 st fun a r =>
  cond (Nat.beq (sy_tg a) 0) (sy_force (sy_pk 1 (cond (Nat.ble 2147483648 (Nat.mod (sy_py a) 4294967296)) (Nat.add (Nat.mod (sy_py a) 4294967296) 18446744069414584320) (Nat.mod (sy_py a) 4294967296))) fun v => sy_go L (v :: r) h c s)
    (sy_if (Nat.beq (sy_tg a) 6) (sy_force (Nat.succ a) fun v => sy_go L (v :: r) h c s))
noncomputable def sy_l2i : sy_F := fun _ _ _ L st h c s => sy_p1 st fun a r => sy_if (Nat.beq (sy_tg a) 1) (sy_force (sy_pk 0 (Nat.mod (sy_py a) 4294967296)) fun v => sy_go L (v :: r) h c s)
noncomputable def sy_i2c : sy_F := fun tk _ _ L st h c s => sy_p1 st fun a r =>
  cond (Nat.beq (sy_tg a) 0) (sy_force (sy_pk 0 (Nat.mod (sy_py a) 65536)) fun v => sy_go L (v :: r) h c s)
    (sy_if (cond (Nat.beq (sy_tg a) 6) (Nat.beq (sy_tok tk (sy_py a)).1 1) false)
      (cond (Nat.beq (sy_tok tk (sy_py a)).2.1 (sy_tok tk (sy_py a)).2.2) (sy_force (sy_pk 0 (Nat.sub (sy_tok tk (sy_py a)).2.1 2147483648)) fun v => sy_go L (v :: r) h c s)
        (sy_force (Nat.add a 2) fun v => sy_go L (v :: r) h c s)))
/-- the bounds of an int, shifted by 2^31; of a long, by 2^63 -/
noncomputable def sy_iv (tk : sy_T) (v : Nat) : Nat × Nat :=
  sy_nth (0, 18446744073709551615) [(Nat.mod (Nat.add (sy_py v) 2147483648) 4294967296, Nat.mod (Nat.add (sy_py v) 2147483648) 4294967296), (Nat.mod (Nat.add (sy_py v) 9223372036854775808) 18446744073709551616, Nat.mod (Nat.add (sy_py v) 9223372036854775808) 18446744073709551616), (0, 0), (0, 0), (0, 0), (0, 0),
    cond (Nat.beq (sy_tok tk (sy_py v)).1 0) (sy_tok tk (sy_py v)).2 (0, 4294967295),
    cond (Nat.beq (sy_tok tk (sy_py v)).1 0) (Nat.add (sy_tok tk (sy_py v)).2.1 9223372034707292160, Nat.add (sy_tok tk (sy_py v)).2.2 9223372034707292160) (9223372034707292160, 9223372039002259455),
    cond (Nat.beq (sy_tok tk (sy_py v)).1 1) (sy_tok tk (sy_py v)).2 (2147483648, 2147549183)] (sy_tg v)
/-- 0 no, 1 yes, 2 + token + 16 * pivot: not known -/
noncomputable def sy_unk (a b : Nat) (pa pb : Nat) : Nat := cond (Nat.ble 6 (sy_tg a)) (Nat.add 2 (Nat.add (sy_py a) (Nat.mul 16 pa))) (Nat.add 2 (Nat.add (sy_py b) (Nat.mul 16 pb)))
noncomputable def sy_lt (tk : sy_T) (a b : Nat) : Nat :=
  cond (Nat.ble (Nat.succ (sy_iv tk a).2) (sy_iv tk b).1) 1 (cond (Nat.ble (sy_iv tk b).2 (sy_iv tk a).1) 0 (sy_unk a b (sy_iv tk b).1 (Nat.succ (sy_iv tk a).1)))
noncomputable def sy_eq (tk : sy_T) (a b : Nat) : Nat :=
  cond (Nat.ble (Nat.succ (sy_iv tk a).2) (sy_iv tk b).1) 0 (cond (Nat.ble (Nat.succ (sy_iv tk b).2) (sy_iv tk a).1) 0
    (cond (cond (Nat.beq (sy_iv tk a).1 (sy_iv tk a).2) (cond (Nat.beq (sy_iv tk b).1 (sy_iv tk b).2) (Nat.beq (sy_iv tk a).1 (sy_iv tk b).1) false) false) 1
      (cond (Nat.ble 6 (sy_tg a)) (sy_unk a b (cond (Nat.ble (sy_iv tk b).1 (sy_iv tk a).1) (Nat.succ (sy_iv tk a).1) (sy_iv tk b).1) 0)
        (sy_unk a b 0 (cond (Nat.ble (sy_iv tk a).1 (sy_iv tk b).1) (Nat.succ (sy_iv tk b).1) (sy_iv tk a).1)))))
noncomputable def sy_fork (r : Nat) (yes no : sy_X) : sy_X := Nat.rec (motive := fun _ => sy_X) no (fun m _ => Nat.rec (motive := fun _ => sy_X) yes (fun k _ => sy_no (Nat.succ k)) m) r
noncomputable def sy_jmp (x L : Nat) (st : List Nat) (h : sy_H) (c s : Nat) : sy_X := (2, x, L, st, h, c, s)
/-- compare and jump: which of the two rows, with or without the turn of yes and no, and of the operands -/
noncomputable def sy_br (q : sy_T → Nat → Nat → Nat) (neg : Bool) (tk : sy_T) (x L : Nat) (a b : Nat) (r : List Nat) (h : sy_H) (c s : Nat) : sy_X :=
  sy_if (cond (Nat.beq (sy_ty a) 0) (Nat.beq (sy_ty b) 0) false) (sy_fork (q tk a b) (cond neg (sy_go L r h c s) (sy_jmp x L r h c s)) (cond neg (sy_jmp x L r h c s) (sy_go L r h c s)))
noncomputable def sy_gt (tk : sy_T) (a b : Nat) : Nat := sy_lt tk b a
noncomputable def sy_ifc (q : sy_T → Nat → Nat → Nat) (neg : Bool) : sy_F := fun tk x _ L st h c s => sy_p1 st fun a r => sy_br q neg tk x L a 0 r h c s
noncomputable def sy_icmp (q : sy_T → Nat → Nat → Nat) (neg : Bool) : sy_F := fun tk x _ L st h c s => sy_p1 st fun b r => sy_p1 r fun a r => sy_br q neg tk x L a b r h c s
noncomputable def sy_lcmp : sy_F := fun tk _ _ L st h c s => sy_p1 st fun b r => sy_p1 r fun a r =>
  sy_if (cond (Nat.beq (sy_ty a) 1) (Nat.beq (sy_ty b) 1) false) (sy_fork (sy_lt tk a b) (sy_go L (68719476720 :: r) h c s) (sy_fork (sy_lt tk b a) (sy_go L (16 :: r) h c s) (sy_go L (0 :: r) h c s)))
noncomputable def sy_dup : sy_F := fun _ _ _ L st h c s => sy_p1 st fun a r => sy_if (Nat.beq (sy_ct a) 1) (sy_go L (a :: a :: r) h c s)
noncomputable def sy_pop : sy_F := fun _ _ _ L st h c s => sy_p1 st fun a r => sy_if (Nat.beq (sy_ct a) 1) (sy_go L r h c s)
/-- a reference or null (no token) -/
noncomputable def sy_isr (v : Nat) : Bool := cond (Nat.beq v 4) true (Nat.beq (sy_tg v) 5)
noncomputable def sy_acmp (neg : Bool) : sy_F := fun _ x _ L st h c s => sy_p1 st fun b r => sy_p1 r fun a r =>
  sy_if (cond (sy_isr a) (sy_isr b) false) (cond (cond neg (cond (Nat.beq a b) false true) (Nat.beq a b)) (sy_jmp x L r h c s) (sy_go L r h c s))
noncomputable def sy_nul (neg : Bool) : sy_F := fun _ x _ L st h c s => sy_p1 st fun a r =>
  sy_if (sy_isr a) (cond (cond neg (Nat.beq (sy_tg a) 5) (Nat.beq (sy_tg a) 4)) (sy_jmp x L r h c s) (sy_go L r h c s))
noncomputable def sy_goto : sy_F := fun _ x _ L st h c s => sy_jmp x L st h c s
noncomputable def sy_retv : sy_F := fun _ _ _ L st h c s => sy_if (cond (sy_isc st) false true) (3, 0, L, [], h, c, s)
/-- the cell of a reference -/
noncomputable def sy_cell (h : sy_H) (v : Nat) (f : Nat → Nat → Nat → sy_X) : sy_X := sy_if (cond (Nat.beq (sy_tg v) 5) (Nat.ble (Nat.succ (sy_py v)) h.1) false) (Prod.rec (motive := fun _ => sy_X) (fun k r => Prod.rec (motive := fun _ => sy_X) (fun n d => sy_force d fun d => f k n d) r) (sy_hg h.2 (sy_py v)))
noncomputable def sy_getf : sy_F := fun _ x _ L st h c s => sy_p1 st fun a r => sy_cell h a fun k n d =>
  sy_if (cond (Nat.beq k (Nat.mul 2 (Nat.div x 64))) (Nat.ble (Nat.succ (Nat.mod x 64)) n) false) (sy_force (sy_rd d (Nat.mod x 64)) fun v => sy_go L (v :: r) h c s)
/-- v may stand in a field of the type y (5 boolean, 6 char) -/
noncomputable def sy_okf (y v : Nat) : Bool := sy_nth false [Nat.beq (sy_ty v) 0, Nat.beq (sy_ty v) 1, Nat.beq (sy_ty v) 2, Nat.beq (sy_ty v) 3, Nat.beq (sy_ty v) 4, cond (Nat.beq v 0) true (Nat.beq v 16), cond (Nat.beq (sy_tg v) 8) true (cond (Nat.beq (sy_tg v) 0) (Nat.ble (sy_py v) 65535) false)] y
noncomputable def sy_ret : sy_F := fun _ _ y L st h c s => sy_p1 st fun a r => sy_if (cond (sy_isc r) false (sy_okf y a)) (4, a, L, [], h, c, s)
/-- x: class and place; y: the type of what is stored -/
noncomputable def sy_putf : sy_F := fun _ x y L st h c s => sy_p1 st fun v r => sy_p1 r fun a r => sy_cell h a fun k n d =>
  sy_if (cond (Nat.beq k (Nat.mul 2 (Nat.div x 64))) (cond (Nat.ble (Nat.succ (Nat.mod x 64)) n) (sy_okf (Nat.mod y 8) v) false) false)
    (sy_force (sy_wr d (Nat.mod x 64) v) fun d => sy_go L r (h.1, sy_hp h.2 (sy_py a) (k, n, d)) c s)
/-- x: class; y: its fields at the start; the index stands in the table of classes -/
noncomputable def sy_alloc (h : sy_H) (L : Nat) (r : List Nat) (c s : Nat) (k n d : Nat) : sy_X :=
  sy_if (Nat.ble (Nat.succ h.1) 511) (sy_force (sy_pk 5 h.1) fun v => sy_force h.1 fun m => sy_force (Nat.add c 1) fun c => sy_force (Nat.add s n) fun s => sy_go L (v :: r) (Nat.succ m, sy_hp h.2 m (k, n, d)) c s)
noncomputable def sy_new (F : Nat → Nat × Nat) : sy_F := fun _ x _ L st h c s => sy_alloc h L st c s (Nat.mul 2 x) (F x).1 (F x).2
noncomputable def sy_newa : sy_F := fun _ x _ L st h c s => sy_p1 st fun v r => sy_if (cond (Nat.beq (sy_tg v) 0) (Nat.ble (sy_py v) 65535) false) (sy_alloc h L r c s (Nat.succ (Nat.mul 2 x)) (sy_py v) 0)
noncomputable def sy_alen (tk : sy_T) (len : Nat) : sy_F := fun _ _ _ L st h c s => sy_p1 st fun a r =>
  cond (Nat.beq (sy_tg a) 9) (sy_go L (sy_pk 0 len :: r) h c s) (sy_cell h a fun k n _ => sy_if (cond (Nat.beq (Nat.mod k 2) 1) (cond (Nat.ble n 65535) (Nat.ble k 25) false) false) (sy_force (sy_pk 0 n) fun v => sy_go L (v :: r) h c s))
/-- what a place of an array of type t holds: nothing stored is the type's own nought -/
noncomputable def sy_dv (t : Nat) : Nat := sy_nth 4 [0, 1, 0, 0, 0, 3] t
noncomputable def sy_elt (t w : Nat) : Nat := Nat.rec (motive := fun _ => Nat) (sy_dv t) (fun m _ => Nat.succ m) w
/-- an index, or a fork on it -/
noncomputable def sy_ix (tk : sy_T) (i n : Nat) (f : Nat → sy_X) : sy_X :=
  cond (Nat.beq (sy_tg i) 0) (sy_if (cond (Nat.ble (Nat.succ (sy_py i)) n) (Nat.ble n 65535) false) (f (sy_py i)))
    (cond (Nat.beq (sy_tg i) 6) (cond (Nat.beq (sy_iv tk i).1 (sy_iv tk i).2) (sy_no 0) (sy_no (Nat.succ (Nat.add (sy_py i) (Nat.mul 16 (Nat.succ (sy_iv tk i).1)))))) (sy_no 0))
noncomputable def sy_ald (t et ty : Nat) : sy_F := fun tk _ _ L st h c s => sy_p1 st fun i r => sy_p1 r fun a r =>
  sy_cell h a fun k n d => sy_if (Nat.beq k (Nat.succ (Nat.mul 2 t))) (sy_ix tk i n fun j => sy_force (sy_elt et (sy_rd d j)) fun v => sy_if (Nat.beq (sy_ty v) ty) (sy_go L (v :: r) h c s))
/-- of an array of references: x its type -/
noncomputable def sy_aald : sy_F := fun tk _ _ L st h c s => sy_p1 st fun i r => sy_p1 r fun a r =>
  sy_cell h a fun k n d => sy_if (cond (Nat.beq (Nat.mod k 2) 1) (cond (Nat.ble 13 k) (Nat.ble k 25) false) false) (sy_ix tk i n fun j => sy_force (sy_elt 6 (sy_rd d j)) fun v => sy_if (sy_isr v) (sy_go L (v :: r) h c s))
/-- of ints: the script too -/
noncomputable def sy_iald (len : Nat) : sy_F := fun tk x y L st h c s => sy_p1 st fun i r => sy_p1 r fun a r' =>
  cond (Nat.beq (sy_tg a) 9)
    (sy_if (cond (Nat.beq (sy_tg i) 0) (Nat.ble (Nat.succ (sy_py i)) len) false) (List.rec (motive := fun _ => sy_X) (8, 0, L, st, h, c, s) (fun _ _ _ =>
      cond (cond (Nat.beq (sy_tok tk (sy_py i)).1 0) (Nat.beq (sy_tok tk (sy_py i)).2.1 (sy_tok tk (sy_py i)).2.2) false) (sy_force (sy_pk 0 (Nat.mod (Nat.add (sy_tok tk (sy_py i)).2.1 2147483648) 4294967296)) fun v => sy_go L (v :: r') h c s)
        (sy_force (sy_pk 6 (sy_py i)) fun v => sy_go L (v :: r') h c s)) tk))
    (sy_ald 0 0 0 tk x y L st h c s)
noncomputable def sy_ast (t ty : Nat) : sy_F := fun tk _ _ L st h c s => sy_p1 st fun v r => sy_p1 r fun i r => sy_p1 r fun a r =>
  sy_cell h a fun k n d => sy_if (cond (Nat.beq k (Nat.succ (Nat.mul 2 t))) (Nat.beq (sy_ty v) ty) false) (sy_ix tk i n fun j => sy_force (sy_wr d j v) fun d => sy_go L r (h.1, sy_hp h.2 (sy_py a) (k, n, d)) c s)
/-- of chars: an int that is one, or a token that is one -/
noncomputable def sy_cast : sy_F := fun tk _ _ L st h c s => sy_p1 st fun v r => sy_p1 r fun i r => sy_p1 r fun a r =>
  sy_cell h a fun k n d => sy_if (cond (Nat.beq k 7) (cond (Nat.beq (sy_tg v) 8) true (cond (Nat.beq (sy_tg v) 0) (Nat.ble (sy_py v) 65535) false)) false) (sy_ix tk i n fun j => sy_force (sy_wr d j v) fun d => sy_go L r (h.1, sy_hp h.2 (sy_py a) (k, n, d)) c s)
/-- of references: T gives the class whose objects the array's type holds -/
noncomputable def sy_aast (T : Nat → Nat) : sy_F := fun tk _ _ L st h c s => sy_p1 st fun v r => sy_p1 r fun i r => sy_p1 r fun a r =>
  sy_cell h a fun k n d => sy_if (cond (Nat.beq (Nat.mod k 2) 1) (cond (Nat.ble 13 k) (Nat.ble k 23) false) false)
    (cond (Nat.beq v 4) (sy_ix tk i n fun j => sy_force (sy_wr d j 4) fun d => sy_go L r (h.1, sy_hp h.2 (sy_py a) (k, n, d)) c s)
      (sy_cell h v fun k2 _ _ => sy_if (Nat.beq k2 (Nat.mul 2 (T (Nat.div k 2)))) (sy_ix tk i n fun j => sy_force (sy_wr d j v) fun d => sy_go L r (h.1, sy_hp h.2 (sy_py a) (k, n, d)) c s)))
noncomputable def sy_castA : sy_F := fun _ x _ L st h c s => sy_p1 st fun a r => sy_cell h a fun k _ _ => sy_if (Nat.beq k (Nat.succ (Nat.mul 2 x))) (sy_go L (a :: r) h c s)
noncomputable def sy_cats (l : List Nat) : Nat := List.rec (motive := fun _ => Nat) 0 (fun v _ n => Nat.add (sy_ct v) n) l
noncomputable def sy_clone : sy_F := fun _ _ _ L st h c s => sy_p1 st fun a r => sy_cell h a fun k n d => sy_if (cond (Nat.beq k 1) (Nat.ble (sy_cats r) 50) false) (sy_alloc h L r c s k n d)
/-- the constructor of Object -/
noncomputable def sy_obin : sy_F := fun _ _ _ L st h c s => sy_p1 st fun a r => sy_if (cond (Nat.beq (sy_tg a) 5) (Nat.ble (sy_cats r) 50) false) (sy_go L r h c s)
/-- n ints of d, from sp on, into e, from dp on -/
noncomputable def sy_cpy (d sp dp n e : Nat) : Nat := Nat.rec (motive := fun _ => Nat) e (fun j r => sy_wr r (Nat.add dp j) (sy_rd d (Nat.add sp j))) n
noncomputable def sy_acpy : sy_F := fun _ _ _ L st h c s => sy_p1 st fun n r => sy_p1 r fun dp r => sy_p1 r fun b r => sy_p1 r fun sp r => sy_p1 r fun a r =>
  sy_cell h a fun k1 n1 d1 => sy_cell h b fun k2 n2 d2 =>
    sy_if (cond (Nat.beq k1 1) (cond (Nat.beq k2 1) (cond (Nat.beq (sy_tg n) 0) (cond (Nat.beq (sy_tg dp) 0) (Nat.beq (sy_tg sp) 0) false) false) false) false)
      (sy_if (cond (Nat.ble n1 65535) (cond (Nat.ble n2 65535) (cond (Nat.ble (Nat.add (sy_py sp) (sy_py n)) n1) (cond (Nat.ble (Nat.add (sy_py dp) (sy_py n)) n2) (Nat.ble (sy_cats r) 50) false) false) false) false)
        (sy_force (sy_cpy d1 (sy_py sp) (sy_py dp) (sy_py n) d2) fun d => sy_go L r (h.1, sy_hp h.2 (sy_py b) (k2, n2, d)) c s))
/-- the rows of boolean[n][m]: behind the outer array -/
noncomputable def sy_rows (m : Nat) (K : Nat) (n : Nat) (t : sy_U9) : sy_U9 := Nat.rec (motive := fun _ => sy_U9) t (fun j r => sy_hp r (Nat.add (Nat.succ m) j) (5, K, 0)) n
noncomputable def sy_refs (m : Nat) (n : Nat) : Nat := Nat.rec (motive := fun _ => Nat) 0 (fun j r => sy_wr r j (sy_pk 5 (Nat.add (Nat.succ m) j))) n
noncomputable def sy_mna : sy_F := fun _ x _ L st h c s => sy_p1 st fun k r => sy_p1 r fun n r =>
  sy_if (cond (Nat.beq (sy_tg k) 0) (cond (Nat.beq (sy_tg n) 0) (cond (Nat.ble (sy_py k) 65535) (Nat.ble (Nat.add (Nat.succ h.1) (sy_py n)) 511) false) false) false)
    (sy_force (sy_pk 5 h.1) fun v => sy_force h.1 fun m => sy_force (sy_refs m (sy_py n)) fun d => sy_force (Nat.add (Nat.add c 1) (sy_py n)) fun c => sy_force (Nat.add (Nat.add s (sy_py n)) (Nat.mul (sy_py n) (sy_py k))) fun s =>
      sy_go L (v :: r) (Nat.add (Nat.succ m) (sy_py n), sy_rows m (sy_py k) (sy_py n) (sy_hp h.2 m (Nat.succ (Nat.mul 2 x), sy_py n, d))) c s)
/-- a call: x the method, y how many it takes from the stack -/
noncomputable def sy_call : sy_F := fun _ x _ L st h c s => (5, x, L, st, h, c, s)
noncomputable def sy_thr : sy_F := fun _ x _ L _ h c s => (6, x, L, [], h, Nat.add c 1, Nat.add s 6)
/-- the law's switch: x the place of its first row's list; a row each K, then the default -/
noncomputable def sy_tsw (sw : List Nat) (df : Nat) : sy_F := fun _ _ _ L st h c s => sy_p1 st fun a r => sy_if (cond (Nat.beq (sy_tg a) 0) (Nat.ble (sy_py a) 63) false) (sy_force (sy_nth df sw (sy_py a)) fun x => sy_jmp x L r h c s)
end SY
