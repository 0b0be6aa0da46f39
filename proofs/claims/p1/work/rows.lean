section
/-! The abstract machine: values packed into numbers (16 * payload + tag), contents and locals as numbers with places of 72 bits, evaluated by the kernel -/
section SY
noncomputable def sy_nth {α : Type} (d : α) (l : List α) : Nat → α := List.rec (motive := fun _ => Nat → α) (fun _ => d) (fun a _ ih n => Nat.rec (motive := fun _ => α) a (fun m _ => ih m) n) l
noncomputable def sy_drop {α : Type} (l : List α) : Nat → List α := List.rec (motive := fun _ => Nat → List α) (fun _ => []) (fun a t ih n => Nat.rec (motive := fun _ => List α) (a :: t) (fun m _ => ih m) n) l
noncomputable def sy_pad {α : Type} (d x : α) (n : Nat) : List α := Nat.rec (motive := fun _ => List α) [x] (fun _ r => d :: r) n
noncomputable def sy_put {α : Type} (d x : α) (l : List α) : Nat → List α := List.rec (motive := fun _ => Nat → List α) (fun n => sy_pad d x n) (fun a t ih n => Nat.rec (motive := fun _ => List α) (x :: t) (fun m _ => a :: ih m) n) l
noncomputable def sy_force {α : Type} (n : Nat) (f : Nat → α) : α := Nat.rec (motive := fun _ => α) (f 0) (fun m _ => f (Nat.succ m)) n
noncomputable def sy_len {α : Type} (l : List α) : Nat := List.rec (motive := fun _ => Nat) 0 (fun _ _ n => Nat.succ n) l
noncomputable def sy_take {α : Type} (l : List α) : Nat → List α := List.rec (motive := fun _ => Nat → List α) (fun _ => []) (fun a _ ih n => Nat.rec (motive := fun _ => List α) [] (fun m _ => a :: ih m) n) l
/-- the first n, turned round, ahead of acc -/
noncomputable def sy_rev (l : List Nat) : Nat → List Nat → List Nat := List.rec (motive := fun _ => Nat → List Nat → List Nat) (fun _ acc => acc) (fun a _ ih n acc => Nat.rec (motive := fun _ => List Nat) acc (fun m _ => ih m (a :: acc)) n) l
def sy_rd (c i : Nat) : Nat := Nat.mod (Nat.shiftRight c (Nat.mul 72 i)) 4722366482869645213696
def sy_wr (c i v : Nat) : Nat := Nat.xor c (Nat.shiftLeft (Nat.xor (sy_rd c i) v) (Nat.mul 72 i))
def sy_tg (v : Nat) : Nat := Nat.mod v 16
def sy_py (v : Nat) : Nat := Nat.div v 16
def sy_pk (t n : Nat) : Nat := Nat.add (Nat.mul 16 n) t
/-- a place in the code: pc, operation, two numbers -/
abbrev sy_E : Type := Nat × Nat × Nat × Nat
/-- what is known of the script's ints: 0 the int lies within, 1 its char lies within, 2 its low six bits are (the bounds shifted by 2^31) -/
abbrev sy_T : Type := List (Nat × Nat × Nat)
/-- a cell: 2 * class (an object) or 2 * type + 1 (an array); its length; its content -/
abbrev sy_O : Type := Nat × Nat × Nat
abbrev sy_H : Type := Nat × List (List (List sy_O))
/-- kind; a number; locals; stack; heap; cells; slots -/
abbrev sy_X : Type := Nat × Nat × Nat × List Nat × sy_H × Nat × Nat
/-- code; locals; handlers (from, to, place, class) -/
abbrev sy_M : Type := List sy_E × Nat × List (Nat × Nat × Nat × Nat)
def sy_o0 : sy_O := (0, 0, 0)
noncomputable def sy_hg (t : List (List (List sy_O))) (i : Nat) : sy_O := sy_nth sy_o0 (sy_nth [] (sy_nth [] t (Nat.div i 64)) (Nat.mod (Nat.div i 8) 8)) (Nat.mod i 8)
noncomputable def sy_hp (t : List (List (List sy_O))) (i : Nat) (x : sy_O) : List (List (List sy_O)) :=
  sy_put [] (sy_put [] (sy_put sy_o0 x (sy_nth [] (sy_nth [] t (Nat.div i 64)) (Nat.mod (Nat.div i 8) 8)) (Nat.mod i 8)) (sy_nth [] t (Nat.div i 64)) (Nat.mod (Nat.div i 8) 8)) t (Nat.div i 64)
noncomputable def sy_no (a : Nat) : sy_X := (0, a, 0, [], (0, []), 0, 0)
noncomputable def sy_go (L : Nat) (st : List Nat) (h : sy_H) (c s : Nat) : sy_X := (1, 0, L, st, h, c, s)
/-- 0 int, 1 long, 2 reference, 3 float, 4 double -/
noncomputable def sy_ty (v : Nat) : Nat := sy_nth 9 [0, 1, 3, 4, 2, 2, 0, 1, 0, 2] (sy_tg v)
noncomputable def sy_ct (v : Nat) : Nat := sy_nth 1 [1, 2, 1, 2, 1, 1, 1, 2, 1, 1] (sy_tg v)
/-- pop one -/
noncomputable def sy_p1 (st : List Nat) (f : Nat → List Nat → sy_X) : sy_X := List.rec (motive := fun _ => sy_X) (sy_no 0) (fun v r _ => sy_force v (fun v => f v r)) st
noncomputable def sy_if (b : Bool) (x : sy_X) : sy_X := cond b x (sy_no 0)
abbrev sy_F : Type := sy_T → Nat → Nat → Nat → List Nat → sy_H → Nat → Nat → sy_X
noncomputable def sy_push : sy_F := fun _ x _ L st h c s => sy_go L (x :: st) h c s
noncomputable def sy_load (ty : Nat) : sy_F := fun _ x _ L st h c s =>
  Nat.rec (motive := fun _ => sy_X) (sy_no 0) (fun v _ => sy_if (Nat.beq (sy_ty v) ty) (sy_go L (v :: st) h c s)) (sy_rd L x)
noncomputable def sy_clr (L i : Nat) : Nat := Nat.rec (motive := fun _ => Nat) L (fun j _ => Nat.rec (motive := fun _ => Nat) L (fun v _ => cond (Nat.beq (sy_ct v) 2) (sy_wr L j 0) L) (sy_rd L j)) i
noncomputable def sy_sto (L i v : Nat) : Nat := sy_wr (sy_clr L i) i (Nat.succ v)
noncomputable def sy_sto2 (L i v : Nat) : Nat := sy_wr (sy_sto L i v) (Nat.succ i) 0
/-- a store of one slot; the method's locals bound x by the table -/
noncomputable def sy_stor (ty : Nat) : sy_F := fun _ x _ L st h c s => sy_p1 st fun v r => sy_if (Nat.beq (sy_ty v) ty) (sy_force (sy_sto L x v) fun L => sy_go L r h c s)
noncomputable def sy_stor2 (ty : Nat) : sy_F := fun _ x _ L st h c s => sy_p1 st fun v r => sy_if (Nat.beq (sy_ty v) ty) (sy_force (sy_sto2 L x v) fun L => sy_go L r h c s)
noncomputable def sy_iinc : sy_F := fun _ x y L st h c s =>
  Nat.rec (motive := fun _ => sy_X) (sy_no 0) (fun v _ => sy_if (Nat.beq (sy_tg v) 0) (sy_force (sy_sto L x (sy_pk 0 (Nat.mod (Nat.add (sy_py v) (Nat.add y 4294934528)) 4294967296))) fun L => sy_go L st h c s)) (sy_rd L x)
noncomputable def sy_bin (t : Nat) (f : Nat → Nat → Nat) : sy_F := fun _ _ _ L st h c s => sy_p1 st fun b r => sy_p1 r fun a r =>
  sy_if (cond (Nat.beq (sy_tg a) t) (Nat.beq (sy_tg b) t) false) (sy_force (sy_pk t (f (sy_py a) (sy_py b))) fun v => sy_go L (v :: r) h c s)
noncomputable def sy_tok (tk : sy_T) (k : Nat) : Nat × Nat × Nat := sy_nth (9, 0, 0) tk k
noncomputable def sy_iand : sy_F := fun tk _ _ L st h c s => sy_p1 st fun b r => sy_p1 r fun a r =>
  cond (Nat.beq (sy_tg a) 0) (sy_if (Nat.beq (sy_tg b) 0) (sy_force (sy_pk 0 (Nat.land (sy_py a) (sy_py b))) fun v => sy_go L (v :: r) h c s))
    (sy_if (cond (Nat.beq (sy_tg a) 6) (cond (Nat.beq b 1008) (Nat.beq (sy_tok tk (sy_py a)).1 2) false) false) (sy_force (sy_pk 0 (sy_tok tk (sy_py a)).2.1) fun v => sy_go L (v :: r) h c s))
noncomputable def sy_i2l : sy_F := fun _ _ _ L st h c s => sy_p1 st fun a r =>
  cond (Nat.beq (sy_tg a) 0) (sy_force (sy_pk 1 (cond (Nat.ble 2147483648 (sy_py a)) (Nat.add (sy_py a) 18446744069414584320) (sy_py a))) fun v => sy_go L (v :: r) h c s)
    (sy_if (Nat.beq (sy_tg a) 6) (sy_force (Nat.succ a) fun v => sy_go L (v :: r) h c s))
noncomputable def sy_l2i : sy_F := fun _ _ _ L st h c s => sy_p1 st fun a r => sy_if (Nat.beq (sy_tg a) 1) (sy_force (sy_pk 0 (Nat.mod (sy_py a) 4294967296)) fun v => sy_go L (v :: r) h c s)
noncomputable def sy_i2c : sy_F := fun tk _ _ L st h c s => sy_p1 st fun a r =>
  cond (Nat.beq (sy_tg a) 0) (sy_force (sy_pk 0 (Nat.mod (sy_py a) 65536)) fun v => sy_go L (v :: r) h c s)
    (sy_if (cond (Nat.beq (sy_tg a) 6) (Nat.beq (sy_tok tk (sy_py a)).1 1) false)
      (cond (Nat.beq (sy_tok tk (sy_py a)).2.1 (sy_tok tk (sy_py a)).2.2) (sy_force (sy_pk 0 (Nat.sub (sy_tok tk (sy_py a)).2.1 2147483648)) fun v => sy_go L (v :: r) h c s)
        (sy_force (Nat.add a 2) fun v => sy_go L (v :: r) h c s)))
/-- the bounds of an int, shifted by 2^31; of a long, by 2^63 -/
noncomputable def sy_iv (tk : sy_T) (v : Nat) : Nat × Nat :=
  sy_nth (0, 18446744073709551615) [(Nat.mod (Nat.add (sy_py v) 2147483648) 4294967296, Nat.mod (Nat.add (sy_py v) 2147483648) 4294967296), (Nat.mod (Nat.add (sy_py v) 9223372036854775808) 18446744073709551616, Nat.mod (Nat.add (sy_py v) 9223372036854775808) 18446744073709551616), (0, 0), (0, 0), (0, 0), (0, 0),
    cond (Nat.beq (sy_tok tk (sy_py v)).1 0) (sy_tok tk (sy_py v)).2 (0, 4294967295),
    cond (Nat.beq (sy_tok tk (sy_py v)).1 0) (Nat.add (sy_tok tk (sy_py v)).2.1 9223372034707292160, Nat.add (sy_tok tk (sy_py v)).2.2 9223372034707292160) (9223372034707292160, 9223372039002259455),
    cond (Nat.beq (sy_tok tk (sy_py v)).1 1) (sy_tok tk (sy_py v)).2 (2147483648, 2147549183)] (sy_tg v)
/-- 0 no, 1 yes, 2 + token + 16 * pivot: not known -/
noncomputable def sy_unk (a b : Nat) (pa pb : Nat) : Nat := cond (Nat.ble 6 (sy_tg a)) (Nat.add 2 (Nat.add (sy_py a) (Nat.mul 16 pa))) (Nat.add 2 (Nat.add (sy_py b) (Nat.mul 16 pb)))
noncomputable def sy_lt (tk : sy_T) (a b : Nat) : Nat :=
  cond (Nat.ble (Nat.succ (sy_iv tk a).2) (sy_iv tk b).1) 1 (cond (Nat.ble (sy_iv tk b).2 (sy_iv tk a).1) 0 (sy_unk a b (sy_iv tk b).1 (Nat.succ (sy_iv tk a).1)))
noncomputable def sy_eq (tk : sy_T) (a b : Nat) : Nat :=
  cond (Nat.ble (Nat.succ (sy_iv tk a).2) (sy_iv tk b).1) 0 (cond (Nat.ble (Nat.succ (sy_iv tk b).2) (sy_iv tk a).1) 0
    (cond (cond (Nat.beq (sy_iv tk a).1 (sy_iv tk a).2) (cond (Nat.beq (sy_iv tk b).1 (sy_iv tk b).2) (Nat.beq (sy_iv tk a).1 (sy_iv tk b).1) false) false) 1
      (cond (Nat.ble 6 (sy_tg a)) (sy_unk a b (cond (Nat.ble (sy_iv tk b).1 (sy_iv tk a).1) (Nat.succ (sy_iv tk a).1) (sy_iv tk b).1) 0)
        (sy_unk a b 0 (cond (Nat.ble (sy_iv tk a).1 (sy_iv tk b).1) (Nat.succ (sy_iv tk b).1) (sy_iv tk a).1)))))
noncomputable def sy_fork (r : Nat) (yes no : sy_X) : sy_X := Nat.rec (motive := fun _ => sy_X) no (fun m _ => Nat.rec (motive := fun _ => sy_X) yes (fun k _ => sy_no (Nat.succ k)) m) r
noncomputable def sy_jmp (x L : Nat) (st : List Nat) (h : sy_H) (c s : Nat) : sy_X := (2, x, L, st, h, c, s)
/-- compare and jump: which of the two rows, with or without the turn of yes and no, and of the operands -/
noncomputable def sy_br (q : sy_T → Nat → Nat → Nat) (neg : Bool) (tk : sy_T) (x L : Nat) (a b : Nat) (r : List Nat) (h : sy_H) (c s : Nat) : sy_X :=
  sy_if (cond (Nat.beq (sy_ty a) 0) (Nat.beq (sy_ty b) 0) false) (sy_fork (q tk a b) (cond neg (sy_go L r h c s) (sy_jmp x L r h c s)) (cond neg (sy_jmp x L r h c s) (sy_go L r h c s)))
noncomputable def sy_gt (tk : sy_T) (a b : Nat) : Nat := sy_lt tk b a
noncomputable def sy_ifc (q : sy_T → Nat → Nat → Nat) (neg : Bool) : sy_F := fun tk x _ L st h c s => sy_p1 st fun a r => sy_br q neg tk x L a 0 r h c s
noncomputable def sy_icmp (q : sy_T → Nat → Nat → Nat) (neg : Bool) : sy_F := fun tk x _ L st h c s => sy_p1 st fun b r => sy_p1 r fun a r => sy_br q neg tk x L a b r h c s
noncomputable def sy_lcmp : sy_F := fun tk _ _ L st h c s => sy_p1 st fun b r => sy_p1 r fun a r =>
  sy_if (cond (Nat.beq (sy_ty a) 1) (Nat.beq (sy_ty b) 1) false) (sy_fork (sy_lt tk a b) (sy_go L (68719476720 :: r) h c s) (sy_fork (sy_lt tk b a) (sy_go L (16 :: r) h c s) (sy_go L (0 :: r) h c s)))
noncomputable def sy_dup : sy_F := fun _ _ _ L st h c s => sy_p1 st fun a r => sy_if (Nat.beq (sy_ct a) 1) (sy_go L (a :: a :: r) h c s)
noncomputable def sy_pop : sy_F := fun _ _ _ L st h c s => sy_p1 st fun a r => sy_if (Nat.beq (sy_ct a) 1) (sy_go L r h c s)
/-- a reference or null (no token) -/
noncomputable def sy_isr (v : Nat) : Bool := cond (Nat.beq (sy_tg v) 4) true (Nat.beq (sy_tg v) 5)
noncomputable def sy_acmp (neg : Bool) : sy_F := fun _ x _ L st h c s => sy_p1 st fun b r => sy_p1 r fun a r =>
  sy_if (cond (sy_isr a) (sy_isr b) false) (cond (cond neg (cond (Nat.beq a b) false true) (Nat.beq a b)) (sy_jmp x L r h c s) (sy_go L r h c s))
noncomputable def sy_nul (neg : Bool) : sy_F := fun _ x _ L st h c s => sy_p1 st fun a r =>
  sy_if (sy_isr a) (cond (cond neg (Nat.beq (sy_tg a) 5) (Nat.beq (sy_tg a) 4)) (sy_jmp x L r h c s) (sy_go L r h c s))
noncomputable def sy_goto : sy_F := fun _ x _ L st h c s => sy_jmp x L st h c s
noncomputable def sy_ret (ty : Nat) : sy_F := fun _ _ _ L st h c s => sy_p1 st fun a _ => sy_if (Nat.beq (sy_ty a) ty) (4, a, L, [], h, c, s)
noncomputable def sy_retv : sy_F := fun _ _ _ L _ h c s => (3, 0, L, [], h, c, s)
/-- the cell of a reference -/
noncomputable def sy_cell (h : sy_H) (v : Nat) (f : Nat → Nat → Nat → sy_X) : sy_X := sy_if (cond (Nat.beq (sy_tg v) 5) (Nat.ble (Nat.succ (sy_py v)) h.1) false) (Prod.rec (motive := fun _ => sy_X) (fun k r => Prod.rec (motive := fun _ => sy_X) (fun n d => sy_force d fun d => f k n d) r) (sy_hg h.2 (sy_py v)))
noncomputable def sy_getf : sy_F := fun _ x _ L st h c s => sy_p1 st fun a r => sy_cell h a fun k n d =>
  sy_if (cond (Nat.beq k (Nat.mul 2 (Nat.div x 64))) (Nat.ble (Nat.succ (Nat.mod x 64)) n) false) (sy_force (sy_rd d (Nat.mod x 64)) fun v => sy_go L (v :: r) h c s)
/-- x: class and place; y: the type of what is stored -/
noncomputable def sy_putf : sy_F := fun _ x y L st h c s => sy_p1 st fun v r => sy_p1 r fun a r => sy_cell h a fun k n d =>
  sy_if (cond (Nat.beq k (Nat.mul 2 (Nat.div x 64))) (cond (Nat.ble (Nat.succ (Nat.mod x 64)) n) (Nat.beq (sy_ty v) (Nat.mod y 8)) false) false)
    (sy_force (sy_wr d (Nat.mod x 64) v) fun d => sy_go L r (h.1, sy_hp h.2 (sy_py a) (k, n, d)) c s)
/-- x: class; y: its fields at the start; the index stands in the table of classes -/
noncomputable def sy_alloc (h : sy_H) (L : Nat) (r : List Nat) (c s : Nat) (k n d : Nat) : sy_X :=
  sy_if (Nat.ble (Nat.succ h.1) 511) (sy_force (sy_pk 5 h.1) fun v => sy_force h.1 fun m => sy_force (Nat.add c 1) fun c => sy_force (Nat.add s n) fun s => sy_go L (v :: r) (Nat.succ m, sy_hp h.2 m (k, n, d)) c s)
noncomputable def sy_new (F : Nat → Nat × Nat) : sy_F := fun _ x _ L st h c s => sy_alloc h L st c s (Nat.mul 2 x) (F x).1 (F x).2
noncomputable def sy_newa : sy_F := fun _ x _ L st h c s => sy_p1 st fun v r => sy_if (cond (Nat.beq (sy_tg v) 0) (Nat.ble (sy_py v) 65535) false) (sy_alloc h L r c s (Nat.succ (Nat.mul 2 x)) (sy_py v) 0)
noncomputable def sy_alen (tk : sy_T) (len : Nat) : sy_F := fun _ _ _ L st h c s => sy_p1 st fun a r =>
  cond (Nat.beq (sy_tg a) 9) (sy_go L (sy_pk 0 len :: r) h c s) (sy_cell h a fun k n _ => sy_if (cond (Nat.beq (Nat.mod k 2) 1) (Nat.ble n 65535) false) (sy_force (sy_pk 0 n) fun v => sy_go L (v :: r) h c s))
/-- what a place of an array of type t holds: nothing stored is the type's own nought -/
noncomputable def sy_dv (t : Nat) : Nat := sy_nth 4 [0, 1, 0, 0, 0, 3] t
noncomputable def sy_elt (t w : Nat) : Nat := Nat.rec (motive := fun _ => Nat) (sy_dv t) (fun m _ => Nat.succ m) w
/-- an index, or a fork on it -/
noncomputable def sy_ix (tk : sy_T) (i n : Nat) (f : Nat → sy_X) : sy_X :=
  cond (Nat.beq (sy_tg i) 0) (sy_if (cond (Nat.ble (Nat.succ (sy_py i)) n) (Nat.ble n 65535) false) (f (sy_py i)))
    (cond (Nat.beq (sy_tg i) 6) (cond (Nat.beq (sy_iv tk i).1 (sy_iv tk i).2) (sy_no 0) (sy_no (Nat.succ (Nat.add (sy_py i) (Nat.mul 16 (Nat.succ (sy_iv tk i).1)))))) (sy_no 0))
noncomputable def sy_ald (t : Nat) : sy_F := fun tk _ _ L st h c s => sy_p1 st fun i r => sy_p1 r fun a r =>
  sy_cell h a fun k n d => sy_if (Nat.beq k (Nat.succ (Nat.mul 2 t))) (sy_ix tk i n fun j => sy_force (sy_elt t (sy_rd d j)) fun v => sy_go L (v :: r) h c s)
/-- of an array of references: x its type -/
noncomputable def sy_aald : sy_F := fun tk _ _ L st h c s => sy_p1 st fun i r => sy_p1 r fun a r =>
  sy_cell h a fun k n d => sy_if (cond (Nat.beq (Nat.mod k 2) 1) (Nat.ble 13 k) false) (sy_ix tk i n fun j => sy_force (sy_elt 6 (sy_rd d j)) fun v => sy_go L (v :: r) h c s)
/-- of ints: the script too -/
noncomputable def sy_iald (len : Nat) : sy_F := fun tk x y L st h c s => sy_p1 st fun i r => sy_p1 r fun a r' =>
  cond (Nat.beq (sy_tg a) 9)
    (sy_if (cond (Nat.beq (sy_tg i) 0) (Nat.ble (Nat.succ (sy_py i)) len) false) (List.rec (motive := fun _ => sy_X) (8, 0, L, st, h, c, s) (fun _ _ _ =>
      cond (cond (Nat.beq (sy_tok tk (sy_py i)).1 0) (Nat.beq (sy_tok tk (sy_py i)).2.1 (sy_tok tk (sy_py i)).2.2) false) (sy_force (sy_pk 0 (Nat.mod (Nat.add (sy_tok tk (sy_py i)).2.1 2147483648) 4294967296)) fun v => sy_go L (v :: r') h c s)
        (sy_force (sy_pk 6 (sy_py i)) fun v => sy_go L (v :: r') h c s)) tk))
    (sy_ald 0 tk x y L st h c s)
noncomputable def sy_ast (t ty : Nat) : sy_F := fun tk _ _ L st h c s => sy_p1 st fun v r => sy_p1 r fun i r => sy_p1 r fun a r =>
  sy_cell h a fun k n d => sy_if (cond (Nat.beq k (Nat.succ (Nat.mul 2 t))) (Nat.beq (sy_ty v) ty) false) (sy_ix tk i n fun j => sy_force (sy_wr d j v) fun d => sy_go L r (h.1, sy_hp h.2 (sy_py a) (k, n, d)) c s)
/-- of chars: an int that is one, or a token that is one -/
noncomputable def sy_cast : sy_F := fun tk _ _ L st h c s => sy_p1 st fun v r => sy_p1 r fun i r => sy_p1 r fun a r =>
  sy_cell h a fun k n d => sy_if (cond (Nat.beq k 7) (cond (Nat.beq (sy_tg v) 8) true (cond (Nat.beq (sy_tg v) 0) (Nat.ble (sy_py v) 65535) false)) false) (sy_ix tk i n fun j => sy_force (sy_wr d j v) fun d => sy_go L r (h.1, sy_hp h.2 (sy_py a) (k, n, d)) c s)
/-- of references: T gives the class whose objects the array's type holds -/
noncomputable def sy_aast (T : Nat → Nat) : sy_F := fun tk _ _ L st h c s => sy_p1 st fun v r => sy_p1 r fun i r => sy_p1 r fun a r =>
  sy_cell h a fun k n d => sy_if (cond (Nat.beq (Nat.mod k 2) 1) (Nat.ble 13 k) false)
    (cond (Nat.beq v 4) (sy_ix tk i n fun j => sy_force (sy_wr d j 4) fun d => sy_go L r (h.1, sy_hp h.2 (sy_py a) (k, n, d)) c s)
      (sy_cell h v fun k2 _ _ => sy_if (Nat.beq k2 (Nat.mul 2 (T (Nat.div k 2)))) (sy_ix tk i n fun j => sy_force (sy_wr d j v) fun d => sy_go L r (h.1, sy_hp h.2 (sy_py a) (k, n, d)) c s)))
noncomputable def sy_castA : sy_F := fun _ x _ L st h c s => sy_p1 st fun a r => sy_cell h a fun k _ _ => sy_if (Nat.beq k (Nat.succ (Nat.mul 2 x))) (sy_go L (a :: r) h c s)
noncomputable def sy_clone : sy_F := fun _ _ _ L st h c s => sy_p1 st fun a r => sy_cell h a fun k n d => sy_if (Nat.beq k 1) (sy_alloc h L r c s k n d)
/-- n ints of d, from sp on, into e, from dp on -/
noncomputable def sy_cpy (d sp dp n e : Nat) : Nat := Nat.rec (motive := fun _ => Nat) e (fun j r => sy_wr r (Nat.add dp j) (sy_rd d (Nat.add sp j))) n
noncomputable def sy_acpy : sy_F := fun _ _ _ L st h c s => sy_p1 st fun n r => sy_p1 r fun dp r => sy_p1 r fun b r => sy_p1 r fun sp r => sy_p1 r fun a r =>
  sy_cell h a fun k1 n1 d1 => sy_cell h b fun k2 n2 d2 =>
    sy_if (cond (Nat.beq k1 1) (cond (Nat.beq k2 1) (cond (Nat.beq (sy_tg n) 0) (cond (Nat.beq (sy_tg dp) 0) (Nat.beq (sy_tg sp) 0) false) false) false) false)
      (sy_if (cond (Nat.ble n1 65535) (cond (Nat.ble n2 65535) (cond (Nat.ble (Nat.add (sy_py sp) (sy_py n)) n1) (Nat.ble (Nat.add (sy_py dp) (sy_py n)) n2) false) false) false)
        (sy_force (sy_cpy d1 (sy_py sp) (sy_py dp) (sy_py n) d2) fun d => sy_go L r (h.1, sy_hp h.2 (sy_py b) (k2, n2, d)) c s))
/-- the rows of boolean[n][m]: behind the outer array -/
noncomputable def sy_rows (m : Nat) (K : Nat) (n : Nat) (t : List (List (List sy_O))) : List (List (List sy_O)) := Nat.rec (motive := fun _ => List (List (List sy_O))) t (fun j r => sy_hp r (Nat.add (Nat.succ m) j) (5, K, 0)) n
noncomputable def sy_refs (m : Nat) (n : Nat) : Nat := Nat.rec (motive := fun _ => Nat) 0 (fun j r => sy_wr r j (sy_pk 5 (Nat.add (Nat.succ m) j))) n
noncomputable def sy_mna : sy_F := fun _ x _ L st h c s => sy_p1 st fun k r => sy_p1 r fun n r =>
  sy_if (cond (Nat.beq (sy_tg k) 0) (cond (Nat.beq (sy_tg n) 0) (cond (Nat.ble (sy_py k) 65535) (Nat.ble (Nat.add (Nat.succ h.1) (sy_py n)) 511) false) false) false)
    (sy_force (sy_pk 5 h.1) fun v => sy_force h.1 fun m => sy_force (sy_refs m (sy_py n)) fun d => sy_force (Nat.add (Nat.add c 1) (sy_py n)) fun c => sy_force (Nat.add (Nat.add s (sy_py n)) (Nat.mul (sy_py n) (sy_py k))) fun s =>
      sy_go L (v :: r) (Nat.add (Nat.succ m) (sy_py n), sy_rows m (sy_py k) (sy_py n) (sy_hp h.2 m (Nat.succ (Nat.mul 2 x), sy_py n, d))) c s)
/-- a call: x the method, y how many it takes from the stack -/
noncomputable def sy_call : sy_F := fun _ x _ L st h c s => (5, x, L, st, h, c, s)
noncomputable def sy_thr : sy_F := fun _ x _ L _ h c s => (6, x, L, [], h, Nat.add c 1, Nat.add s 6)
/-- the law's switch: x the place of its first row's list; a row each K, then the default -/
noncomputable def sy_tsw (sw : List Nat) (df : Nat) : sy_F := fun _ _ _ L st h c s => sy_p1 st fun a r => sy_if (cond (Nat.beq (sy_tg a) 0) (Nat.ble (sy_py a) 63) false) (sy_force (sy_nth df sw (sy_py a)) fun x => sy_jmp x L r h c s)
end SY
end
section
/-! printed by wip/p1/gen.py: the classes, fields, code of the methods that are reached -/
section SYT
def RX0 : String := "Manypens$Book"
def TX0 : u_T := fun k => match k with
  | 0 => ("Manypens$Book", "none", "LManypens$Edit;", true)
  | 1 => ("Manypens$Book", "edits", "[LManypens$Edit;", true)
  | 2 => ("Manypens$Book", "made", "[I", true)
  | 3 => ("Manypens$Book", "base", "[I", true)
  | 4 => ("Manypens$Book", "pieces", "LManypens$Pieces;", true)
  | 5 => ("Manypens$Book", "signs", "LManypens$Signs;", true)
  | 6 => ("Manypens$Book", "marks", "LManypens$Ints;", true)
  | _ => ("Manypens$Book", "comments", "LManypens$Ints;", true)
def tyX0 : Nat → FieldType := fun k => match k with
  | 0 => .object "Manypens$Edit"
  | 1 => .array (.object "Manypens$Edit")
  | 2 => .array .int
  | 3 => .array .int
  | 4 => .object "Manypens$Pieces"
  | 5 => .object "Manypens$Signs"
  | 6 => .object "Manypens$Ints"
  | _ => .object "Manypens$Ints"
abbrev wsX00 : List Cond := u_ws RX0 TX0 8
theorem nmX0 : ∀ a, a < 8 → ∀ b, b < 8 → a ≠ b → (TX0 a).2.1 ≠ (TX0 b).2.1 := by decide +kernel
theorem tyX0_ok : ∀ k, k < 8 → parseFieldDescriptor (TX0 k).2.2.1 = some (tyX0 k) := by decide +kernel
def RX1 : String := "Manypens$Edit"
def TX1 : u_T := fun k => match k with
  | 0 => ("Manypens$Edit", "hand", "I", true)
  | 1 => ("Manypens$Edit", "number", "I", true)
  | 2 => ("Manypens$Edit", "id", "I", true)
  | 3 => ("Manypens$Edit", "time", "I", true)
  | 4 => ("Manypens$Edit", "leaning", "[I", true)
  | 5 => ("Manypens$Edit", "group", "I", false)
  | 6 => ("Manypens$Edit", "turning", "I", false)
  | 7 => ("Manypens$Edit", "origin", "J", false)
  | 8 => ("Manypens$Edit", "firstLetter", "J", false)
  | 9 => ("Manypens$Edit", "letters", "J", false)
  | 10 => ("Manypens$Edit", "mark", "I", false)
  | 11 => ("Manypens$Edit", "isOn", "Z", false)
  | 12 => ("Manypens$Edit", "isComment", "Z", false)
  | 13 => ("Manypens$Edit", "code", "I", false)
  | 14 => ("Manypens$Edit", "from", "J", false)
  | 15 => ("Manypens$Edit", "to", "J", false)
  | _ => ("Manypens$Edit", "isToWithin", "Z", false)
def tyX1 : Nat → FieldType := fun k => match k with
  | 0 => .int
  | 1 => .int
  | 2 => .int
  | 3 => .int
  | 4 => .array .int
  | 5 => .int
  | 6 => .int
  | 7 => .long
  | 8 => .long
  | 9 => .long
  | 10 => .int
  | 11 => .boolean
  | 12 => .boolean
  | 13 => .int
  | 14 => .long
  | 15 => .long
  | _ => .boolean
abbrev wsX10 : List Cond := u_ws RX1 TX1 17
theorem nmX1 : ∀ a, a < 17 → ∀ b, b < 17 → a ≠ b → (TX1 a).2.1 ≠ (TX1 b).2.1 := by decide +kernel
theorem tyX1_ok : ∀ k, k < 17 → parseFieldDescriptor (TX1 k).2.2.1 = some (tyX1 k) := by decide +kernel
def RX2 : String := "Manypens$Hand"
def TX2 : u_T := fun k => match k with
  | 0 => ("Manypens$Hand", "view", "LManypens$View;", true)
  | 1 => ("Manypens$Hand", "isStale", "Z", false)
  | 2 => ("Manypens$Hand", "heard", "[I", true)
  | 3 => ("Manypens$Hand", "latest", "I", false)
  | 4 => ("Manypens$Hand", "past", "LManypens$Ints;", true)
  | 5 => ("Manypens$Hand", "way", "LManypens$Ints;", true)
  | 6 => ("Manypens$Hand", "waits", "[I", true)
  | 7 => ("Manypens$Hand", "undoable", "LManypens$Ints;", true)
  | 8 => ("Manypens$Hand", "redoable", "LManypens$Ints;", true)
  | 9 => ("Manypens$Hand", "sizes", "LManypens$Ints;", true)
  | 10 => ("Manypens$Hand", "isOpen", "Z", false)
  | 11 => ("Manypens$Hand", "opened", "I", false)
  | _ => ("Manypens$Hand", "cursor", "J", false)
def tyX2 : Nat → FieldType := fun k => match k with
  | 0 => .object "Manypens$View"
  | 1 => .boolean
  | 2 => .array .int
  | 3 => .int
  | 4 => .object "Manypens$Ints"
  | 5 => .object "Manypens$Ints"
  | 6 => .array .int
  | 7 => .object "Manypens$Ints"
  | 8 => .object "Manypens$Ints"
  | 9 => .object "Manypens$Ints"
  | 10 => .boolean
  | 11 => .int
  | _ => .long
abbrev wsX20 : List Cond := u_ws RX2 TX2 13
theorem nmX2 : ∀ a, a < 13 → ∀ b, b < 13 → a ≠ b → (TX2 a).2.1 ≠ (TX2 b).2.1 := by decide +kernel
theorem tyX2_ok : ∀ k, k < 13 → parseFieldDescriptor (TX2 k).2.2.1 = some (tyX2 k) := by decide +kernel
def RX3 : String := "Manypens$InTime"
def TX3 : u_T := fun k => match k with
  | 0 => ("Manypens$InTime", "book", "LManypens$Book;", true)
  | 1 => ("Manypens$InTime", "at", "[I", true)
  | _ => ("Manypens$InTime", "end", "[I", true)
def tyX3 : Nat → FieldType := fun k => match k with
  | 0 => .object "Manypens$Book"
  | 1 => .array .int
  | _ => .array .int
abbrev wsX30 : List Cond := u_ws RX3 TX3 3
theorem nmX3 : ∀ a, a < 3 → ∀ b, b < 3 → a ≠ b → (TX3 a).2.1 ≠ (TX3 b).2.1 := by decide +kernel
theorem tyX3_ok : ∀ k, k < 3 → parseFieldDescriptor (TX3 k).2.2.1 = some (tyX3 k) := by decide +kernel
def RX4 : String := "Manypens$Ints"
def TX4 : u_T := fun k => match k with
  | 0 => ("Manypens$Ints", "all", "[I", false)
  | _ => ("Manypens$Ints", "size", "I", false)
def tyX4 : Nat → FieldType := fun k => match k with
  | 0 => .array .int
  | _ => .int
abbrev wsX40 : List Cond := u_ws RX4 TX4 2
theorem nmX4 : ∀ a, a < 2 → ∀ b, b < 2 → a ≠ b → (TX4 a).2.1 ≠ (TX4 b).2.1 := by decide +kernel
theorem tyX4_ok : ∀ k, k < 2 → parseFieldDescriptor (TX4 k).2.2.1 = some (tyX4 k) := by decide +kernel
def RX5 : String := "Manypens$Longs"
def TX5 : u_T := fun k => match k with
  | 0 => ("Manypens$Longs", "all", "[J", false)
  | _ => ("Manypens$Longs", "size", "I", false)
def tyX5 : Nat → FieldType := fun k => match k with
  | 0 => .array .long
  | _ => .int
abbrev wsX50 : List Cond := u_ws RX5 TX5 2
theorem nmX5 : ∀ a, a < 2 → ∀ b, b < 2 → a ≠ b → (TX5 a).2.1 ≠ (TX5 b).2.1 := by decide +kernel
theorem tyX5_ok : ∀ k, k < 2 → parseFieldDescriptor (TX5 k).2.2.1 = some (tyX5 k) := by decide +kernel
def RX6 : String := "Manypens$Pieces"
def TX6 : u_T := fun k => match k with
  | 0 => ("Manypens$Pieces", "firsts", "LManypens$Longs;", true)
  | 1 => ("Manypens$Pieces", "sizes", "LManypens$Longs;", true)
  | 2 => ("Manypens$Pieces", "makers", "LManypens$Ints;", true)
  | 3 => ("Manypens$Pieces", "takers", "LManypens$Longs;", true)
  | 4 => ("Manypens$Pieces", "sorted", "LManypens$Ints;", true)
  | _ => ("Manypens$Pieces", "starts", "LManypens$Longs;", true)
def tyX6 : Nat → FieldType := fun k => match k with
  | 0 => .object "Manypens$Longs"
  | 1 => .object "Manypens$Longs"
  | 2 => .object "Manypens$Ints"
  | 3 => .object "Manypens$Longs"
  | 4 => .object "Manypens$Ints"
  | _ => .object "Manypens$Longs"
abbrev wsX60 : List Cond := u_ws RX6 TX6 6
theorem nmX6 : ∀ a, a < 6 → ∀ b, b < 6 → a ≠ b → (TX6 a).2.1 ≠ (TX6 b).2.1 := by decide +kernel
theorem tyX6_ok : ∀ k, k < 6 → parseFieldDescriptor (TX6 k).2.2.1 = some (tyX6 k) := by decide +kernel
def RX7 : String := "Manypens$Row"
def TX7 : u_T := fun k => match k with
  | 0 => ("Manypens$Row", "book", "LManypens$Book;", true)
  | 1 => ("Manypens$Row", "pieces", "LManypens$Pieces;", true)
  | 2 => ("Manypens$Row", "next", "LManypens$Ints;", true)
  | 3 => ("Manypens$Row", "ahead", "LManypens$Longs;", true)
  | 4 => ("Manypens$Row", "links", "I", false)
  | 5 => ("Manypens$Row", "size", "J", false)
  | _ => ("Manypens$Row", "changes", "I", false)
def tyX7 : Nat → FieldType := fun k => match k with
  | 0 => .object "Manypens$Book"
  | 1 => .object "Manypens$Pieces"
  | 2 => .object "Manypens$Ints"
  | 3 => .object "Manypens$Longs"
  | 4 => .int
  | 5 => .long
  | _ => .int
abbrev wsX70 : List Cond := u_ws RX7 TX7 7
theorem nmX7 : ∀ a, a < 7 → ∀ b, b < 7 → a ≠ b → (TX7 a).2.1 ≠ (TX7 b).2.1 := by decide +kernel
theorem tyX7_ok : ∀ k, k < 7 → parseFieldDescriptor (TX7 k).2.2.1 = some (tyX7 k) := by decide +kernel
def RX8 : String := "Manypens$Signs"
def TX8 : u_T := fun k => match k with
  | 0 => ("Manypens$Signs", "written", "LManypens$Ints;", true)
  | 1 => ("Manypens$Signs", "starts", "LManypens$Longs;", true)
  | 2 => ("Manypens$Signs", "sources", "LManypens$Longs;", true)
  | 3 => ("Manypens$Signs", "shifts", "LManypens$Longs;", true)
  | 4 => ("Manypens$Signs", "many", "J", false)
  | _ => ("Manypens$Signs", "sum", "J", false)
def tyX8 : Nat → FieldType := fun k => match k with
  | 0 => .object "Manypens$Ints"
  | 1 => .object "Manypens$Longs"
  | 2 => .object "Manypens$Longs"
  | 3 => .object "Manypens$Longs"
  | 4 => .long
  | _ => .long
abbrev wsX80 : List Cond := u_ws RX8 TX8 6
theorem nmX8 : ∀ a, a < 6 → ∀ b, b < 6 → a ≠ b → (TX8 a).2.1 ≠ (TX8 b).2.1 := by decide +kernel
theorem tyX8_ok : ∀ k, k < 6 → parseFieldDescriptor (TX8 k).2.2.1 = some (tyX8 k) := by decide +kernel
def RX9 : String := "Manypens$View"
def TX9 : u_T := fun k => match k with
  | 0 => ("Manypens$View", "book", "LManypens$Book;", true)
  | 1 => ("Manypens$View", "row", "LManypens$Row;", true)
  | 2 => ("Manypens$View", "inForce", "[J", true)
  | 3 => ("Manypens$View", "isOff", "[I", true)
  | 4 => ("Manypens$View", "text", "LManypens$Ints;", true)
  | 5 => ("Manypens$View", "places", "LManypens$Longs;", true)
  | 6 => ("Manypens$View", "aheads", "LManypens$Longs;", true)
  | 7 => ("Manypens$View", "marks", "LManypens$Ints;", true)
  | 8 => ("Manypens$View", "hung", "LManypens$Ints;", true)
  | 9 => ("Manypens$View", "firsts", "LManypens$Ints;", true)
  | 10 => ("Manypens$View", "ends", "LManypens$Ints;", true)
  | 11 => ("Manypens$View", "size", "J", false)
  | 12 => ("Manypens$View", "kept", "J", false)
  | _ => ("Manypens$View", "changes", "I", false)
def tyX9 : Nat → FieldType := fun k => match k with
  | 0 => .object "Manypens$Book"
  | 1 => .object "Manypens$Row"
  | 2 => .array .long
  | 3 => .array .int
  | 4 => .object "Manypens$Ints"
  | 5 => .object "Manypens$Longs"
  | 6 => .object "Manypens$Longs"
  | 7 => .object "Manypens$Ints"
  | 8 => .object "Manypens$Ints"
  | 9 => .object "Manypens$Ints"
  | 10 => .object "Manypens$Ints"
  | 11 => .long
  | 12 => .long
  | _ => .int
abbrev wsX90 : List Cond := u_ws RX9 TX9 14
theorem nmX9 : ∀ a, a < 14 → ∀ b, b < 14 → a ≠ b → (TX9 a).2.1 ≠ (TX9 b).2.1 := by decide +kernel
theorem tyX9_ok : ∀ k, k < 14 → parseFieldDescriptor (TX9 k).2.2.1 = some (tyX9 k) := by decide +kernel
def RX10 : String := "Manypens"
def TX10 : u_T := fun k => match k with
  | 0 => ("Manypens", "typed", "LManypens$Ints;", true)
  | 1 => ("Manypens", "book", "LManypens$Book;", true)
  | 2 => ("Manypens", "row", "LManypens$Row;", true)
  | 3 => ("Manypens", "hands", "[LManypens$Hand;", true)
  | 4 => ("Manypens", "past", "LManypens$View;", true)
  | 5 => ("Manypens", "heardThen", "[I", true)
  | 6 => ("Manypens", "anew", "LManypens$View;", true)
  | 7 => ("Manypens", "forOne", "LManypens$InTime;", true)
  | _ => ("Manypens", "forOther", "LManypens$InTime;", true)
def tyX10 : Nat → FieldType := fun k => match k with
  | 0 => .object "Manypens$Ints"
  | 1 => .object "Manypens$Book"
  | 2 => .object "Manypens$Row"
  | 3 => .array (.object "Manypens$Hand")
  | 4 => .object "Manypens$View"
  | 5 => .array .int
  | 6 => .object "Manypens$View"
  | 7 => .object "Manypens$InTime"
  | _ => .object "Manypens$InTime"
abbrev wsX100 : List Cond := u_ws RX10 TX10 9
theorem nmX10 : ∀ a, a < 9 → ∀ b, b < 9 → a ≠ b → (TX10 a).2.1 ≠ (TX10 b).2.1 := by decide +kernel
theorem tyX10_ok : ∀ k, k < 9 → parseFieldDescriptor (TX10 k).2.2.1 = some (tyX10 k) := by decide +kernel
def RX11 : String := "ManypensModel$Edit"
def TX11 : u_T := fun k => match k with
  | 0 => ("ManypensModel$Edit", "hand", "I", true)
  | 1 => ("ManypensModel$Edit", "number", "I", true)
  | 2 => ("ManypensModel$Edit", "time", "I", true)
  | 3 => ("ManypensModel$Edit", "leans", "[I", true)
  | 4 => ("ManypensModel$Edit", "kind", "C", false)
  | 5 => ("ManypensModel$Edit", "group", "LManypensModel$Group;", false)
  | 6 => ("ManypensModel$Edit", "from", "LManypensModel$Letter;", false)
  | 7 => ("ManypensModel$Edit", "to", "LManypensModel$Letter;", false)
  | 8 => ("ManypensModel$Edit", "beyond", "LManypensModel$Letter;", false)
  | 9 => ("ManypensModel$Edit", "mark", "C", false)
  | 10 => ("ManypensModel$Edit", "isOn", "Z", false)
  | 11 => ("ManypensModel$Edit", "isGrowing", "Z", false)
  | _ => ("ManypensModel$Edit", "code", "I", false)
def tyX11 : Nat → FieldType := fun k => match k with
  | 0 => .int
  | 1 => .int
  | 2 => .int
  | 3 => .array .int
  | 4 => .char
  | 5 => .object "ManypensModel$Group"
  | 6 => .object "ManypensModel$Letter"
  | 7 => .object "ManypensModel$Letter"
  | 8 => .object "ManypensModel$Letter"
  | 9 => .char
  | 10 => .boolean
  | 11 => .boolean
  | _ => .int
abbrev wsX110 : List Cond := u_ws RX11 TX11 13
theorem nmX11 : ∀ a, a < 13 → ∀ b, b < 13 → a ≠ b → (TX11 a).2.1 ≠ (TX11 b).2.1 := by decide +kernel
theorem tyX11_ok : ∀ k, k < 13 → parseFieldDescriptor (TX11 k).2.2.1 = some (tyX11 k) := by decide +kernel
def RX12 : String := "ManypensModel$Group"
def TX12 : u_T := fun k => match k with
  | 0 => ("ManypensModel$Group", "has", "[Z", true)
  | _ => ("ManypensModel$Group", "many", "I", false)
def tyX12 : Nat → FieldType := fun k => match k with
  | 0 => .array .boolean
  | _ => .int
abbrev wsX120 : List Cond := u_ws RX12 TX12 2
theorem nmX12 : ∀ a, a < 2 → ∀ b, b < 2 → a ≠ b → (TX12 a).2.1 ≠ (TX12 b).2.1 := by decide +kernel
theorem tyX12_ok : ∀ k, k < 2 → parseFieldDescriptor (TX12 k).2.2.1 = some (tyX12 k) := by decide +kernel
def RX13 : String := "ManypensModel$Hand"
def TX13 : u_T := fun k => match k with
  | 0 => ("ManypensModel$Hand", "number", "I", true)
  | 1 => ("ManypensModel$Hand", "edits", "[LManypensModel$Edit;", true)
  | 2 => ("ManypensModel$Hand", "made", "I", false)
  | 3 => ("ManypensModel$Hand", "time", "I", false)
  | 4 => ("ManypensModel$Hand", "ways", "I", false)
  | 5 => ("ManypensModel$Hand", "steps", "I", false)
  | 6 => ("ManypensModel$Hand", "undos", "I", false)
  | 7 => ("ManypensModel$Hand", "redos", "I", false)
  | 8 => ("ManypensModel$Hand", "heard", "[I", true)
  | 9 => ("ManypensModel$Hand", "base", "[I", true)
  | 10 => ("ManypensModel$Hand", "way", "[LManypensModel$Edit;", false)
  | 11 => ("ManypensModel$Hand", "step", "[LManypensModel$Edit;", false)
  | 12 => ("ManypensModel$Hand", "waits", "[[Z", true)
  | 13 => ("ManypensModel$Hand", "undo", "[LManypensModel$Group;", true)
  | 14 => ("ManypensModel$Hand", "redo", "[LManypensModel$Group;", true)
  | 15 => ("ManypensModel$Hand", "open", "LManypensModel$Group;", false)
  | 16 => ("ManypensModel$Hand", "isOpen", "Z", false)
  | _ => ("ManypensModel$Hand", "cursor", "LManypensModel$Letter;", false)
def tyX13 : Nat → FieldType := fun k => match k with
  | 0 => .int
  | 1 => .array (.object "ManypensModel$Edit")
  | 2 => .int
  | 3 => .int
  | 4 => .int
  | 5 => .int
  | 6 => .int
  | 7 => .int
  | 8 => .array .int
  | 9 => .array .int
  | 10 => .array (.object "ManypensModel$Edit")
  | 11 => .array (.object "ManypensModel$Edit")
  | 12 => .array (.array .boolean)
  | 13 => .array (.object "ManypensModel$Group")
  | 14 => .array (.object "ManypensModel$Group")
  | 15 => .object "ManypensModel$Group"
  | 16 => .boolean
  | _ => .object "ManypensModel$Letter"
abbrev wsX130 : List Cond := u_ws RX13 TX13 18
theorem nmX13 : ∀ a, a < 18 → ∀ b, b < 18 → a ≠ b → (TX13 a).2.1 ≠ (TX13 b).2.1 := by decide +kernel
theorem tyX13_ok : ∀ k, k < 18 → parseFieldDescriptor (TX13 k).2.2.1 = some (tyX13 k) := by decide +kernel
def RX14 : String := "ManypensModel$Letter"
def TX14 : u_T := fun k => match k with
  | 0 => ("ManypensModel$Letter", "by", "LManypensModel$Edit;", true)
  | 1 => ("ManypensModel$Letter", "sign", "C", true)
  | 2 => ("ManypensModel$Letter", "behind", "LManypensModel$Letter;", false)
  | 3 => ("ManypensModel$Letter", "first", "LManypensModel$Letter;", false)
  | 4 => ("ManypensModel$Letter", "next", "LManypensModel$Letter;", false)
  | 5 => ("ManypensModel$Letter", "at", "I", false)
  | 6 => ("ManypensModel$Letter", "isForgotten", "Z", false)
  | 7 => ("ManypensModel$Letter", "takers", "[LManypensModel$Edit;", false)
  | _ => ("ManypensModel$Letter", "taken", "I", false)
def tyX14 : Nat → FieldType := fun k => match k with
  | 0 => .object "ManypensModel$Edit"
  | 1 => .char
  | 2 => .object "ManypensModel$Letter"
  | 3 => .object "ManypensModel$Letter"
  | 4 => .object "ManypensModel$Letter"
  | 5 => .int
  | 6 => .boolean
  | 7 => .array (.object "ManypensModel$Edit")
  | _ => .int
abbrev wsX140 : List Cond := u_ws RX14 TX14 9
theorem nmX14 : ∀ a, a < 9 → ∀ b, b < 9 → a ≠ b → (TX14 a).2.1 ≠ (TX14 b).2.1 := by decide +kernel
theorem tyX14_ok : ∀ k, k < 9 → parseFieldDescriptor (TX14 k).2.2.1 = some (tyX14 k) := by decide +kernel
def RX15 : String := "ManypensModel"
def TX15 : u_T := fun k => match k with
  | 0 => ("ManypensModel", "hands", "[LManypensModel$Hand;", true)
  | 1 => ("ManypensModel", "begin", "LManypensModel$Letter;", true)
  | 2 => ("ManypensModel", "row", "[LManypensModel$Letter;", false)
  | 3 => ("ManypensModel", "letters", "I", false)
  | 4 => ("ManypensModel", "typedMany", "I", false)
  | 5 => ("ManypensModel", "thrown", "I", false)
  | 6 => ("ManypensModel", "isRow", "Z", false)
  | _ => ("ManypensModel", "typed", "[C", true)
def tyX15 : Nat → FieldType := fun k => match k with
  | 0 => .array (.object "ManypensModel$Hand")
  | 1 => .object "ManypensModel$Letter"
  | 2 => .array (.object "ManypensModel$Letter")
  | 3 => .int
  | 4 => .int
  | 5 => .int
  | 6 => .boolean
  | _ => .array .char
abbrev wsX150 : List Cond := u_ws RX15 TX15 8
theorem nmX15 : ∀ a, a < 8 → ∀ b, b < 8 → a ≠ b → (TX15 a).2.1 ≠ (TX15 b).2.1 := by decide +kernel
theorem tyX15_ok : ∀ k, k < 8 → parseFieldDescriptor (TX15 k).2.2.1 = some (tyX15 k) := by decide +kernel
abbrev sy_cl : List vw_C := [(RX0, TX0, 8), (RX1, TX1, 17), (RX2, TX2, 13), (RX3, TX3, 3), (RX4, TX4, 2), (RX5, TX5, 2), (RX6, TX6, 6), (RX7, TX7, 7), (RX8, TX8, 6), (RX9, TX9, 14), (RX10, TX10, 9), (RX11, TX11, 13), (RX12, TX12, 2), (RX13, TX13, 18), (RX14, TX14, 9), (RX15, TX15, 8)]
noncomputable def sy_fi (k : Nat) : Nat × Nat := sy_nth (0, 0) [(8, 209496998905353079680888503312072278779618354967872766961518542111270256138089155257171265724816196485937889868000717581886860587224043892657176830803972), (17, 12953744211667879574562445252045104495513253553030689179476724110073507898386758202079692655582855804165555571166044143725754401556527703373472618664111024220389474889266097015226590060600899185113963730408073560868168548821201754552319050917845765120772342829989755048097376240567782730609330122713589499888132923458232254464), (13, 123003155723136208567847447683223664415731869180715065944930703622926894714398620206899917739383140078649617261325817162579002548490461884254320451119169481704272288260282449704945102239842639926687537234657304469543518498500925655632357139037293448791089741828), (3, 89202980794122492566161762556524924604776452), (2, 4), (2, 4), (6, 9394170331095332911559911680102987256071352145875033440418312502493339206804047397908911996280094887478558724), (7, 2348542582773833227889480596789337027375682970157486544936037763293522740590460211610242363137738644880621572), (6, 2348542582773833227889977920025746814017838352405633365776138219444320088307900675587135522634751178256154628), (14, 123003155723136208567873494614602101346490015664381623266149995250036270954305350521429557350292776793006582720656021368390497633093725258084163539390205090817840724208118631684741939781583620350744239291480340948588980102517954541193238860867848146108601597956), (9, 989321605892418136242219581077494113220206284908159431935031842726556773193088987223376874501110269113647856969789373553891398027095005557452071480994796715559084265425600516), (13, 989321605892418136242219581077494113220206284908159431935031842726556773193088987223374885208164629967079235440796786270530996202402613185788187132521062315014509207318691840), (2, 4), (18, 1155512596125385269765799592641029651509139454687527597607284732041411284728226279947758087338152972983727561817568497507331054322338997347334159240473559732329919620390556535131581797522712842335485501475778061266949269677207850968584910290606104295375688330630033141957880543599143881641042901988620223212598413848643345597732590547272747882693415366270856915153059840), (9, 209496998905353079680844140596966345741865090946756146526930647560141855915538318081151236150611823646805364148666950890203528473033778430501622535684100), (8, 209496998905353079680844140596966345741865090946756146526930647558152562969899171512529285908857866057656747873366825338712396985098427711937950370496516)] k
noncomputable def sy_at (t : Nat) : Nat := sy_nth 99 [99, 99, 99, 99, 99, 99, 1, 2, 11, 12, 13, 14] t
-- ManypensLaw.law([I)I
set_option maxRecDepth 100000 in
noncomputable def zc_0 : List sy_E := [(0, 67, 10, 8), (3, 37, 0, 0), (4, 82, 1, 2545), (7, 22, 1, 0), (8, 67, 15, 160), (11, 37, 0, 0), (12, 82, 154, 2593), (15, 22, 2, 0), (16, 1, 16, 2), (17, 68, 1, 11), (19, 22, 3, 0), (20, 1, 16, 2), (21, 68, 5, 7), (23, 21, 4, 0), (25, 1, 0, 1), (26, 17, 5, 0), (28, 11, 5, 0), (30, 16, 0, 0), (31, 70, 0, 0), (32, 2, 112, 135), (34, 27, 0, 0), (35, 49, 1918, 3137), (38, 16, 0, 0), (39, 11, 5, 0), (41, 71, 0, 0), (42, 2, 1008, 191), (44, 29, 0, 0), (45, 90, 0, 0), (236, 16, 1, 0), (237, 16, 0, 0), (238, 11, 5, 0), (240, 1, 16, 2), (241, 26, 0, 0), (242, 71, 0, 0), (243, 35, 0, 0), (244, 16, 3, 0), (245, 84, 149, 2611), (248, 17, 6, 0), (250, 16, 2, 0), (251, 16, 0, 0), (252, 11, 5, 0), (254, 1, 16, 2), (255, 26, 0, 0), (256, 71, 0, 0), (257, 35, 0, 0), (258, 80, 214, 2690), (261, 17, 7, 0), (263, 16, 2, 0), (264, 80, 213, 2705), (267, 11, 6, 0), (269, 45, 53, 274), (272, 0, 0, 0), (273, 0, 0, 0), (274, 11, 6, 0), (276, 40, 64, 291), (279, 16, 3, 0), (280, 1, 0, 1), (281, 72, 0, 0), (282, 11, 7, 0), (284, 33, 0, 0), (285, 36, 0, 0), (286, 39, 64, 291), (289, 0, 0, 0), (290, 0, 0, 0), (291, 55, 1916, 3131), (294, 16, 1, 0), (295, 80, 11, 2753), (298, 16, 2, 0), (299, 80, 166, 2801), (302, 45, 1916, 3131), (305, 0, 0, 0), (306, 0, 0, 0), (307, 16, 1, 0), (308, 16, 0, 0), (309, 11, 5, 0), (311, 1, 16, 2), (312, 26, 0, 0), (313, 71, 0, 0), (314, 16, 0, 0), (315, 11, 5, 0), (317, 1, 32, 3), (318, 26, 0, 0), (319, 71, 0, 0), (320, 16, 3, 0), (321, 84, 139, 2820), (324, 17, 6, 0), (326, 16, 2, 0), (327, 16, 0, 0), (328, 11, 5, 0), (330, 1, 16, 2), (331, 26, 0, 0), (332, 71, 0, 0), (333, 16, 0, 0), (334, 11, 5, 0), (336, 1, 32, 3), (337, 26, 0, 0), (338, 71, 0, 0), (339, 80, 199, 2867), (342, 17, 7, 0), (344, 16, 2, 0), (345, 80, 213, 2705), (348, 11, 6, 0), (350, 45, 105, 355), (353, 0, 0, 0), (354, 0, 0, 0), (355, 11, 6, 0), (357, 40, 116, 372), (360, 0, 0, 0), (361, 0, 0, 0), (362, 0, 0, 0), (363, 0, 0, 0), (365, 0, 0, 0), (366, 0, 0, 0), (367, 0, 0, 0), (370, 0, 0, 0), (371, 0, 0, 0), (372, 55, 1916, 3131), (375, 16, 1, 0), (376, 16, 0, 0), (377, 11, 5, 0), (379, 1, 16, 2), (380, 26, 0, 0), (381, 71, 0, 0), (382, 16, 0, 0), (383, 11, 5, 0), (385, 1, 32, 3), (386, 26, 0, 0), (387, 71, 0, 0), (388, 16, 0, 0), (389, 11, 5, 0), (391, 1, 48, 4), (392, 26, 0, 0), (393, 71, 0, 0), (394, 16, 3, 0), (395, 84, 148, 2885), (398, 17, 6, 0), (400, 16, 2, 0), (401, 16, 0, 0), (402, 11, 5, 0), (404, 1, 16, 2), (405, 26, 0, 0), (406, 71, 0, 0), (407, 16, 0, 0), (408, 11, 5, 0), (410, 1, 32, 3), (411, 26, 0, 0), (412, 71, 0, 0), (413, 16, 0, 0), (414, 11, 5, 0), (416, 1, 48, 4), (417, 26, 0, 0), (418, 71, 0, 0), (419, 80, 209, 2932), (422, 17, 7, 0), (424, 16, 2, 0), (425, 80, 213, 2705), (428, 11, 6, 0), (430, 45, 160, 435), (433, 0, 0, 0), (434, 0, 0, 0), (435, 11, 6, 0), (437, 40, 171, 452), (440, 0, 0, 0), (441, 0, 0, 0), (442, 0, 0, 0), (443, 0, 0, 0), (445, 0, 0, 0), (446, 0, 0, 0), (447, 0, 0, 0), (450, 0, 0, 0), (451, 0, 0, 0), (452, 55, 1916, 3131), (455, 16, 1, 0), (456, 16, 0, 0), (457, 11, 5, 0), (459, 1, 16, 2), (460, 26, 0, 0), (461, 71, 0, 0), (462, 16, 0, 0), (463, 11, 5, 0), (465, 1, 32, 3), (466, 26, 0, 0), (467, 71, 0, 0), (468, 16, 0, 0), (469, 11, 5, 0), (471, 1, 48, 4), (472, 26, 0, 0), (473, 71, 0, 0), (474, 16, 3, 0), (475, 84, 142, 2949), (478, 17, 6, 0), (480, 16, 2, 0), (481, 16, 0, 0), (482, 11, 5, 0), (484, 1, 16, 2), (485, 26, 0, 0), (486, 71, 0, 0), (487, 16, 0, 0), (488, 11, 5, 0), (490, 1, 32, 3), (491, 26, 0, 0), (492, 71, 0, 0), (493, 16, 0, 0), (494, 11, 5, 0), (496, 1, 48, 4), (497, 26, 0, 0), (498, 71, 0, 0), (499, 80, 202, 2980), (502, 17, 7, 0), (504, 16, 2, 0), (505, 80, 213, 2705), (508, 11, 6, 0), (510, 45, 215, 515), (513, 0, 0, 0), (514, 0, 0, 0), (515, 11, 6, 0), (517, 40, 226, 532), (520, 0, 0, 0), (521, 0, 0, 0), (522, 0, 0, 0), (523, 0, 0, 0), (525, 0, 0, 0), (526, 0, 0, 0), (527, 0, 0, 0), (530, 0, 0, 0), (531, 0, 0, 0), (532, 55, 1916, 3131), (535, 16, 1, 0), (536, 16, 0, 0), (537, 11, 5, 0), (539, 1, 16, 2), (540, 26, 0, 0), (541, 71, 0, 0), (542, 16, 0, 0), (543, 11, 5, 0), (545, 1, 32, 3), (546, 26, 0, 0), (547, 71, 0, 0), (548, 16, 0, 0), (549, 11, 5, 0), (551, 1, 48, 4), (552, 26, 0, 0), (553, 71, 0, 0), (554, 16, 0, 0), (555, 11, 5, 0), (557, 1, 64, 5), (558, 26, 0, 0), (559, 71, 0, 0), (560, 16, 3, 0), (561, 84, 135, 2998), (564, 17, 6, 0), (566, 16, 2, 0), (567, 16, 0, 0), (568, 11, 5, 0), (570, 1, 16, 2), (571, 26, 0, 0), (572, 71, 0, 0), (573, 16, 0, 0), (574, 11, 5, 0), (576, 1, 32, 3), (577, 26, 0, 0), (578, 71, 0, 0), (579, 16, 0, 0), (580, 11, 5, 0), (582, 1, 48, 4), (583, 26, 0, 0), (584, 71, 0, 0), (585, 16, 0, 0), (586, 11, 5, 0), (588, 1, 64, 5), (589, 26, 0, 0), (590, 71, 0, 0), (591, 80, 194, 3045), (594, 17, 7, 0), (596, 16, 2, 0), (597, 80, 213, 2705), (600, 11, 6, 0), (602, 45, 280, 607), (605, 0, 0, 0), (606, 0, 0, 0), (607, 11, 6, 0), (609, 40, 291, 624), (612, 0, 0, 0), (613, 0, 0, 0), (614, 0, 0, 0), (615, 0, 0, 0), (617, 0, 0, 0), (618, 0, 0, 0), (619, 0, 0, 0), (622, 0, 0, 0), (623, 0, 0, 0), (624, 55, 1916, 3131), (627, 16, 1, 0), (628, 16, 0, 0), (629, 11, 5, 0), (631, 1, 16, 2), (632, 26, 0, 0), (633, 71, 0, 0), (634, 16, 0, 0), (635, 11, 5, 0), (637, 1, 32, 3), (638, 26, 0, 0), (639, 71, 0, 0), (640, 16, 0, 0), (641, 11, 5, 0), (643, 1, 48, 4), (644, 26, 0, 0), (645, 71, 0, 0), (646, 16, 0, 0), (647, 11, 5, 0), (649, 1, 64, 5), (650, 26, 0, 0), (651, 71, 0, 0), (652, 35, 0, 0), (653, 16, 0, 0), (654, 11, 5, 0), (656, 1, 80, 6), (657, 26, 0, 0), (658, 71, 0, 0), (659, 39, 322, 666), (662, 1, 16, 2), (663, 55, 323, 667), (666, 1, 0, 1), (667, 16, 0, 0), (668, 11, 5, 0), (670, 2, 96, 134), (672, 26, 0, 0), (673, 71, 0, 0), (674, 39, 331, 681), (677, 1, 16, 2), (678, 55, 332, 682), (681, 1, 0, 1), (682, 16, 3, 0), (683, 84, 132, 3064), (686, 17, 6, 0), (688, 16, 2, 0), (689, 16, 0, 0), (690, 11, 5, 0), (692, 1, 16, 2), (693, 26, 0, 0), (694, 71, 0, 0), (695, 16, 0, 0), (696, 11, 5, 0), (698, 1, 32, 3), (699, 26, 0, 0), (700, 71, 0, 0), (701, 16, 0, 0), (702, 11, 5, 0), (704, 1, 48, 4), (705, 26, 0, 0), (706, 71, 0, 0), (707, 16, 0, 0), (708, 11, 5, 0), (710, 1, 64, 5), (711, 26, 0, 0), (712, 71, 0, 0), (713, 35, 0, 0), (714, 16, 0, 0), (715, 11, 5, 0), (717, 1, 80, 6), (718, 26, 0, 0), (719, 71, 0, 0), (720, 39, 365, 727), (723, 1, 16, 2), (724, 55, 366, 728), (727, 1, 0, 1), (728, 16, 0, 0), (729, 11, 5, 0), (731, 2, 96, 134), (733, 26, 0, 0), (734, 71, 0, 0), (735, 39, 374, 742), (738, 1, 16, 2), (739, 55, 375, 743), (742, 1, 0, 1), (743, 80, 191, 3111), (746, 17, 7, 0), (748, 16, 2, 0), (749, 80, 213, 2705), (752, 11, 6, 0), (754, 45, 383, 759), (757, 0, 0, 0), (758, 0, 0, 0), (759, 11, 6, 0), (761, 40, 394, 776), (764, 0, 0, 0), (765, 0, 0, 0), (766, 0, 0, 0), (767, 0, 0, 0), (769, 0, 0, 0), (770, 0, 0, 0), (771, 0, 0, 0), (774, 0, 0, 0), (775, 0, 0, 0), (776, 55, 1916, 3131), (779, 16, 1, 0), (780, 16, 0, 0), (781, 11, 5, 0), (783, 1, 16, 2), (784, 26, 0, 0), (785, 71, 0, 0), (786, 16, 0, 0), (787, 11, 5, 0), (789, 1, 32, 3), (790, 26, 0, 0), (791, 71, 0, 0), (792, 16, 0, 0), (793, 11, 5, 0), (795, 1, 48, 4), (796, 26, 0, 0), (797, 71, 0, 0), (798, 16, 0, 0), (799, 11, 5, 0), (801, 1, 64, 5), (802, 26, 0, 0), (803, 71, 0, 0), (804, 16, 3, 0), (805, 84, 115, 3126), (808, 17, 6, 0), (810, 16, 2, 0), (811, 16, 0, 0), (812, 11, 5, 0), (814, 1, 16, 2), (815, 26, 0, 0), (816, 71, 0, 0), (817, 16, 0, 0), (818, 11, 5, 0), (820, 1, 32, 3), (821, 26, 0, 0), (822, 71, 0, 0), (823, 16, 0, 0), (824, 11, 5, 0), (826, 1, 48, 4), (827, 26, 0, 0), (828, 71, 0, 0), (829, 16, 0, 0), (830, 11, 5, 0), (832, 1, 64, 5), (833, 26, 0, 0), (834, 71, 0, 0), (835, 80, 160, 3157), (838, 17, 7, 0), (840, 16, 2, 0), (841, 80, 213, 2705), (844, 11, 6, 0), (846, 45, 448, 851), (849, 0, 0, 0), (850, 0, 0, 0), (851, 11, 6, 0), (853, 40, 459, 868), (856, 0, 0, 0), (857, 0, 0, 0), (858, 0, 0, 0), (859, 0, 0, 0), (861, 0, 0, 0), (862, 0, 0, 0), (863, 0, 0, 0), (866, 0, 0, 0), (867, 0, 0, 0), (868, 55, 1916, 3131), (871, 16, 1, 0), (872, 16, 0, 0), (873, 11, 5, 0), (875, 1, 16, 2), (876, 26, 0, 0), (877, 71, 0, 0), (878, 16, 3, 0), (879, 84, 153, 3171), (882, 17, 6, 0), (884, 16, 2, 0), (885, 16, 0, 0), (886, 11, 5, 0), (888, 1, 16, 2), (889, 26, 0, 0), (890, 71, 0, 0), (891, 80, 218, 3218), (894, 17, 7, 0), (896, 16, 2, 0), (897, 80, 213, 2705), (900, 11, 6, 0), (902, 45, 483, 907), (905, 0, 0, 0), (906, 0, 0, 0), (907, 11, 6, 0), (909, 40, 494, 924), (912, 0, 0, 0), (913, 0, 0, 0), (914, 0, 0, 0), (915, 0, 0, 0), (917, 0, 0, 0), (918, 0, 0, 0), (919, 0, 0, 0), (922, 0, 0, 0), (923, 0, 0, 0), (924, 55, 1916, 3131), (927, 16, 1, 0), (928, 16, 0, 0), (929, 11, 5, 0), (931, 1, 16, 2), (932, 26, 0, 0), (933, 71, 0, 0), (934, 16, 3, 0), (935, 84, 137, 3235), (938, 17, 6, 0), (940, 16, 2, 0), (941, 16, 0, 0), (942, 11, 5, 0), (944, 1, 16, 2), (945, 26, 0, 0), (946, 71, 0, 0), (947, 80, 196, 3266), (950, 17, 7, 0), (952, 16, 2, 0), (953, 80, 213, 2705), (956, 11, 6, 0), (958, 45, 518, 963), (961, 0, 0, 0), (962, 0, 0, 0), (963, 11, 6, 0), (965, 40, 529, 980), (968, 16, 3, 0), (969, 1, 0, 1), (970, 72, 0, 0), (971, 11, 7, 0), (973, 33, 0, 0), (974, 36, 0, 0), (975, 39, 529, 980), (978, 0, 0, 0), (979, 0, 0, 0), (980, 55, 1916, 3131), (983, 16, 1, 0), (984, 16, 0, 0), (985, 11, 5, 0), (987, 1, 16, 2), (988, 26, 0, 0), (989, 71, 0, 0), (990, 16, 3, 0), (991, 84, 114, 3283), (994, 17, 6, 0), (996, 16, 2, 0), (997, 16, 0, 0), (998, 11, 5, 0), (1000, 1, 16, 2), (1001, 26, 0, 0), (1002, 71, 0, 0), (1003, 80, 158, 3314), (1006, 17, 7, 0), (1008, 16, 2, 0), (1009, 80, 213, 2705), (1012, 11, 6, 0), (1014, 45, 553, 1019), (1017, 0, 0, 0), (1018, 0, 0, 0), (1019, 11, 6, 0), (1021, 40, 564, 1036), (1024, 0, 0, 0), (1025, 0, 0, 0), (1026, 0, 0, 0), (1027, 0, 0, 0), (1029, 0, 0, 0), (1030, 0, 0, 0), (1031, 0, 0, 0), (1034, 0, 0, 0), (1035, 0, 0, 0), (1036, 55, 1916, 3131), (1039, 16, 1, 0), (1040, 16, 0, 0), (1041, 11, 5, 0), (1043, 1, 16, 2), (1044, 26, 0, 0), (1045, 71, 0, 0), (1046, 16, 3, 0), (1047, 84, 150, 3331), (1050, 17, 6, 0), (1052, 16, 2, 0), (1053, 16, 0, 0), (1054, 11, 5, 0), (1056, 1, 16, 2), (1057, 26, 0, 0), (1058, 71, 0, 0), (1059, 80, 215, 3362), (1062, 17, 7, 0), (1064, 16, 2, 0), (1065, 80, 213, 2705), (1068, 11, 6, 0), (1070, 45, 588, 1075), (1073, 0, 0, 0), (1074, 0, 0, 0), (1075, 11, 6, 0), (1077, 40, 599, 1092), (1080, 0, 0, 0), (1081, 0, 0, 0), (1082, 0, 0, 0), (1083, 0, 0, 0), (1085, 0, 0, 0), (1086, 0, 0, 0), (1087, 0, 0, 0), (1090, 0, 0, 0), (1091, 0, 0, 0), (1092, 55, 1916, 3131), (1095, 16, 1, 0), (1096, 16, 0, 0), (1097, 11, 5, 0), (1099, 1, 16, 2), (1100, 26, 0, 0), (1101, 71, 0, 0), (1102, 16, 3, 0), (1103, 84, 140, 3379), (1106, 17, 6, 0), (1108, 16, 2, 0), (1109, 16, 0, 0), (1110, 11, 5, 0), (1112, 1, 16, 2), (1113, 26, 0, 0), (1114, 71, 0, 0), (1115, 80, 200, 3410), (1118, 17, 7, 0), (1120, 16, 2, 0), (1121, 80, 213, 2705), (1124, 11, 6, 0), (1126, 45, 623, 1131), (1129, 0, 0, 0), (1130, 0, 0, 0), (1131, 11, 6, 0), (1133, 40, 634, 1148), (1136, 0, 0, 0), (1137, 0, 0, 0), (1138, 0, 0, 0), (1139, 0, 0, 0), (1141, 0, 0, 0), (1142, 0, 0, 0), (1143, 0, 0, 0), (1146, 0, 0, 0), (1147, 0, 0, 0), (1148, 55, 1916, 3131), (1151, 16, 1, 0), (1152, 16, 0, 0), (1153, 11, 5, 0), (1155, 1, 16, 2), (1156, 26, 0, 0), (1157, 71, 0, 0), (1158, 16, 0, 0), (1159, 11, 5, 0), (1161, 1, 32, 3), (1162, 26, 0, 0), (1163, 71, 0, 0), (1164, 39, 649, 1171), (1167, 1, 16, 2), (1168, 55, 650, 1172), (1171, 1, 0, 1), (1172, 16, 3, 0), (1173, 84, 122, 3428), (1176, 17, 6, 0), (1178, 16, 2, 0), (1179, 16, 0, 0), (1180, 11, 5, 0), (1182, 1, 16, 2), (1183, 26, 0, 0), (1184, 71, 0, 0), (1185, 16, 0, 0), (1186, 11, 5, 0), (1188, 1, 32, 3), (1189, 26, 0, 0), (1190, 71, 0, 0), (1191, 39, 667, 1198), (1194, 1, 16, 2), (1195, 55, 668, 1199), (1198, 1, 0, 1), (1199, 80, 168, 3475), (1202, 17, 7, 0), (1204, 16, 2, 0), (1205, 80, 213, 2705), (1208, 11, 6, 0), (1210, 45, 676, 1215), (1213, 0, 0, 0), (1214, 0, 0, 0), (1215, 11, 6, 0), (1217, 40, 687, 1232), (1220, 16, 3, 0), (1221, 1, 0, 1), (1222, 72, 0, 0), (1223, 11, 7, 0), (1225, 33, 0, 0), (1226, 36, 0, 0), (1227, 39, 687, 1232), (1230, 0, 0, 0), (1231, 0, 0, 0), (1232, 55, 1916, 3131), (1235, 16, 1, 0), (1236, 16, 0, 0), (1237, 11, 5, 0), (1239, 1, 16, 2), (1240, 26, 0, 0), (1241, 71, 0, 0), (1242, 16, 3, 0), (1243, 84, 129, 3491), (1246, 17, 6, 0), (1248, 16, 2, 0), (1249, 16, 0, 0), (1250, 11, 5, 0), (1252, 1, 16, 2), (1253, 26, 0, 0), (1254, 71, 0, 0), (1255, 80, 187, 3522), (1258, 17, 7, 0), (1260, 16, 2, 0), (1261, 80, 213, 2705), (1264, 11, 6, 0), (1266, 45, 711, 1271), (1269, 0, 0, 0), (1270, 0, 0, 0), (1271, 11, 6, 0), (1273, 40, 722, 1288), (1276, 16, 3, 0), (1277, 1, 0, 1), (1278, 72, 0, 0), (1279, 11, 7, 0), (1281, 33, 0, 0), (1282, 36, 0, 0), (1283, 39, 722, 1288), (1286, 0, 0, 0), (1287, 0, 0, 0), (1288, 55, 1916, 3131), (1291, 16, 1, 0), (1292, 16, 0, 0), (1293, 11, 5, 0), (1295, 1, 16, 2), (1296, 26, 0, 0), (1297, 71, 0, 0), (1298, 16, 0, 0), (1299, 11, 5, 0), (1301, 1, 32, 3), (1302, 26, 0, 0), (1303, 71, 0, 0), (1304, 16, 3, 0), (1305, 84, 145, 3540), (1308, 17, 6, 0), (1310, 16, 2, 0), (1311, 16, 0, 0), (1312, 11, 5, 0), (1314, 1, 16, 2), (1315, 26, 0, 0), (1316, 71, 0, 0), (1317, 16, 0, 0), (1318, 11, 5, 0), (1320, 1, 32, 3), (1321, 26, 0, 0), (1322, 71, 0, 0), (1323, 80, 206, 3571), (1326, 17, 7, 0), (1328, 16, 2, 0), (1329, 80, 213, 2705), (1332, 11, 6, 0), (1334, 45, 756, 1339), (1337, 0, 0, 0), (1338, 0, 0, 0), (1339, 11, 6, 0), (1341, 40, 767, 1356), (1344, 0, 0, 0), (1345, 0, 0, 0), (1346, 0, 0, 0), (1347, 0, 0, 0), (1349, 0, 0, 0), (1350, 0, 0, 0), (1351, 0, 0, 0), (1354, 0, 0, 0), (1355, 0, 0, 0), (1356, 55, 1916, 3131), (1359, 16, 1, 0), (1360, 16, 0, 0), (1361, 11, 5, 0), (1363, 1, 16, 2), (1364, 26, 0, 0), (1365, 71, 0, 0), (1366, 16, 0, 0), (1367, 11, 5, 0), (1369, 1, 32, 3), (1370, 26, 0, 0), (1371, 71, 0, 0), (1372, 16, 3, 0), (1373, 84, 113, 3588), (1376, 17, 6, 0), (1378, 16, 2, 0), (1379, 16, 0, 0), (1380, 11, 5, 0), (1382, 1, 16, 2), (1383, 26, 0, 0), (1384, 71, 0, 0), (1385, 16, 0, 0), (1386, 11, 5, 0), (1388, 1, 32, 3), (1389, 26, 0, 0), (1390, 71, 0, 0), (1391, 80, 156, 3619), (1394, 17, 7, 0), (1396, 16, 2, 0), (1397, 80, 213, 2705), (1400, 11, 6, 0), (1402, 45, 801, 1407), (1405, 0, 0, 0), (1406, 0, 0, 0), (1407, 11, 6, 0), (1409, 40, 812, 1424), (1412, 0, 0, 0), (1413, 0, 0, 0), (1414, 0, 0, 0), (1415, 0, 0, 0), (1417, 0, 0, 0), (1418, 0, 0, 0), (1419, 0, 0, 0), (1422, 0, 0, 0), (1423, 0, 0, 0), (1424, 55, 1916, 3131), (1427, 16, 1, 0), (1428, 16, 0, 0), (1429, 11, 5, 0), (1431, 1, 16, 2), (1432, 26, 0, 0), (1433, 71, 0, 0), (1434, 16, 0, 0), (1435, 11, 5, 0), (1437, 1, 32, 3), (1438, 26, 0, 0), (1439, 71, 0, 0), (1440, 16, 0, 0), (1441, 11, 5, 0), (1443, 1, 48, 4), (1444, 26, 0, 0), (1445, 71, 0, 0), (1446, 35, 0, 0), (1447, 16, 3, 0), (1448, 84, 125, 3637), (1451, 17, 6, 0), (1453, 16, 2, 0), (1454, 16, 0, 0), (1455, 11, 5, 0), (1457, 1, 16, 2), (1458, 26, 0, 0), (1459, 71, 0, 0), (1460, 16, 0, 0), (1461, 11, 5, 0), (1463, 1, 32, 3), (1464, 26, 0, 0), (1465, 71, 0, 0), (1466, 16, 0, 0), (1467, 11, 5, 0), (1469, 1, 48, 4), (1470, 26, 0, 0), (1471, 71, 0, 0), (1472, 35, 0, 0), (1473, 80, 176, 3684), (1476, 17, 7, 0), (1478, 16, 2, 0), (1479, 80, 213, 2705), (1482, 11, 6, 0), (1484, 45, 858, 1489), (1487, 0, 0, 0), (1488, 0, 0, 0), (1489, 11, 6, 0), (1491, 40, 872, 1513), (1494, 0, 0, 0), (1495, 0, 0, 0), (1496, 0, 0, 0), (1497, 0, 0, 0), (1499, 0, 0, 0), (1502, 0, 0, 0), (1503, 0, 0, 0), (1506, 0, 0, 0), (1507, 0, 0, 0), (1508, 0, 0, 0), (1511, 0, 0, 0), (1512, 0, 0, 0), (1513, 55, 1916, 3131), (1516, 16, 1, 0), (1517, 16, 0, 0), (1518, 11, 5, 0), (1520, 1, 16, 2), (1521, 26, 0, 0), (1522, 71, 0, 0), (1523, 16, 3, 0), (1524, 84, 143, 3699), (1527, 17, 6, 0), (1529, 16, 2, 0), (1530, 16, 0, 0), (1531, 11, 5, 0), (1533, 1, 16, 2), (1534, 26, 0, 0), (1535, 71, 0, 0), (1536, 80, 203, 3730), (1539, 17, 7, 0), (1541, 16, 2, 0), (1542, 80, 213, 2705), (1545, 11, 6, 0), (1547, 45, 896, 1552), (1550, 0, 0, 0), (1551, 0, 0, 0), (1552, 11, 6, 0), (1554, 40, 907, 1569), (1557, 16, 3, 0), (1558, 1, 0, 1), (1559, 72, 0, 0), (1560, 11, 7, 0), (1562, 33, 0, 0), (1563, 36, 0, 0), (1564, 39, 907, 1569), (1567, 0, 0, 0), (1568, 0, 0, 0), (1569, 55, 1916, 3131), (1572, 16, 1, 0), (1573, 16, 0, 0), (1574, 11, 5, 0), (1576, 1, 16, 2), (1577, 26, 0, 0), (1578, 71, 0, 0), (1579, 16, 3, 0), (1580, 84, 117, 3747), (1583, 17, 6, 0), (1585, 16, 2, 0), (1586, 16, 0, 0), (1587, 11, 5, 0), (1589, 1, 16, 2), (1590, 26, 0, 0), (1591, 71, 0, 0), (1592, 80, 162, 3778), (1595, 17, 7, 0), (1597, 16, 2, 0), (1598, 80, 213, 2705), (1601, 11, 6, 0), (1603, 45, 931, 1608), (1606, 0, 0, 0), (1607, 0, 0, 0), (1608, 11, 6, 0), (1610, 40, 942, 1625), (1613, 16, 3, 0), (1614, 1, 0, 1), (1615, 72, 0, 0), (1616, 11, 7, 0), (1618, 33, 0, 0), (1619, 36, 0, 0), (1620, 39, 942, 1625), (1623, 0, 0, 0), (1624, 0, 0, 0), (1625, 55, 1916, 3131), (1628, 16, 1, 0), (1629, 16, 0, 0), (1630, 11, 5, 0), (1632, 1, 16, 2), (1633, 26, 0, 0), (1634, 71, 0, 0), (1635, 16, 0, 0), (1636, 11, 5, 0), (1638, 1, 32, 3), (1639, 26, 0, 0), (1640, 71, 0, 0), (1641, 16, 0, 0), (1642, 11, 5, 0), (1644, 1, 48, 4), (1645, 26, 0, 0), (1646, 71, 0, 0), (1647, 35, 0, 0), (1648, 16, 3, 0), (1649, 84, 116, 3797), (1652, 17, 6, 0), (1654, 16, 2, 0), (1655, 16, 0, 0), (1656, 11, 5, 0), (1658, 1, 16, 2), (1659, 26, 0, 0), (1660, 71, 0, 0), (1661, 16, 0, 0), (1662, 11, 5, 0), (1664, 1, 32, 3), (1665, 26, 0, 0), (1666, 71, 0, 0), (1667, 16, 0, 0), (1668, 11, 5, 0), (1670, 1, 48, 4), (1671, 26, 0, 0), (1672, 71, 0, 0), (1673, 35, 0, 0), (1674, 80, 161, 3828), (1677, 17, 7, 0), (1679, 16, 2, 0), (1680, 80, 213, 2705), (1683, 11, 6, 0), (1685, 45, 988, 1690), (1688, 0, 0, 0), (1689, 0, 0, 0), (1690, 11, 6, 0), (1692, 40, 999, 1707), (1695, 0, 0, 0), (1696, 0, 0, 0), (1697, 0, 0, 0), (1698, 0, 0, 0), (1700, 0, 0, 0), (1701, 0, 0, 0), (1702, 0, 0, 0), (1705, 0, 0, 0), (1706, 0, 0, 0), (1707, 55, 1916, 3131), (1710, 16, 1, 0), (1711, 16, 0, 0), (1712, 11, 5, 0), (1714, 1, 16, 2), (1715, 26, 0, 0), (1716, 71, 0, 0), (1717, 16, 0, 0), (1718, 11, 5, 0), (1720, 1, 32, 3), (1721, 26, 0, 0), (1722, 71, 0, 0), (1723, 16, 3, 0), (1724, 84, 144, 3844), (1727, 17, 6, 0), (1729, 16, 2, 0), (1730, 16, 0, 0), (1731, 11, 5, 0), (1733, 1, 16, 2), (1734, 26, 0, 0), (1735, 71, 0, 0), (1736, 16, 0, 0), (1737, 11, 5, 0), (1739, 1, 32, 3), (1740, 26, 0, 0), (1741, 71, 0, 0), (1742, 80, 205, 3875), (1745, 17, 7, 0), (1747, 16, 2, 0), (1748, 80, 213, 2705), (1751, 11, 6, 0), (1753, 45, 1033, 1758), (1756, 0, 0, 0), (1757, 0, 0, 0), (1758, 11, 6, 0), (1760, 40, 1044, 1775), (1763, 16, 3, 0), (1764, 1, 0, 1), (1765, 72, 0, 0), (1766, 11, 7, 0), (1768, 33, 0, 0), (1769, 36, 0, 0), (1770, 39, 1044, 1775), (1773, 0, 0, 0), (1774, 0, 0, 0), (1775, 55, 1916, 3131), (1778, 16, 1, 0), (1779, 16, 0, 0), (1780, 11, 5, 0), (1782, 1, 16, 2), (1783, 26, 0, 0), (1784, 71, 0, 0), (1785, 16, 3, 0), (1786, 84, 118, 3891), (1789, 17, 6, 0), (1791, 16, 2, 0), (1792, 16, 0, 0), (1793, 11, 5, 0), (1795, 1, 16, 2), (1796, 26, 0, 0), (1797, 71, 0, 0), (1798, 80, 163, 3922), (1801, 17, 7, 0), (1803, 16, 2, 0), (1804, 80, 213, 2705), (1807, 11, 6, 0), (1809, 45, 1068, 1814), (1812, 0, 0, 0), (1813, 0, 0, 0), (1814, 11, 6, 0), (1816, 40, 1079, 1831), (1819, 16, 3, 0), (1820, 1, 0, 1), (1821, 72, 0, 0), (1822, 11, 7, 0), (1824, 33, 0, 0), (1825, 36, 0, 0), (1826, 39, 1079, 1831), (1829, 0, 0, 0), (1830, 0, 0, 0), (1831, 55, 1916, 3131), (1834, 16, 1, 0), (1835, 16, 0, 0), (1836, 11, 5, 0), (1838, 1, 16, 2), (1839, 26, 0, 0), (1840, 71, 0, 0), (1841, 16, 3, 0), (1842, 84, 136, 3939), (1845, 17, 6, 0), (1847, 16, 2, 0), (1848, 16, 0, 0), (1849, 11, 5, 0), (1851, 1, 16, 2), (1852, 26, 0, 0), (1853, 71, 0, 0), (1854, 80, 195, 3970), (1857, 17, 7, 0), (1859, 16, 2, 0), (1860, 80, 213, 2705), (1863, 11, 6, 0), (1865, 45, 1103, 1870), (1868, 0, 0, 0), (1869, 0, 0, 0), (1870, 11, 6, 0), (1872, 40, 1114, 1887), (1875, 16, 3, 0), (1876, 1, 0, 1), (1877, 72, 0, 0), (1878, 11, 7, 0), (1880, 33, 0, 0), (1881, 36, 0, 0), (1882, 39, 1114, 1887), (1885, 0, 0, 0), (1886, 0, 0, 0), (1887, 55, 1916, 3131), (1890, 16, 1, 0), (1891, 16, 0, 0), (1892, 11, 5, 0), (1894, 1, 16, 2), (1895, 26, 0, 0), (1896, 71, 0, 0), (1897, 16, 0, 0), (1898, 11, 5, 0), (1900, 1, 32, 3), (1901, 26, 0, 0), (1902, 71, 0, 0), (1903, 16, 3, 0), (1904, 84, 152, 3988), (1907, 17, 6, 0), (1909, 16, 2, 0), (1910, 16, 0, 0), (1911, 11, 5, 0), (1913, 1, 16, 2), (1914, 26, 0, 0), (1915, 71, 0, 0), (1916, 16, 0, 0), (1917, 11, 5, 0), (1919, 1, 32, 3), (1920, 26, 0, 0), (1921, 71, 0, 0), (1922, 80, 217, 4019), (1925, 17, 7, 0), (1927, 16, 2, 0), (1928, 80, 213, 2705), (1931, 11, 6, 0), (1933, 45, 1148, 1938), (1936, 0, 0, 0), (1937, 0, 0, 0), (1938, 11, 6, 0), (1940, 40, 1159, 1955), (1943, 0, 0, 0), (1944, 0, 0, 0), (1945, 0, 0, 0), (1946, 0, 0, 0), (1948, 0, 0, 0), (1949, 0, 0, 0), (1950, 0, 0, 0), (1953, 0, 0, 0), (1954, 0, 0, 0), (1955, 55, 1916, 3131), (1958, 16, 1, 0), (1959, 16, 0, 0), (1960, 11, 5, 0), (1962, 1, 16, 2), (1963, 26, 0, 0), (1964, 71, 0, 0), (1965, 16, 0, 0), (1966, 11, 5, 0), (1968, 1, 32, 3), (1969, 26, 0, 0), (1970, 71, 0, 0), (1971, 16, 3, 0), (1972, 84, 119, 4036), (1975, 17, 6, 0), (1977, 16, 2, 0), (1978, 16, 0, 0), (1979, 11, 5, 0), (1981, 1, 16, 2), (1982, 26, 0, 0), (1983, 71, 0, 0), (1984, 16, 0, 0), (1985, 11, 5, 0), (1987, 1, 32, 3), (1988, 26, 0, 0), (1989, 71, 0, 0), (1990, 80, 164, 4067), (1993, 17, 7, 0), (1995, 16, 2, 0), (1996, 80, 213, 2705), (1999, 11, 6, 0), (2001, 45, 1193, 2006), (2004, 0, 0, 0), (2005, 0, 0, 0), (2006, 11, 6, 0), (2008, 40, 1204, 2023), (2011, 0, 0, 0), (2012, 0, 0, 0), (2013, 0, 0, 0), (2014, 0, 0, 0), (2016, 0, 0, 0), (2017, 0, 0, 0), (2018, 0, 0, 0), (2021, 0, 0, 0), (2022, 0, 0, 0), (2023, 55, 1916, 3131), (2026, 16, 1, 0), (2027, 16, 0, 0), (2028, 11, 5, 0), (2030, 1, 16, 2), (2031, 26, 0, 0), (2032, 71, 0, 0), (2033, 16, 0, 0), (2034, 11, 5, 0), (2036, 1, 32, 3), (2037, 26, 0, 0), (2038, 71, 0, 0), (2039, 16, 3, 0), (2040, 84, 141, 4084), (2043, 17, 6, 0), (2045, 16, 2, 0), (2046, 16, 0, 0), (2047, 11, 5, 0), (2049, 1, 16, 2), (2050, 26, 0, 0), (2051, 71, 0, 0), (2052, 16, 0, 0), (2053, 11, 5, 0), (2055, 1, 32, 3), (2056, 26, 0, 0), (2057, 71, 0, 0), (2058, 80, 201, 4115), (2061, 17, 7, 0), (2063, 16, 2, 0), (2064, 80, 213, 2705), (2067, 11, 6, 0), (2069, 45, 1238, 2074), (2072, 0, 0, 0), (2073, 0, 0, 0), (2074, 11, 6, 0), (2076, 40, 1249, 2091), (2079, 0, 0, 0), (2080, 0, 0, 0), (2081, 0, 0, 0), (2082, 0, 0, 0), (2084, 0, 0, 0), (2085, 0, 0, 0), (2086, 0, 0, 0), (2089, 0, 0, 0), (2090, 0, 0, 0), (2091, 55, 1916, 3131), (2094, 16, 1, 0), (2095, 16, 0, 0), (2096, 11, 5, 0), (2098, 1, 16, 2), (2099, 26, 0, 0), (2100, 71, 0, 0), (2101, 16, 0, 0), (2102, 11, 5, 0), (2104, 1, 32, 3), (2105, 26, 0, 0), (2106, 71, 0, 0), (2107, 16, 3, 0), (2108, 84, 131, 4132), (2111, 17, 6, 0), (2113, 16, 2, 0), (2114, 16, 0, 0), (2115, 11, 5, 0), (2117, 1, 16, 2), (2118, 26, 0, 0), (2119, 71, 0, 0), (2120, 16, 0, 0), (2121, 11, 5, 0), (2123, 1, 32, 3), (2124, 26, 0, 0), (2125, 71, 0, 0), (2126, 80, 190, 4163), (2129, 17, 7, 0), (2131, 16, 2, 0), (2132, 80, 213, 2705), (2135, 11, 6, 0), (2137, 45, 1283, 2142), (2140, 0, 0, 0), (2141, 0, 0, 0), (2142, 11, 6, 0), (2144, 40, 1294, 2159), (2147, 0, 0, 0), (2148, 0, 0, 0), (2149, 0, 0, 0), (2150, 0, 0, 0), (2152, 0, 0, 0), (2153, 0, 0, 0), (2154, 0, 0, 0), (2157, 0, 0, 0), (2158, 0, 0, 0), (2159, 55, 1916, 3131), (2162, 16, 1, 0), (2163, 16, 0, 0), (2164, 11, 5, 0), (2166, 1, 16, 2), (2167, 26, 0, 0), (2168, 71, 0, 0), (2169, 16, 0, 0), (2170, 11, 5, 0), (2172, 1, 32, 3), (2173, 26, 0, 0), (2174, 71, 0, 0), (2175, 16, 3, 0), (2176, 84, 134, 4180), (2179, 17, 6, 0), (2181, 16, 2, 0), (2182, 16, 0, 0), (2183, 11, 5, 0), (2185, 1, 16, 2), (2186, 26, 0, 0), (2187, 71, 0, 0), (2188, 16, 0, 0), (2189, 11, 5, 0), (2191, 1, 32, 3), (2192, 26, 0, 0), (2193, 71, 0, 0), (2194, 80, 193, 4211), (2197, 17, 7, 0), (2199, 16, 2, 0), (2200, 80, 213, 2705), (2203, 11, 6, 0), (2205, 45, 1328, 2210), (2208, 0, 0, 0), (2209, 0, 0, 0), (2210, 11, 6, 0), (2212, 40, 1339, 2227), (2215, 16, 3, 0), (2216, 1, 0, 1), (2217, 72, 0, 0), (2218, 11, 7, 0), (2220, 33, 0, 0), (2221, 36, 0, 0), (2222, 39, 1339, 2227), (2225, 0, 0, 0), (2226, 0, 0, 0), (2227, 55, 1916, 3131), (2230, 16, 1, 0), (2231, 16, 0, 0), (2232, 11, 5, 0), (2234, 1, 16, 2), (2235, 26, 0, 0), (2236, 71, 0, 0), (2237, 16, 3, 0), (2238, 84, 151, 4227), (2241, 17, 6, 0), (2243, 16, 2, 0), (2244, 16, 0, 0), (2245, 11, 5, 0), (2247, 1, 16, 2), (2248, 26, 0, 0), (2249, 71, 0, 0), (2250, 80, 216, 4258), (2253, 17, 7, 0), (2255, 16, 2, 0), (2256, 80, 213, 2705), (2259, 11, 6, 0), (2261, 45, 1363, 2266), (2264, 0, 0, 0), (2265, 0, 0, 0), (2266, 11, 6, 0), (2268, 40, 1374, 2283), (2271, 16, 3, 0), (2272, 1, 0, 1), (2273, 72, 0, 0), (2274, 11, 7, 0), (2276, 33, 0, 0), (2277, 36, 0, 0), (2278, 39, 1374, 2283), (2281, 0, 0, 0), (2282, 0, 0, 0), (2283, 55, 1916, 3131), (2286, 16, 1, 0), (2287, 16, 0, 0), (2288, 11, 5, 0), (2290, 1, 16, 2), (2291, 26, 0, 0), (2292, 71, 0, 0), (2293, 16, 0, 0), (2294, 11, 5, 0), (2296, 1, 32, 3), (2297, 26, 0, 0), (2298, 71, 0, 0), (2299, 16, 3, 0), (2300, 84, 127, 4276), (2303, 17, 6, 0), (2305, 16, 2, 0), (2306, 16, 0, 0), (2307, 11, 5, 0), (2309, 1, 16, 2), (2310, 26, 0, 0), (2311, 71, 0, 0), (2312, 16, 0, 0), (2313, 11, 5, 0), (2315, 1, 32, 3), (2316, 26, 0, 0), (2317, 71, 0, 0), (2318, 80, 184, 4307), (2321, 17, 7, 0), (2323, 16, 2, 0), (2324, 80, 213, 2705), (2327, 11, 6, 0), (2329, 45, 1408, 2334), (2332, 0, 0, 0), (2333, 0, 0, 0), (2334, 11, 6, 0), (2336, 40, 1419, 2351), (2339, 16, 3, 0), (2340, 1, 0, 1), (2341, 72, 0, 0), (2342, 11, 7, 0), (2344, 33, 0, 0), (2345, 36, 0, 0), (2346, 39, 1419, 2351), (2349, 0, 0, 0), (2350, 0, 0, 0), (2351, 55, 1916, 3131), (2354, 16, 1, 0), (2355, 16, 0, 0), (2356, 11, 5, 0), (2358, 1, 16, 2), (2359, 26, 0, 0), (2360, 71, 0, 0), (2361, 16, 0, 0), (2362, 11, 5, 0), (2364, 1, 32, 3), (2365, 26, 0, 0), (2366, 71, 0, 0), (2367, 16, 3, 0), (2368, 84, 123, 4324), (2371, 17, 6, 0), (2373, 16, 2, 0), (2374, 16, 0, 0), (2375, 11, 5, 0), (2377, 1, 16, 2), (2378, 26, 0, 0), (2379, 71, 0, 0), (2380, 16, 0, 0), (2381, 11, 5, 0), (2383, 1, 32, 3), (2384, 26, 0, 0), (2385, 71, 0, 0), (2386, 80, 170, 4355), (2389, 17, 7, 0), (2391, 16, 2, 0), (2392, 80, 213, 2705), (2395, 11, 6, 0), (2397, 45, 1453, 2402), (2400, 0, 0, 0), (2401, 0, 0, 0), (2402, 11, 6, 0), (2404, 40, 1464, 2419), (2407, 16, 3, 0), (2408, 1, 0, 1), (2409, 72, 0, 0), (2410, 11, 7, 0), (2412, 33, 0, 0), (2413, 36, 0, 0), (2414, 39, 1464, 2419), (2417, 0, 0, 0), (2418, 0, 0, 0), (2419, 55, 1916, 3131), (2422, 16, 1, 0), (2423, 16, 0, 0), (2424, 11, 5, 0), (2426, 1, 16, 2), (2427, 26, 0, 0), (2428, 71, 0, 0), (2429, 16, 0, 0), (2430, 11, 5, 0), (2432, 1, 32, 3), (2433, 26, 0, 0), (2434, 71, 0, 0), (2435, 16, 0, 0), (2436, 11, 5, 0), (2438, 1, 48, 4), (2439, 26, 0, 0), (2440, 71, 0, 0), (2441, 16, 3, 0), (2442, 84, 128, 4373), (2445, 17, 6, 0), (2447, 16, 2, 0), (2448, 16, 0, 0), (2449, 11, 5, 0), (2451, 1, 16, 2), (2452, 26, 0, 0), (2453, 71, 0, 0), (2454, 16, 0, 0), (2455, 11, 5, 0), (2457, 1, 32, 3), (2458, 26, 0, 0), (2459, 71, 0, 0), (2460, 16, 0, 0), (2461, 11, 5, 0), (2463, 1, 48, 4), (2464, 26, 0, 0), (2465, 71, 0, 0), (2466, 80, 186, 4404), (2469, 17, 7, 0), (2471, 16, 2, 0), (2472, 80, 213, 2705), (2475, 11, 6, 0), (2477, 45, 1508, 2482), (2480, 0, 0, 0), (2481, 0, 0, 0), (2482, 11, 6, 0), (2484, 40, 1519, 2499), (2487, 0, 0, 0), (2488, 0, 0, 0), (2489, 0, 0, 0), (2490, 0, 0, 0), (2492, 0, 0, 0), (2493, 0, 0, 0), (2494, 0, 0, 0), (2497, 0, 0, 0), (2498, 0, 0, 0), (2499, 55, 1916, 3131), (2502, 16, 1, 0), (2503, 16, 0, 0), (2504, 11, 5, 0), (2506, 1, 16, 2), (2507, 26, 0, 0), (2508, 71, 0, 0), (2509, 16, 3, 0), (2510, 84, 147, 4419), (2513, 17, 6, 0), (2515, 16, 2, 0), (2516, 16, 0, 0), (2517, 11, 5, 0), (2519, 1, 16, 2), (2520, 26, 0, 0), (2521, 71, 0, 0), (2522, 80, 208, 4450), (2525, 17, 7, 0), (2527, 16, 2, 0), (2528, 80, 213, 2705), (2531, 11, 6, 0), (2533, 45, 1543, 2538), (2536, 0, 0, 0), (2537, 0, 0, 0), (2538, 11, 6, 0), (2540, 40, 1554, 2555), (2543, 16, 3, 0), (2544, 1, 0, 1), (2545, 72, 0, 0), (2546, 11, 7, 0), (2548, 33, 0, 0), (2549, 36, 0, 0), (2550, 39, 1554, 2555), (2553, 0, 0, 0), (2554, 0, 0, 0), (2555, 55, 1916, 3131), (2558, 16, 1, 0), (2559, 16, 0, 0), (2560, 11, 5, 0), (2562, 1, 16, 2), (2563, 26, 0, 0), (2564, 71, 0, 0), (2565, 16, 0, 0), (2566, 11, 5, 0), (2568, 1, 32, 3), (2569, 26, 0, 0), (2570, 71, 0, 0), (2571, 16, 3, 0), (2572, 84, 130, 4468), (2575, 17, 6, 0), (2577, 16, 2, 0), (2578, 16, 0, 0), (2579, 11, 5, 0), (2581, 1, 16, 2), (2582, 26, 0, 0), (2583, 71, 0, 0), (2584, 16, 0, 0), (2585, 11, 5, 0), (2587, 1, 32, 3), (2588, 26, 0, 0), (2589, 71, 0, 0), (2590, 80, 188, 4499), (2593, 17, 7, 0), (2595, 16, 2, 0), (2596, 80, 213, 2705), (2599, 11, 6, 0), (2601, 45, 1588, 2606), (2604, 0, 0, 0), (2605, 0, 0, 0), (2606, 11, 6, 0), (2608, 40, 1599, 2623), (2611, 16, 3, 0), (2612, 1, 0, 1), (2613, 72, 0, 0), (2614, 11, 7, 0), (2616, 33, 0, 0), (2617, 36, 0, 0), (2618, 39, 1599, 2623), (2621, 0, 0, 0), (2622, 0, 0, 0), (2623, 55, 1916, 3131), (2626, 16, 1, 0), (2627, 16, 0, 0), (2628, 11, 5, 0), (2630, 1, 16, 2), (2631, 26, 0, 0), (2632, 71, 0, 0), (2633, 16, 0, 0), (2634, 11, 5, 0), (2636, 1, 32, 3), (2637, 26, 0, 0), (2638, 71, 0, 0), (2639, 16, 0, 0), (2640, 11, 5, 0), (2642, 1, 48, 4), (2643, 26, 0, 0), (2644, 71, 0, 0), (2645, 16, 3, 0), (2646, 84, 146, 4517), (2649, 17, 6, 0), (2651, 16, 2, 0), (2652, 16, 0, 0), (2653, 11, 5, 0), (2655, 1, 16, 2), (2656, 26, 0, 0), (2657, 71, 0, 0), (2658, 16, 0, 0), (2659, 11, 5, 0), (2661, 1, 32, 3), (2662, 26, 0, 0), (2663, 71, 0, 0), (2664, 16, 0, 0), (2665, 11, 5, 0), (2667, 1, 48, 4), (2668, 26, 0, 0), (2669, 71, 0, 0), (2670, 80, 207, 4548), (2673, 17, 7, 0), (2675, 16, 2, 0), (2676, 80, 213, 2705), (2679, 11, 6, 0), (2681, 45, 1643, 2686), (2684, 0, 0, 0), (2685, 0, 0, 0), (2686, 11, 6, 0), (2688, 40, 1654, 2703), (2691, 0, 0, 0), (2692, 0, 0, 0), (2693, 0, 0, 0), (2694, 0, 0, 0), (2696, 0, 0, 0), (2697, 0, 0, 0), (2698, 0, 0, 0), (2701, 0, 0, 0), (2702, 0, 0, 0), (2703, 55, 1916, 3131), (2706, 16, 1, 0), (2707, 16, 0, 0), (2708, 11, 5, 0), (2710, 1, 16, 2), (2711, 26, 0, 0), (2712, 71, 0, 0), (2713, 16, 0, 0), (2714, 11, 5, 0), (2716, 1, 32, 3), (2717, 26, 0, 0), (2718, 71, 0, 0), (2719, 16, 3, 0), (2720, 84, 120, 4564), (2723, 17, 6, 0), (2725, 16, 2, 0), (2726, 16, 0, 0), (2727, 11, 5, 0), (2729, 1, 16, 2), (2730, 26, 0, 0), (2731, 71, 0, 0), (2732, 16, 0, 0), (2733, 11, 5, 0), (2735, 1, 32, 3), (2736, 26, 0, 0), (2737, 71, 0, 0), (2738, 80, 165, 4595), (2741, 17, 7, 0), (2743, 16, 2, 0), (2744, 80, 213, 2705), (2747, 11, 6, 0), (2749, 45, 1688, 2754), (2752, 0, 0, 0), (2753, 0, 0, 0), (2754, 11, 6, 0), (2756, 40, 1699, 2771), (2759, 16, 3, 0), (2760, 1, 0, 1), (2761, 72, 0, 0), (2762, 11, 7, 0), (2764, 33, 0, 0), (2765, 36, 0, 0), (2766, 39, 1699, 2771), (2769, 0, 0, 0), (2770, 0, 0, 0), (2771, 55, 1916, 3131), (2774, 16, 1, 0), (2775, 16, 0, 0), (2776, 11, 5, 0), (2778, 1, 16, 2), (2779, 26, 0, 0), (2780, 71, 0, 0), (2781, 16, 0, 0), (2782, 11, 5, 0), (2784, 1, 32, 3), (2785, 26, 0, 0), (2786, 71, 0, 0), (2787, 16, 3, 0), (2788, 84, 124, 4612), (2791, 17, 6, 0), (2793, 16, 2, 0), (2794, 16, 0, 0), (2795, 11, 5, 0), (2797, 1, 16, 2), (2798, 26, 0, 0), (2799, 71, 0, 0), (2800, 16, 0, 0), (2801, 11, 5, 0), (2803, 1, 32, 3), (2804, 26, 0, 0), (2805, 71, 0, 0), (2806, 80, 173, 4643), (2809, 17, 7, 0), (2811, 16, 2, 0), (2812, 80, 213, 2705), (2815, 11, 6, 0), (2817, 45, 1733, 2822), (2820, 0, 0, 0), (2821, 0, 0, 0), (2822, 11, 6, 0), (2824, 40, 1747, 2846), (2827, 16, 3, 0), (2828, 1, 0, 1), (2829, 72, 0, 0), (2830, 11, 7, 0), (2832, 39, 1742, 2839), (2835, 4, 17, 1), (2836, 55, 1743, 2840), (2839, 0, 0, 0), (2840, 36, 0, 0), (2841, 39, 1747, 2846), (2844, 0, 0, 0), (2845, 0, 0, 0), (2846, 55, 1916, 3131), (2849, 16, 1, 0), (2850, 16, 3, 0), (2851, 84, 121, 4658), (2854, 17, 6, 0), (2856, 16, 2, 0), (2857, 80, 167, 4705), (2860, 17, 7, 0), (2862, 16, 2, 0), (2863, 80, 213, 2705), (2866, 11, 6, 0), (2868, 45, 1761, 2873), (2871, 0, 0, 0), (2872, 0, 0, 0), (2873, 11, 6, 0), (2875, 40, 1772, 2890), (2878, 16, 3, 0), (2879, 1, 0, 1), (2880, 72, 0, 0), (2881, 11, 7, 0), (2883, 33, 0, 0), (2884, 36, 0, 0), (2885, 39, 1772, 2890), (2888, 0, 0, 0), (2889, 0, 0, 0), (2890, 55, 1916, 3131), (2893, 16, 1, 0), (2894, 16, 0, 0), (2895, 11, 5, 0), (2897, 1, 16, 2), (2898, 26, 0, 0), (2899, 71, 0, 0), (2900, 16, 3, 0), (2901, 84, 126, 4723), (2904, 17, 6, 0), (2906, 16, 2, 0), (2907, 16, 0, 0), (2908, 11, 5, 0), (2910, 1, 16, 2), (2911, 26, 0, 0), (2912, 71, 0, 0), (2913, 80, 183, 4754), (2916, 17, 7, 0), (2918, 16, 2, 0), (2919, 80, 213, 2705), (2922, 11, 6, 0), (2924, 45, 1796, 2929), (2927, 0, 0, 0), (2928, 0, 0, 0), (2929, 11, 6, 0), (2931, 40, 1807, 2946), (2934, 16, 3, 0), (2935, 1, 0, 1), (2936, 72, 0, 0), (2937, 11, 7, 0), (2939, 33, 0, 0), (2940, 36, 0, 0), (2941, 39, 1807, 2946), (2944, 0, 0, 0), (2945, 0, 0, 0), (2946, 55, 1916, 3131), (2949, 16, 1, 0), (2950, 16, 0, 0), (2951, 11, 5, 0), (2953, 1, 16, 2), (2954, 26, 0, 0), (2955, 71, 0, 0), (2956, 15, 4, 0), (2958, 84, 138, 4771), (2961, 17, 6, 0), (2963, 16, 2, 0), (2964, 16, 0, 0), (2965, 11, 5, 0), (2967, 1, 16, 2), (2968, 26, 0, 0), (2969, 71, 0, 0), (2970, 80, 197, 4818), (2973, 23, 7, 0), (2975, 16, 2, 0), (2976, 80, 213, 2705), (2979, 11, 6, 0), (2981, 45, 1831, 2986), (2984, 0, 0, 0), (2985, 0, 0, 0), (2986, 11, 6, 0), (2988, 40, 1854, 3024), (2991, 0, 0, 0), (2993, 0, 0, 0), (2994, 0, 0, 0), (2995, 0, 0, 0), (2997, 0, 0, 0), (2998, 0, 0, 0), (2999, 0, 0, 0), (3002, 0, 0, 0), (3004, 0, 0, 0), (3005, 0, 0, 0), (3006, 0, 0, 0), (3008, 0, 0, 0), (3009, 0, 0, 0), (3010, 0, 0, 0), (3011, 0, 0, 0), (3014, 0, 0, 0), (3016, 0, 0, 0), (3018, 0, 0, 0), (3019, 0, 0, 0), (3022, 0, 0, 0), (3023, 0, 0, 0), (3024, 55, 1916, 3131), (3027, 16, 1, 0), (3028, 16, 0, 0), (3029, 11, 5, 0), (3031, 1, 16, 2), (3032, 26, 0, 0), (3033, 71, 0, 0), (3034, 15, 4, 0), (3036, 84, 133, 4835), (3039, 17, 6, 0), (3041, 16, 2, 0), (3042, 16, 0, 0), (3043, 11, 5, 0), (3045, 1, 16, 2), (3046, 26, 0, 0), (3047, 71, 0, 0), (3048, 80, 192, 4866), (3051, 24, 7, 0), (3053, 16, 2, 0), (3054, 80, 213, 2705), (3057, 11, 6, 0), (3059, 45, 1878, 3064), (3062, 0, 0, 0), (3063, 0, 0, 0), (3064, 11, 6, 0), (3066, 40, 1900, 3101), (3069, 0, 0, 0), (3071, 0, 0, 0), (3072, 0, 0, 0), (3073, 0, 0, 0), (3075, 0, 0, 0), (3076, 0, 0, 0), (3079, 0, 0, 0), (3081, 0, 0, 0), (3082, 0, 0, 0), (3083, 0, 0, 0), (3085, 0, 0, 0), (3086, 0, 0, 0), (3087, 0, 0, 0), (3088, 0, 0, 0), (3091, 0, 0, 0), (3093, 0, 0, 0), (3095, 0, 0, 0), (3096, 0, 0, 0), (3099, 0, 0, 0), (3100, 0, 0, 0), (3101, 55, 1916, 3131), (3104, 16, 1, 0), (3105, 80, 3, 4881), (3108, 16, 2, 0), (3109, 80, 157, 4945), (3112, 36, 0, 0), (3113, 39, 1916, 3131), (3116, 0, 0, 0), (3117, 0, 0, 0), (3118, 16, 1, 0), (3119, 80, 23, 4961), (3122, 16, 2, 0), (3123, 80, 181, 5025), (3126, 45, 1916, 3131), (3129, 0, 0, 0), (3130, 0, 0, 0), (3131, 25, 5, 32775), (3134, 55, 16, 28), (3137, 1, 16, 2), (3138, 56, 0, 0)]
-- Manypens.<init>()V
noncomputable def zc_1 : List sy_E := [(0, 16, 0, 0), (1, 82, 223, 49), (4, 16, 0, 0), (5, 67, 4, 9), (8, 37, 0, 0), (9, 2, 192, 140), (11, 82, 76, 178), (14, 66, 640, 114), (17, 16, 0, 0), (18, 67, 0, 18), (21, 37, 0, 0), (22, 82, 63, 321), (25, 66, 641, 170), (28, 16, 0, 0), (29, 67, 7, 25), (32, 37, 0, 0), (33, 16, 0, 0), (34, 62, 641, 170), (37, 82, 93, 434), (40, 66, 642, 242), (43, 16, 0, 0), (44, 1, 80, 6), (45, 69, 7, 34), (48, 66, 643, 290), (51, 1, 0, 1), (52, 18, 1, 0), (53, 12, 1, 0), (54, 1, 80, 6), (55, 48, 45, 92), (58, 16, 0, 0), (59, 62, 643, 290), (62, 12, 1, 0), (63, 67, 2, 34), (66, 37, 0, 0), (67, 67, 9, 40), (70, 37, 0, 0), (71, 16, 0, 0), (72, 62, 641, 170), (75, 16, 0, 0), (76, 62, 642, 242), (79, 82, 99, 675), (82, 82, 67, 722), (85, 77, 0, 0), (86, 25, 1, 32769), (89, 55, 26, 53), (92, 16, 0, 0), (93, 67, 9, 40), (96, 37, 0, 0), (97, 16, 0, 0), (98, 62, 641, 170), (101, 16, 0, 0), (102, 62, 642, 242), (105, 82, 99, 675), (108, 66, 644, 386), (111, 16, 0, 0), (112, 1, 80, 6), (113, 68, 0, 10), (115, 66, 645, 418), (118, 16, 0, 0), (119, 67, 9, 40), (122, 37, 0, 0), (123, 16, 0, 0), (124, 62, 641, 170), (127, 67, 7, 25), (130, 37, 0, 0), (131, 16, 0, 0), (132, 62, 641, 170), (135, 82, 93, 434), (138, 82, 99, 675), (141, 66, 646, 450), (144, 16, 0, 0), (145, 67, 3, 59), (148, 37, 0, 0), (149, 16, 0, 0), (150, 62, 641, 170), (153, 82, 73, 978), (156, 66, 647, 498), (159, 16, 0, 0), (160, 67, 3, 59), (163, 37, 0, 0), (164, 16, 0, 0), (165, 62, 641, 170), (168, 82, 73, 978), (171, 66, 648, 530), (174, 61, 0, 0)]
-- Manypens.birth(II)I
noncomputable def zc_2 : List sy_E := [(0, 16, 0, 0), (1, 12, 1, 0), (2, 80, 34, 1458), (5, 16, 0, 0), (6, 16, 0, 0), (7, 12, 1, 0), (8, 80, 59, 1506), (11, 12, 2, 0), (12, 80, 36, 3811)]
-- Manypens.checksum()J
noncomputable def zc_3 : List sy_E := [(0, 8, 113, 408), (3, 20, 1, 0), (4, 1, 0, 1), (5, 18, 3, 0), (6, 12, 3, 0), (7, 1, 80, 6), (8, 48, 62, 108), (11, 16, 0, 0), (12, 12, 3, 0), (13, 80, 59, 1506), (16, 21, 4, 0), (18, 1, 0, 1), (19, 17, 5, 0), (21, 11, 5, 0), (23, 1, 80, 6), (24, 48, 31, 53), (27, 8, 497, 410), (30, 14, 1, 0), (31, 32, 0, 0), (32, 16, 0, 0), (33, 62, 643, 290), (36, 12, 3, 0), (37, 73, 0, 0), (38, 63, 130, 2546), (41, 11, 5, 0), (43, 71, 0, 0), (44, 33, 0, 0), (45, 30, 0, 0), (46, 20, 1, 0), (47, 25, 5, 32769), (50, 55, 13, 21), (53, 16, 0, 0), (54, 14, 1, 0), (55, 15, 4, 0), (57, 80, 54, 6595), (60, 20, 1, 0), (61, 8, 497, 410), (64, 14, 1, 0), (65, 32, 0, 0), (66, 15, 4, 0), (68, 16, 0, 0), (69, 62, 643, 290), (72, 12, 3, 0), (73, 73, 0, 0), (74, 63, 140, 1569), (77, 80, 109, 3186), (80, 30, 0, 0), (81, 20, 1, 0), (82, 8, 497, 410), (85, 14, 1, 0), (86, 32, 0, 0), (87, 16, 0, 0), (88, 62, 643, 290), (91, 12, 3, 0), (92, 73, 0, 0), (93, 63, 133, 2298), (96, 80, 83, 1217), (99, 33, 0, 0), (100, 30, 0, 0), (101, 20, 1, 0), (102, 25, 3, 32769), (105, 55, 4, 6), (108, 1, 0, 1), (109, 18, 3, 0), (110, 12, 3, 0), (111, 16, 0, 0), (112, 62, 640, 114), (115, 80, 83, 1217), (118, 48, 81, 143), (121, 0, 0, 0), (124, 0, 0, 0), (125, 0, 0, 0), (126, 0, 0, 0), (127, 0, 0, 0), (130, 0, 0, 0), (131, 0, 0, 0), (134, 0, 0, 0), (135, 0, 0, 0), (136, 0, 0, 0), (137, 0, 0, 0), (140, 0, 0, 0), (143, 14, 1, 0), (144, 57, 0, 0)]
-- Manypens.close(I)I
noncomputable def zc_4 : List sy_E := [(0, 16, 0, 0), (1, 12, 1, 0), (2, 80, 34, 1458), (5, 16, 0, 0), (6, 62, 643, 290), (9, 12, 1, 0), (10, 73, 0, 0), (11, 63, 138, 1664), (14, 40, 14, 27), (17, 88, 0, 0)]
-- Manypens.comment(IIII)I
noncomputable def zc_5 : List sy_E := [(0, 16, 0, 0), (1, 12, 1, 0), (2, 80, 34, 1458), (5, 16, 0, 0), (6, 16, 0, 0), (7, 12, 1, 0), (8, 80, 59, 1506), (11, 12, 2, 0), (12, 12, 3, 0), (13, 80, 37, 2164)]
-- Manypens.commentAt(IIC)I
noncomputable def zc_6 : List sy_E := [(0, 16, 0, 0), (1, 12, 1, 0), (2, 80, 34, 1458), (5, 16, 0, 0), (6, 12, 1, 0), (7, 80, 59, 1506), (10, 21, 4, 0), (12, 12, 2, 0), (13, 41, 14, 28), (16, 12, 2, 0), (17, 15, 4, 0), (19, 63, 584, 2114), (22, 80, 83, 1217), (25, 47, 19, 39), (28, 89, 1, 1)]
-- Manypens.comments(I)I
noncomputable def zc_7 : List sy_E := [(0, 16, 0, 0), (1, 12, 1, 0), (2, 80, 34, 1458), (5, 16, 0, 0), (6, 12, 1, 0), (7, 80, 59, 1506), (10, 63, 584, 2114), (13, 80, 83, 1217), (16, 56, 0, 0)]
-- Manypens.cursor(I)I
noncomputable def zc_8 : List sy_E := [(0, 16, 0, 0), (1, 12, 1, 0), (2, 80, 34, 1458), (5, 16, 0, 0), (6, 12, 1, 0), (7, 80, 59, 1506), (10, 16, 0, 0), (11, 62, 643, 290), (14, 12, 1, 0), (15, 73, 0, 0), (16, 63, 140, 1569), (19, 80, 109, 3186), (22, 83, 56, 2097), (25, 56, 0, 0)]
-- Manypens.deliver(II)C
noncomputable def zc_9 : List sy_E := [(0, 16, 0, 0), (1, 12, 1, 0), (2, 80, 34, 1458), (5, 16, 0, 0), (6, 12, 1, 0), (7, 12, 2, 0), (8, 80, 38, 4643)]
-- Manypens.differ(II)I
noncomputable def zc_10 : List sy_E := [(0, 16, 0, 0), (1, 12, 1, 0), (2, 80, 34, 1458), (5, 16, 0, 0), (6, 12, 2, 0), (7, 80, 34, 1458), (10, 16, 0, 0), (11, 12, 1, 0), (12, 80, 59, 1506), (15, 22, 3, 0), (16, 16, 0, 0), (17, 12, 2, 0), (18, 80, 59, 1506), (21, 21, 4, 0), (23, 16, 3, 0), (24, 80, 112, 1569), (27, 15, 4, 0), (29, 80, 112, 1569), (32, 30, 0, 0), (33, 8, 33, 358), (36, 16, 3, 0), (37, 15, 4, 0), (39, 80, 107, 5762), (42, 32, 0, 0), (43, 31, 0, 0), (44, 83, 56, 2097), (47, 56, 0, 0)]
-- Manypens.erase()I
noncomputable def zc_11 : List sy_E := [(0, 16, 0, 0), (1, 62, 640, 114), (4, 80, 83, 1217), (7, 18, 1, 0), (8, 16, 0, 0), (9, 62, 640, 114), (12, 80, 79, 1409), (15, 12, 1, 0), (16, 56, 0, 0)]
-- Manypens.forget()I
noncomputable def zc_12 : List sy_E := [(0, 16, 0, 0), (1, 80, 15, 5889), (4, 40, 8, 18), (7, 0, 0, 0), (10, 0, 0, 0), (11, 0, 0, 0), (14, 0, 0, 0), (17, 0, 0, 0), (18, 16, 0, 0), (19, 1, 0, 1), (20, 80, 59, 1506), (23, 22, 1, 0), (24, 16, 0, 0), (25, 62, 642, 242), (28, 80, 97, 5985), (31, 16, 1, 0), (32, 80, 112, 1569), (35, 31, 0, 0), (36, 20, 2, 0), (37, 1, 0, 1), (38, 17, 4, 0), (40, 11, 4, 0), (42, 3, 3200, 32968), (45, 48, 32, 67), (48, 16, 1, 0), (49, 16, 0, 0), (50, 62, 641, 170), (53, 11, 4, 0), (55, 80, 64, 4354), (58, 80, 111, 6002), (61, 25, 4, 32769), (64, 55, 21, 40), (67, 1, 0, 1), (68, 17, 4, 0), (70, 11, 4, 0), (72, 1, 80, 6), (73, 48, 53, 110), (76, 16, 0, 0), (77, 62, 643, 290), (80, 11, 4, 0), (82, 73, 0, 0), (83, 16, 1, 0), (84, 16, 1, 0), (85, 16, 0, 0), (86, 62, 643, 290), (89, 11, 4, 0), (91, 73, 0, 0), (92, 63, 140, 1569), (95, 80, 109, 3186), (98, 80, 105, 1906), (101, 65, 140, 1569), (104, 25, 4, 32769), (107, 55, 34, 70), (110, 16, 0, 0), (111, 62, 642, 242), (114, 16, 1, 0), (115, 63, 580, 3026), (118, 80, 95, 6098), (121, 16, 0, 0), (122, 62, 641, 170), (125, 80, 65, 6161), (128, 1, 0, 1), (129, 17, 4, 0), (131, 11, 4, 0), (133, 1, 80, 6), (134, 48, 73, 153), (137, 16, 0, 0), (138, 62, 643, 290), (141, 11, 4, 0), (143, 73, 0, 0), (144, 80, 72, 6209), (147, 25, 4, 32769), (150, 55, 63, 131), (153, 14, 2, 0), (154, 83, 56, 2097), (157, 56, 0, 0)]
-- Manypens.goBack(II)V
noncomputable def zc_13 : List sy_E := [(0, 16, 0, 0), (1, 62, 641, 170), (4, 63, 3, 4418), (7, 1, 0, 1), (8, 16, 0, 0), (9, 62, 645, 418), (12, 1, 0, 1), (13, 1, 80, 6), (14, 86, 0, 555), (17, 1, 0, 1), (18, 18, 3, 0), (19, 12, 3, 0), (20, 12, 2, 0), (21, 48, 39, 74), (24, 0, 0, 0), (25, 0, 0, 0), (28, 0, 0, 0), (29, 0, 0, 0), (32, 0, 0, 0), (33, 0, 0, 0), (34, 0, 0, 0), (37, 0, 0, 0), (38, 0, 0, 0), (41, 0, 0, 0), (44, 0, 0, 0), (47, 0, 0, 0), (49, 0, 0, 0), (51, 0, 0, 0), (54, 0, 0, 0), (57, 0, 0, 0), (58, 0, 0, 0), (61, 0, 0, 0), (63, 0, 0, 0), (64, 0, 0, 0), (65, 0, 0, 0), (66, 0, 0, 0), (67, 0, 0, 0), (68, 0, 0, 0), (71, 0, 0, 0), (74, 16, 0, 0), (75, 62, 644, 386), (78, 16, 0, 0), (79, 62, 645, 418), (82, 80, 110, 8722), (85, 61, 0, 0)]
-- Manypens.groups(IZ)I
noncomputable def zc_14 : List sy_E := [(0, 16, 0, 0), (1, 12, 1, 0), (2, 80, 34, 1458), (5, 12, 2, 0), (6, 39, 12, 24), (9, 16, 0, 0), (10, 62, 643, 290), (13, 12, 1, 0), (14, 73, 0, 0), (15, 63, 136, 1834), (18, 80, 83, 1217), (21, 55, 18, 36), (24, 16, 0, 0), (25, 62, 643, 290), (28, 12, 1, 0), (29, 73, 0, 0), (30, 63, 135, 1730), (33, 80, 83, 1217), (36, 56, 0, 0)]
-- Manypens.haveAllHeardAll()Z
noncomputable def zc_15 : List sy_E := [(0, 1, 0, 1), (1, 18, 1, 0), (2, 12, 1, 0), (3, 1, 80, 6), (4, 48, 29, 51), (7, 1, 0, 1), (8, 18, 2, 0), (9, 12, 2, 0), (10, 1, 80, 6), (11, 48, 27, 45), (14, 16, 0, 0), (15, 62, 643, 290), (18, 12, 1, 0), (19, 73, 0, 0), (20, 63, 130, 2546), (23, 12, 2, 0), (24, 71, 0, 0), (25, 16, 0, 0), (26, 62, 641, 170), (29, 63, 2, 2706), (32, 12, 2, 0), (33, 71, 0, 0), (34, 45, 25, 39), (37, 0, 0, 0), (38, 0, 0, 0), (39, 25, 2, 32769), (42, 55, 7, 9), (45, 25, 1, 32769), (48, 55, 2, 2), (51, 1, 16, 2), (52, 56, 0, 0)]
-- Manypens.haveHeardSame(II)Z
noncomputable def zc_16 : List sy_E := [(0, 1, 0, 1), (1, 18, 3, 0), (2, 12, 3, 0), (3, 1, 80, 6), (4, 48, 24, 40), (7, 16, 0, 0), (8, 62, 643, 290), (11, 12, 1, 0), (12, 73, 0, 0), (13, 63, 130, 2546), (16, 12, 3, 0), (17, 71, 0, 0), (18, 16, 0, 0), (19, 62, 643, 290), (22, 12, 2, 0), (23, 73, 0, 0), (24, 63, 130, 2546), (27, 12, 3, 0), (28, 71, 0, 0), (29, 45, 22, 34), (32, 0, 0, 0), (33, 0, 0, 0), (34, 25, 3, 32769), (37, 55, 2, 2), (40, 1, 16, 2), (41, 56, 0, 0)]
-- Manypens.hearAll(LManypens$Hand;LManypens$InTime;)I
noncomputable def zc_17 : List sy_E := [(0, 1, 0, 1), (1, 18, 3, 0), (2, 1, 0, 1), (3, 17, 4, 0), (5, 11, 4, 0), (7, 3, 3200, 32968), (10, 48, 32, 66), (13, 16, 2, 0), (14, 80, 74, 8529), (17, 17, 5, 0), (19, 11, 5, 0), (21, 42, 13, 27), (24, 55, 32, 66), (27, 0, 0, 0), (28, 0, 0, 0), (29, 0, 0, 0), (32, 0, 0, 0), (34, 0, 0, 0), (37, 0, 0, 0), (40, 0, 0, 0), (43, 0, 0, 0), (44, 0, 0, 0), (45, 0, 0, 0), (46, 0, 0, 0), (47, 0, 0, 0), (50, 0, 0, 0), (52, 0, 0, 0), (55, 0, 0, 0), (58, 0, 0, 0), (59, 0, 0, 0), (60, 0, 0, 0), (63, 0, 0, 0), (66, 12, 3, 0), (67, 56, 0, 0)]
-- Manypens.hearAnew(I)V
noncomputable def zc_18 : List sy_E := [(0, 16, 0, 0), (1, 62, 642, 242), (4, 16, 0, 0), (5, 62, 646, 450), (8, 63, 580, 3026), (11, 80, 94, 8978), (14, 16, 0, 0), (15, 62, 646, 450), (18, 63, 577, 4514), (21, 16, 0, 0), (22, 62, 646, 450), (25, 63, 580, 3026), (28, 80, 95, 6098), (31, 16, 0, 0), (32, 62, 647, 498), (35, 16, 0, 0), (36, 62, 641, 170), (39, 63, 3, 4418), (42, 16, 0, 0), (43, 62, 643, 290), (46, 12, 1, 0), (47, 73, 0, 0), (48, 63, 130, 2546), (51, 80, 75, 5139), (54, 1, 0, 1), (55, 18, 2, 0), (56, 12, 2, 0), (57, 3, 3200, 32968), (60, 48, 46, 102), (63, 16, 0, 0), (64, 62, 647, 498), (67, 80, 74, 8529), (70, 18, 3, 0), (71, 12, 3, 0), (72, 42, 36, 78), (75, 55, 46, 102), (78, 0, 0, 0), (79, 0, 0, 0), (82, 0, 0, 0), (85, 0, 0, 0), (86, 0, 0, 0), (89, 0, 0, 0), (90, 0, 0, 0), (93, 0, 0, 0), (96, 0, 0, 0), (99, 0, 0, 0), (102, 16, 0, 0), (103, 62, 646, 450), (106, 63, 577, 4514), (109, 80, 96, 8385), (112, 16, 0, 0), (113, 62, 646, 450), (116, 16, 0, 0), (117, 62, 643, 290), (120, 12, 1, 0), (121, 73, 0, 0), (122, 63, 130, 2546), (125, 80, 110, 8722), (128, 16, 0, 0), (129, 62, 646, 450), (132, 80, 100, 8785), (135, 61, 0, 0)]
-- Manypens.heard(II)I
noncomputable def zc_19 : List sy_E := [(0, 16, 0, 0), (1, 12, 1, 0), (2, 80, 34, 1458), (5, 16, 0, 0), (6, 12, 2, 0), (7, 80, 34, 1458), (10, 16, 0, 0), (11, 62, 643, 290), (14, 12, 1, 0), (15, 73, 0, 0), (16, 63, 130, 2546), (19, 12, 2, 0), (20, 71, 0, 0), (21, 56, 0, 0)]
-- Manypens.isAlike(II)Z
noncomputable def zc_20 : List sy_E := [(0, 16, 0, 0), (1, 12, 1, 0), (2, 80, 34, 1458), (5, 16, 0, 0), (6, 12, 2, 0), (7, 80, 34, 1458), (10, 16, 0, 0), (11, 12, 1, 0), (12, 80, 59, 1506), (15, 16, 0, 0), (16, 12, 2, 0), (17, 80, 59, 1506), (20, 80, 103, 5826), (23, 56, 0, 0)]
-- Manypens.isHand(I)Z
noncomputable def zc_21 : List sy_E := [(0, 12, 0, 0), (1, 41, 7, 13), (4, 12, 0, 0), (5, 1, 80, 6), (6, 48, 7, 13), (9, 1, 16, 2), (10, 55, 8, 14), (13, 1, 0, 1), (14, 56, 0, 0)]
-- Manypens.isMarked(IIC)Z
noncomputable def zc_22 : List sy_E := [(0, 16, 0, 0), (1, 12, 1, 0), (2, 80, 34, 1458), (5, 16, 0, 0), (6, 12, 3, 0), (7, 80, 35, 2498), (10, 16, 0, 0), (11, 16, 0, 0), (12, 12, 1, 0), (13, 80, 59, 1506), (16, 12, 2, 0), (17, 80, 36, 3811)]
-- Manypens.isTrue()Z
noncomputable def zc_23 : List sy_E := [(0, 1, 0, 1), (1, 18, 1, 0), (2, 12, 1, 0), (3, 1, 80, 6), (4, 48, 41, 75), (7, 16, 0, 0), (8, 12, 1, 0), (9, 80, 18, 6658), (12, 16, 0, 0), (13, 12, 1, 0), (14, 80, 59, 1506), (17, 16, 0, 0), (18, 62, 646, 450), (21, 80, 103, 5826), (24, 40, 17, 29), (27, 0, 0, 0), (28, 0, 0, 0), (29, 1, 0, 1), (30, 18, 2, 0), (31, 12, 2, 0), (32, 12, 1, 0), (33, 48, 39, 69), (36, 16, 0, 0), (37, 12, 1, 0), (38, 12, 2, 0), (39, 80, 16, 6707), (42, 39, 37, 63), (45, 16, 0, 0), (46, 12, 1, 0), (47, 80, 59, 1506), (50, 16, 0, 0), (51, 12, 2, 0), (52, 80, 59, 1506), (55, 80, 103, 5826), (58, 40, 37, 63), (61, 0, 0, 0), (62, 0, 0, 0), (63, 25, 2, 32769), (66, 55, 19, 31), (69, 25, 1, 32769), (72, 55, 2, 2), (75, 1, 16, 2), (76, 56, 0, 0)]
-- Manypens.kept(I)I
noncomputable def zc_24 : List sy_E := [(0, 16, 0, 0), (1, 12, 1, 0), (2, 80, 34, 1458), (5, 16, 0, 0), (6, 12, 1, 0), (7, 80, 59, 1506), (10, 63, 588, 3129), (13, 83, 56, 2097), (16, 56, 0, 0)]
-- Manypens.lacks(II)I
noncomputable def zc_25 : List sy_E := [(0, 16, 0, 0), (1, 12, 1, 0), (2, 80, 34, 1458), (5, 16, 0, 0), (6, 12, 2, 0), (7, 80, 34, 1458), (10, 1, 0, 1), (11, 18, 3, 0), (12, 1, 0, 1), (13, 17, 4, 0), (15, 11, 4, 0), (17, 1, 80, 6), (18, 48, 35, 59), (21, 12, 3, 0), (22, 1, 0, 1), (23, 16, 0, 0), (24, 62, 643, 290), (27, 12, 1, 0), (28, 73, 0, 0), (29, 63, 130, 2546), (32, 11, 4, 0), (34, 71, 0, 0), (35, 16, 0, 0), (36, 62, 643, 290), (39, 12, 2, 0), (40, 73, 0, 0), (41, 63, 130, 2546), (44, 11, 4, 0), (46, 71, 0, 0), (47, 27, 0, 0), (48, 83, 221, 5314), (51, 26, 0, 0), (52, 18, 3, 0), (53, 25, 4, 32769), (56, 55, 10, 15), (59, 12, 3, 0), (60, 56, 0, 0)]
-- Manypens.leans(III)I
noncomputable def zc_26 : List sy_E := [(0, 16, 0, 0), (1, 12, 1, 0), (2, 80, 34, 1458), (5, 16, 0, 0), (6, 12, 3, 0), (7, 80, 34, 1458), (10, 12, 2, 0), (11, 1, 16, 2), (12, 47, 16, 28), (15, 12, 2, 0), (16, 16, 0, 0), (17, 62, 641, 170), (20, 63, 2, 2706), (23, 12, 1, 0), (24, 71, 0, 0), (25, 50, 21, 39), (28, 89, 1, 2)]
-- Manypens.length(I)I
noncomputable def zc_27 : List sy_E := [(0, 16, 0, 0), (1, 12, 1, 0), (2, 80, 34, 1458), (5, 16, 0, 0), (6, 12, 1, 0), (7, 80, 59, 1506), (10, 80, 112, 1569), (13, 83, 56, 2097), (16, 56, 0, 0)]
-- Manypens.lengthThen(II)I
noncomputable def zc_28 : List sy_E := [(0, 16, 0, 0), (1, 12, 1, 0), (2, 80, 34, 1458), (5, 16, 0, 0), (6, 12, 1, 0), (7, 12, 2, 0), (8, 80, 40, 5635), (11, 16, 0, 0), (12, 12, 1, 0), (13, 12, 2, 0), (14, 80, 13, 5683), (17, 16, 0, 0), (18, 62, 644, 386), (21, 80, 112, 1569), (24, 83, 56, 2097), (27, 56, 0, 0)]
-- Manypens.lose(II)I
noncomputable def zc_29 : List sy_E := [(0, 16, 0, 0), (1, 12, 1, 0), (2, 80, 34, 1458), (5, 16, 0, 0), (6, 12, 1, 0), (7, 12, 2, 0), (8, 80, 38, 4643)]
-- Manypens.mark(IIICZZ)I
noncomputable def zc_30 : List sy_E := [(0, 16, 0, 0), (1, 12, 1, 0), (2, 80, 34, 1458), (5, 16, 0, 0), (6, 11, 4, 0), (8, 80, 35, 2498), (11, 16, 0, 0), (12, 16, 0, 0), (13, 12, 1, 0), (14, 80, 59, 1506), (17, 12, 2, 0), (18, 12, 3, 0), (19, 80, 37, 2164)]
-- Manypens.meanTime(I)D
noncomputable def zc_31 : List sy_E := [(0, 16, 0, 0), (1, 12, 1, 0), (2, 80, 34, 1458), (5, 16, 0, 0), (6, 12, 1, 0), (7, 80, 59, 1506), (10, 22, 2, 0), (11, 16, 2, 0), (12, 80, 112, 1569), (15, 4, 1, 0), (16, 36, 0, 0), (17, 40, 17, 31), (20, 89, 2, 3)]
-- Manypens.meet(II)I
noncomputable def zc_32 : List sy_E := [(0, 16, 0, 0), (1, 12, 1, 0), (2, 80, 34, 1458), (5, 16, 0, 0), (6, 12, 2, 0), (7, 80, 34, 1458), (10, 12, 1, 0), (11, 12, 2, 0), (12, 46, 14, 26), (15, 89, 3, 4), (18, 0, 0, 0), (19, 0, 0, 0), (22, 0, 0, 0), (25, 0, 0, 0), (26, 16, 0, 0), (27, 62, 647, 498), (30, 16, 0, 0), (31, 62, 643, 290), (34, 12, 1, 0), (35, 73, 0, 0), (36, 63, 130, 2546), (39, 16, 0, 0), (40, 62, 643, 290), (43, 12, 2, 0), (44, 73, 0, 0), (45, 63, 130, 2546), (48, 80, 75, 5139), (51, 16, 0, 0), (52, 62, 648, 530), (55, 16, 0, 0), (56, 62, 643, 290), (59, 12, 2, 0), (60, 73, 0, 0), (61, 63, 130, 2546), (64, 16, 0, 0), (65, 62, 643, 290), (68, 12, 1, 0), (69, 73, 0, 0), (70, 63, 130, 2546), (73, 80, 75, 5139), (76, 16, 0, 0), (77, 16, 0, 0), (78, 62, 643, 290), (81, 12, 1, 0), (82, 73, 0, 0), (83, 16, 0, 0), (84, 62, 647, 498), (87, 80, 17, 5203), (90, 16, 0, 0), (91, 16, 0, 0), (92, 62, 643, 290), (95, 12, 2, 0), (96, 73, 0, 0), (97, 16, 0, 0), (98, 62, 648, 530), (101, 80, 17, 5203), (104, 26, 0, 0), (105, 56, 0, 0)]
-- Manypens.move(IIII)I
noncomputable def zc_33 : List sy_E := [(0, 16, 0, 0), (1, 12, 1, 0), (2, 80, 34, 1458), (5, 16, 0, 0), (6, 16, 0, 0), (7, 12, 1, 0), (8, 80, 59, 1506), (11, 12, 2, 0), (12, 12, 3, 0), (13, 80, 37, 2164)]
-- Manypens.needHand(I)V
noncomputable def zc_34 : List sy_E := [(0, 12, 1, 0), (1, 83, 21, 6929), (4, 40, 8, 18), (7, 89, 4, 5), (10, 0, 0, 0), (11, 0, 0, 0), (14, 0, 0, 0), (17, 0, 0, 0), (18, 61, 0, 0)]
-- Manypens.needKind(C)V
noncomputable def zc_35 : List sy_E := [(0, 12, 1, 0), (1, 2, 1568, 226), (3, 45, 11, 23), (6, 12, 1, 0), (7, 2, 1680, 233), (9, 45, 11, 23), (12, 89, 3, 6), (15, 0, 0, 0), (16, 0, 0, 0), (19, 0, 0, 0), (22, 0, 0, 0), (23, 61, 0, 0)]
-- Manypens.needLetter(LManypens$View;I)V
noncomputable def zc_36 : List sy_E := [(0, 12, 2, 0), (1, 41, 8, 14), (4, 12, 2, 0), (5, 33, 0, 0), (6, 16, 1, 0), (7, 80, 112, 1569), (10, 36, 0, 0), (11, 41, 13, 25), (14, 89, 1, 7)]
-- Manypens.needLetters(LManypens$View;II)V
noncomputable def zc_37 : List sy_E := [(0, 12, 3, 0), (1, 1, 16, 2), (2, 47, 20, 32), (5, 12, 2, 0), (6, 41, 20, 32), (9, 12, 2, 0), (10, 33, 0, 0), (11, 16, 1, 0), (12, 80, 112, 1569), (15, 36, 0, 0), (16, 42, 20, 32), (19, 0, 0, 0), (20, 0, 0, 0), (21, 0, 0, 0), (22, 0, 0, 0), (25, 0, 0, 0), (26, 0, 0, 0), (27, 0, 0, 0), (28, 0, 0, 0), (29, 0, 0, 0), (32, 89, 1, 8)]
-- Manypens.needOnWay(II)V
noncomputable def zc_38 : List sy_E := [(0, 12, 2, 0), (1, 41, 10, 20), (4, 12, 2, 0), (5, 16, 0, 0), (6, 62, 643, 290), (9, 12, 1, 0), (10, 73, 0, 0), (11, 63, 133, 2298), (14, 80, 83, 1217), (17, 47, 15, 31), (20, 89, 1, 9)]
-- Manypens.needPlace(IJ)V
noncomputable def zc_39 : List sy_E := [(0, 12, 1, 0), (1, 41, 7, 11), (4, 12, 1, 0), (5, 33, 0, 0), (6, 14, 2, 0), (7, 36, 0, 0), (8, 44, 12, 22), (11, 89, 1, 10), (14, 0, 0, 0), (15, 0, 0, 0), (18, 0, 0, 0), (21, 0, 0, 0), (22, 61, 0, 0)]
-- Manypens.needStep(II)V
noncomputable def zc_40 : List sy_E := [(0, 12, 2, 0), (1, 41, 10, 20), (4, 12, 2, 0), (5, 16, 0, 0), (6, 62, 643, 290), (9, 12, 1, 0), (10, 73, 0, 0), (11, 63, 132, 2802), (14, 80, 83, 1217), (17, 50, 15, 31), (20, 89, 1, 11), (23, 0, 0, 0), (24, 0, 0, 0), (27, 0, 0, 0), (30, 0, 0, 0), (31, 61, 0, 0)]
-- Manypens.needTyped()V
noncomputable def zc_41 : List sy_E := [(0, 16, 0, 0), (1, 62, 640, 114), (4, 80, 83, 1217), (7, 40, 9, 21), (10, 89, 5, 12)]
-- Manypens.onWay(I)I
noncomputable def zc_42 : List sy_E := [(0, 16, 0, 0), (1, 12, 1, 0), (2, 80, 34, 1458), (5, 16, 0, 0), (6, 62, 643, 290), (9, 12, 1, 0), (10, 73, 0, 0), (11, 63, 133, 2298), (14, 80, 83, 1217), (17, 56, 0, 0)]
-- Manypens.open(I)I
noncomputable def zc_43 : List sy_E := [(0, 16, 0, 0), (1, 12, 1, 0), (2, 80, 34, 1458), (5, 16, 0, 0), (6, 62, 643, 290), (9, 12, 1, 0), (10, 73, 0, 0), (11, 63, 138, 1664), (14, 39, 14, 27), (17, 0, 0, 0), (20, 0, 0, 0), (21, 0, 0, 0), (23, 0, 0, 0), (26, 0, 0, 0), (27, 16, 0, 0), (28, 62, 643, 290), (31, 12, 1, 0), (32, 73, 0, 0), (33, 80, 70, 3409), (36, 16, 0, 0), (37, 62, 643, 290), (40, 12, 1, 0), (41, 73, 0, 0), (42, 63, 135, 1730), (45, 80, 83, 1217), (48, 56, 0, 0)]
-- Manypens.othersShare(I)F
noncomputable def zc_44 : List sy_E := [(0, 16, 0, 0), (1, 12, 1, 0), (2, 80, 34, 1458), (5, 16, 0, 0), (6, 12, 1, 0), (7, 80, 59, 1506), (10, 22, 2, 0), (11, 16, 2, 0), (12, 80, 112, 1569), (15, 4, 1, 0), (16, 36, 0, 0), (17, 40, 17, 31), (20, 89, 2, 13)]
-- Manypens.put(II)I
noncomputable def zc_45 : List sy_E := [(0, 16, 0, 0), (1, 12, 1, 0), (2, 80, 34, 1458), (5, 16, 0, 0), (6, 12, 1, 0), (7, 80, 59, 1506), (10, 22, 3, 0), (11, 16, 0, 0), (12, 12, 2, 0), (13, 16, 3, 0), (14, 80, 112, 1569), (17, 80, 39, 1619), (20, 16, 0, 0), (21, 80, 41, 1681)]
-- Manypens.redo(I)I
noncomputable def zc_46 : List sy_E := [(0, 16, 0, 0), (1, 12, 1, 0), (2, 80, 34, 1458), (5, 16, 0, 0), (6, 62, 643, 290), (9, 12, 1, 0), (10, 73, 0, 0), (11, 22, 2, 0), (12, 16, 2, 0), (13, 63, 136, 1834), (16, 80, 83, 1217), (19, 40, 17, 32), (22, 88, 1, 14)]
-- Manypens.repeat(II)I
noncomputable def zc_47 : List sy_E := [(0, 16, 0, 0), (1, 12, 1, 0), (2, 80, 34, 1458), (5, 16, 0, 0), (6, 12, 1, 0), (7, 12, 2, 0), (8, 80, 38, 4643)]
-- Manypens.replace(III)I
noncomputable def zc_48 : List sy_E := [(0, 16, 0, 0), (1, 12, 1, 0), (2, 80, 34, 1458), (5, 16, 0, 0), (6, 16, 0, 0), (7, 12, 1, 0), (8, 80, 59, 1506), (11, 12, 2, 0), (12, 12, 3, 0), (13, 80, 37, 2164)]
-- Manypens.runs(I)I
noncomputable def zc_49 : List sy_E := [(0, 16, 0, 0), (1, 12, 1, 0), (2, 80, 34, 1458), (5, 16, 0, 0), (6, 12, 1, 0), (7, 80, 59, 1506), (10, 22, 2, 0), (11, 1, 0, 1), (12, 18, 3, 0), (13, 1, 0, 1), (14, 17, 4, 0), (16, 11, 4, 0), (18, 16, 2, 0), (19, 80, 108, 4177), (22, 48, 29, 56), (25, 0, 0, 0), (27, 0, 0, 0), (30, 0, 0, 0), (31, 0, 0, 0), (33, 0, 0, 0), (36, 0, 0, 0), (37, 0, 0, 0), (39, 0, 0, 0), (40, 0, 0, 0), (41, 0, 0, 0), (44, 0, 0, 0), (47, 0, 0, 0), (50, 0, 0, 0), (53, 0, 0, 0), (56, 12, 3, 0), (57, 56, 0, 0)]
-- Manypens.setCursor(II)I
noncomputable def zc_50 : List sy_E := [(0, 16, 0, 0), (1, 12, 1, 0), (2, 80, 34, 1458), (5, 16, 0, 0), (6, 12, 1, 0), (7, 80, 59, 1506), (10, 22, 3, 0), (11, 16, 0, 0), (12, 12, 2, 0), (13, 16, 3, 0), (14, 80, 112, 1569), (17, 80, 39, 1619), (20, 16, 3, 0), (21, 16, 0, 0), (22, 62, 643, 290), (25, 12, 1, 0), (26, 73, 0, 0), (27, 63, 140, 1569), (30, 80, 109, 3186), (33, 19, 4, 0), (35, 16, 0, 0), (36, 62, 643, 290), (39, 12, 1, 0), (40, 73, 0, 0), (41, 16, 3, 0), (42, 12, 2, 0), (43, 33, 0, 0), (44, 80, 105, 1906), (47, 65, 140, 1569), (50, 13, 4, 0), (52, 83, 56, 2097), (55, 56, 0, 0)]
-- Manypens.signAt(II)C
noncomputable def zc_51 : List sy_E := [(0, 16, 0, 0), (1, 12, 1, 0), (2, 80, 34, 1458), (5, 16, 0, 0), (6, 16, 0, 0), (7, 12, 1, 0), (8, 80, 59, 1506), (11, 12, 2, 0), (12, 80, 36, 3811)]
-- Manypens.signThen(III)C
noncomputable def zc_52 : List sy_E := [(0, 16, 0, 0), (1, 12, 1, 0), (2, 80, 34, 1458), (5, 16, 0, 0), (6, 12, 1, 0), (7, 12, 2, 0), (8, 80, 40, 5635), (11, 16, 0, 0), (12, 12, 1, 0), (13, 12, 2, 0), (14, 80, 13, 5683), (17, 16, 0, 0), (18, 16, 0, 0), (19, 62, 644, 386), (22, 12, 3, 0), (23, 80, 36, 3811)]
-- Manypens.steps(I)I
noncomputable def zc_53 : List sy_E := [(0, 16, 0, 0), (1, 12, 1, 0), (2, 80, 34, 1458), (5, 16, 0, 0), (6, 62, 643, 290), (9, 12, 1, 0), (10, 73, 0, 0), (11, 63, 132, 2802), (14, 80, 83, 1217), (17, 56, 0, 0)]
-- Manypens.sumOn(JLManypens$View;)J
noncomputable def zc_54 : List sy_E := [(0, 14, 1, 0), (1, 19, 4, 0), (3, 1, 0, 1), (4, 17, 6, 0), (6, 11, 6, 0), (8, 16, 3, 0), (9, 80, 108, 4177), (12, 48, 42, 84), (15, 0, 0, 0), (16, 0, 0, 0), (18, 0, 0, 0), (21, 0, 0, 0), (23, 0, 0, 0), (24, 0, 0, 0), (27, 0, 0, 0), (30, 0, 0, 0), (31, 0, 0, 0), (32, 0, 0, 0), (34, 0, 0, 0), (37, 0, 0, 0), (40, 0, 0, 0), (42, 0, 0, 0), (45, 0, 0, 0), (47, 0, 0, 0), (49, 0, 0, 0), (51, 0, 0, 0), (54, 0, 0, 0), (55, 0, 0, 0), (58, 0, 0, 0), (60, 0, 0, 0), (61, 0, 0, 0), (62, 0, 0, 0), (63, 0, 0, 0), (65, 0, 0, 0), (68, 0, 0, 0), (69, 0, 0, 0), (71, 0, 0, 0), (74, 0, 0, 0), (75, 0, 0, 0), (76, 0, 0, 0), (78, 0, 0, 0), (81, 0, 0, 0), (84, 13, 4, 0), (86, 57, 0, 0)]
-- Manypens.take(III)I
noncomputable def zc_55 : List sy_E := [(0, 16, 0, 0), (1, 12, 1, 0), (2, 80, 34, 1458), (5, 16, 0, 0), (6, 16, 0, 0), (7, 12, 1, 0), (8, 80, 59, 1506), (11, 12, 2, 0), (12, 12, 3, 0), (13, 80, 37, 2164)]
-- Manypens.told(J)I
noncomputable def zc_56 : List sy_E := [(0, 14, 0, 0), (1, 8, 34359738353, 463), (4, 83, 222, 7442), (7, 34, 0, 0), (8, 56, 0, 0)]
-- Manypens.type(C)I
noncomputable def zc_57 : List sy_E := [(0, 12, 1, 0), (1, 2, 512, 160), (3, 47, 6, 12), (6, 12, 1, 0), (7, 2, 2016, 254), (9, 50, 11, 22), (12, 88, 3, 15), (15, 0, 0, 0), (16, 0, 0, 0), (18, 0, 0, 0), (21, 0, 0, 0), (22, 16, 0, 0), (23, 62, 640, 114), (26, 80, 83, 1217), (29, 2, 192, 140), (31, 47, 21, 44), (34, 0, 0, 0), (37, 0, 0, 0), (38, 0, 0, 0), (40, 0, 0, 0), (43, 0, 0, 0), (44, 16, 0, 0), (45, 62, 640, 114), (48, 12, 1, 0), (49, 80, 77, 1362), (52, 16, 0, 0), (53, 62, 640, 114), (56, 80, 83, 1217), (59, 56, 0, 0)]
-- Manypens.undo(I)I
noncomputable def zc_58 : List sy_E := [(0, 16, 0, 0), (1, 12, 1, 0), (2, 80, 34, 1458), (5, 16, 0, 0), (6, 62, 643, 290), (9, 12, 1, 0), (10, 73, 0, 0), (11, 22, 2, 0), (12, 16, 2, 0), (13, 63, 135, 1730), (16, 80, 83, 1217), (19, 40, 17, 32), (22, 88, 1, 16)]
-- Manypens.viewOf(I)LManypens$View;
noncomputable def zc_59 : List sy_E := [(0, 16, 0, 0), (1, 62, 643, 290), (4, 12, 1, 0), (5, 73, 0, 0), (6, 22, 2, 0), (7, 16, 2, 0), (8, 63, 129, 4288), (11, 40, 12, 24), (14, 16, 2, 0), (15, 63, 128, 4314), (18, 80, 102, 8673), (21, 39, 23, 47), (24, 0, 0, 0), (25, 0, 0, 0), (28, 0, 0, 0), (29, 0, 0, 0), (32, 0, 0, 0), (35, 0, 0, 0), (36, 0, 0, 0), (39, 0, 0, 0), (42, 0, 0, 0), (43, 0, 0, 0), (44, 0, 0, 0), (47, 16, 2, 0), (48, 63, 128, 4314), (51, 58, 0, 0)]
-- Manypens.waiting(I)I
noncomputable def zc_60 : List sy_E := [(0, 16, 0, 0), (1, 12, 1, 0), (2, 80, 34, 1458), (5, 16, 0, 0), (6, 62, 643, 290), (9, 12, 1, 0), (10, 73, 0, 0), (11, 80, 69, 5265), (14, 56, 0, 0)]
-- Manypens.wayAt(II)I
noncomputable def zc_61 : List sy_E := [(0, 16, 0, 0), (1, 12, 1, 0), (2, 80, 34, 1458), (5, 16, 0, 0), (6, 12, 1, 0), (7, 12, 2, 0), (8, 80, 38, 4643)]
-- Manypens.write(I)I
noncomputable def zc_62 : List sy_E := [(0, 16, 0, 0), (1, 12, 1, 0), (2, 80, 34, 1458), (5, 16, 0, 0), (6, 80, 41, 1681)]
-- Manypens$Book.<init>()V
noncomputable def zc_63 : List sy_E := [(0, 16, 0, 0), (1, 82, 223, 49), (4, 16, 0, 0), (5, 67, 1, 9), (8, 37, 0, 0), (9, 1, 0, 1), (10, 1, 0, 1), (11, 1, 0, 1), (12, 1, 80, 6), (13, 68, 0, 10), (15, 82, 66, 181), (18, 66, 0, 114), (21, 16, 0, 0), (22, 3, 3200, 32968), (25, 69, 6, 9), (28, 66, 1, 162), (31, 16, 0, 0), (32, 1, 80, 6), (33, 68, 0, 10), (35, 66, 2, 194), (38, 16, 0, 0), (39, 1, 80, 6), (40, 68, 0, 10), (42, 66, 3, 226), (45, 16, 0, 0), (46, 67, 6, 31), (49, 37, 0, 0), (50, 82, 90, 529), (53, 66, 4, 274), (56, 16, 0, 0), (57, 67, 8, 38), (60, 37, 0, 0), (61, 82, 98, 641), (64, 66, 5, 330), (67, 16, 0, 0), (68, 67, 4, 45), (71, 37, 0, 0), (72, 2, 512, 160), (74, 82, 76, 754), (77, 66, 6, 402), (80, 16, 0, 0), (81, 67, 4, 45), (84, 37, 0, 0), (85, 2, 512, 160), (87, 82, 76, 754), (90, 66, 7, 434), (93, 61, 0, 0)]
-- Manypens$Book.editAt(I)LManypens$Edit;
noncomputable def zc_64 : List sy_E := [(0, 12, 1, 0), (1, 41, 10, 20), (4, 12, 1, 0), (5, 3, 3200, 32968), (8, 48, 10, 20), (11, 16, 0, 0), (12, 62, 1, 162), (15, 12, 1, 0), (16, 73, 0, 0), (17, 55, 11, 21), (20, 0, 0, 0), (21, 22, 2, 0), (22, 16, 2, 0), (23, 54, 17, 33), (26, 16, 0, 0), (27, 62, 0, 114), (30, 55, 18, 34), (33, 0, 0, 0), (34, 58, 0, 0)]
-- Manypens$Book.setBase()V
noncomputable def zc_65 : List sy_E := [(0, 16, 0, 0), (1, 62, 2, 194), (4, 1, 0, 1), (5, 16, 0, 0), (6, 62, 3, 226), (9, 1, 0, 1), (10, 1, 80, 6), (11, 86, 0, 115), (14, 61, 0, 0)]
-- Manypens$Edit.<init>(III[I)V
noncomputable def zc_66 : List sy_E := [(0, 16, 0, 0), (1, 82, 223, 49), (4, 16, 0, 0), (5, 12, 1, 0), (6, 66, 64, 72), (9, 16, 0, 0), (10, 12, 2, 0), (11, 66, 65, 120), (14, 16, 0, 0), (15, 12, 1, 0), (16, 2, 640, 168), (18, 28, 0, 0), (19, 12, 2, 0), (20, 26, 0, 0), (21, 1, 16, 2), (22, 27, 0, 0), (23, 66, 66, 144), (26, 16, 0, 0), (27, 12, 3, 0), (28, 66, 67, 168), (31, 16, 0, 0), (32, 15, 4, 0), (34, 85, 0, 24), (37, 79, 0, 25), (40, 66, 68, 242), (43, 61, 0, 0)]
-- Manypens$Hand.<init>(LManypens$View;)V
noncomputable def zc_67 : List sy_E := [(0, 16, 0, 0), (1, 82, 223, 49), (4, 16, 0, 0), (5, 16, 1, 0), (6, 66, 128, 74), (9, 16, 0, 0), (10, 1, 80, 6), (11, 68, 0, 10), (13, 66, 130, 122), (16, 16, 0, 0), (17, 67, 4, 19), (20, 37, 0, 0), (21, 3, 3200, 32968), (24, 82, 76, 338), (27, 66, 132, 194), (30, 16, 0, 0), (31, 67, 4, 19), (34, 37, 0, 0), (35, 3, 3200, 32968), (38, 82, 76, 338), (41, 66, 133, 226), (44, 16, 0, 0), (45, 3, 3200, 32968), (48, 68, 0, 10), (50, 66, 134, 250), (53, 16, 0, 0), (54, 67, 4, 19), (57, 37, 0, 0), (58, 2, 640, 168), (60, 82, 76, 338), (63, 66, 135, 274), (66, 16, 0, 0), (67, 67, 4, 19), (70, 37, 0, 0), (71, 2, 640, 168), (73, 82, 76, 338), (76, 66, 136, 298), (79, 16, 0, 0), (80, 67, 4, 19), (83, 37, 0, 0), (84, 2, 640, 168), (86, 82, 76, 338), (89, 66, 137, 322), (92, 16, 0, 0), (93, 1, 68719476720, 0), (94, 64, 139, 344), (97, 16, 0, 0), (98, 4, 1, 0), (99, 64, 140, 377), (102, 61, 0, 0)]
-- Manypens$Hand.closeGroup()I
noncomputable def zc_68 : List sy_E := [(0, 16, 0, 0), (1, 16, 0, 0), (2, 62, 139, 344), (5, 80, 71, 1682), (8, 18, 1, 0), (9, 16, 0, 0), (10, 1, 0, 1), (11, 64, 138, 816), (14, 16, 0, 0), (15, 1, 68719476720, 0), (16, 64, 139, 344), (19, 12, 1, 0), (20, 56, 0, 0)]
-- Manypens$Hand.manyWaiting()I
noncomputable def zc_69 : List sy_E := [(0, 1, 0, 1), (1, 18, 1, 0), (2, 1, 0, 1), (3, 18, 2, 0), (4, 12, 2, 0), (5, 3, 3200, 32968), (8, 48, 16, 26), (11, 12, 1, 0), (12, 16, 0, 0), (13, 62, 134, 250), (16, 12, 2, 0), (17, 71, 0, 0), (18, 26, 0, 0), (19, 18, 1, 0), (20, 25, 2, 32769), (23, 55, 4, 4), (26, 12, 1, 0), (27, 56, 0, 0)]
-- Manypens$Hand.openGroup()V
noncomputable def zc_70 : List sy_E := [(0, 16, 0, 0), (1, 1, 16, 2), (2, 64, 138, 816), (5, 16, 0, 0), (6, 1, 68719476720, 0), (7, 64, 139, 344), (10, 61, 0, 0)]
-- Manypens$Hand.sizeOf(I)I
noncomputable def zc_71 : List sy_E := [(0, 16, 0, 0), (1, 62, 137, 322), (4, 12, 1, 0), (5, 80, 78, 1746), (8, 56, 0, 0)]
-- Manypens$Hand.startAnew()V
noncomputable def zc_72 : List sy_E := [(0, 16, 0, 0), (1, 62, 132, 194), (4, 80, 79, 1793), (7, 16, 0, 0), (8, 62, 135, 274), (11, 80, 79, 1793), (14, 16, 0, 0), (15, 62, 136, 298), (18, 80, 79, 1793), (21, 16, 0, 0), (22, 80, 68, 2017), (25, 38, 0, 0), (26, 16, 0, 0), (27, 1, 16, 2), (28, 64, 129, 704), (31, 61, 0, 0)]
-- Manypens$InTime.<init>(LManypens$Book;)V
noncomputable def zc_73 : List sy_E := [(0, 16, 0, 0), (1, 82, 223, 49), (4, 16, 0, 0), (5, 16, 1, 0), (6, 66, 192, 74), (9, 16, 0, 0), (10, 1, 80, 6), (11, 68, 0, 10), (13, 66, 193, 122), (16, 16, 0, 0), (17, 1, 80, 6), (18, 68, 0, 10), (20, 66, 194, 154), (23, 61, 0, 0)]
-- Manypens$InTime.next()I
noncomputable def zc_74 : List sy_E := [(0, 1, 68719476720, 0), (1, 18, 1, 0), (2, 1, 0, 1), (3, 18, 2, 0), (4, 12, 2, 0), (5, 1, 80, 6), (6, 48, 29, 49), (9, 16, 0, 0), (10, 62, 193, 122), (13, 12, 2, 0), (14, 71, 0, 0), (15, 16, 0, 0), (16, 62, 194, 154), (19, 12, 2, 0), (20, 71, 0, 0), (21, 48, 27, 43), (24, 0, 0, 0), (25, 0, 0, 0), (28, 0, 0, 0), (29, 0, 0, 0), (30, 0, 0, 0), (33, 0, 0, 0), (34, 0, 0, 0), (35, 0, 0, 0), (38, 0, 0, 0), (41, 0, 0, 0), (42, 0, 0, 0), (43, 25, 2, 32769), (46, 55, 4, 4), (49, 12, 1, 0), (50, 42, 33, 55), (53, 1, 68719476720, 0), (54, 56, 0, 0)]
-- Manypens$InTime.start([I[I)V
noncomputable def zc_75 : List sy_E := [(0, 1, 0, 1), (1, 18, 3, 0), (2, 12, 3, 0), (3, 1, 80, 6), (4, 48, 29, 43), (7, 12, 3, 0), (8, 16, 1, 0), (9, 70, 0, 0), (10, 48, 29, 43), (13, 12, 3, 0), (14, 16, 2, 0), (15, 70, 0, 0), (16, 48, 29, 43), (19, 16, 0, 0), (20, 62, 193, 122), (23, 12, 3, 0), (24, 16, 1, 0), (25, 12, 3, 0), (26, 71, 0, 0), (27, 75, 0, 0), (28, 16, 0, 0), (29, 62, 194, 154), (32, 12, 3, 0), (33, 16, 2, 0), (34, 12, 3, 0), (35, 71, 0, 0), (36, 75, 0, 0), (37, 25, 3, 32769), (40, 55, 2, 2), (43, 61, 0, 0)]
-- Manypens$Ints.<init>(I)V
noncomputable def zc_76 : List sy_E := [(0, 16, 0, 0), (1, 82, 223, 17), (4, 16, 0, 0), (5, 12, 1, 0), (6, 1, 16, 2), (7, 48, 8, 14), (10, 0, 0, 0), (11, 0, 0, 0), (14, 12, 1, 0), (15, 68, 0, 10), (17, 64, 256, 58), (20, 61, 0, 0)]
-- Manypens$Ints.add(I)V
noncomputable def zc_77 : List sy_E := [(0, 16, 0, 0), (1, 16, 0, 0), (2, 62, 257, 104), (5, 1, 16, 2), (6, 26, 0, 0), (7, 80, 81, 274), (10, 39, 19, 33), (13, 16, 0, 0), (14, 62, 256, 58), (17, 16, 0, 0), (18, 62, 257, 104), (21, 12, 1, 0), (22, 75, 0, 0), (23, 16, 0, 0), (24, 37, 0, 0), (25, 62, 257, 104), (28, 1, 16, 2), (29, 26, 0, 0), (30, 64, 257, 104), (33, 61, 0, 0)]
-- Manypens$Ints.at(I)I
noncomputable def zc_78 : List sy_E := [(0, 12, 1, 0), (1, 41, 11, 21), (4, 12, 1, 0), (5, 16, 0, 0), (6, 62, 257, 104), (9, 48, 11, 21), (12, 16, 0, 0), (13, 62, 256, 58), (16, 12, 1, 0), (17, 71, 0, 0), (18, 55, 12, 22), (21, 1, 0, 1), (22, 56, 0, 0)]
-- Manypens$Ints.clear()V
noncomputable def zc_79 : List sy_E := [(0, 16, 0, 0), (1, 1, 0, 1), (2, 64, 257, 104), (5, 61, 0, 0)]
-- Manypens$Ints.isEqual(LManypens$Ints;)Z
noncomputable def zc_80 : List sy_E := [(0, 16, 0, 0), (1, 62, 257, 104), (4, 16, 1, 0), (5, 62, 257, 104), (8, 45, 7, 13), (11, 0, 0, 0), (12, 0, 0, 0), (13, 1, 0, 1), (14, 18, 2, 0), (15, 12, 2, 0), (16, 16, 0, 0), (17, 62, 257, 104), (20, 48, 24, 44), (23, 0, 0, 0), (24, 0, 0, 0), (25, 0, 0, 0), (28, 0, 0, 0), (29, 0, 0, 0), (30, 0, 0, 0), (33, 0, 0, 0), (36, 0, 0, 0), (37, 0, 0, 0), (38, 0, 0, 0), (41, 0, 0, 0), (44, 1, 16, 2), (45, 56, 0, 0)]
-- Manypens$Ints.makeRoom(I)Z
noncomputable def zc_81 : List sy_E := [(0, 12, 1, 0), (1, 6, 16777216, 37), (3, 50, 5, 8), (6, 0, 0, 0), (7, 0, 0, 0), (8, 12, 1, 0), (9, 16, 0, 0), (10, 62, 256, 58), (13, 70, 0, 0), (14, 50, 24, 44), (17, 0, 0, 0), (18, 0, 0, 0), (19, 0, 0, 0), (22, 0, 0, 0), (24, 0, 0, 0), (25, 0, 0, 0), (26, 0, 0, 0), (27, 0, 0, 0), (30, 0, 0, 0), (31, 0, 0, 0), (32, 0, 0, 0), (35, 0, 0, 0), (38, 0, 0, 0), (41, 0, 0, 0), (44, 1, 16, 2), (45, 56, 0, 0)]
-- Manypens$Ints.set(II)V
noncomputable def zc_82 : List sy_E := [(0, 12, 1, 0), (1, 41, 11, 19), (4, 12, 1, 0), (5, 16, 0, 0), (6, 62, 257, 104), (9, 48, 11, 19), (12, 16, 0, 0), (13, 62, 256, 58), (16, 12, 1, 0), (17, 12, 2, 0), (18, 75, 0, 0), (19, 61, 0, 0)]
-- Manypens$Ints.size()I
noncomputable def zc_83 : List sy_E := [(0, 16, 0, 0), (1, 62, 257, 104), (4, 56, 0, 0)]
-- Manypens$Ints.widen(I)V
noncomputable def zc_84 : List sy_E := [(0, 12, 1, 0), (1, 16, 0, 0), (2, 62, 257, 104), (5, 50, 18, 34), (8, 16, 0, 0), (9, 12, 1, 0), (10, 80, 81, 274), (13, 39, 18, 34), (16, 16, 0, 0), (17, 62, 256, 58), (20, 16, 0, 0), (21, 62, 257, 104), (24, 12, 1, 0), (25, 1, 0, 1), (26, 83, 225, 436), (29, 16, 0, 0), (30, 12, 1, 0), (31, 64, 257, 104), (34, 61, 0, 0)]
-- Manypens$Longs.<init>(I)V
noncomputable def zc_85 : List sy_E := [(0, 16, 0, 0), (1, 82, 223, 17), (4, 16, 0, 0), (5, 12, 1, 0), (6, 1, 16, 2), (7, 48, 8, 14), (10, 0, 0, 0), (11, 0, 0, 0), (14, 12, 1, 0), (15, 68, 1, 11), (17, 64, 320, 58), (20, 61, 0, 0)]
-- Manypens$Longs.add(J)V
noncomputable def zc_86 : List sy_E := [(0, 16, 0, 0), (1, 16, 0, 0), (2, 62, 321, 104), (5, 1, 16, 2), (6, 26, 0, 0), (7, 80, 88, 274), (10, 39, 19, 33), (13, 16, 0, 0), (14, 62, 320, 58), (17, 16, 0, 0), (18, 62, 321, 104), (21, 14, 1, 0), (22, 76, 0, 0), (23, 16, 0, 0), (24, 37, 0, 0), (25, 62, 321, 104), (28, 1, 16, 2), (29, 26, 0, 0), (30, 64, 321, 104), (33, 61, 0, 0)]
-- Manypens$Longs.clear()V
noncomputable def zc_87 : List sy_E := [(0, 16, 0, 0), (1, 1, 0, 1), (2, 64, 321, 104), (5, 61, 0, 0)]
-- Manypens$Longs.makeRoom(I)Z
noncomputable def zc_88 : List sy_E := [(0, 12, 1, 0), (1, 6, 16777216, 33), (3, 50, 5, 8), (6, 0, 0, 0), (7, 0, 0, 0), (8, 12, 1, 0), (9, 16, 0, 0), (10, 62, 320, 58), (13, 70, 0, 0), (14, 50, 24, 44), (17, 0, 0, 0), (18, 0, 0, 0), (19, 0, 0, 0), (22, 0, 0, 0), (24, 0, 0, 0), (25, 0, 0, 0), (26, 0, 0, 0), (27, 0, 0, 0), (30, 0, 0, 0), (31, 0, 0, 0), (32, 0, 0, 0), (35, 0, 0, 0), (38, 0, 0, 0), (41, 0, 0, 0), (44, 1, 16, 2), (45, 56, 0, 0)]
-- Manypens$Longs.widen(I)V
noncomputable def zc_89 : List sy_E := [(0, 12, 1, 0), (1, 16, 0, 0), (2, 62, 321, 104), (5, 50, 18, 34), (8, 16, 0, 0), (9, 12, 1, 0), (10, 80, 88, 274), (13, 39, 18, 34), (16, 16, 0, 0), (17, 62, 320, 58), (20, 16, 0, 0), (21, 62, 321, 104), (24, 12, 1, 0), (25, 4, 1, 0), (26, 83, 226, 436), (29, 16, 0, 0), (30, 12, 1, 0), (31, 64, 321, 104), (34, 61, 0, 0)]
-- Manypens$Pieces.<init>()V
noncomputable def zc_90 : List sy_E := [(0, 16, 0, 0), (1, 82, 223, 49), (4, 16, 0, 0), (5, 67, 5, 9), (8, 37, 0, 0), (9, 2, 512, 160), (11, 82, 85, 178), (14, 66, 384, 114), (17, 16, 0, 0), (18, 67, 5, 9), (21, 37, 0, 0), (22, 2, 512, 160), (24, 82, 85, 178), (27, 66, 385, 162), (30, 16, 0, 0), (31, 67, 4, 23), (34, 37, 0, 0), (35, 2, 512, 160), (37, 82, 76, 402), (40, 66, 386, 210), (43, 16, 0, 0), (44, 67, 5, 9), (47, 37, 0, 0), (48, 3, 2048, 32896), (51, 82, 85, 178), (54, 66, 387, 242), (57, 16, 0, 0), (58, 67, 4, 23), (61, 37, 0, 0), (62, 2, 512, 160), (64, 82, 76, 402), (67, 66, 388, 266), (70, 16, 0, 0), (71, 67, 5, 9), (74, 37, 0, 0), (75, 2, 512, 160), (77, 82, 85, 178), (80, 66, 389, 290), (83, 16, 0, 0), (84, 4, 1, 0), (85, 4, 1, 0), (86, 1, 68719476720, 0), (87, 80, 91, 628), (90, 61, 0, 0)]
-- Manypens$Pieces.add(JJI)V
noncomputable def zc_91 : List sy_E := [(0, 16, 0, 0), (1, 62, 388, 266), (4, 16, 0, 0), (5, 62, 386, 210), (8, 80, 83, 689), (11, 80, 77, 754), (14, 16, 0, 0), (15, 62, 389, 290), (18, 14, 1, 0), (19, 80, 86, 786), (22, 16, 0, 0), (23, 62, 384, 114), (26, 14, 1, 0), (27, 80, 86, 786), (30, 16, 0, 0), (31, 62, 385, 162), (34, 14, 3, 0), (35, 80, 86, 786), (38, 16, 0, 0), (39, 62, 386, 210), (42, 11, 5, 0), (44, 80, 77, 754), (47, 16, 0, 0), (48, 62, 387, 242), (51, 16, 0, 0), (52, 62, 386, 210), (55, 80, 83, 689), (58, 1, 64, 5), (59, 28, 0, 0), (60, 80, 89, 834), (63, 61, 0, 0)]
-- Manypens$Pieces.size()I
noncomputable def zc_92 : List sy_E := [(0, 16, 0, 0), (1, 62, 388, 266), (4, 80, 83, 689), (7, 56, 0, 0)]
-- Manypens$Row.<init>(LManypens$Book;)V
noncomputable def zc_93 : List sy_E := [(0, 16, 0, 0), (1, 82, 223, 49), (4, 16, 0, 0), (5, 16, 1, 0), (6, 66, 448, 74), (9, 16, 0, 0), (10, 16, 1, 0), (11, 63, 4, 122), (14, 66, 449, 170), (17, 16, 0, 0), (18, 67, 4, 22), (21, 37, 0, 0), (22, 2, 512, 160), (24, 82, 76, 386), (27, 66, 450, 218), (30, 16, 0, 0), (31, 67, 5, 31), (34, 37, 0, 0), (35, 2, 512, 160), (37, 82, 85, 530), (40, 66, 451, 274), (43, 16, 0, 0), (44, 62, 450, 218), (47, 1, 16, 2), (48, 80, 84, 610), (51, 16, 0, 0), (52, 62, 451, 274), (55, 1, 16, 2), (56, 80, 89, 658), (59, 61, 0, 0)]
-- Manypens$Row.gatherBase(LManypens$Ints;)V
noncomputable def zc_94 : List sy_E := [(0, 16, 1, 0), (1, 80, 79, 1377), (4, 16, 0, 0), (5, 62, 450, 218), (8, 1, 0, 1), (9, 80, 78, 882), (12, 18, 2, 0), (13, 1, 0, 1), (14, 18, 3, 0), (15, 12, 3, 0), (16, 16, 0, 0), (17, 62, 452, 632), (20, 48, 33, 65), (23, 0, 0, 0), (24, 0, 0, 0), (27, 0, 0, 0), (28, 0, 0, 0), (31, 0, 0, 0), (32, 0, 0, 0), (35, 0, 0, 0), (36, 0, 0, 0), (39, 0, 0, 0), (42, 0, 0, 0), (45, 0, 0, 0), (46, 0, 0, 0), (47, 0, 0, 0), (50, 0, 0, 0), (51, 0, 0, 0), (54, 0, 0, 0), (55, 0, 0, 0), (58, 0, 0, 0), (59, 0, 0, 0), (62, 0, 0, 0), (65, 61, 0, 0)]
-- Manypens$Row.lay(LManypens$Ints;)V
noncomputable def zc_95 : List sy_E := [(0, 16, 0, 0), (1, 62, 450, 218), (4, 16, 0, 0), (5, 62, 449, 170), (8, 80, 92, 1601), (11, 80, 84, 610), (14, 16, 0, 0), (15, 16, 1, 0), (16, 80, 83, 1649), (19, 64, 452, 632), (22, 16, 0, 0), (23, 4, 1, 0), (24, 64, 453, 337), (27, 1, 0, 1), (28, 18, 2, 0), (29, 1, 0, 1), (30, 18, 3, 0), (31, 12, 3, 0), (32, 16, 0, 0), (33, 62, 452, 632), (36, 48, 44, 84), (39, 0, 0, 0), (40, 0, 0, 0), (43, 0, 0, 0), (44, 0, 0, 0), (45, 0, 0, 0), (46, 0, 0, 0), (49, 0, 0, 0), (52, 0, 0, 0), (53, 0, 0, 0), (54, 0, 0, 0), (57, 0, 0, 0), (58, 0, 0, 0), (59, 0, 0, 0), (60, 0, 0, 0), (63, 0, 0, 0), (64, 0, 0, 0), (67, 0, 0, 0), (70, 0, 0, 0), (71, 0, 0, 0), (74, 0, 0, 0), (75, 0, 0, 0), (78, 0, 0, 0), (81, 0, 0, 0), (84, 16, 0, 0), (85, 62, 450, 218), (88, 12, 2, 0), (89, 1, 0, 1), (90, 80, 82, 1155), (93, 16, 0, 0), (94, 80, 96, 1665), (97, 61, 0, 0)]
-- Manypens$Row.number()V
noncomputable def zc_96 : List sy_E := [(0, 16, 0, 0), (1, 62, 451, 274), (4, 16, 0, 0), (5, 62, 449, 170), (8, 80, 92, 1601), (11, 80, 89, 658), (14, 4, 1, 0), (15, 20, 1, 0), (16, 16, 0, 0), (17, 62, 450, 218), (20, 1, 0, 1), (21, 80, 78, 882), (24, 18, 3, 0), (25, 1, 0, 1), (26, 17, 4, 0), (28, 11, 4, 0), (30, 16, 0, 0), (31, 62, 452, 632), (34, 48, 41, 79), (37, 0, 0, 0), (38, 0, 0, 0), (41, 0, 0, 0), (42, 0, 0, 0), (45, 0, 0, 0), (46, 0, 0, 0), (47, 0, 0, 0), (50, 0, 0, 0), (51, 0, 0, 0), (52, 0, 0, 0), (55, 0, 0, 0), (58, 0, 0, 0), (59, 0, 0, 0), (62, 0, 0, 0), (63, 0, 0, 0), (64, 0, 0, 0), (65, 0, 0, 0), (68, 0, 0, 0), (69, 0, 0, 0), (72, 0, 0, 0), (73, 0, 0, 0), (76, 0, 0, 0), (79, 16, 0, 0), (80, 37, 0, 0), (81, 62, 454, 664), (84, 1, 16, 2), (85, 26, 0, 0), (86, 64, 454, 664), (89, 61, 0, 0)]
-- Manypens$Row.size()J
noncomputable def zc_97 : List sy_E := [(0, 16, 0, 0), (1, 62, 453, 337), (4, 57, 0, 0)]
-- Manypens$Signs.<init>()V
noncomputable def zc_98 : List sy_E := [(0, 16, 0, 0), (1, 82, 223, 49), (4, 16, 0, 0), (5, 67, 4, 9), (8, 37, 0, 0), (9, 2, 1024, 192), (11, 82, 76, 178), (14, 66, 512, 114), (17, 16, 0, 0), (18, 67, 5, 20), (21, 37, 0, 0), (22, 2, 512, 160), (24, 82, 85, 354), (27, 66, 513, 186), (30, 16, 0, 0), (31, 67, 5, 20), (34, 37, 0, 0), (35, 2, 512, 160), (37, 82, 85, 354), (40, 66, 514, 218), (43, 16, 0, 0), (44, 67, 5, 20), (47, 37, 0, 0), (48, 2, 512, 160), (50, 82, 85, 354), (53, 66, 515, 242), (56, 61, 0, 0)]
-- Manypens$View.<init>(LManypens$Book;LManypens$Row;)V
noncomputable def zc_99 : List sy_E := [(0, 16, 0, 0), (1, 82, 223, 49), (4, 16, 0, 0), (5, 16, 1, 0), (6, 66, 576, 74), (9, 16, 0, 0), (10, 16, 2, 0), (11, 66, 577, 122), (14, 16, 0, 0), (15, 1, 64, 5), (16, 68, 1, 11), (18, 66, 578, 154), (21, 16, 0, 0), (22, 2, 640, 168), (24, 68, 0, 10), (26, 66, 579, 186), (29, 16, 0, 0), (30, 67, 4, 27), (33, 37, 0, 0), (34, 2, 512, 160), (36, 82, 76, 466), (39, 66, 580, 258), (42, 16, 0, 0), (43, 67, 5, 36), (46, 37, 0, 0), (47, 2, 512, 160), (49, 82, 85, 610), (52, 66, 581, 314), (55, 16, 0, 0), (56, 67, 5, 36), (59, 37, 0, 0), (60, 2, 512, 160), (62, 82, 85, 610), (65, 66, 582, 346), (68, 16, 0, 0), (69, 67, 4, 27), (72, 37, 0, 0), (73, 2, 512, 160), (75, 82, 76, 466), (78, 66, 583, 370), (81, 16, 0, 0), (82, 67, 4, 27), (85, 37, 0, 0), (86, 2, 256, 144), (88, 82, 76, 466), (91, 66, 584, 394), (94, 16, 0, 0), (95, 67, 4, 27), (98, 37, 0, 0), (99, 2, 256, 144), (101, 82, 76, 466), (104, 66, 585, 418), (107, 16, 0, 0), (108, 67, 4, 27), (111, 37, 0, 0), (112, 2, 256, 144), (114, 82, 76, 466), (117, 66, 586, 442), (120, 61, 0, 0)]
-- Manypens$View.dress()V
noncomputable def zc_100 : List sy_E := [(0, 16, 0, 0), (1, 62, 583, 370), (4, 80, 79, 2289), (7, 16, 0, 0), (8, 62, 583, 370), (11, 16, 0, 0), (12, 62, 580, 258), (15, 80, 83, 1105), (18, 80, 84, 2930), (21, 1, 0, 1), (22, 18, 1, 0), (23, 12, 1, 0), (24, 16, 0, 0), (25, 62, 576, 74), (28, 63, 6, 1490), (31, 80, 83, 1105), (34, 48, 41, 85), (37, 0, 0, 0), (38, 0, 0, 0), (41, 0, 0, 0), (42, 0, 0, 0), (45, 0, 0, 0), (48, 0, 0, 0), (49, 0, 0, 0), (52, 0, 0, 0), (55, 0, 0, 0), (56, 0, 0, 0), (57, 0, 0, 0), (58, 0, 0, 0), (61, 0, 0, 0), (64, 0, 0, 0), (65, 0, 0, 0), (66, 0, 0, 0), (67, 0, 0, 0), (68, 0, 0, 0), (71, 0, 0, 0), (72, 0, 0, 0), (73, 0, 0, 0), (76, 0, 0, 0), (79, 0, 0, 0), (82, 0, 0, 0), (85, 16, 0, 0), (86, 62, 584, 394), (89, 80, 79, 2289), (92, 16, 0, 0), (93, 62, 585, 418), (96, 80, 79, 2289), (99, 16, 0, 0), (100, 62, 586, 442), (103, 80, 79, 2289), (106, 1, 0, 1), (107, 18, 1, 0), (108, 12, 1, 0), (109, 16, 0, 0), (110, 62, 576, 74), (113, 63, 7, 1610), (116, 80, 83, 1105), (119, 48, 82, 170), (122, 0, 0, 0), (123, 0, 0, 0), (126, 0, 0, 0), (127, 0, 0, 0), (130, 0, 0, 0), (133, 0, 0, 0), (134, 0, 0, 0), (137, 0, 0, 0), (140, 0, 0, 0), (141, 0, 0, 0), (142, 0, 0, 0), (143, 0, 0, 0), (146, 0, 0, 0), (149, 0, 0, 0), (150, 0, 0, 0), (151, 0, 0, 0), (152, 0, 0, 0), (153, 0, 0, 0), (156, 0, 0, 0), (157, 0, 0, 0), (158, 0, 0, 0), (161, 0, 0, 0), (164, 0, 0, 0), (167, 0, 0, 0), (170, 61, 0, 0)]
-- Manypens$View.gather([I)V
noncomputable def zc_101 : List sy_E := [(0, 16, 0, 0), (1, 62, 580, 258), (4, 80, 79, 2289), (7, 16, 0, 0), (8, 62, 581, 314), (11, 80, 87, 2337), (14, 16, 0, 0), (15, 62, 582, 346), (18, 80, 87, 2337), (21, 16, 0, 0), (22, 4, 1, 0), (23, 64, 587, 465), (26, 16, 0, 0), (27, 4, 1, 0), (28, 64, 588, 1177), (31, 16, 0, 0), (32, 62, 577, 122), (35, 63, 450, 1202), (38, 1, 0, 1), (39, 80, 78, 1154), (42, 18, 2, 0), (43, 1, 0, 1), (44, 18, 3, 0), (45, 12, 3, 0), (46, 16, 0, 0), (47, 62, 577, 122), (50, 63, 452, 1224), (53, 48, 110, 234), (56, 0, 0, 0), (57, 0, 0, 0), (60, 0, 0, 0), (61, 0, 0, 0), (64, 0, 0, 0), (65, 0, 0, 0), (68, 0, 0, 0), (70, 0, 0, 0), (72, 0, 0, 0), (75, 0, 0, 0), (78, 0, 0, 0), (81, 0, 0, 0), (83, 0, 0, 0), (86, 0, 0, 0), (87, 0, 0, 0), (88, 0, 0, 0), (91, 0, 0, 0), (93, 0, 0, 0), (96, 0, 0, 0), (97, 0, 0, 0), (99, 0, 0, 0), (102, 0, 0, 0), (103, 0, 0, 0), (106, 0, 0, 0), (107, 0, 0, 0), (108, 0, 0, 0), (111, 0, 0, 0), (112, 0, 0, 0), (115, 0, 0, 0), (118, 0, 0, 0), (121, 0, 0, 0), (122, 0, 0, 0), (125, 0, 0, 0), (126, 0, 0, 0), (129, 0, 0, 0), (130, 0, 0, 0), (132, 0, 0, 0), (135, 0, 0, 0), (138, 0, 0, 0), (139, 0, 0, 0), (142, 0, 0, 0), (145, 0, 0, 0), (146, 0, 0, 0), (147, 0, 0, 0), (150, 0, 0, 0), (153, 0, 0, 0), (156, 0, 0, 0), (157, 0, 0, 0), (160, 0, 0, 0), (161, 0, 0, 0), (164, 0, 0, 0), (165, 0, 0, 0), (168, 0, 0, 0), (169, 0, 0, 0), (172, 0, 0, 0), (175, 0, 0, 0), (176, 0, 0, 0), (179, 0, 0, 0), (180, 0, 0, 0), (183, 0, 0, 0), (186, 0, 0, 0), (187, 0, 0, 0), (190, 0, 0, 0), (193, 0, 0, 0), (194, 0, 0, 0), (195, 0, 0, 0), (198, 0, 0, 0), (199, 0, 0, 0), (202, 0, 0, 0), (205, 0, 0, 0), (208, 0, 0, 0), (209, 0, 0, 0), (212, 0, 0, 0), (213, 0, 0, 0), (216, 0, 0, 0), (217, 0, 0, 0), (220, 0, 0, 0), (223, 0, 0, 0), (224, 0, 0, 0), (227, 0, 0, 0), (228, 0, 0, 0), (231, 0, 0, 0), (234, 61, 0, 0)]
-- Manypens$View.isOld()Z
noncomputable def zc_102 : List sy_E := [(0, 16, 0, 0), (1, 62, 589, 496), (4, 16, 0, 0), (5, 62, 577, 122), (8, 63, 454, 528), (11, 45, 8, 18), (14, 0, 0, 0), (15, 0, 0, 0), (18, 1, 0, 1), (19, 56, 0, 0)]
-- Manypens$View.isSame(LManypens$View;)Z
noncomputable def zc_103 : List sy_E := [(0, 16, 0, 0), (1, 62, 580, 258), (4, 16, 1, 0), (5, 62, 580, 258), (8, 80, 80, 4178), (11, 39, 32, 74), (14, 16, 0, 0), (15, 62, 583, 370), (18, 16, 1, 0), (19, 62, 583, 370), (22, 80, 80, 4178), (25, 39, 32, 74), (28, 16, 0, 0), (29, 62, 584, 394), (32, 16, 1, 0), (33, 62, 584, 394), (36, 80, 80, 4178), (39, 39, 32, 74), (42, 16, 0, 0), (43, 62, 585, 418), (46, 16, 1, 0), (47, 62, 585, 418), (50, 80, 80, 4178), (53, 39, 32, 74), (56, 16, 0, 0), (57, 62, 586, 442), (60, 16, 1, 0), (61, 62, 586, 442), (64, 80, 80, 4178), (67, 39, 32, 74), (70, 1, 16, 2), (71, 55, 33, 75), (74, 0, 0, 0), (75, 56, 0, 0)]
-- Manypens$View.judge(II)V
noncomputable def zc_104 : List sy_E := [(0, 16, 0, 0), (1, 62, 579, 186), (4, 1, 0, 1), (5, 83, 224, 1954), (8, 1, 16, 2), (9, 18, 3, 0), (10, 12, 3, 0), (11, 12, 2, 0), (12, 49, 42, 88), (15, 0, 0, 0), (16, 0, 0, 0), (18, 0, 0, 0), (21, 0, 0, 0), (22, 0, 0, 0), (25, 0, 0, 0), (26, 0, 0, 0), (27, 0, 0, 0), (30, 0, 0, 0), (32, 0, 0, 0), (34, 0, 0, 0), (37, 0, 0, 0), (40, 0, 0, 0), (42, 0, 0, 0), (45, 0, 0, 0), (48, 0, 0, 0), (50, 0, 0, 0), (53, 0, 0, 0), (55, 0, 0, 0), (58, 0, 0, 0), (59, 0, 0, 0), (62, 0, 0, 0), (64, 0, 0, 0), (67, 0, 0, 0), (69, 0, 0, 0), (72, 0, 0, 0), (73, 0, 0, 0), (76, 0, 0, 0), (77, 0, 0, 0), (80, 0, 0, 0), (81, 0, 0, 0), (82, 0, 0, 0), (85, 0, 0, 0), (88, 1, 16, 2), (89, 18, 3, 0), (90, 12, 3, 0), (91, 12, 2, 0), (92, 49, 75, 158), (95, 0, 0, 0), (96, 0, 0, 0), (98, 0, 0, 0), (101, 0, 0, 0), (102, 0, 0, 0), (105, 0, 0, 0), (106, 0, 0, 0), (107, 0, 0, 0), (110, 0, 0, 0), (112, 0, 0, 0), (114, 0, 0, 0), (117, 0, 0, 0), (120, 0, 0, 0), (122, 0, 0, 0), (125, 0, 0, 0), (127, 0, 0, 0), (130, 0, 0, 0), (131, 0, 0, 0), (134, 0, 0, 0), (136, 0, 0, 0), (139, 0, 0, 0), (140, 0, 0, 0), (143, 0, 0, 0), (144, 0, 0, 0), (146, 0, 0, 0), (149, 0, 0, 0), (152, 0, 0, 0), (155, 0, 0, 0), (158, 61, 0, 0)]
-- Manypens$View.letterAhead(J)J
noncomputable def zc_105 : List sy_E := [(0, 16, 0, 0), (1, 14, 1, 0), (2, 4, 17, 1), (3, 31, 0, 0), (4, 80, 106, 1666), (7, 57, 0, 0)]
-- Manypens$View.letterAt(J)J
noncomputable def zc_106 : List sy_E := [(0, 14, 1, 0), (1, 4, 1, 0), (2, 36, 0, 0), (3, 41, 9, 15), (6, 0, 0, 0), (7, 0, 0, 0), (8, 0, 0, 0), (11, 0, 0, 0), (12, 0, 0, 0), (15, 4, 1, 0), (16, 57, 0, 0)]
-- Manypens$View.manyInCommon(LManypens$View;)J
noncomputable def zc_107 : List sy_E := [(0, 4, 1, 0), (1, 20, 2, 0), (2, 1, 0, 1), (3, 17, 4, 0), (5, 1, 0, 1), (6, 17, 5, 0), (8, 11, 5, 0), (10, 16, 0, 0), (11, 62, 580, 258), (14, 80, 83, 1105), (17, 48, 50, 108), (20, 0, 0, 0), (22, 0, 0, 0), (23, 0, 0, 0), (26, 0, 0, 0), (29, 0, 0, 0), (32, 0, 0, 0), (33, 0, 0, 0), (36, 0, 0, 0), (38, 0, 0, 0), (41, 0, 0, 0), (42, 0, 0, 0), (45, 0, 0, 0), (47, 0, 0, 0), (50, 0, 0, 0), (51, 0, 0, 0), (54, 0, 0, 0), (57, 0, 0, 0), (60, 0, 0, 0), (62, 0, 0, 0), (63, 0, 0, 0), (66, 0, 0, 0), (69, 0, 0, 0), (72, 0, 0, 0), (73, 0, 0, 0), (76, 0, 0, 0), (78, 0, 0, 0), (81, 0, 0, 0), (82, 0, 0, 0), (85, 0, 0, 0), (87, 0, 0, 0), (90, 0, 0, 0), (93, 0, 0, 0), (94, 0, 0, 0), (95, 0, 0, 0), (97, 0, 0, 0), (100, 0, 0, 0), (101, 0, 0, 0), (102, 0, 0, 0), (105, 0, 0, 0), (108, 14, 2, 0), (109, 57, 0, 0)]
-- Manypens$View.pieces()I
noncomputable def zc_108 : List sy_E := [(0, 16, 0, 0), (1, 62, 580, 258), (4, 80, 83, 1105), (7, 56, 0, 0)]
-- Manypens$View.placeBehind(J)J
noncomputable def zc_109 : List sy_E := [(0, 14, 1, 0), (1, 4, 1, 0), (2, 36, 0, 0), (3, 40, 6, 8), (6, 4, 1, 0), (7, 57, 0, 0)]
-- Manypens$View.see([I)V
noncomputable def zc_110 : List sy_E := [(0, 16, 0, 0), (1, 62, 578, 154), (4, 4, 1, 0), (5, 83, 227, 1730), (8, 1, 0, 1), (9, 18, 2, 0), (10, 12, 2, 0), (11, 1, 80, 6), (12, 48, 21, 35), (15, 12, 2, 0), (16, 16, 1, 0), (17, 70, 0, 0), (18, 48, 21, 35), (21, 16, 0, 0), (22, 12, 2, 0), (23, 16, 1, 0), (24, 12, 2, 0), (25, 71, 0, 0), (26, 80, 104, 1827), (29, 25, 2, 32769), (32, 55, 6, 10), (35, 16, 0, 0), (36, 16, 1, 0), (37, 80, 101, 1890), (40, 16, 0, 0), (41, 16, 0, 0), (42, 62, 577, 122), (45, 63, 454, 528), (48, 64, 589, 496), (51, 61, 0, 0)]
-- Manypens$View.settle(LManypens$Edit;)V
noncomputable def zc_111 : List sy_E := [(0, 16, 1, 0), (1, 63, 74, 1656), (4, 40, 7, 15), (7, 16, 1, 0), (8, 63, 76, 1984), (11, 40, 7, 15), (14, 61, 0, 0)]
-- Manypens$View.size()J
noncomputable def zc_112 : List sy_E := [(0, 16, 0, 0), (1, 62, 587, 465), (4, 57, 0, 0)]
-- ManypensLaw.birth(LManypens;II[J)I
noncomputable def zc_113 : List sy_E := [(0, 16, 3, 0), (1, 1, 0, 1), (2, 16, 0, 0), (3, 12, 1, 0), (4, 12, 2, 0), (5, 80, 2, 1155), (8, 0, 0, 0), (9, 0, 0, 0), (10, 0, 0, 0), (13, 21, 4, 0), (15, 1, 16, 2), (16, 56, 0, 0), (17, 21, 4, 0), (19, 1, 32, 3), (20, 56, 0, 0)]
-- ManypensLaw.close(LManypens;I[J)I
noncomputable def zc_114 : List sy_E := [(0, 16, 2, 0), (1, 1, 0, 1), (2, 16, 0, 0), (3, 12, 1, 0), (4, 80, 4, 834), (7, 0, 0, 0), (8, 0, 0, 0), (9, 0, 0, 0), (12, 22, 3, 0), (13, 1, 16, 2), (14, 56, 0, 0), (15, 22, 3, 0), (16, 1, 32, 3), (17, 56, 0, 0)]
-- ManypensLaw.comment(LManypens;IIII[J)I
noncomputable def zc_115 : List sy_E := [(0, 15, 5, 0), (2, 1, 0, 1), (3, 16, 0, 0), (4, 12, 1, 0), (5, 12, 2, 0), (6, 12, 3, 0), (7, 11, 4, 0), (9, 80, 5, 677), (12, 0, 0, 0), (13, 0, 0, 0), (14, 0, 0, 0), (17, 21, 6, 0), (19, 1, 16, 2), (20, 56, 0, 0), (21, 21, 6, 0), (23, 1, 32, 3), (24, 56, 0, 0)]
-- ManypensLaw.commentAt(LManypens;IIC[J)I
noncomputable def zc_116 : List sy_E := [(0, 15, 4, 0), (2, 1, 0, 1), (3, 16, 0, 0), (4, 12, 1, 0), (5, 12, 2, 0), (6, 12, 3, 0), (7, 80, 6, 1364), (10, 0, 0, 0), (11, 0, 0, 0), (12, 0, 0, 0), (15, 21, 5, 0), (17, 1, 16, 2), (18, 56, 0, 0), (19, 21, 5, 0), (21, 1, 32, 3), (22, 56, 0, 0)]
-- ManypensLaw.comments(LManypens;I[J)I
noncomputable def zc_117 : List sy_E := [(0, 16, 2, 0), (1, 1, 0, 1), (2, 16, 0, 0), (3, 12, 1, 0), (4, 80, 7, 1314), (7, 33, 0, 0), (8, 76, 0, 0), (9, 55, 11, 15), (12, 22, 3, 0), (13, 1, 16, 2), (14, 56, 0, 0), (15, 1, 0, 1), (16, 56, 0, 0)]
-- ManypensLaw.cursor(LManypens;I[J)I
noncomputable def zc_118 : List sy_E := [(0, 16, 2, 0), (1, 1, 0, 1), (2, 16, 0, 0), (3, 12, 1, 0), (4, 80, 8, 1474), (7, 33, 0, 0), (8, 76, 0, 0), (9, 55, 11, 15), (12, 22, 3, 0), (13, 1, 16, 2), (14, 56, 0, 0), (15, 1, 0, 1), (16, 56, 0, 0)]
-- ManypensLaw.deliver(LManypens;II[J)I
noncomputable def zc_119 : List sy_E := [(0, 16, 3, 0), (1, 1, 0, 1), (2, 16, 0, 0), (3, 12, 1, 0), (4, 12, 2, 0), (5, 80, 9, 1619), (8, 0, 0, 0), (9, 0, 0, 0), (10, 0, 0, 0), (13, 21, 4, 0), (15, 1, 16, 2), (16, 56, 0, 0), (17, 21, 4, 0), (19, 1, 32, 3), (20, 56, 0, 0)]
-- ManypensLaw.differ(LManypens;II[J)I
noncomputable def zc_120 : List sy_E := [(0, 16, 3, 0), (1, 1, 0, 1), (2, 16, 0, 0), (3, 12, 1, 0), (4, 12, 2, 0), (5, 80, 10, 2163), (8, 33, 0, 0), (9, 76, 0, 0), (10, 55, 12, 17), (13, 21, 4, 0), (15, 1, 16, 2), (16, 56, 0, 0), (17, 1, 0, 1), (18, 56, 0, 0)]
-- ManypensLaw.forget(LManypens;[J)I
noncomputable def zc_121 : List sy_E := [(0, 16, 1, 0), (1, 1, 0, 1), (2, 16, 0, 0), (3, 80, 12, 2273), (6, 33, 0, 0), (7, 76, 0, 0), (8, 55, 10, 14), (11, 0, 0, 0), (12, 0, 0, 0), (13, 0, 0, 0), (14, 1, 0, 1), (15, 56, 0, 0)]
-- ManypensLaw.groups(LManypens;IZ[J)I
noncomputable def zc_122 : List sy_E := [(0, 16, 3, 0), (1, 1, 0, 1), (2, 16, 0, 0), (3, 12, 1, 0), (4, 12, 2, 0), (5, 80, 14, 979), (8, 33, 0, 0), (9, 76, 0, 0), (10, 55, 12, 17), (13, 21, 4, 0), (15, 1, 16, 2), (16, 56, 0, 0), (17, 1, 0, 1), (18, 56, 0, 0)]
-- ManypensLaw.heard(LManypens;II[J)I
noncomputable def zc_123 : List sy_E := [(0, 16, 3, 0), (1, 1, 0, 1), (2, 16, 0, 0), (3, 12, 1, 0), (4, 12, 2, 0), (5, 80, 19, 1907), (8, 33, 0, 0), (9, 76, 0, 0), (10, 55, 12, 17), (13, 21, 4, 0), (15, 1, 16, 2), (16, 56, 0, 0), (17, 1, 0, 1), (18, 56, 0, 0)]
-- ManypensLaw.isAlike(LManypens;II[J)I
noncomputable def zc_124 : List sy_E := [(0, 16, 3, 0), (1, 1, 0, 1), (2, 16, 0, 0), (3, 12, 1, 0), (4, 12, 2, 0), (5, 80, 20, 2211), (8, 39, 9, 15), (11, 4, 17, 1), (12, 55, 10, 16), (15, 0, 0, 0), (16, 76, 0, 0), (17, 55, 15, 24), (20, 21, 4, 0), (22, 1, 16, 2), (23, 56, 0, 0), (24, 1, 0, 1), (25, 56, 0, 0)]
-- ManypensLaw.isMarked(LManypens;IIC[J)I
noncomputable def zc_125 : List sy_E := [(0, 15, 4, 0), (2, 1, 0, 1), (3, 16, 0, 0), (4, 12, 1, 0), (5, 12, 2, 0), (6, 12, 3, 0), (7, 80, 22, 1204), (10, 0, 0, 0), (13, 0, 0, 0), (14, 0, 0, 0), (17, 0, 0, 0), (18, 0, 0, 0), (19, 0, 0, 0), (22, 21, 5, 0), (24, 1, 16, 2), (25, 56, 0, 0), (26, 21, 5, 0), (28, 1, 32, 3), (29, 56, 0, 0), (30, 21, 5, 0), (32, 1, 48, 4), (33, 56, 0, 0)]
-- ManypensLaw.kept(LManypens;I[J)I
noncomputable def zc_126 : List sy_E := [(0, 16, 2, 0), (1, 1, 0, 1), (2, 16, 0, 0), (3, 12, 1, 0), (4, 80, 24, 2338), (7, 33, 0, 0), (8, 76, 0, 0), (9, 55, 11, 15), (12, 22, 3, 0), (13, 1, 16, 2), (14, 56, 0, 0), (15, 1, 0, 1), (16, 56, 0, 0)]
-- ManypensLaw.lacks(LManypens;II[J)I
noncomputable def zc_127 : List sy_E := [(0, 16, 3, 0), (1, 1, 0, 1), (2, 16, 0, 0), (3, 12, 1, 0), (4, 12, 2, 0), (5, 80, 25, 1859), (8, 33, 0, 0), (9, 76, 0, 0), (10, 55, 12, 17), (13, 21, 4, 0), (15, 1, 16, 2), (16, 56, 0, 0), (17, 1, 0, 1), (18, 56, 0, 0)]
-- ManypensLaw.leans(LManypens;III[J)I
noncomputable def zc_128 : List sy_E := [(0, 15, 4, 0), (2, 1, 0, 1), (3, 16, 0, 0), (4, 12, 1, 0), (5, 12, 2, 0), (6, 12, 3, 0), (7, 80, 26, 1956), (10, 0, 0, 0), (11, 0, 0, 0), (12, 0, 0, 0), (15, 21, 5, 0), (17, 1, 16, 2), (18, 56, 0, 0), (19, 21, 5, 0), (21, 1, 32, 3), (22, 56, 0, 0)]
-- ManypensLaw.length(LManypens;I[J)I
noncomputable def zc_129 : List sy_E := [(0, 16, 2, 0), (1, 1, 0, 1), (2, 16, 0, 0), (3, 12, 1, 0), (4, 80, 27, 1042), (7, 33, 0, 0), (8, 76, 0, 0), (9, 55, 11, 15), (12, 22, 3, 0), (13, 1, 16, 2), (14, 56, 0, 0), (15, 1, 0, 1), (16, 56, 0, 0)]
-- ManypensLaw.lengthThen(LManypens;II[J)I
noncomputable def zc_130 : List sy_E := [(0, 16, 3, 0), (1, 1, 0, 1), (2, 16, 0, 0), (3, 12, 1, 0), (4, 12, 2, 0), (5, 80, 28, 2051), (8, 33, 0, 0), (9, 76, 0, 0), (10, 55, 15, 21), (13, 21, 4, 0), (15, 1, 16, 2), (16, 56, 0, 0), (17, 21, 4, 0), (19, 1, 32, 3), (20, 56, 0, 0), (21, 1, 0, 1), (22, 56, 0, 0)]
-- ManypensLaw.lose(LManypens;II[J)I
noncomputable def zc_131 : List sy_E := [(0, 16, 3, 0), (1, 1, 0, 1), (2, 16, 0, 0), (3, 12, 1, 0), (4, 12, 2, 0), (5, 80, 29, 1715), (8, 0, 0, 0), (9, 0, 0, 0), (10, 0, 0, 0), (13, 21, 4, 0), (15, 1, 16, 2), (16, 56, 0, 0), (17, 21, 4, 0), (19, 1, 32, 3), (20, 56, 0, 0)]
-- ManypensLaw.mark(LManypens;IIICZZ[J)I
noncomputable def zc_132 : List sy_E := [(0, 15, 7, 0), (2, 1, 0, 1), (3, 16, 0, 0), (4, 12, 1, 0), (5, 12, 2, 0), (6, 12, 3, 0), (7, 11, 4, 0), (9, 11, 5, 0), (11, 11, 6, 0), (13, 80, 30, 615), (16, 0, 0, 0), (17, 0, 0, 0), (18, 0, 0, 0), (21, 21, 8, 0), (23, 1, 16, 2), (24, 56, 0, 0), (25, 21, 8, 0), (27, 1, 32, 3), (28, 56, 0, 0), (29, 21, 8, 0), (31, 1, 48, 4), (32, 56, 0, 0)]
-- ManypensLaw.meanTime(LManypens;I[D)I
noncomputable def zc_133 : List sy_E := [(0, 16, 2, 0), (1, 1, 0, 1), (2, 16, 0, 0), (3, 12, 1, 0), (4, 80, 31, 2482), (7, 0, 0, 0), (8, 0, 0, 0), (11, 22, 3, 0), (12, 1, 16, 2), (13, 56, 0, 0), (14, 22, 3, 0), (15, 1, 32, 3), (16, 56, 0, 0)]
-- ManypensLaw.meet(LManypens;II[J)I
noncomputable def zc_134 : List sy_E := [(0, 16, 3, 0), (1, 1, 0, 1), (2, 16, 0, 0), (3, 12, 1, 0), (4, 12, 2, 0), (5, 80, 32, 1763), (8, 33, 0, 0), (9, 76, 0, 0), (10, 55, 15, 21), (13, 21, 4, 0), (15, 1, 16, 2), (16, 56, 0, 0), (17, 21, 4, 0), (19, 1, 32, 3), (20, 56, 0, 0), (21, 1, 0, 1), (22, 56, 0, 0)]
-- ManypensLaw.move(LManypens;IIII[J)I
noncomputable def zc_135 : List sy_E := [(0, 15, 5, 0), (2, 1, 0, 1), (3, 16, 0, 0), (4, 12, 1, 0), (5, 12, 2, 0), (6, 12, 3, 0), (7, 11, 4, 0), (9, 80, 33, 549), (12, 0, 0, 0), (13, 0, 0, 0), (14, 0, 0, 0), (17, 21, 6, 0), (19, 1, 16, 2), (20, 56, 0, 0), (21, 21, 6, 0), (23, 1, 32, 3), (24, 56, 0, 0)]
-- ManypensLaw.onWay(LManypens;I[J)I
noncomputable def zc_136 : List sy_E := [(0, 16, 2, 0), (1, 1, 0, 1), (2, 16, 0, 0), (3, 12, 1, 0), (4, 80, 42, 1522), (7, 33, 0, 0), (8, 76, 0, 0), (9, 55, 11, 15), (12, 22, 3, 0), (13, 1, 16, 2), (14, 56, 0, 0), (15, 1, 0, 1), (16, 56, 0, 0)]
-- ManypensLaw.open(LManypens;I[J)I
noncomputable def zc_137 : List sy_E := [(0, 16, 2, 0), (1, 1, 0, 1), (2, 16, 0, 0), (3, 12, 1, 0), (4, 80, 43, 786), (7, 33, 0, 0), (8, 76, 0, 0), (9, 55, 14, 18), (12, 22, 3, 0), (13, 1, 16, 2), (14, 56, 0, 0), (15, 0, 0, 0), (16, 0, 0, 0), (17, 0, 0, 0), (18, 1, 0, 1), (19, 56, 0, 0)]
-- ManypensLaw.othersShare(LManypens;I[D)I
noncomputable def zc_138 : List sy_E := [(0, 16, 2, 0), (1, 1, 0, 1), (2, 16, 0, 0), (3, 12, 1, 0), (4, 80, 44, 2386), (7, 0, 0, 0), (8, 0, 0, 0), (9, 0, 0, 0), (12, 22, 3, 0), (13, 1, 16, 2), (14, 56, 0, 0), (15, 22, 3, 0), (16, 1, 32, 3), (17, 56, 0, 0)]
-- ManypensLaw.put(LManypens;II[J)I
noncomputable def zc_139 : List sy_E := [(0, 16, 3, 0), (1, 1, 0, 1), (2, 16, 0, 0), (3, 12, 1, 0), (4, 12, 2, 0), (5, 80, 45, 275), (8, 0, 0, 0), (9, 0, 0, 0), (10, 0, 0, 0), (13, 21, 4, 0), (15, 1, 16, 2), (16, 56, 0, 0), (17, 21, 4, 0), (19, 1, 32, 3), (20, 56, 0, 0), (21, 21, 4, 0), (23, 1, 48, 4), (24, 56, 0, 0)]
-- ManypensLaw.redo(LManypens;I[J)I
noncomputable def zc_140 : List sy_E := [(0, 16, 2, 0), (1, 1, 0, 1), (2, 16, 0, 0), (3, 12, 1, 0), (4, 80, 46, 930), (7, 0, 0, 0), (8, 0, 0, 0), (9, 0, 0, 0), (12, 22, 3, 0), (13, 1, 16, 2), (14, 56, 0, 0), (15, 22, 3, 0), (16, 1, 32, 3), (17, 56, 0, 0)]
-- ManypensLaw.repeat(LManypens;II[J)I
noncomputable def zc_141 : List sy_E := [(0, 16, 3, 0), (1, 1, 0, 1), (2, 16, 0, 0), (3, 12, 1, 0), (4, 12, 2, 0), (5, 80, 47, 1667), (8, 0, 0, 0), (9, 0, 0, 0), (10, 0, 0, 0), (13, 21, 4, 0), (15, 1, 16, 2), (16, 56, 0, 0), (17, 21, 4, 0), (19, 1, 32, 3), (20, 56, 0, 0)]
-- ManypensLaw.replace(LManypens;III[J)I
noncomputable def zc_142 : List sy_E := [(0, 15, 4, 0), (2, 1, 0, 1), (3, 16, 0, 0), (4, 12, 1, 0), (5, 12, 2, 0), (6, 12, 3, 0), (7, 80, 48, 500), (10, 0, 0, 0), (11, 0, 0, 0), (12, 0, 0, 0), (15, 21, 5, 0), (17, 1, 16, 2), (18, 56, 0, 0), (19, 21, 5, 0), (21, 1, 32, 3), (22, 56, 0, 0)]
-- ManypensLaw.runs(LManypens;I[J)I
noncomputable def zc_143 : List sy_E := [(0, 16, 2, 0), (1, 1, 0, 1), (2, 16, 0, 0), (3, 12, 1, 0), (4, 80, 49, 1266), (7, 33, 0, 0), (8, 76, 0, 0), (9, 55, 11, 15), (12, 22, 3, 0), (13, 1, 16, 2), (14, 56, 0, 0), (15, 1, 0, 1), (16, 56, 0, 0)]
-- ManypensLaw.setCursor(LManypens;II[J)I
noncomputable def zc_144 : List sy_E := [(0, 16, 3, 0), (1, 1, 0, 1), (2, 16, 0, 0), (3, 12, 1, 0), (4, 12, 2, 0), (5, 80, 50, 1427), (8, 33, 0, 0), (9, 76, 0, 0), (10, 55, 15, 21), (13, 21, 4, 0), (15, 1, 16, 2), (16, 56, 0, 0), (17, 21, 4, 0), (19, 1, 32, 3), (20, 56, 0, 0), (21, 1, 0, 1), (22, 56, 0, 0)]
-- ManypensLaw.signAt(LManypens;II[J)I
noncomputable def zc_145 : List sy_E := [(0, 16, 3, 0), (1, 1, 0, 1), (2, 16, 0, 0), (3, 12, 1, 0), (4, 12, 2, 0), (5, 80, 51, 1091), (8, 0, 0, 0), (9, 0, 0, 0), (10, 0, 0, 0), (13, 21, 4, 0), (15, 1, 16, 2), (16, 56, 0, 0), (17, 21, 4, 0), (19, 1, 32, 3), (20, 56, 0, 0)]
-- ManypensLaw.signThen(LManypens;III[J)I
noncomputable def zc_146 : List sy_E := [(0, 15, 4, 0), (2, 1, 0, 1), (3, 16, 0, 0), (4, 12, 1, 0), (5, 12, 2, 0), (6, 12, 3, 0), (7, 80, 52, 2100), (10, 0, 0, 0), (11, 0, 0, 0), (12, 0, 0, 0), (15, 21, 5, 0), (17, 1, 16, 2), (18, 56, 0, 0), (19, 21, 5, 0), (21, 1, 32, 3), (22, 56, 0, 0)]
-- ManypensLaw.steps(LManypens;I[J)I
noncomputable def zc_147 : List sy_E := [(0, 16, 2, 0), (1, 1, 0, 1), (2, 16, 0, 0), (3, 12, 1, 0), (4, 80, 53, 2002), (7, 33, 0, 0), (8, 76, 0, 0), (9, 55, 11, 15), (12, 22, 3, 0), (13, 1, 16, 2), (14, 56, 0, 0), (15, 1, 0, 1), (16, 56, 0, 0)]
-- ManypensLaw.take(LManypens;III[J)I
noncomputable def zc_148 : List sy_E := [(0, 15, 4, 0), (2, 1, 0, 1), (3, 16, 0, 0), (4, 12, 1, 0), (5, 12, 2, 0), (6, 12, 3, 0), (7, 80, 55, 436), (10, 0, 0, 0), (11, 0, 0, 0), (12, 0, 0, 0), (15, 21, 5, 0), (17, 1, 16, 2), (18, 56, 0, 0), (19, 21, 5, 0), (21, 1, 32, 3), (22, 56, 0, 0)]
-- ManypensLaw.type(LManypens;C[J)I
noncomputable def zc_149 : List sy_E := [(0, 16, 2, 0), (1, 1, 0, 1), (2, 16, 0, 0), (3, 12, 1, 0), (4, 80, 57, 114), (7, 33, 0, 0), (8, 76, 0, 0), (9, 55, 14, 18), (12, 22, 3, 0), (13, 1, 16, 2), (14, 56, 0, 0), (15, 0, 0, 0), (16, 0, 0, 0), (17, 0, 0, 0), (18, 1, 0, 1), (19, 56, 0, 0)]
-- ManypensLaw.undo(LManypens;I[J)I
noncomputable def zc_150 : List sy_E := [(0, 16, 2, 0), (1, 1, 0, 1), (2, 16, 0, 0), (3, 12, 1, 0), (4, 80, 58, 882), (7, 0, 0, 0), (8, 0, 0, 0), (9, 0, 0, 0), (12, 22, 3, 0), (13, 1, 16, 2), (14, 56, 0, 0), (15, 22, 3, 0), (16, 1, 32, 3), (17, 56, 0, 0)]
-- ManypensLaw.waiting(LManypens;I[J)I
noncomputable def zc_151 : List sy_E := [(0, 16, 2, 0), (1, 1, 0, 1), (2, 16, 0, 0), (3, 12, 1, 0), (4, 80, 60, 1810), (7, 33, 0, 0), (8, 76, 0, 0), (9, 55, 11, 15), (12, 22, 3, 0), (13, 1, 16, 2), (14, 56, 0, 0), (15, 1, 0, 1), (16, 56, 0, 0)]
-- ManypensLaw.wayAt(LManypens;II[J)I
noncomputable def zc_152 : List sy_E := [(0, 16, 3, 0), (1, 1, 0, 1), (2, 16, 0, 0), (3, 12, 1, 0), (4, 12, 2, 0), (5, 80, 61, 1571), (8, 0, 0, 0), (9, 0, 0, 0), (10, 0, 0, 0), (13, 21, 4, 0), (15, 1, 16, 2), (16, 56, 0, 0), (17, 21, 4, 0), (19, 1, 32, 3), (20, 56, 0, 0)]
-- ManypensLaw.write(LManypens;I[J)I
noncomputable def zc_153 : List sy_E := [(0, 16, 2, 0), (1, 1, 0, 1), (2, 16, 0, 0), (3, 12, 1, 0), (4, 80, 62, 722), (7, 0, 0, 0), (8, 0, 0, 0), (9, 0, 0, 0), (12, 22, 3, 0), (13, 1, 16, 2), (14, 56, 0, 0), (15, 22, 3, 0), (16, 1, 32, 3), (17, 56, 0, 0)]
-- ManypensModel.<init>()V
noncomputable def zc_154 : List sy_E := [(0, 16, 0, 0), (1, 82, 223, 17), (4, 16, 0, 0), (5, 1, 80, 6), (6, 69, 10, 9), (9, 66, 960, 90), (12, 16, 0, 0), (13, 67, 14, 15), (16, 37, 0, 0), (17, 5, 4, 0), (18, 2, 512, 160), (20, 82, 220, 275), (23, 66, 961, 162), (26, 16, 0, 0), (27, 2, 1024, 192), (29, 69, 11, 15), (32, 64, 962, 194), (35, 16, 0, 0), (36, 2, 192, 140), (38, 68, 3, 5), (40, 66, 967, 226), (43, 1, 0, 1), (44, 18, 1, 0), (45, 12, 1, 0), (46, 1, 80, 6), (47, 48, 43, 83), (50, 16, 0, 0), (51, 62, 960, 90), (54, 12, 1, 0), (55, 67, 13, 9), (58, 37, 0, 0), (59, 12, 1, 0), (60, 82, 219, 514), (63, 77, 0, 0), (64, 16, 0, 0), (65, 62, 960, 90), (68, 12, 1, 0), (69, 73, 0, 0), (70, 16, 0, 0), (71, 62, 961, 162), (74, 65, 849, 282), (77, 25, 1, 32769), (80, 55, 23, 45), (83, 61, 0, 0)]
-- ManypensModel.areAlike(LManypensModel$Hand;LManypensModel$Hand;)Z
noncomputable def zc_155 : List sy_E := [(0, 16, 0, 0), (1, 16, 1, 0), (2, 80, 211, 3154), (5, 22, 3, 0), (6, 16, 0, 0), (7, 16, 2, 0), (8, 80, 211, 3154), (11, 21, 4, 0), (13, 16, 3, 0), (14, 70, 0, 0), (15, 15, 4, 0), (17, 70, 0, 0), (18, 46, 15, 25), (21, 1, 16, 2), (22, 55, 16, 26), (25, 0, 0, 0), (26, 17, 5, 0), (28, 1, 0, 1), (29, 17, 6, 0), (31, 11, 5, 0), (33, 39, 53, 96), (36, 11, 6, 0), (38, 16, 3, 0), (39, 70, 0, 0), (40, 48, 53, 96), (43, 0, 0, 0), (44, 0, 0, 0), (46, 0, 0, 0), (47, 0, 0, 0), (49, 0, 0, 0), (51, 0, 0, 0), (52, 0, 0, 0), (55, 0, 0, 0), (56, 0, 0, 0), (57, 0, 0, 0), (59, 0, 0, 0), (60, 0, 0, 0), (61, 0, 0, 0), (64, 0, 0, 0), (67, 0, 0, 0), (68, 0, 0, 0), (70, 0, 0, 0), (72, 0, 0, 0), (73, 0, 0, 0), (74, 0, 0, 0), (77, 0, 0, 0), (80, 0, 0, 0), (83, 0, 0, 0), (84, 0, 0, 0), (87, 0, 0, 0), (88, 0, 0, 0), (90, 0, 0, 0), (93, 0, 0, 0), (96, 11, 5, 0), (98, 40, 57, 103), (101, 0, 0, 0), (102, 0, 0, 0), (103, 16, 0, 0), (104, 16, 1, 0), (105, 16, 3, 0), (106, 80, 172, 4547), (109, 21, 6, 0), (111, 16, 0, 0), (112, 16, 2, 0), (113, 15, 4, 0), (115, 80, 172, 4547), (118, 21, 7, 0), (120, 15, 6, 0), (122, 70, 0, 0), (123, 15, 7, 0), (125, 70, 0, 0), (126, 46, 74, 133), (129, 1, 16, 2), (130, 55, 75, 134), (133, 0, 0, 0), (134, 17, 5, 0), (136, 1, 0, 1), (137, 17, 8, 0), (139, 11, 5, 0), (141, 39, 97, 178), (144, 11, 8, 0), (146, 15, 6, 0), (148, 70, 0, 0), (149, 48, 97, 178), (152, 0, 0, 0), (154, 0, 0, 0), (156, 0, 0, 0), (157, 0, 0, 0), (159, 0, 0, 0), (161, 0, 0, 0), (162, 0, 0, 0), (165, 0, 0, 0), (166, 0, 0, 0), (169, 0, 0, 0), (170, 0, 0, 0), (172, 0, 0, 0), (175, 0, 0, 0), (178, 11, 5, 0), (180, 56, 0, 0)]
-- ManypensModel.birth(II)I
noncomputable def zc_156 : List sy_E := [(0, 16, 0, 0), (1, 12, 1, 0), (2, 80, 180, 4178), (5, 39, 6, 10), (8, 1, 0, 1), (9, 56, 0, 0), (10, 16, 0, 0), (11, 12, 1, 0), (12, 12, 2, 0), (13, 1, 32, 3), (14, 80, 189, 4228), (17, 22, 3, 0), (18, 16, 3, 0), (19, 54, 16, 26), (22, 1, 0, 1), (23, 55, 25, 44), (26, 0, 0, 0), (28, 0, 0, 0), (29, 0, 0, 0), (32, 0, 0, 0), (35, 0, 0, 0), (36, 0, 0, 0), (37, 0, 0, 0), (40, 0, 0, 0), (43, 0, 0, 0), (44, 56, 0, 0)]
-- ManypensModel.checksum()J
noncomputable def zc_157 : List sy_E := [(0, 16, 0, 0), (1, 1, 0, 1), (2, 64, 965, 304), (5, 8, 113, 340), (8, 20, 1, 0), (9, 16, 0, 0), (10, 62, 960, 90), (13, 22, 3, 0), (14, 16, 3, 0), (15, 70, 0, 0), (16, 17, 4, 0), (18, 1, 0, 1), (19, 17, 5, 0), (21, 11, 5, 0), (23, 11, 4, 0), (25, 48, 96, 176), (28, 16, 3, 0), (29, 11, 5, 0), (31, 73, 0, 0), (32, 21, 6, 0), (34, 15, 6, 0), (36, 63, 840, 970), (39, 21, 7, 0), (41, 15, 7, 0), (43, 70, 0, 0), (44, 17, 8, 0), (46, 1, 0, 1), (47, 17, 9, 0), (49, 11, 9, 0), (51, 11, 8, 0), (53, 48, 44, 79), (56, 15, 7, 0), (58, 11, 9, 0), (60, 71, 0, 0), (61, 17, 10, 0), (63, 8, 497, 342), (66, 14, 1, 0), (67, 32, 0, 0), (68, 11, 10, 0), (70, 33, 0, 0), (71, 30, 0, 0), (72, 20, 1, 0), (73, 25, 9, 32769), (76, 55, 28, 49), (79, 16, 0, 0), (80, 15, 6, 0), (82, 80, 211, 3154), (85, 21, 7, 0), (87, 15, 7, 0), (89, 70, 0, 0), (90, 17, 8, 0), (92, 1, 0, 1), (93, 17, 9, 0), (95, 11, 9, 0), (97, 11, 8, 0), (99, 48, 79, 145), (102, 0, 0, 0), (104, 0, 0, 0), (106, 0, 0, 0), (107, 0, 0, 0), (109, 0, 0, 0), (112, 0, 0, 0), (115, 0, 0, 0), (116, 0, 0, 0), (117, 0, 0, 0), (119, 0, 0, 0), (122, 0, 0, 0), (123, 0, 0, 0), (124, 0, 0, 0), (125, 0, 0, 0), (126, 0, 0, 0), (128, 0, 0, 0), (130, 0, 0, 0), (133, 0, 0, 0), (136, 0, 0, 0), (137, 0, 0, 0), (138, 0, 0, 0), (139, 0, 0, 0), (142, 0, 0, 0), (145, 8, 497, 342), (148, 8, 497, 342), (151, 14, 1, 0), (152, 32, 0, 0), (153, 16, 0, 0), (154, 15, 6, 0), (156, 80, 198, 3954), (159, 33, 0, 0), (160, 30, 0, 0), (161, 32, 0, 0), (162, 15, 6, 0), (164, 63, 836, 1248), (167, 33, 0, 0), (168, 30, 0, 0), (169, 20, 1, 0), (170, 25, 5, 32769), (173, 55, 13, 21), (176, 1, 0, 1), (177, 18, 3, 0), (178, 12, 3, 0), (179, 16, 0, 0), (180, 62, 964, 1032), (183, 48, 114, 206), (186, 0, 0, 0), (189, 0, 0, 0), (190, 0, 0, 0), (191, 0, 0, 0), (192, 0, 0, 0), (195, 0, 0, 0), (196, 0, 0, 0), (197, 0, 0, 0), (198, 0, 0, 0), (199, 0, 0, 0), (200, 0, 0, 0), (203, 0, 0, 0), (206, 14, 1, 0), (207, 57, 0, 0)]
-- ManypensModel.close(I)I
noncomputable def zc_158 : List sy_E := [(0, 16, 0, 0), (1, 12, 1, 0), (2, 83, 175, 3217), (5, 40, 6, 12), (8, 1, 16, 2), (9, 55, 15, 29), (12, 16, 0, 0), (13, 62, 960, 90), (16, 12, 1, 0), (17, 73, 0, 0), (18, 63, 848, 1304), (21, 40, 14, 28), (24, 1, 32, 3), (25, 55, 15, 29), (28, 0, 0, 0), (29, 80, 182, 2114), (32, 39, 19, 37), (35, 1, 0, 1), (36, 56, 0, 0)]
-- ManypensModel.closes(LManypensModel$Hand;)V
noncomputable def zc_159 : List sy_E := [(0, 16, 0, 0), (1, 1, 0, 1), (2, 65, 848, 1304), (5, 16, 0, 0), (6, 5, 4, 0), (7, 65, 847, 1330), (10, 61, 0, 0)]
-- ManypensModel.comment(IIII)I
noncomputable def zc_160 : List sy_E := [(0, 16, 0, 0), (1, 12, 1, 0), (2, 83, 175, 3217), (5, 39, 6, 12), (8, 1, 0, 1), (9, 55, 7, 13), (12, 1, 16, 2), (13, 80, 182, 2114), (16, 39, 11, 21), (19, 1, 0, 1), (20, 56, 0, 0), (21, 16, 0, 0), (22, 62, 960, 90), (25, 12, 1, 0), (26, 73, 0, 0), (27, 21, 5, 0), (29, 16, 0, 0), (30, 15, 5, 0), (32, 80, 211, 3154), (35, 21, 6, 0), (37, 16, 0, 0), (38, 15, 6, 0), (40, 12, 2, 0), (41, 12, 3, 0), (42, 83, 169, 3395), (45, 40, 28, 52), (48, 1, 32, 3), (49, 55, 35, 67), (52, 0, 0, 0), (54, 0, 0, 0), (57, 0, 0, 0), (59, 0, 0, 0), (62, 0, 0, 0), (63, 0, 0, 0), (66, 0, 0, 0), (67, 80, 182, 2114), (70, 39, 39, 75), (73, 1, 0, 1), (74, 56, 0, 0)]
-- ManypensModel.commentAt(IIC)I
noncomputable def zc_161 : List sy_E := [(0, 16, 0, 0), (1, 12, 1, 0), (2, 80, 180, 4178), (5, 39, 6, 10), (8, 1, 0, 1), (9, 56, 0, 0), (10, 16, 0, 0), (11, 16, 0, 0), (12, 62, 960, 90), (15, 12, 1, 0), (16, 73, 0, 0), (17, 80, 211, 3154), (20, 21, 4, 0), (22, 16, 0, 0), (23, 16, 0, 0), (24, 62, 960, 90), (27, 12, 1, 0), (28, 73, 0, 0), (29, 15, 4, 0), (31, 80, 172, 4547), (34, 21, 5, 0), (36, 16, 0, 0), (37, 12, 2, 0), (38, 1, 0, 1), (39, 15, 5, 0), (41, 70, 0, 0), (42, 1, 16, 2), (43, 27, 0, 0), (44, 83, 174, 675), (47, 40, 32, 54), (50, 1, 32, 3), (51, 55, 47, 83), (54, 0, 0, 0), (55, 0, 0, 0), (57, 0, 0, 0), (60, 0, 0, 0), (61, 0, 0, 0), (63, 0, 0, 0), (66, 0, 0, 0), (67, 0, 0, 0), (69, 0, 0, 0), (72, 0, 0, 0), (73, 0, 0, 0), (75, 0, 0, 0), (78, 0, 0, 0), (79, 0, 0, 0), (82, 0, 0, 0), (83, 80, 182, 2114), (86, 39, 51, 91), (89, 1, 0, 1), (90, 56, 0, 0)]
-- ManypensModel.comments(I)I
noncomputable def zc_162 : List sy_E := [(0, 16, 0, 0), (1, 12, 1, 0), (2, 80, 180, 4178), (5, 39, 6, 12), (8, 1, 0, 1), (9, 55, 19, 33), (12, 16, 0, 0), (13, 16, 0, 0), (14, 62, 960, 90), (17, 12, 1, 0), (18, 73, 0, 0), (19, 16, 0, 0), (20, 16, 0, 0), (21, 62, 960, 90), (24, 12, 1, 0), (25, 73, 0, 0), (26, 80, 211, 3154), (29, 80, 172, 4547), (32, 70, 0, 0), (33, 56, 0, 0)]
-- ManypensModel.cursor(I)I
noncomputable def zc_163 : List sy_E := [(0, 16, 0, 0), (1, 12, 1, 0), (2, 80, 180, 4178), (5, 39, 6, 12), (8, 1, 0, 1), (9, 55, 12, 22), (12, 16, 0, 0), (13, 16, 0, 0), (14, 62, 960, 90), (17, 12, 1, 0), (18, 73, 0, 0), (19, 80, 198, 3954), (22, 56, 0, 0)]
-- ManypensModel.deliver(II)C
noncomputable def zc_164 : List sy_E := [(0, 16, 0, 0), (1, 12, 1, 0), (2, 12, 2, 0), (3, 80, 179, 4611), (6, 39, 7, 11), (9, 1, 0, 1), (10, 56, 0, 0)]
-- ManypensModel.differ(II)I
noncomputable def zc_165 : List sy_E := [(0, 16, 0, 0), (1, 12, 1, 0), (2, 12, 2, 0), (3, 80, 177, 5171), (6, 39, 7, 11), (9, 1, 0, 1), (10, 56, 0, 0), (11, 16, 0, 0), (12, 80, 185, 1825), (15, 1, 0, 1), (16, 18, 3, 0), (17, 1, 0, 1), (18, 17, 4, 0), (20, 11, 4, 0), (22, 16, 0, 0), (23, 62, 963, 536), (26, 48, 48, 86), (29, 0, 0, 0), (30, 0, 0, 0), (31, 0, 0, 0), (32, 0, 0, 0), (35, 0, 0, 0), (37, 0, 0, 0), (38, 0, 0, 0), (39, 0, 0, 0), (42, 0, 0, 0), (43, 0, 0, 0), (44, 0, 0, 0), (47, 0, 0, 0), (50, 0, 0, 0), (51, 0, 0, 0), (52, 0, 0, 0), (55, 0, 0, 0), (57, 0, 0, 0), (58, 0, 0, 0), (59, 0, 0, 0), (62, 0, 0, 0), (63, 0, 0, 0), (64, 0, 0, 0), (67, 0, 0, 0), (70, 0, 0, 0), (73, 0, 0, 0), (74, 0, 0, 0), (77, 0, 0, 0), (78, 0, 0, 0), (79, 0, 0, 0), (80, 0, 0, 0), (83, 0, 0, 0), (86, 12, 3, 0), (87, 56, 0, 0)]
-- ManypensModel.erase()I
noncomputable def zc_166 : List sy_E := [(0, 16, 0, 0), (1, 1, 0, 1), (2, 64, 965, 304), (5, 16, 0, 0), (6, 62, 964, 1032), (9, 18, 1, 0), (10, 16, 0, 0), (11, 1, 0, 1), (12, 64, 964, 1032), (15, 12, 1, 0), (16, 56, 0, 0)]
-- ManypensModel.forget()I
set_option maxRecDepth 100000 in
noncomputable def zc_167 : List sy_E := [(0, 1, 16, 2), (1, 18, 1, 0), (2, 16, 0, 0), (3, 62, 960, 90), (6, 22, 2, 0), (7, 16, 2, 0), (8, 70, 0, 0), (9, 18, 3, 0), (10, 1, 0, 1), (11, 17, 4, 0), (13, 11, 4, 0), (15, 12, 3, 0), (16, 48, 50, 92), (19, 16, 2, 0), (20, 11, 4, 0), (22, 73, 0, 0), (23, 21, 5, 0), (25, 16, 0, 0), (26, 62, 960, 90), (29, 21, 6, 0), (31, 15, 6, 0), (33, 70, 0, 0), (34, 17, 7, 0), (36, 1, 0, 1), (37, 17, 8, 0), (39, 11, 8, 0), (41, 11, 7, 0), (43, 48, 48, 86), (46, 15, 6, 0), (48, 11, 8, 0), (50, 73, 0, 0), (51, 21, 9, 0), (53, 12, 1, 0), (54, 15, 5, 0), (56, 63, 840, 970), (59, 15, 9, 0), (61, 63, 832, 1088), (64, 71, 0, 0), (65, 15, 9, 0), (67, 63, 834, 1096), (70, 46, 43, 77), (73, 1, 16, 2), (74, 55, 44, 78), (77, 0, 0, 0), (78, 29, 0, 0), (79, 18, 1, 0), (80, 25, 8, 32769), (83, 55, 25, 39), (86, 25, 4, 32769), (89, 55, 10, 13), (92, 16, 0, 0), (93, 12, 1, 0), (94, 39, 55, 101), (97, 1, 0, 1), (98, 55, 56, 102), (101, 0, 0, 0), (102, 80, 182, 2114), (105, 39, 60, 110), (108, 0, 0, 0), (109, 0, 0, 0), (110, 16, 0, 0), (111, 80, 185, 1825), (114, 16, 0, 0), (115, 62, 960, 90), (118, 1, 0, 1), (119, 73, 0, 0), (120, 63, 840, 970), (123, 22, 2, 0), (124, 16, 0, 0), (125, 62, 960, 90), (128, 22, 3, 0), (129, 16, 3, 0), (130, 70, 0, 0), (131, 17, 4, 0), (133, 1, 0, 1), (134, 17, 5, 0), (136, 11, 5, 0), (138, 11, 4, 0), (140, 48, 112, 215), (143, 16, 3, 0), (144, 11, 5, 0), (146, 73, 0, 0), (147, 21, 6, 0), (149, 15, 6, 0), (151, 63, 849, 282), (154, 63, 901, 592), (157, 17, 7, 0), (159, 11, 7, 0), (161, 41, 99, 185), (164, 0, 0, 0), (165, 0, 0, 0), (166, 0, 0, 0), (169, 0, 0, 0), (171, 0, 0, 0), (172, 0, 0, 0), (173, 0, 0, 0), (176, 0, 0, 0), (179, 0, 0, 0), (182, 0, 0, 0), (185, 15, 6, 0), (187, 11, 7, 0), (189, 42, 105, 199), (192, 16, 0, 0), (193, 62, 961, 162), (196, 55, 109, 206), (199, 0, 0, 0), (200, 0, 0, 0), (203, 0, 0, 0), (205, 0, 0, 0), (206, 65, 849, 282), (209, 25, 5, 32769), (212, 55, 76, 136), (215, 1, 0, 1), (216, 18, 3, 0), (217, 1, 0, 1), (218, 17, 4, 0), (220, 11, 4, 0), (222, 16, 0, 0), (223, 62, 963, 536), (226, 48, 144, 280), (229, 0, 0, 0), (230, 0, 0, 0), (233, 0, 0, 0), (235, 0, 0, 0), (236, 0, 0, 0), (239, 0, 0, 0), (242, 0, 0, 0), (243, 0, 0, 0), (244, 0, 0, 0), (247, 0, 0, 0), (249, 0, 0, 0), (250, 0, 0, 0), (251, 0, 0, 0), (254, 0, 0, 0), (257, 0, 0, 0), (260, 0, 0, 0), (261, 0, 0, 0), (264, 0, 0, 0), (266, 0, 0, 0), (267, 0, 0, 0), (268, 0, 0, 0), (271, 0, 0, 0), (274, 0, 0, 0), (277, 0, 0, 0), (280, 16, 0, 0), (281, 62, 960, 90), (284, 21, 4, 0), (286, 15, 4, 0), (288, 70, 0, 0), (289, 17, 5, 0), (291, 1, 0, 1), (292, 17, 6, 0), (294, 11, 6, 0), (296, 11, 5, 0), (298, 48, 187, 368), (301, 15, 4, 0), (303, 11, 6, 0), (305, 73, 0, 0), (306, 21, 7, 0), (308, 15, 7, 0), (310, 83, 159, 4001), (313, 15, 7, 0), (315, 1, 0, 1), (316, 65, 838, 1416), (319, 15, 7, 0), (321, 1, 0, 1), (322, 65, 839, 1440), (325, 15, 7, 0), (327, 1, 0, 1), (328, 65, 837, 1200), (331, 1, 0, 1), (332, 17, 8, 0), (334, 11, 8, 0), (336, 1, 80, 6), (337, 48, 185, 362), (340, 15, 7, 0), (342, 63, 841, 2610), (345, 11, 8, 0), (347, 15, 7, 0), (349, 63, 840, 970), (352, 11, 8, 0), (354, 71, 0, 0), (355, 75, 0, 0), (356, 25, 8, 32769), (359, 55, 172, 334), (362, 25, 6, 32769), (365, 55, 152, 294), (368, 12, 3, 0), (369, 56, 0, 0)]
-- ManypensModel.groups(IZ)I
noncomputable def zc_168 : List sy_E := [(0, 16, 0, 0), (1, 12, 1, 0), (2, 80, 180, 4178), (5, 39, 6, 12), (8, 1, 0, 1), (9, 55, 19, 37), (12, 12, 2, 0), (13, 39, 14, 28), (16, 16, 0, 0), (17, 62, 960, 90), (20, 12, 1, 0), (21, 73, 0, 0), (22, 63, 839, 1440), (25, 55, 19, 37), (28, 16, 0, 0), (29, 62, 960, 90), (32, 12, 1, 0), (33, 73, 0, 0), (34, 63, 838, 1416), (37, 56, 0, 0)]
-- ManypensModel.hasLetters([LManypensModel$Letter;II)Z
noncomputable def zc_169 : List sy_E := [(0, 12, 2, 0), (1, 1, 16, 2), (2, 47, 17, 27), (5, 12, 1, 0), (6, 41, 17, 27), (9, 12, 2, 0), (10, 16, 0, 0), (11, 70, 0, 0), (12, 49, 17, 27), (15, 0, 0, 0), (16, 0, 0, 0), (17, 0, 0, 0), (18, 0, 0, 0), (19, 0, 0, 0), (20, 0, 0, 0), (23, 0, 0, 0), (24, 0, 0, 0), (27, 1, 0, 1), (28, 56, 0, 0)]
-- ManypensModel.heard(II)I
noncomputable def zc_170 : List sy_E := [(0, 16, 0, 0), (1, 12, 1, 0), (2, 12, 2, 0), (3, 80, 177, 5171), (6, 39, 7, 13), (9, 1, 0, 1), (10, 55, 14, 24), (13, 16, 0, 0), (14, 62, 960, 90), (17, 12, 1, 0), (18, 73, 0, 0), (19, 63, 840, 970), (22, 12, 2, 0), (23, 71, 0, 0), (24, 56, 0, 0)]
-- ManypensModel.hearsAll(LManypensModel$Hand;[I)I
noncomputable def zc_171 : List sy_E := [(0, 1, 0, 1), (1, 18, 3, 0), (2, 1, 0, 1), (3, 17, 4, 0), (5, 16, 0, 0), (6, 62, 960, 90), (9, 21, 5, 0), (11, 15, 5, 0), (13, 70, 0, 0), (14, 17, 6, 0), (16, 1, 0, 1), (17, 17, 7, 0), (19, 11, 7, 0), (21, 11, 6, 0), (23, 48, 46, 94), (26, 15, 5, 0), (28, 11, 7, 0), (30, 73, 0, 0), (31, 21, 8, 0), (33, 1, 16, 2), (34, 17, 9, 0), (36, 11, 9, 0), (38, 16, 2, 0), (39, 15, 8, 0), (41, 63, 832, 1088), (44, 71, 0, 0), (45, 49, 44, 88), (48, 0, 0, 0), (50, 0, 0, 0), (53, 0, 0, 0), (55, 0, 0, 0), (56, 0, 0, 0), (59, 0, 0, 0), (61, 0, 0, 0), (64, 0, 0, 0), (66, 0, 0, 0), (69, 0, 0, 0), (71, 0, 0, 0), (72, 0, 0, 0), (75, 0, 0, 0), (78, 0, 0, 0), (80, 0, 0, 0), (82, 0, 0, 0), (85, 0, 0, 0), (88, 25, 7, 32769), (91, 55, 12, 19), (94, 1, 16, 2), (95, 17, 5, 0), (97, 11, 5, 0), (99, 11, 4, 0), (101, 49, 105, 215), (104, 0, 0, 0), (105, 0, 0, 0), (108, 0, 0, 0), (110, 0, 0, 0), (112, 0, 0, 0), (113, 0, 0, 0), (115, 0, 0, 0), (116, 0, 0, 0), (118, 0, 0, 0), (120, 0, 0, 0), (122, 0, 0, 0), (125, 0, 0, 0), (127, 0, 0, 0), (129, 0, 0, 0), (130, 0, 0, 0), (132, 0, 0, 0), (133, 0, 0, 0), (135, 0, 0, 0), (137, 0, 0, 0), (138, 0, 0, 0), (140, 0, 0, 0), (143, 0, 0, 0), (144, 0, 0, 0), (147, 0, 0, 0), (149, 0, 0, 0), (152, 0, 0, 0), (154, 0, 0, 0), (155, 0, 0, 0), (158, 0, 0, 0), (160, 0, 0, 0), (163, 0, 0, 0), (165, 0, 0, 0), (168, 0, 0, 0), (170, 0, 0, 0), (171, 0, 0, 0), (172, 0, 0, 0), (175, 0, 0, 0), (178, 0, 0, 0), (181, 0, 0, 0), (182, 0, 0, 0), (183, 0, 0, 0), (184, 0, 0, 0), (186, 0, 0, 0), (189, 0, 0, 0), (191, 0, 0, 0), (192, 0, 0, 0), (195, 0, 0, 0), (196, 0, 0, 0), (197, 0, 0, 0), (200, 0, 0, 0), (203, 0, 0, 0), (206, 0, 0, 0), (209, 0, 0, 0), (212, 0, 0, 0), (215, 12, 3, 0), (216, 56, 0, 0)]
-- ManypensModel.hung(LManypensModel$Hand;[LManypensModel$Letter;)[LManypensModel$Edit;
noncomputable def zc_172 : List sy_E := [(0, 3, 3200, 32968), (3, 69, 8, 57), (6, 22, 3, 0), (7, 1, 0, 1), (8, 17, 4, 0), (10, 1, 0, 1), (11, 17, 5, 0), (13, 11, 5, 0), (15, 16, 2, 0), (16, 70, 0, 0), (17, 48, 68, 141), (20, 0, 0, 0), (21, 0, 0, 0), (24, 0, 0, 0), (26, 0, 0, 0), (28, 0, 0, 0), (29, 0, 0, 0), (31, 0, 0, 0), (32, 0, 0, 0), (34, 0, 0, 0), (36, 0, 0, 0), (38, 0, 0, 0), (41, 0, 0, 0), (43, 0, 0, 0), (45, 0, 0, 0), (46, 0, 0, 0), (48, 0, 0, 0), (49, 0, 0, 0), (51, 0, 0, 0), (53, 0, 0, 0), (54, 0, 0, 0), (57, 0, 0, 0), (59, 0, 0, 0), (62, 0, 0, 0), (63, 0, 0, 0), (66, 0, 0, 0), (68, 0, 0, 0), (71, 0, 0, 0), (73, 0, 0, 0), (74, 0, 0, 0), (76, 0, 0, 0), (78, 0, 0, 0), (81, 0, 0, 0), (83, 0, 0, 0), (86, 0, 0, 0), (87, 0, 0, 0), (89, 0, 0, 0), (90, 0, 0, 0), (93, 0, 0, 0), (96, 0, 0, 0), (99, 0, 0, 0), (101, 0, 0, 0), (102, 0, 0, 0), (103, 0, 0, 0), (106, 0, 0, 0), (108, 0, 0, 0), (111, 0, 0, 0), (114, 0, 0, 0), (115, 0, 0, 0), (117, 0, 0, 0), (119, 0, 0, 0), (120, 0, 0, 0), (123, 0, 0, 0), (126, 0, 0, 0), (129, 0, 0, 0), (132, 0, 0, 0), (135, 0, 0, 0), (138, 0, 0, 0), (141, 11, 4, 0), (143, 69, 8, 57), (146, 21, 5, 0), (148, 1, 0, 1), (149, 17, 6, 0), (151, 11, 6, 0), (153, 11, 4, 0), (155, 48, 84, 173), (158, 0, 0, 0), (160, 0, 0, 0), (162, 0, 0, 0), (163, 0, 0, 0), (165, 0, 0, 0), (166, 0, 0, 0), (167, 0, 0, 0), (170, 0, 0, 0), (173, 15, 5, 0), (175, 58, 0, 0)]
-- ManypensModel.isAlike(II)Z
noncomputable def zc_173 : List sy_E := [(0, 16, 0, 0), (1, 12, 1, 0), (2, 12, 2, 0), (3, 80, 177, 5171), (6, 40, 18, 32), (9, 16, 0, 0), (10, 16, 0, 0), (11, 62, 960, 90), (14, 12, 1, 0), (15, 73, 0, 0), (16, 16, 0, 0), (17, 62, 960, 90), (20, 12, 2, 0), (21, 73, 0, 0), (22, 80, 155, 5379), (25, 39, 18, 32), (28, 1, 16, 2), (29, 55, 19, 33), (32, 1, 0, 1), (33, 56, 0, 0)]
-- ManypensModel.isBetween(III)Z
noncomputable def zc_174 : List sy_E := [(0, 12, 1, 0), (1, 12, 0, 0), (2, 49, 8, 14), (5, 12, 0, 0), (6, 12, 2, 0), (7, 49, 8, 14), (10, 1, 16, 2), (11, 55, 9, 15), (14, 1, 0, 1), (15, 56, 0, 0)]
-- ManypensModel.isHand(I)Z
noncomputable def zc_175 : List sy_E := [(0, 12, 0, 0), (1, 1, 0, 1), (2, 1, 64, 5), (3, 83, 174, 675), (6, 56, 0, 0)]
-- ManypensModel.isMarked(IIC)Z
noncomputable def zc_176 : List sy_E := [(0, 16, 0, 0), (1, 12, 1, 0), (2, 83, 175, 3217), (5, 40, 6, 12), (8, 1, 16, 2), (9, 55, 15, 29), (12, 12, 3, 0), (13, 2, 1568, 226), (15, 45, 14, 28), (18, 12, 3, 0), (19, 2, 1680, 233), (21, 45, 14, 28), (24, 1, 32, 3), (25, 55, 15, 29), (28, 1, 0, 1), (29, 80, 182, 2114), (32, 39, 19, 37), (35, 1, 0, 1), (36, 56, 0, 0), (37, 16, 0, 0), (38, 12, 1, 0), (39, 12, 2, 0), (40, 1, 48, 4), (41, 80, 189, 4228), (44, 21, 4, 0), (46, 15, 4, 0), (48, 53, 39, 74), (51, 0, 0, 0), (52, 0, 0, 0), (54, 0, 0, 0), (55, 0, 0, 0), (56, 0, 0, 0), (59, 0, 0, 0), (60, 0, 0, 0), (61, 0, 0, 0), (64, 0, 0, 0), (67, 0, 0, 0), (70, 0, 0, 0), (71, 0, 0, 0), (74, 1, 0, 1), (75, 56, 0, 0)]
-- ManypensModel.isNoPair(II)Z
noncomputable def zc_177 : List sy_E := [(0, 16, 0, 0), (1, 12, 1, 0), (2, 83, 175, 3217), (5, 39, 9, 19), (8, 12, 2, 0), (9, 83, 175, 3217), (12, 39, 9, 19), (15, 1, 0, 1), (16, 55, 10, 20), (19, 1, 16, 2), (20, 80, 182, 2114), (23, 56, 0, 0)]
-- ManypensModel.isNoStep(II)Z
noncomputable def zc_178 : List sy_E := [(0, 16, 0, 0), (1, 12, 1, 0), (2, 83, 175, 3217), (5, 40, 6, 12), (8, 1, 16, 2), (9, 55, 18, 34), (12, 12, 2, 0), (13, 1, 0, 1), (14, 16, 0, 0), (15, 62, 960, 90), (18, 12, 1, 0), (19, 73, 0, 0), (20, 63, 837, 1200), (23, 83, 174, 675), (26, 40, 17, 33), (29, 1, 32, 3), (30, 55, 18, 34), (33, 1, 0, 1), (34, 80, 182, 2114), (37, 56, 0, 0)]
-- ManypensModel.isNoWay(II)Z
noncomputable def zc_179 : List sy_E := [(0, 16, 0, 0), (1, 12, 1, 0), (2, 83, 175, 3217), (5, 40, 6, 12), (8, 1, 16, 2), (9, 55, 20, 36), (12, 12, 2, 0), (13, 1, 0, 1), (14, 16, 0, 0), (15, 62, 960, 90), (18, 12, 1, 0), (19, 73, 0, 0), (20, 63, 836, 1248), (23, 1, 16, 2), (24, 27, 0, 0), (25, 83, 174, 675), (28, 40, 19, 35), (31, 1, 32, 3), (32, 55, 20, 36), (35, 0, 0, 0), (36, 80, 182, 2114), (39, 56, 0, 0)]
-- ManypensModel.isNone(I)Z
noncomputable def zc_180 : List sy_E := [(0, 16, 0, 0), (1, 12, 1, 0), (2, 83, 175, 3217), (5, 39, 6, 12), (8, 1, 0, 1), (9, 55, 7, 13), (12, 1, 16, 2), (13, 80, 182, 2114), (16, 56, 0, 0)]
-- ManypensModel.isTrue()Z
noncomputable def zc_181 : List sy_E := [(0, 16, 0, 0), (1, 1, 0, 1), (2, 64, 965, 304), (5, 1, 16, 2), (6, 18, 1, 0), (7, 16, 0, 0), (8, 62, 960, 90), (11, 22, 2, 0), (12, 16, 2, 0), (13, 70, 0, 0), (14, 18, 3, 0), (15, 1, 0, 1), (16, 17, 4, 0), (18, 11, 4, 0), (20, 12, 3, 0), (21, 48, 76, 141), (24, 16, 2, 0), (25, 11, 4, 0), (27, 73, 0, 0), (28, 21, 5, 0), (30, 16, 0, 0), (31, 62, 960, 90), (34, 21, 6, 0), (36, 15, 6, 0), (38, 70, 0, 0), (39, 17, 7, 0), (41, 1, 0, 1), (42, 17, 8, 0), (44, 11, 8, 0), (46, 11, 7, 0), (48, 48, 74, 135), (51, 15, 6, 0), (53, 11, 8, 0), (55, 73, 0, 0), (56, 21, 9, 0), (58, 1, 16, 2), (59, 17, 10, 0), (61, 1, 0, 1), (62, 17, 11, 0), (64, 11, 11, 0), (66, 1, 80, 6), (67, 48, 59, 105), (70, 11, 10, 0), (72, 15, 5, 0), (74, 63, 840, 970), (77, 11, 11, 0), (79, 71, 0, 0), (80, 15, 9, 0), (82, 63, 840, 970), (85, 11, 11, 0), (87, 71, 0, 0), (88, 46, 54, 95), (91, 1, 16, 2), (92, 55, 55, 96), (95, 0, 0, 0), (96, 29, 0, 0), (97, 17, 10, 0), (99, 25, 11, 32769), (102, 55, 39, 64), (105, 12, 1, 0), (106, 11, 10, 0), (108, 39, 67, 122), (111, 16, 0, 0), (112, 15, 5, 0), (114, 15, 9, 0), (116, 80, 155, 5379), (119, 39, 69, 126), (122, 1, 16, 2), (123, 55, 70, 127), (126, 0, 0, 0), (127, 29, 0, 0), (128, 18, 1, 0), (129, 25, 8, 32769), (132, 55, 28, 44), (135, 25, 4, 32769), (138, 55, 13, 18), (141, 12, 1, 0), (142, 56, 0, 0)]
-- ManypensModel.isWrong(I)Z
noncomputable def zc_182 : List sy_E := [(0, 16, 0, 0), (1, 12, 1, 0), (2, 64, 965, 304), (5, 12, 1, 0), (6, 39, 7, 13), (9, 1, 16, 2), (10, 55, 8, 14), (13, 1, 0, 1), (14, 56, 0, 0)]
-- ManypensModel.kept(I)I
noncomputable def zc_183 : List sy_E := [(0, 16, 0, 0), (1, 12, 1, 0), (2, 80, 180, 4178), (5, 39, 6, 10), (8, 1, 0, 1), (9, 56, 0, 0), (10, 16, 0, 0), (11, 80, 185, 1825), (14, 1, 0, 1), (15, 18, 2, 0), (16, 1, 0, 1), (17, 18, 3, 0), (18, 12, 3, 0), (19, 16, 0, 0), (20, 62, 963, 536), (23, 48, 42, 76), (26, 0, 0, 0), (27, 0, 0, 0), (28, 0, 0, 0), (31, 0, 0, 0), (32, 0, 0, 0), (33, 0, 0, 0), (36, 0, 0, 0), (39, 0, 0, 0), (40, 0, 0, 0), (43, 0, 0, 0), (44, 0, 0, 0), (45, 0, 0, 0), (48, 0, 0, 0), (49, 0, 0, 0), (52, 0, 0, 0), (53, 0, 0, 0), (54, 0, 0, 0), (57, 0, 0, 0), (60, 0, 0, 0), (63, 0, 0, 0), (64, 0, 0, 0), (67, 0, 0, 0), (68, 0, 0, 0), (69, 0, 0, 0), (70, 0, 0, 0), (73, 0, 0, 0), (76, 12, 2, 0), (77, 56, 0, 0)]
-- ManypensModel.lacks(II)I
noncomputable def zc_184 : List sy_E := [(0, 16, 0, 0), (1, 12, 1, 0), (2, 12, 2, 0), (3, 80, 177, 5171), (6, 39, 7, 11), (9, 1, 0, 1), (10, 56, 0, 0), (11, 1, 0, 1), (12, 18, 3, 0), (13, 1, 0, 1), (14, 17, 4, 0), (16, 11, 4, 0), (18, 1, 80, 6), (19, 48, 51, 87), (22, 12, 3, 0), (23, 16, 0, 0), (24, 62, 960, 90), (27, 12, 1, 0), (28, 73, 0, 0), (29, 63, 840, 970), (32, 11, 4, 0), (34, 71, 0, 0), (35, 16, 0, 0), (36, 62, 960, 90), (39, 12, 2, 0), (40, 73, 0, 0), (41, 63, 840, 970), (44, 11, 4, 0), (46, 71, 0, 0), (47, 50, 46, 78), (50, 0, 0, 0), (51, 0, 0, 0), (54, 0, 0, 0), (55, 0, 0, 0), (56, 0, 0, 0), (59, 0, 0, 0), (61, 0, 0, 0), (62, 0, 0, 0), (63, 0, 0, 0), (66, 0, 0, 0), (67, 0, 0, 0), (68, 0, 0, 0), (71, 0, 0, 0), (73, 0, 0, 0), (74, 0, 0, 0), (75, 0, 0, 0), (78, 1, 0, 1), (79, 26, 0, 0), (80, 18, 3, 0), (81, 25, 4, 32769), (84, 55, 11, 16), (87, 12, 3, 0), (88, 56, 0, 0)]
-- ManypensModel.lays()V
noncomputable def zc_185 : List sy_E := [(0, 16, 0, 0), (1, 62, 966, 560), (4, 39, 4, 8), (7, 61, 0, 0), (8, 16, 0, 0), (9, 62, 962, 194), (12, 70, 0, 0), (13, 16, 0, 0), (14, 62, 963, 536), (17, 48, 17, 33), (20, 0, 0, 0), (21, 0, 0, 0), (22, 0, 0, 0), (23, 0, 0, 0), (26, 0, 0, 0), (27, 0, 0, 0), (30, 0, 0, 0), (33, 16, 0, 0), (34, 62, 961, 162), (37, 22, 1, 0), (38, 1, 0, 1), (39, 18, 2, 0), (40, 16, 0, 0), (41, 62, 961, 162), (44, 1, 68719476720, 0), (45, 65, 901, 592), (48, 16, 1, 0), (49, 53, 63, 121), (52, 16, 1, 0), (53, 16, 0, 0), (54, 62, 961, 162), (57, 51, 41, 75), (60, 0, 0, 0), (61, 0, 0, 0), (64, 0, 0, 0), (65, 0, 0, 0), (66, 0, 0, 0), (67, 0, 0, 0), (68, 0, 0, 0), (69, 0, 0, 0), (72, 0, 0, 0), (75, 16, 1, 0), (76, 63, 899, 394), (79, 53, 48, 90), (82, 0, 0, 0), (83, 0, 0, 0), (86, 0, 0, 0), (87, 0, 0, 0), (90, 16, 1, 0), (91, 53, 57, 109), (94, 16, 1, 0), (95, 63, 900, 514), (98, 54, 57, 109), (101, 16, 1, 0), (102, 63, 898, 370), (105, 22, 1, 0), (106, 55, 48, 90), (109, 16, 1, 0), (110, 53, 26, 48), (113, 0, 0, 0), (114, 0, 0, 0), (117, 0, 0, 0), (118, 0, 0, 0), (121, 16, 0, 0), (122, 1, 16, 2), (123, 64, 966, 560), (126, 61, 0, 0)]
-- ManypensModel.leans(III)I
noncomputable def zc_186 : List sy_E := [(0, 16, 0, 0), (1, 12, 1, 0), (2, 12, 3, 0), (3, 80, 177, 5171), (6, 39, 7, 11), (9, 1, 0, 1), (10, 56, 0, 0), (11, 16, 0, 0), (12, 12, 2, 0), (13, 1, 16, 2), (14, 16, 0, 0), (15, 62, 960, 90), (18, 12, 1, 0), (19, 73, 0, 0), (20, 63, 834, 1096), (23, 83, 174, 675), (26, 39, 19, 33), (29, 0, 0, 0), (30, 0, 0, 0), (33, 1, 32, 3), (34, 80, 182, 2114), (37, 39, 24, 44), (40, 1, 0, 1), (41, 55, 34, 60), (44, 0, 0, 0), (45, 0, 0, 0), (48, 0, 0, 0), (49, 0, 0, 0), (50, 0, 0, 0), (53, 0, 0, 0), (54, 0, 0, 0), (55, 0, 0, 0), (58, 0, 0, 0), (59, 0, 0, 0), (60, 56, 0, 0)]
-- ManypensModel.length(I)I
noncomputable def zc_187 : List sy_E := [(0, 16, 0, 0), (1, 12, 1, 0), (2, 80, 180, 4178), (5, 39, 6, 12), (8, 1, 0, 1), (9, 55, 13, 23), (12, 16, 0, 0), (13, 16, 0, 0), (14, 62, 960, 90), (17, 12, 1, 0), (18, 73, 0, 0), (19, 80, 211, 3154), (22, 70, 0, 0), (23, 56, 0, 0)]
-- ManypensModel.lengthThen(II)I
noncomputable def zc_188 : List sy_E := [(0, 16, 0, 0), (1, 12, 1, 0), (2, 12, 2, 0), (3, 80, 178, 5267), (6, 39, 7, 13), (9, 1, 0, 1), (10, 55, 15, 25), (13, 16, 0, 0), (14, 16, 0, 0), (15, 62, 960, 90), (18, 12, 1, 0), (19, 73, 0, 0), (20, 12, 2, 0), (21, 80, 212, 5315), (24, 70, 0, 0), (25, 56, 0, 0)]
-- ManypensModel.letter(III)LManypensModel$Letter;
noncomputable def zc_189 : List sy_E := [(0, 16, 0, 0), (1, 16, 0, 0), (2, 62, 960, 90), (5, 12, 1, 0), (6, 73, 0, 0), (7, 80, 211, 3154), (10, 21, 4, 0), (12, 16, 0, 0), (13, 12, 2, 0), (14, 1, 0, 1), (15, 15, 4, 0), (17, 70, 0, 0), (18, 1, 16, 2), (19, 27, 0, 0), (20, 83, 174, 675), (23, 39, 18, 30), (26, 0, 0, 0), (27, 0, 0, 0), (30, 12, 3, 0), (31, 80, 182, 2114), (34, 39, 23, 41), (37, 5, 4, 0), (38, 55, 26, 45), (41, 0, 0, 0), (43, 0, 0, 0), (44, 0, 0, 0), (45, 58, 0, 0)]
-- ManypensModel.lose(II)I
noncomputable def zc_190 : List sy_E := [(0, 16, 0, 0), (1, 12, 1, 0), (2, 12, 2, 0), (3, 80, 179, 4611), (6, 39, 7, 11), (9, 1, 0, 1), (10, 56, 0, 0)]
-- ManypensModel.mark(IIICZZ)I
noncomputable def zc_191 : List sy_E := [(0, 16, 0, 0), (1, 12, 1, 0), (2, 83, 175, 3217), (5, 40, 6, 12), (8, 1, 16, 2), (9, 55, 15, 31), (12, 11, 4, 0), (14, 2, 1568, 226), (16, 45, 14, 30), (19, 11, 4, 0), (21, 2, 1680, 233), (23, 45, 14, 30), (26, 1, 32, 3), (27, 55, 15, 31), (30, 1, 0, 1), (31, 80, 182, 2114), (34, 39, 19, 39), (37, 1, 0, 1), (38, 56, 0, 0), (39, 16, 0, 0), (40, 62, 960, 90), (43, 12, 1, 0), (44, 73, 0, 0), (45, 21, 7, 0), (47, 16, 0, 0), (48, 15, 7, 0), (50, 80, 211, 3154), (53, 21, 8, 0), (55, 16, 0, 0), (56, 15, 8, 0), (58, 12, 2, 0), (59, 12, 3, 0), (60, 83, 169, 3395), (63, 40, 36, 70), (66, 1, 48, 4), (67, 55, 43, 85), (70, 0, 0, 0), (72, 0, 0, 0), (75, 0, 0, 0), (77, 0, 0, 0), (80, 0, 0, 0), (81, 0, 0, 0), (84, 0, 0, 0), (85, 80, 182, 2114), (88, 39, 47, 93), (91, 1, 0, 1), (92, 56, 0, 0)]
-- ManypensModel.meanTime(I)D
noncomputable def zc_192 : List sy_E := [(0, 16, 0, 0), (1, 12, 1, 0), (2, 80, 180, 4178), (5, 39, 6, 10), (8, 10, 3, 0), (9, 60, 0, 0), (10, 16, 0, 0), (11, 16, 0, 0), (12, 62, 960, 90), (15, 12, 1, 0), (16, 73, 0, 0), (17, 80, 211, 3154), (20, 22, 2, 0), (21, 16, 0, 0), (22, 16, 2, 0), (23, 70, 0, 0), (24, 40, 19, 31), (27, 1, 32, 3), (28, 55, 20, 32), (31, 0, 0, 0), (32, 80, 182, 2114), (35, 39, 24, 40), (38, 10, 3, 0), (39, 60, 0, 0)]
-- ManypensModel.meet(II)I
noncomputable def zc_193 : List sy_E := [(0, 16, 0, 0), (1, 12, 1, 0), (2, 83, 175, 3217), (5, 39, 7, 15), (8, 12, 2, 0), (9, 83, 175, 3217), (12, 40, 9, 19), (15, 1, 16, 2), (16, 55, 15, 29), (19, 12, 1, 0), (20, 12, 2, 0), (21, 46, 14, 28), (24, 1, 32, 3), (25, 55, 15, 29), (28, 1, 0, 1), (29, 80, 182, 2114), (32, 39, 19, 37), (35, 1, 0, 1), (36, 56, 0, 0), (37, 16, 0, 0), (38, 62, 960, 90), (41, 12, 1, 0), (42, 73, 0, 0), (43, 63, 840, 970), (46, 83, 204, 5041), (49, 22, 3, 0), (50, 16, 0, 0), (51, 62, 960, 90), (54, 12, 2, 0), (55, 73, 0, 0), (56, 63, 840, 970), (59, 83, 204, 5041), (62, 21, 4, 0), (64, 16, 0, 0), (65, 16, 0, 0), (66, 62, 960, 90), (69, 12, 1, 0), (70, 73, 0, 0), (71, 15, 4, 0), (73, 80, 171, 5107), (76, 16, 0, 0), (77, 16, 0, 0), (78, 62, 960, 90), (81, 12, 2, 0), (82, 73, 0, 0), (83, 16, 3, 0), (84, 80, 171, 5107), (87, 26, 0, 0), (88, 56, 0, 0)]
-- ManypensModel.move(IIII)I
noncomputable def zc_194 : List sy_E := [(0, 16, 0, 0), (1, 12, 1, 0), (2, 83, 175, 3217), (5, 39, 6, 12), (8, 1, 0, 1), (9, 55, 7, 13), (12, 1, 16, 2), (13, 80, 182, 2114), (16, 39, 11, 21), (19, 1, 0, 1), (20, 56, 0, 0), (21, 16, 0, 0), (22, 62, 960, 90), (25, 12, 1, 0), (26, 73, 0, 0), (27, 21, 5, 0), (29, 16, 0, 0), (30, 15, 5, 0), (32, 80, 211, 3154), (35, 21, 6, 0), (37, 16, 0, 0), (38, 15, 6, 0), (40, 12, 2, 0), (41, 12, 3, 0), (42, 83, 169, 3395), (45, 39, 34, 62), (48, 0, 0, 0), (50, 0, 0, 0), (51, 0, 0, 0), (53, 0, 0, 0), (54, 0, 0, 0), (55, 0, 0, 0), (56, 0, 0, 0), (59, 0, 0, 0), (62, 1, 32, 3), (63, 55, 43, 81), (66, 0, 0, 0), (68, 0, 0, 0), (71, 0, 0, 0), (73, 0, 0, 0), (76, 0, 0, 0), (77, 0, 0, 0), (80, 0, 0, 0), (81, 80, 182, 2114), (84, 39, 47, 89), (87, 1, 0, 1), (88, 56, 0, 0)]
-- ManypensModel.onWay(I)I
noncomputable def zc_195 : List sy_E := [(0, 16, 0, 0), (1, 12, 1, 0), (2, 80, 180, 4178), (5, 39, 6, 12), (8, 1, 0, 1), (9, 55, 11, 21), (12, 16, 0, 0), (13, 62, 960, 90), (16, 12, 1, 0), (17, 73, 0, 0), (18, 63, 836, 1248), (21, 56, 0, 0)]
-- ManypensModel.open(I)I
noncomputable def zc_196 : List sy_E := [(0, 16, 0, 0), (1, 12, 1, 0), (2, 83, 175, 3217), (5, 40, 6, 12), (8, 1, 16, 2), (9, 55, 15, 29), (12, 16, 0, 0), (13, 62, 960, 90), (16, 12, 1, 0), (17, 73, 0, 0), (18, 63, 848, 1304), (21, 39, 14, 28), (24, 0, 0, 0), (25, 0, 0, 0), (28, 1, 0, 1), (29, 80, 182, 2114), (32, 39, 19, 37), (35, 1, 0, 1), (36, 56, 0, 0), (37, 16, 0, 0), (38, 62, 960, 90), (41, 12, 1, 0), (42, 73, 0, 0), (43, 1, 16, 2), (44, 65, 848, 1304), (47, 16, 0, 0), (48, 62, 960, 90), (51, 12, 1, 0), (52, 73, 0, 0), (53, 5, 4, 0), (54, 65, 847, 1330), (57, 16, 0, 0), (58, 62, 960, 90), (61, 12, 1, 0), (62, 73, 0, 0), (63, 63, 838, 1416), (66, 56, 0, 0)]
-- ManypensModel.othersShare(I)F
noncomputable def zc_197 : List sy_E := [(0, 16, 0, 0), (1, 12, 1, 0), (2, 80, 180, 4178), (5, 39, 6, 10), (8, 9, 2, 0), (9, 59, 0, 0), (10, 16, 0, 0), (11, 16, 0, 0), (12, 62, 960, 90), (15, 12, 1, 0), (16, 73, 0, 0), (17, 80, 211, 3154), (20, 22, 2, 0), (21, 16, 0, 0), (22, 16, 2, 0), (23, 70, 0, 0), (24, 40, 19, 31), (27, 1, 32, 3), (28, 55, 20, 32), (31, 0, 0, 0), (32, 80, 182, 2114), (35, 39, 24, 40), (38, 9, 2, 0), (39, 59, 0, 0)]
-- ManypensModel.placeOf(LManypensModel$Hand;)I
noncomputable def zc_198 : List sy_E := [(0, 16, 0, 0), (1, 16, 1, 0), (2, 80, 211, 3154), (5, 22, 2, 0), (6, 1, 0, 1), (7, 18, 3, 0), (8, 16, 2, 0), (9, 21, 4, 0), (11, 15, 4, 0), (13, 70, 0, 0), (14, 17, 5, 0), (16, 1, 0, 1), (17, 17, 6, 0), (19, 11, 6, 0), (21, 11, 5, 0), (23, 48, 34, 62), (26, 0, 0, 0), (28, 0, 0, 0), (30, 0, 0, 0), (31, 0, 0, 0), (33, 0, 0, 0), (34, 0, 0, 0), (36, 0, 0, 0), (39, 0, 0, 0), (40, 0, 0, 0), (43, 0, 0, 0), (46, 0, 0, 0), (49, 0, 0, 0), (50, 0, 0, 0), (53, 0, 0, 0), (54, 0, 0, 0), (55, 0, 0, 0), (56, 0, 0, 0), (59, 0, 0, 0), (62, 12, 3, 0), (63, 56, 0, 0)]
-- ManypensModel.put(II)I
noncomputable def zc_199 : List sy_E := [(0, 16, 0, 0), (1, 12, 1, 0), (2, 83, 175, 3217), (5, 39, 6, 12), (8, 1, 0, 1), (9, 55, 7, 13), (12, 1, 16, 2), (13, 80, 182, 2114), (16, 39, 11, 21), (19, 1, 0, 1), (20, 56, 0, 0), (21, 16, 0, 0), (22, 62, 960, 90), (25, 12, 1, 0), (26, 73, 0, 0), (27, 22, 3, 0), (28, 16, 0, 0), (29, 16, 3, 0), (30, 80, 211, 3154), (33, 21, 4, 0), (35, 16, 0, 0), (36, 12, 2, 0), (37, 1, 0, 1), (38, 15, 4, 0), (40, 70, 0, 0), (41, 83, 174, 675), (44, 40, 29, 51), (47, 1, 32, 3), (48, 55, 48, 89), (51, 16, 0, 0), (52, 62, 964, 1032), (55, 40, 34, 62), (58, 1, 48, 4), (59, 55, 48, 89), (62, 0, 0, 0), (64, 0, 0, 0), (65, 0, 0, 0), (66, 0, 0, 0), (69, 0, 0, 0), (70, 0, 0, 0), (72, 0, 0, 0), (75, 0, 0, 0), (76, 0, 0, 0), (79, 0, 0, 0), (81, 0, 0, 0), (84, 0, 0, 0), (85, 0, 0, 0), (88, 0, 0, 0), (89, 80, 182, 2114), (92, 39, 52, 97), (95, 1, 0, 1), (96, 56, 0, 0)]
-- ManypensModel.redo(I)I
noncomputable def zc_200 : List sy_E := [(0, 16, 0, 0), (1, 12, 1, 0), (2, 83, 175, 3217), (5, 40, 6, 12), (8, 1, 16, 2), (9, 55, 24, 47), (12, 16, 0, 0), (13, 62, 960, 90), (16, 12, 1, 0), (17, 73, 0, 0), (18, 63, 839, 1440), (21, 40, 14, 28), (24, 1, 32, 3), (25, 55, 24, 47), (28, 0, 0, 0), (29, 0, 0, 0), (32, 0, 0, 0), (33, 0, 0, 0), (34, 0, 0, 0), (37, 0, 0, 0), (39, 0, 0, 0), (42, 0, 0, 0), (43, 0, 0, 0), (46, 0, 0, 0), (47, 80, 182, 2114), (50, 39, 28, 55), (53, 1, 0, 1), (54, 56, 0, 0)]
-- ManypensModel.repeat(II)I
noncomputable def zc_201 : List sy_E := [(0, 16, 0, 0), (1, 12, 1, 0), (2, 12, 2, 0), (3, 80, 179, 4611), (6, 39, 7, 11), (9, 1, 0, 1), (10, 56, 0, 0)]
-- ManypensModel.replace(III)I
noncomputable def zc_202 : List sy_E := [(0, 16, 0, 0), (1, 12, 1, 0), (2, 83, 175, 3217), (5, 39, 6, 12), (8, 1, 0, 1), (9, 55, 7, 13), (12, 1, 16, 2), (13, 80, 182, 2114), (16, 39, 11, 21), (19, 1, 0, 1), (20, 56, 0, 0), (21, 16, 0, 0), (22, 62, 960, 90), (25, 12, 1, 0), (26, 73, 0, 0), (27, 21, 4, 0), (29, 16, 0, 0), (30, 15, 4, 0), (32, 80, 211, 3154), (35, 21, 5, 0), (37, 16, 0, 0), (38, 15, 5, 0), (40, 12, 2, 0), (41, 12, 3, 0), (42, 83, 169, 3395), (45, 40, 28, 52), (48, 1, 32, 3), (49, 55, 49, 93), (52, 0, 0, 0), (53, 0, 0, 0), (56, 0, 0, 0), (59, 0, 0, 0), (60, 0, 0, 0), (63, 0, 0, 0), (65, 0, 0, 0), (66, 0, 0, 0), (67, 0, 0, 0), (68, 0, 0, 0), (69, 0, 0, 0), (72, 0, 0, 0), (73, 0, 0, 0), (75, 0, 0, 0), (78, 0, 0, 0), (80, 0, 0, 0), (83, 0, 0, 0), (85, 0, 0, 0), (88, 0, 0, 0), (89, 0, 0, 0), (92, 0, 0, 0), (93, 80, 182, 2114), (96, 39, 53, 101), (99, 1, 0, 1), (100, 56, 0, 0)]
-- ManypensModel.runs(I)I
noncomputable def zc_203 : List sy_E := [(0, 16, 0, 0), (1, 12, 1, 0), (2, 80, 180, 4178), (5, 39, 6, 10), (8, 1, 0, 1), (9, 56, 0, 0), (10, 16, 0, 0), (11, 16, 0, 0), (12, 62, 960, 90), (15, 12, 1, 0), (16, 73, 0, 0), (17, 80, 211, 3154), (20, 22, 2, 0), (21, 1, 0, 1), (22, 18, 3, 0), (23, 1, 0, 1), (24, 17, 4, 0), (26, 11, 4, 0), (28, 16, 2, 0), (29, 70, 0, 0), (30, 48, 54, 91), (33, 0, 0, 0), (34, 0, 0, 0), (36, 0, 0, 0), (39, 0, 0, 0), (40, 0, 0, 0), (41, 0, 0, 0), (43, 0, 0, 0), (44, 0, 0, 0), (45, 0, 0, 0), (48, 0, 0, 0), (49, 0, 0, 0), (50, 0, 0, 0), (53, 0, 0, 0), (56, 0, 0, 0), (57, 0, 0, 0), (58, 0, 0, 0), (60, 0, 0, 0), (61, 0, 0, 0), (62, 0, 0, 0), (63, 0, 0, 0), (64, 0, 0, 0), (67, 0, 0, 0), (68, 0, 0, 0), (69, 0, 0, 0), (72, 0, 0, 0), (75, 0, 0, 0), (78, 0, 0, 0), (79, 0, 0, 0), (82, 0, 0, 0), (83, 0, 0, 0), (84, 0, 0, 0), (85, 0, 0, 0), (88, 0, 0, 0), (91, 12, 3, 0), (92, 56, 0, 0)]
-- ManypensModel.same([I)[I
noncomputable def zc_204 : List sy_E := [(0, 1, 80, 6), (1, 68, 0, 10), (3, 22, 1, 0), (4, 1, 0, 1), (5, 18, 2, 0), (6, 12, 2, 0), (7, 1, 80, 6), (8, 48, 16, 23), (11, 16, 1, 0), (12, 12, 2, 0), (13, 16, 0, 0), (14, 12, 2, 0), (15, 71, 0, 0), (16, 75, 0, 0), (17, 25, 2, 32769), (20, 55, 5, 6), (23, 16, 1, 0), (24, 58, 0, 0)]
-- ManypensModel.setCursor(II)I
noncomputable def zc_205 : List sy_E := [(0, 16, 0, 0), (1, 12, 1, 0), (2, 80, 180, 4178), (5, 39, 6, 10), (8, 1, 0, 1), (9, 56, 0, 0), (10, 16, 0, 0), (11, 16, 0, 0), (12, 62, 960, 90), (15, 12, 1, 0), (16, 73, 0, 0), (17, 80, 211, 3154), (20, 22, 3, 0), (21, 16, 0, 0), (22, 12, 2, 0), (23, 1, 0, 1), (24, 16, 3, 0), (25, 70, 0, 0), (26, 83, 174, 675), (29, 39, 22, 36), (32, 1, 0, 1), (33, 55, 23, 37), (36, 1, 32, 3), (37, 80, 182, 2114), (40, 39, 27, 45), (43, 1, 0, 1), (44, 56, 0, 0), (45, 16, 0, 0), (46, 16, 0, 0), (47, 62, 960, 90), (50, 12, 1, 0), (51, 73, 0, 0), (52, 80, 198, 3954), (55, 17, 4, 0), (57, 16, 0, 0), (58, 62, 960, 90), (61, 12, 1, 0), (62, 73, 0, 0), (63, 12, 2, 0), (64, 40, 43, 74), (67, 16, 0, 0), (68, 62, 961, 162), (71, 55, 48, 79), (74, 0, 0, 0), (75, 0, 0, 0), (76, 0, 0, 0), (77, 0, 0, 0), (78, 0, 0, 0), (79, 65, 849, 282), (82, 11, 4, 0), (84, 56, 0, 0)]
-- ManypensModel.signAt(II)C
noncomputable def zc_206 : List sy_E := [(0, 16, 0, 0), (1, 12, 1, 0), (2, 80, 180, 4178), (5, 39, 6, 10), (8, 1, 0, 1), (9, 56, 0, 0), (10, 16, 0, 0), (11, 12, 1, 0), (12, 12, 2, 0), (13, 1, 32, 3), (14, 80, 189, 4228), (17, 22, 3, 0), (18, 16, 3, 0), (19, 54, 16, 26), (22, 1, 0, 1), (23, 55, 18, 30), (26, 0, 0, 0), (27, 0, 0, 0), (30, 56, 0, 0)]
-- ManypensModel.signThen(III)C
noncomputable def zc_207 : List sy_E := [(0, 16, 0, 0), (1, 12, 1, 0), (2, 12, 2, 0), (3, 80, 178, 5267), (6, 39, 7, 11), (9, 1, 0, 1), (10, 56, 0, 0), (11, 16, 0, 0), (12, 16, 0, 0), (13, 62, 960, 90), (16, 12, 1, 0), (17, 73, 0, 0), (18, 12, 2, 0), (19, 80, 212, 5315), (22, 21, 4, 0), (24, 16, 0, 0), (25, 12, 3, 0), (26, 1, 0, 1), (27, 15, 4, 0), (29, 70, 0, 0), (30, 1, 16, 2), (31, 27, 0, 0), (32, 83, 174, 675), (35, 39, 26, 42), (38, 0, 0, 0), (39, 0, 0, 0), (42, 1, 32, 3), (43, 80, 182, 2114), (46, 39, 31, 53), (49, 1, 0, 1), (50, 55, 35, 60), (53, 0, 0, 0), (55, 0, 0, 0), (56, 0, 0, 0), (57, 0, 0, 0), (60, 56, 0, 0)]
-- ManypensModel.steps(I)I
noncomputable def zc_208 : List sy_E := [(0, 16, 0, 0), (1, 12, 1, 0), (2, 80, 180, 4178), (5, 39, 6, 12), (8, 1, 0, 1), (9, 55, 11, 21), (12, 16, 0, 0), (13, 62, 960, 90), (16, 12, 1, 0), (17, 73, 0, 0), (18, 63, 837, 1200), (21, 56, 0, 0)]
-- ManypensModel.take(III)I
noncomputable def zc_209 : List sy_E := [(0, 16, 0, 0), (1, 12, 1, 0), (2, 83, 175, 3217), (5, 39, 6, 12), (8, 1, 0, 1), (9, 55, 7, 13), (12, 1, 16, 2), (13, 80, 182, 2114), (16, 39, 11, 21), (19, 1, 0, 1), (20, 56, 0, 0), (21, 16, 0, 0), (22, 62, 960, 90), (25, 12, 1, 0), (26, 73, 0, 0), (27, 21, 4, 0), (29, 16, 0, 0), (30, 15, 4, 0), (32, 80, 211, 3154), (35, 21, 5, 0), (37, 16, 0, 0), (38, 15, 5, 0), (40, 12, 2, 0), (41, 12, 3, 0), (42, 83, 169, 3395), (45, 40, 28, 52), (48, 1, 32, 3), (49, 55, 35, 67), (52, 0, 0, 0), (54, 0, 0, 0), (57, 0, 0, 0), (59, 0, 0, 0), (62, 0, 0, 0), (63, 0, 0, 0), (66, 0, 0, 0), (67, 80, 182, 2114), (70, 39, 39, 75), (73, 1, 0, 1), (74, 56, 0, 0)]
-- ManypensModel.text([I)[LManypensModel$Letter;
noncomputable def zc_210 : List sy_E := [(0, 16, 0, 0), (1, 80, 185, 1825), (4, 1, 0, 1), (5, 18, 2, 0), (6, 1, 0, 1), (7, 18, 3, 0), (8, 12, 3, 0), (9, 16, 0, 0), (10, 62, 963, 536), (13, 48, 26, 44), (16, 0, 0, 0), (17, 0, 0, 0), (18, 0, 0, 0), (19, 0, 0, 0), (22, 0, 0, 0), (23, 0, 0, 0), (24, 0, 0, 0), (25, 0, 0, 0), (28, 0, 0, 0), (31, 0, 0, 0), (32, 0, 0, 0), (35, 0, 0, 0), (36, 0, 0, 0), (37, 0, 0, 0), (38, 0, 0, 0), (41, 0, 0, 0), (44, 12, 2, 0), (45, 69, 11, 15), (48, 22, 3, 0), (49, 1, 0, 1), (50, 17, 4, 0), (52, 1, 0, 1), (53, 17, 5, 0), (55, 11, 5, 0), (57, 16, 0, 0), (58, 62, 963, 536), (61, 48, 56, 102), (64, 0, 0, 0), (65, 0, 0, 0), (66, 0, 0, 0), (69, 0, 0, 0), (71, 0, 0, 0), (72, 0, 0, 0), (73, 0, 0, 0), (76, 0, 0, 0), (79, 0, 0, 0), (82, 0, 0, 0), (83, 0, 0, 0), (85, 0, 0, 0), (86, 0, 0, 0), (89, 0, 0, 0), (91, 0, 0, 0), (92, 0, 0, 0), (93, 0, 0, 0), (96, 0, 0, 0), (99, 0, 0, 0), (102, 16, 3, 0), (103, 58, 0, 0)]
-- ManypensModel.textOf(LManypensModel$Hand;)[LManypensModel$Letter;
noncomputable def zc_211 : List sy_E := [(0, 16, 0, 0), (1, 16, 1, 0), (2, 63, 840, 970), (5, 80, 210, 2002), (8, 58, 0, 0)]
-- ManypensModel.textThen(LManypensModel$Hand;I)[LManypensModel$Letter;
noncomputable def zc_212 : List sy_E := [(0, 16, 1, 0), (1, 63, 841, 2610), (4, 83, 204, 5041), (7, 22, 3, 0), (8, 1, 0, 1), (9, 17, 4, 0), (11, 11, 4, 0), (13, 12, 2, 0), (14, 48, 23, 45), (17, 0, 0, 0), (18, 0, 0, 0), (19, 0, 0, 0), (22, 0, 0, 0), (24, 0, 0, 0), (25, 0, 0, 0), (28, 0, 0, 0), (29, 0, 0, 0), (32, 0, 0, 0), (34, 0, 0, 0), (35, 0, 0, 0), (38, 0, 0, 0), (39, 0, 0, 0), (42, 0, 0, 0), (45, 16, 0, 0), (46, 16, 3, 0), (47, 80, 210, 2002), (50, 58, 0, 0)]
-- ManypensModel.thrown()I
noncomputable def zc_213 : List sy_E := [(0, 16, 0, 0), (1, 62, 965, 304), (4, 56, 0, 0)]
-- ManypensModel.type(C)I
noncomputable def zc_214 : List sy_E := [(0, 16, 0, 0), (1, 12, 1, 0), (2, 2, 512, 160), (4, 2, 2016, 254), (6, 83, 174, 675), (9, 40, 8, 16), (12, 1, 16, 2), (13, 55, 15, 30), (16, 16, 0, 0), (17, 62, 964, 1032), (20, 2, 192, 140), (22, 46, 14, 29), (25, 0, 0, 0), (26, 0, 0, 0), (29, 1, 0, 1), (30, 80, 182, 2114), (33, 39, 19, 38), (36, 1, 0, 1), (37, 56, 0, 0), (38, 16, 0, 0), (39, 62, 967, 226), (42, 16, 0, 0), (43, 62, 964, 1032), (46, 12, 1, 0), (47, 78, 0, 0), (48, 16, 0, 0), (49, 37, 0, 0), (50, 62, 964, 1032), (53, 1, 16, 2), (54, 26, 0, 0), (55, 64, 964, 1032), (58, 16, 0, 0), (59, 62, 964, 1032), (62, 56, 0, 0)]
-- ManypensModel.undo(I)I
noncomputable def zc_215 : List sy_E := [(0, 16, 0, 0), (1, 12, 1, 0), (2, 83, 175, 3217), (5, 40, 6, 12), (8, 1, 16, 2), (9, 55, 24, 47), (12, 16, 0, 0), (13, 62, 960, 90), (16, 12, 1, 0), (17, 73, 0, 0), (18, 63, 838, 1416), (21, 40, 14, 28), (24, 1, 32, 3), (25, 55, 24, 47), (28, 0, 0, 0), (29, 0, 0, 0), (32, 0, 0, 0), (33, 0, 0, 0), (34, 0, 0, 0), (37, 0, 0, 0), (39, 0, 0, 0), (42, 0, 0, 0), (43, 0, 0, 0), (46, 0, 0, 0), (47, 80, 182, 2114), (50, 39, 28, 55), (53, 1, 0, 1), (54, 56, 0, 0)]
-- ManypensModel.waiting(I)I
noncomputable def zc_216 : List sy_E := [(0, 16, 0, 0), (1, 12, 1, 0), (2, 80, 180, 4178), (5, 39, 6, 10), (8, 1, 0, 1), (9, 56, 0, 0), (10, 1, 0, 1), (11, 18, 2, 0), (12, 1, 0, 1), (13, 18, 3, 0), (14, 12, 3, 0), (15, 1, 80, 6), (16, 48, 38, 66), (19, 1, 16, 2), (20, 17, 4, 0), (22, 11, 4, 0), (24, 2, 640, 168), (26, 49, 36, 60), (29, 12, 2, 0), (30, 16, 0, 0), (31, 62, 960, 90), (34, 12, 1, 0), (35, 73, 0, 0), (36, 63, 844, 2338), (39, 12, 3, 0), (40, 73, 0, 0), (41, 11, 4, 0), (43, 74, 0, 0), (44, 39, 31, 51), (47, 0, 0, 0), (48, 0, 0, 0), (51, 1, 0, 1), (52, 26, 0, 0), (53, 18, 2, 0), (54, 25, 4, 32769), (57, 55, 15, 22), (60, 25, 3, 32769), (63, 55, 10, 14), (66, 12, 2, 0), (67, 56, 0, 0)]
-- ManypensModel.wayAt(II)I
noncomputable def zc_217 : List sy_E := [(0, 16, 0, 0), (1, 12, 1, 0), (2, 12, 2, 0), (3, 80, 179, 4611), (6, 39, 7, 13), (9, 1, 0, 1), (10, 55, 26, 45), (13, 0, 0, 0), (15, 0, 0, 0), (16, 0, 0, 0), (19, 0, 0, 0), (20, 0, 0, 0), (21, 0, 0, 0), (24, 0, 0, 0), (25, 0, 0, 0), (26, 0, 0, 0), (29, 0, 0, 0), (30, 0, 0, 0), (31, 0, 0, 0), (34, 0, 0, 0), (35, 0, 0, 0), (36, 0, 0, 0), (39, 0, 0, 0), (40, 0, 0, 0), (41, 0, 0, 0), (44, 0, 0, 0), (45, 56, 0, 0)]
-- ManypensModel.write(I)I
noncomputable def zc_218 : List sy_E := [(0, 16, 0, 0), (1, 12, 1, 0), (2, 83, 175, 3217), (5, 39, 6, 12), (8, 1, 0, 1), (9, 55, 7, 13), (12, 1, 16, 2), (13, 80, 182, 2114), (16, 39, 11, 21), (19, 1, 0, 1), (20, 56, 0, 0), (21, 16, 0, 0), (22, 62, 960, 90), (25, 12, 1, 0), (26, 73, 0, 0), (27, 22, 2, 0), (28, 16, 0, 0), (29, 16, 2, 0), (30, 80, 211, 3154), (33, 22, 3, 0), (34, 16, 0, 0), (35, 16, 0, 0), (36, 62, 964, 1032), (39, 40, 26, 46), (42, 1, 32, 3), (43, 55, 40, 72), (46, 0, 0, 0), (47, 0, 0, 0), (48, 0, 0, 0), (49, 0, 0, 0), (52, 0, 0, 0), (53, 0, 0, 0), (55, 0, 0, 0), (58, 0, 0, 0), (59, 0, 0, 0), (62, 0, 0, 0), (64, 0, 0, 0), (67, 0, 0, 0), (68, 0, 0, 0), (71, 0, 0, 0), (72, 80, 182, 2114), (75, 39, 44, 80), (78, 1, 0, 1), (79, 56, 0, 0)]
-- ManypensModel$Hand.<init>(I)V
noncomputable def zc_219 : List sy_E := [(0, 16, 0, 0), (1, 82, 223, 49), (4, 16, 0, 0), (5, 2, 656, 169), (7, 69, 8, 9), (10, 66, 833, 90), (13, 16, 0, 0), (14, 1, 80, 6), (15, 68, 0, 10), (17, 66, 840, 138), (20, 16, 0, 0), (21, 1, 80, 6), (22, 68, 0, 10), (24, 66, 841, 170), (27, 16, 0, 0), (28, 3, 19200, 33968), (31, 69, 8, 9), (34, 64, 842, 194), (37, 16, 0, 0), (38, 3, 3200, 32968), (41, 69, 8, 9), (44, 64, 843, 218), (47, 16, 0, 0), (48, 1, 80, 6), (49, 2, 656, 169), (51, 87, 12, 30), (55, 66, 844, 258), (58, 16, 0, 0), (59, 2, 640, 168), (61, 69, 9, 35), (64, 66, 845, 298), (67, 16, 0, 0), (68, 2, 640, 168), (70, 69, 9, 35), (73, 66, 846, 330), (76, 16, 0, 0), (77, 12, 1, 0), (78, 66, 832, 352), (81, 61, 0, 0)]
-- ManypensModel$Letter.<init>(LManypensModel$Edit;C)V
noncomputable def zc_220 : List sy_E := [(0, 16, 0, 0), (1, 82, 223, 17), (4, 16, 0, 0), (5, 1, 32, 3), (6, 69, 8, 7), (9, 64, 903, 74), (12, 16, 0, 0), (13, 16, 1, 0), (14, 66, 896, 122), (17, 16, 0, 0), (18, 12, 2, 0), (19, 66, 897, 152), (22, 61, 0, 0)]
-- java/lang/Math.max(II)I
noncomputable def zc_221 : List sy_E := [(0, 12, 0, 0), (1, 12, 1, 0), (2, 47, 5, 9), (5, 12, 0, 0), (6, 55, 6, 10), (9, 0, 0, 0), (10, 56, 0, 0)]
-- java/lang/Math.min(JJ)J
noncomputable def zc_222 : List sy_E := [(0, 14, 0, 0), (1, 14, 2, 0), (2, 36, 0, 0), (3, 43, 6, 10), (6, 14, 0, 0), (7, 55, 7, 11), (10, 0, 0, 0), (11, 57, 0, 0)]
-- java/lang/Object.<init>()V
noncomputable def zc_223 : List sy_E := [(0, 61, 0, 0)]
-- java/util/Arrays.fill([II)V
noncomputable def zc_224 : List sy_E := [(0, 1, 0, 1), (1, 18, 2, 0), (2, 16, 0, 0), (3, 70, 0, 0), (4, 18, 3, 0), (5, 12, 2, 0), (6, 12, 3, 0), (7, 48, 14, 20), (10, 16, 0, 0), (11, 12, 2, 0), (12, 12, 1, 0), (13, 75, 0, 0), (14, 25, 2, 32769), (17, 55, 5, 5), (20, 61, 0, 0)]
-- java/util/Arrays.fill([IIII)V
noncomputable def zc_225 : List sy_E := [(0, 16, 0, 0), (1, 70, 0, 0), (2, 12, 1, 0), (3, 12, 2, 0), (4, 83, 228, 211), (7, 12, 1, 0), (8, 17, 4, 0), (10, 11, 4, 0), (12, 12, 2, 0), (13, 48, 16, 27), (16, 16, 0, 0), (17, 11, 4, 0), (19, 12, 3, 0), (20, 75, 0, 0), (21, 25, 4, 32769), (24, 55, 7, 10), (27, 61, 0, 0)]
-- java/util/Arrays.fill([JIIJ)V
noncomputable def zc_226 : List sy_E := [(0, 16, 0, 0), (1, 70, 0, 0), (2, 12, 1, 0), (3, 12, 2, 0), (4, 83, 228, 211), (7, 12, 1, 0), (8, 17, 5, 0), (10, 11, 5, 0), (12, 12, 2, 0), (13, 48, 16, 27), (16, 16, 0, 0), (17, 11, 5, 0), (19, 14, 3, 0), (20, 76, 0, 0), (21, 25, 5, 32769), (24, 55, 7, 10), (27, 61, 0, 0)]
-- java/util/Arrays.fill([JJ)V
noncomputable def zc_227 : List sy_E := [(0, 1, 0, 1), (1, 18, 3, 0), (2, 16, 0, 0), (3, 70, 0, 0), (4, 17, 4, 0), (6, 12, 3, 0), (7, 11, 4, 0), (9, 48, 14, 22), (12, 16, 0, 0), (13, 12, 3, 0), (14, 14, 1, 0), (15, 76, 0, 0), (16, 25, 3, 32769), (19, 55, 5, 6), (22, 61, 0, 0)]
-- java/util/Arrays.rangeCheck(III)V
noncomputable def zc_228 : List sy_E := [(0, 12, 1, 0), (1, 12, 2, 0), (2, 50, 21, 46), (5, 0, 0, 0), (8, 0, 0, 0), (9, 0, 0, 0), (12, 0, 0, 0), (13, 0, 0, 0), (16, 0, 0, 0), (18, 0, 0, 0), (21, 0, 0, 0), (22, 0, 0, 0), (25, 0, 0, 0), (27, 0, 0, 0), (30, 0, 0, 0), (31, 0, 0, 0), (34, 0, 0, 0), (36, 0, 0, 0), (39, 0, 0, 0), (42, 0, 0, 0), (45, 0, 0, 0), (46, 12, 1, 0), (47, 42, 28, 59), (50, 0, 0, 0), (53, 0, 0, 0), (54, 0, 0, 0), (55, 0, 0, 0), (58, 0, 0, 0), (59, 12, 2, 0), (60, 12, 0, 0), (61, 50, 36, 73), (64, 0, 0, 0), (67, 0, 0, 0), (68, 0, 0, 0), (69, 0, 0, 0), (72, 0, 0, 0), (73, 61, 0, 0)]
noncomputable def sy_P0 : List sy_M := [(zc_0, 9, []), (zc_1, 2, []), (zc_2, 3, []), (zc_3, 6, []), (zc_4, 2, []), (zc_5, 6, []), (zc_6, 6, []), (zc_7, 2, []), (zc_8, 2, []), (zc_9, 5, []), (zc_10, 5, []), (zc_11, 2, []), (zc_12, 5, []), (zc_13, 5, []), (zc_14, 3, []), (zc_15, 3, [])]
noncomputable def sy_P1 : List sy_M := [(zc_16, 4, []), (zc_17, 6, []), (zc_18, 4, []), (zc_19, 3, []), (zc_20, 3, []), (zc_21, 1, []), (zc_22, 4, []), (zc_23, 3, []), (zc_24, 2, []), (zc_25, 5, []), (zc_26, 4, []), (zc_27, 2, []), (zc_28, 3, []), (zc_29, 3, []), (zc_30, 8, []), (zc_31, 6, [])]
noncomputable def sy_P2 : List sy_M := [(zc_32, 3, []), (zc_33, 7, []), (zc_34, 2, []), (zc_35, 2, []), (zc_36, 3, []), (zc_37, 4, []), (zc_38, 3, []), (zc_39, 4, []), (zc_40, 3, []), (zc_41, 1, []), (zc_42, 2, []), (zc_43, 2, []), (zc_44, 6, []), (zc_45, 5, []), (zc_46, 3, []), (zc_47, 4, [])]
noncomputable def sy_P3 : List sy_M := [(zc_48, 6, []), (zc_49, 5, []), (zc_50, 6, []), (zc_51, 3, []), (zc_52, 4, []), (zc_53, 2, []), (zc_54, 11, []), (zc_55, 5, []), (zc_56, 2, []), (zc_57, 2, []), (zc_58, 3, []), (zc_59, 3, []), (zc_60, 2, []), (zc_61, 3, []), (zc_62, 4, []), (zc_63, 1, [])]
noncomputable def sy_P4 : List sy_M := [(zc_64, 3, []), (zc_65, 1, []), (zc_66, 5, []), (zc_67, 2, []), (zc_68, 2, []), (zc_69, 3, []), (zc_70, 1, []), (zc_71, 2, []), (zc_72, 1, []), (zc_73, 2, []), (zc_74, 3, []), (zc_75, 4, []), (zc_76, 2, []), (zc_77, 2, []), (zc_78, 2, []), (zc_79, 1, [])]
noncomputable def sy_P5 : List sy_M := [(zc_80, 3, []), (zc_81, 2, []), (zc_82, 3, []), (zc_83, 1, []), (zc_84, 2, []), (zc_85, 2, []), (zc_86, 3, []), (zc_87, 1, []), (zc_88, 2, []), (zc_89, 2, []), (zc_90, 1, []), (zc_91, 6, []), (zc_92, 1, []), (zc_93, 2, []), (zc_94, 4, []), (zc_95, 4, [])]
noncomputable def sy_P6 : List sy_M := [(zc_96, 5, []), (zc_97, 1, []), (zc_98, 1, []), (zc_99, 3, []), (zc_100, 3, []), (zc_101, 5, []), (zc_102, 1, []), (zc_103, 2, []), (zc_104, 5, []), (zc_105, 3, []), (zc_106, 4, []), (zc_107, 6, []), (zc_108, 1, []), (zc_109, 6, []), (zc_110, 3, []), (zc_111, 2, [])]
noncomputable def sy_P7 : List sy_M := [(zc_112, 1, []), (zc_113, 5, [(0, 10, 9, 4), (0, 10, 12, 1)]), (zc_114, 4, [(0, 9, 8, 4), (0, 9, 11, 0)]), (zc_115, 7, [(0, 14, 11, 4), (0, 14, 14, 1), (0, 14, 17, 0)]), (zc_116, 6, [(0, 12, 10, 4), (0, 12, 13, 1), (0, 12, 16, 3)]), (zc_117, 4, [(0, 9, 8, 4)]), (zc_118, 4, [(0, 9, 8, 4)]), (zc_119, 5, [(0, 10, 9, 4), (0, 10, 12, 1)]), (zc_120, 5, [(0, 10, 9, 4)]), (zc_121, 3, [(0, 8, 7, 0)]), (zc_122, 5, [(0, 10, 9, 4)]), (zc_123, 5, [(0, 10, 9, 4)]), (zc_124, 5, [(0, 17, 12, 4)]), (zc_125, 6, [(0, 19, 13, 4), (0, 19, 16, 3), (0, 19, 19, 1)]), (zc_126, 4, [(0, 9, 8, 4)]), (zc_127, 5, [(0, 10, 9, 4)])]
noncomputable def sy_P8 : List sy_M := [(zc_128, 6, [(0, 12, 10, 4), (0, 12, 13, 1)]), (zc_129, 4, [(0, 9, 8, 4)]), (zc_130, 5, [(0, 10, 9, 4), (0, 10, 12, 1)]), (zc_131, 5, [(0, 10, 9, 4), (0, 10, 12, 1)]), (zc_132, 9, [(0, 18, 13, 4), (0, 18, 16, 3), (0, 18, 19, 1), (0, 18, 22, 0)]), (zc_133, 4, [(0, 8, 7, 4), (0, 8, 10, 2)]), (zc_134, 5, [(0, 10, 9, 4), (0, 10, 12, 3)]), (zc_135, 7, [(0, 14, 11, 4), (0, 14, 14, 1), (0, 14, 17, 0)]), (zc_136, 4, [(0, 9, 8, 4)]), (zc_137, 4, [(0, 9, 8, 4), (0, 9, 11, 0)]), (zc_138, 4, [(0, 9, 8, 4), (0, 9, 11, 2)]), (zc_139, 5, [(0, 10, 9, 4), (0, 10, 12, 1), (0, 10, 15, 5), (0, 10, 18, 0)]), (zc_140, 4, [(0, 9, 8, 4), (0, 9, 11, 1), (0, 9, 14, 0)]), (zc_141, 5, [(0, 10, 9, 4), (0, 10, 12, 1), (0, 10, 15, 0)]), (zc_142, 6, [(0, 12, 10, 4), (0, 12, 13, 1), (0, 12, 16, 5), (0, 12, 19, 0)]), (zc_143, 4, [(0, 9, 8, 4)])]
noncomputable def sy_P9 : List sy_M := [(zc_144, 5, [(0, 10, 9, 4), (0, 10, 12, 1)]), (zc_145, 5, [(0, 10, 9, 4), (0, 10, 12, 1)]), (zc_146, 6, [(0, 12, 10, 4), (0, 12, 13, 1)]), (zc_147, 4, [(0, 9, 8, 4)]), (zc_148, 6, [(0, 12, 10, 4), (0, 12, 13, 1), (0, 12, 16, 0)]), (zc_149, 4, [(0, 9, 8, 3), (0, 9, 11, 0)]), (zc_150, 4, [(0, 9, 8, 4), (0, 9, 11, 1), (0, 9, 14, 0)]), (zc_151, 4, [(0, 9, 8, 4)]), (zc_152, 5, [(0, 10, 9, 4), (0, 10, 12, 1)]), (zc_153, 4, [(0, 9, 8, 4), (0, 9, 11, 5), (0, 9, 14, 0)]), (zc_154, 2, []), (zc_155, 9, []), (zc_156, 4, []), (zc_157, 11, []), (zc_158, 4, []), (zc_159, 1, [])]
noncomputable def sy_P10 : List sy_M := [(zc_160, 8, []), (zc_161, 7, []), (zc_162, 2, []), (zc_163, 2, []), (zc_164, 5, []), (zc_165, 5, []), (zc_166, 2, []), (zc_167, 10, []), (zc_168, 3, []), (zc_169, 3, []), (zc_170, 3, []), (zc_171, 11, []), (zc_172, 12, []), (zc_173, 3, []), (zc_174, 3, []), (zc_175, 1, [])]
noncomputable def sy_P11 : List sy_M := [(zc_176, 5, []), (zc_177, 3, []), (zc_178, 3, []), (zc_179, 3, []), (zc_180, 2, []), (zc_181, 12, []), (zc_182, 2, []), (zc_183, 4, []), (zc_184, 5, []), (zc_185, 3, []), (zc_186, 4, []), (zc_187, 2, []), (zc_188, 3, []), (zc_189, 5, []), (zc_190, 3, []), (zc_191, 10, [])]
noncomputable def sy_P12 : List sy_M := [(zc_192, 8, []), (zc_193, 5, []), (zc_194, 10, []), (zc_195, 2, []), (zc_196, 2, []), (zc_197, 8, []), (zc_198, 8, []), (zc_199, 5, []), (zc_200, 4, []), (zc_201, 4, []), (zc_202, 7, []), (zc_203, 5, []), (zc_204, 3, []), (zc_205, 5, []), (zc_206, 4, []), (zc_207, 5, [])]
noncomputable def sy_P13 : List sy_M := [(zc_208, 2, []), (zc_209, 6, []), (zc_210, 6, []), (zc_211, 2, []), (zc_212, 5, []), (zc_213, 1, []), (zc_214, 2, []), (zc_215, 4, []), (zc_216, 5, []), (zc_217, 3, []), (zc_218, 4, []), (zc_219, 2, []), (zc_220, 3, []), (zc_221, 2, []), (zc_222, 4, []), (zc_223, 1, [])]
noncomputable def sy_P14 : List sy_M := [(zc_224, 4, []), (zc_225, 5, []), (zc_226, 6, []), (zc_227, 5, []), (zc_228, 3, [])]
noncomputable def sy_P : List (List sy_M) := [sy_P0, sy_P1, sy_P2, sy_P3, sy_P4, sy_P5, sy_P6, sy_P7, sy_P8, sy_P9, sy_P10, sy_P11, sy_P12, sy_P13, sy_P14]
def sy_sw : List Nat := [28, 65, 72, 117, 172, 227, 292, 395, 460, 495, 530, 565, 600, 635, 688, 723, 768, 813, 873, 908, 943, 1000, 1045, 1080, 1115, 1160, 1205, 1250, 1295, 1340, 1375, 1420, 1465, 1520, 1555, 1600, 1655, 1700, 1748, 1773, 1808, 1855, 1901, 1909, 1916, 1916, 1916, 1916, 1916, 1916, 1916, 1916, 1916, 1916, 1916, 1916, 1916, 1916, 1916, 1916, 1916, 1916, 1916, 1916]
end SYT
end
section
/-! the run of the abstract machine -/
section SYR
noncomputable def sy_ops (len : Nat) : List sy_F := [fun _ _ _ _ _ _ _ _ => sy_no 0,
  sy_push, sy_push, sy_push, sy_push, sy_push, sy_push, sy_push, sy_push, sy_push, sy_push,
  sy_load 0, sy_load 0, sy_load 1, sy_load 1, sy_load 2, sy_load 2, sy_stor 0, sy_stor 0, sy_stor2 1, sy_stor2 1, sy_stor 2, sy_stor 2, sy_stor 3, sy_stor2 4,
  sy_iinc, sy_bin 0 (fun a b => Nat.mod (Nat.add a b) 4294967296), sy_bin 0 (fun a b => Nat.mod (Nat.sub (Nat.add a 4294967296) b) 4294967296), sy_bin 0 (fun a b => Nat.mod (Nat.mul a b) 4294967296), sy_iand,
  sy_bin 1 (fun a b => Nat.mod (Nat.add a b) 18446744073709551616), sy_bin 1 (fun a b => Nat.mod (Nat.sub (Nat.add a 18446744073709551616) b) 18446744073709551616), sy_bin 1 (fun a b => Nat.mod (Nat.mul a b) 18446744073709551616),
  sy_i2l, sy_l2i, sy_i2c, sy_lcmp, sy_dup, sy_pop,
  sy_ifc sy_eq false, sy_ifc sy_eq true, sy_ifc sy_lt false, sy_ifc sy_lt true, sy_ifc sy_gt false, sy_ifc sy_gt true,
  sy_icmp sy_eq false, sy_icmp sy_eq true, sy_icmp sy_lt false, sy_icmp sy_lt true, sy_icmp sy_gt false, sy_icmp sy_gt true,
  sy_acmp false, sy_acmp true, sy_nul false, sy_nul true, sy_goto, sy_ret 0, sy_ret 1, sy_ret 2, sy_ret 3, sy_ret 4, sy_retv,
  sy_getf, sy_getf, sy_putf, sy_putf, sy_putf, sy_new sy_fi, sy_newa, sy_newa, fun tk => sy_alen tk len tk, sy_iald len, sy_ald 1, sy_aald, sy_ald 2, sy_ast 0 0, sy_ast 1 1, sy_aast sy_at, sy_cast,
  sy_castA, sy_call, sy_call, sy_call, sy_call, sy_call, sy_clone, sy_acpy, sy_mna, sy_thr, sy_thr, sy_tsw sy_sw 0]
def sy_M0 : sy_M := ([], 0, [])
noncomputable def sy_meth (i : Nat) : sy_M := sy_nth sy_M0 (sy_nth [] sy_P (Nat.div i 16)) (Nat.mod i 16)
noncomputable def sy_cats (l : List Nat) : Nat := List.rec (motive := fun _ => Nat) 0 (fun v _ n => Nat.add (sy_ct v) n) l
/-- the locals with which a method begins -/
noncomputable def sy_args (l : List Nat) : Nat → Nat → Nat := List.rec (motive := fun _ => Nat → Nat → Nat) (fun _ L => L) (fun v _ ih i L => sy_force (sy_wr L i (Nat.succ v)) fun L => ih (Nat.add i (sy_ct v)) L) l
/-- the handler of pc for the class E -/
noncomputable def sy_hand (hs : List (Nat × Nat × Nat × Nat)) (pc E : Nat) : Nat := List.rec (motive := fun _ => Nat) 0 (fun x _ r => cond (cond (Nat.ble x.1 pc) (cond (Nat.ble (Nat.succ pc) x.2.1) (Nat.beq x.2.2.2 E) false) false) (Nat.succ x.2.2.1) r) hs
noncomputable def sy_e0 : sy_E := (0, 0, 0, 0)
/-- a handler: astore, iconst, ireturn -/
noncomputable def sy_caught (k : List sy_E) (h : sy_H) (c s : Nat) : sy_X :=
  sy_if (cond (cond (Nat.beq (sy_nth sy_e0 k 0).2.1 21) true (Nat.beq (sy_nth sy_e0 k 0).2.1 22)) (cond (Nat.beq (sy_nth sy_e0 k 1).2.1 1) (Nat.beq (sy_nth sy_e0 k 2).2.1 56) false) false) (4, (sy_nth sy_e0 k 1).2.2.1, 0, [], h, c, s)
abbrev sy_R : Type := Nat → sy_M → List sy_E → Nat → List Nat → sy_H → Nat → Nat → sy_X
noncomputable def sy_back (ih : sy_R) (d : Nat) (M : sy_M) (pc : Nat) (k : List sy_E) (L : Nat) (st : List Nat) (c s : Nat) (X : sy_X) : sy_X :=
  Prod.rec (motive := fun _ => sy_X) (fun kind r => Prod.rec (motive := fun _ => sy_X) (fun a r => Prod.rec (motive := fun _ => sy_X) (fun _ r => Prod.rec (motive := fun _ => sy_X) (fun _ r => Prod.rec (motive := fun _ => sy_X) (fun h r => Prod.rec (motive := fun _ => sy_X) (fun c1 s1 =>
    sy_force (Nat.add c c1) fun c => sy_force (Nat.add s s1) fun s =>
    sy_nth (sy_no 0) [sy_no a, sy_no 0, sy_no 0, ih d M k L st h c s, sy_force a fun v => ih d M k L (v :: st) h c s, sy_no 0,
      Nat.rec (motive := fun _ => sy_X) (cond (Nat.beq (sy_len M.2.2) 0) (6, a, 0, [], h, c, s) (sy_no 0)) (fun p _ => sy_caught (sy_drop M.1 p) h c s) (sy_hand M.2.2 pc a)] kind) r) r) r) r) r) X
noncomputable def sy_step (tk : sy_T) (len : Nat) (ih : sy_R) (d : Nat) (M : sy_M) (e : sy_E) (k : List sy_E) (X : sy_X) : sy_X :=
  Prod.rec (motive := fun _ => sy_X) (fun kind r => Prod.rec (motive := fun _ => sy_X) (fun a r => Prod.rec (motive := fun _ => sy_X) (fun L r => Prod.rec (motive := fun _ => sy_X) (fun st r => Prod.rec (motive := fun _ => sy_X) (fun h r => Prod.rec (motive := fun _ => sy_X) (fun c s =>
    sy_nth (sy_no 0) [sy_no a, ih d M k L st h c s, ih d M (sy_drop M.1 a) L st h c s, (3, 0, 0, [], h, c, s), (4, a, 0, [], h, c, s),
      Nat.rec (motive := fun _ => sy_X) (sy_no 0) (fun d' _ => sy_if (cond (Nat.ble (Nat.mod e.2.2.2 16) (sy_len st)) (Nat.ble (sy_cats (sy_drop st (Nat.mod e.2.2.2 16))) 8) false)
        (sy_back ih d M e.1 k L (sy_drop st (Nat.mod e.2.2.2 16)) c s (ih d' (sy_meth a) (sy_meth a).1 (sy_args (sy_rev st (Nat.mod e.2.2.2 16) []) 0 0) [] h 0 0))) d,
      (cond (Nat.beq (sy_len M.2.2) 0) (6, a, 0, [], h, c, s) (sy_no 0)), sy_no 0, (8, e.1, L, st, h, c, s)] kind) r) r) r) r) r) X
noncomputable def sy_run (tk : sy_T) (len : Nat) (fuel : Nat) : sy_R :=
  Nat.rec (motive := fun _ => sy_R) (fun _ _ _ _ _ _ _ _ => sy_no 0) (fun _ ih d M rest L st h c s =>
    List.rec (motive := fun _ => sy_X) (sy_no 0) (fun e k _ => sy_step tk len ih d M e k (sy_nth (fun _ _ _ _ _ _ _ _ => sy_no 0) (sy_ops len) e.2.1 tk e.2.2.1 e.2.2.2 L st h c s)) rest) fuel
def sy_heap0 : sy_H := (0, [])
/-- the law from its entry to the first look at the script, L ints long -/
noncomputable def sy_first (len : Nat) : sy_X := sy_run [] len 100000 12 (sy_meth 0) (sy_meth 0).1 (sy_args [9] 0 0) [] sy_heap0 0 0
noncomputable def sy_seek (l : List sy_E) (pc : Nat) : List sy_E := List.rec (motive := fun _ => List sy_E) [] (fun e k r => cond (Nat.beq e.1 pc) (e :: k) r) l
/-- from there on, with what is known of the script -/
noncomputable def sy_next (tk : sy_T) (X : sy_X) : sy_X := sy_run tk 7 100000 12 (sy_meth 0) (sy_seek (sy_meth 0).1 X.2.1) X.2.2.1 X.2.2.2.1 X.2.2.2.2.1 X.2.2.2.2.2.1 X.2.2.2.2.2.2
noncomputable def sy_piv (p : Nat) : Nat := cond (Nat.ble 9223372034707292160 p) (Nat.sub p 9223372034707292160) p
noncomputable def sy_split (ih : sy_T → Bool) (tk : sy_T) (k p : Nat) (q : Nat × Nat × Nat) : Bool :=
  cond (cond (Nat.ble (Nat.succ q.2.1) p) (cond (Nat.ble p q.2.2) (cond (Nat.ble q.1 1) (Nat.ble k 6) false) false) false) (sy_force (Nat.pred p) fun m => cond (ih (sy_put (9, 0, 0) (q.1, q.2.1, m) tk k)) (ih (sy_put (9, 0, 0) (q.1, p, q.2.2) tk k)) false) false
/-- on every script of which tk is true, the law answers 1 -/
noncomputable def sy_all (X0 : sy_X) (fuel : Nat) : sy_T → Bool :=
  Nat.rec (motive := fun _ => sy_T → Bool) (fun _ => false) (fun _ ih tk => Prod.rec (motive := fun _ => Bool) (fun kind r => Prod.rec (motive := fun _ => Bool) (fun a _ =>
    sy_nth false [Nat.rec (motive := fun _ => Bool) false (fun a _ => sy_force (sy_piv (Nat.div a 16)) fun p => sy_split ih tk (Nat.mod a 16) p (sy_tok tk (Nat.mod a 16))) a, false, false, false, Nat.beq a 16] kind) r) (sy_next tk X0)) fuel
/-- the starting knowledge: the call, and whether place j is read as a char -/
noncomputable def sy_fu : Nat × Nat × Nat := (0, 0, 4294967295)
noncomputable def sy_cu : Nat × Nat × Nat := (1, 2147483648, 2147549183)
noncomputable def sy_tkK (K : Nat) : sy_T := (2, K, 0) :: sy_nth [sy_fu, sy_fu, sy_fu, sy_fu, sy_fu, sy_fu]
  [[sy_cu, sy_fu, sy_fu, sy_fu, sy_fu, sy_fu], [sy_fu, sy_fu, sy_fu, sy_cu, sy_fu, sy_fu], [sy_fu, sy_fu, sy_cu, sy_fu, sy_fu, sy_fu], [sy_fu, sy_fu, sy_cu, sy_fu, sy_fu, sy_fu]]
  (cond (Nat.beq K 0) 0 (cond (Nat.beq K 6) 1 (cond (Nat.beq K 17) 2 (cond (Nat.beq K 20) 3 9))))
noncomputable def sy_cases (l : List Nat) : Bool := List.rec (motive := fun _ => Bool) true (fun K _ r => cond (sy_all (sy_first 7) 1000 (sy_tkK K)) r false) l
set_option maxRecDepth 100000 in
theorem sy_c0 : sy_cases [0] = true := by decide +kernel
set_option maxRecDepth 100000 in
theorem sy_c1 : sy_cases [1, 2, 8, 9] = true := by decide +kernel
set_option maxRecDepth 100000 in
theorem sy_c43 : sy_cases [43] = true := by decide +kernel
set_option maxRecDepth 100000 in
theorem sy_c63 : sy_cases [44, 45, 63] = true := by decide +kernel
end SYR
end
