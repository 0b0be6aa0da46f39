/-! what is checked of each place of the code, and what follows for the machine -/
section SYQ
/-- words of nest mates and of casts: the tables hold them, no call keeps them -/
def sy_isN (u : Cond) : Bool := match u with
  | .fieldLinkNest .. => true
  | .methodLinkNest .. => true
  | .castable .. => true
  | .declares .. => true
  | _ => false
noncomputable def sy_gtb : List Cond := lw_tbl.filter goodWord
noncomputable def sy_nst : List Cond := lw_tbl.filter sy_isN
noncomputable def sy_tbl : List Cond := sy_gtb ++ sy_nst
def sy_dc (cc : ByteArray) (pc : Nat) (i : Instr) (n npc : Nat) : Bool := decide (decode cc pc = .ok (i, n)) && Nat.beq npc (pc + n)
def sy_dt (cc : ByteArray) (pc : Nat) (i : Instr) (n : Nat) : Bool := decide (decode cc pc = .ok (i, n))
def sy_wd (lw : List Cond) (u : Cond) : Bool := decide (u ∈ lw)
def sy_tyc (t : FieldType) : Nat := match t with
  | .int => 0
  | .long => 1
  | .object _ => 2
  | .array _ => 2
  | .float => 3
  | .double => 4
  | .boolean => 5
  | .char => 6
  | _ => 9
def sy_aty (t : Nat) : ArrayType := match t with
  | 0 => .int
  | 1 => .long
  | 2 => .boolean
  | 3 => .char
  | 4 => .byte
  | _ => .double
def sy_fr (ci k : Nat) : String × String × String × Bool := match sy_cl[ci]? with
  | some q => q.2.1 k
  | none => ("", "", "", false)
def sy_cn (ci : Nat) : String := match sy_cl[ci]? with
  | some q => q.1
  | none => ""
def sy_cN (ci : Nat) : Nat := match sy_cl[ci]? with
  | some q => q.2.2
  | none => 0
def sy_an (t : Nat) : String := match sy_fty t with
  | .object C => C
  | _ => ""
/-- the target of a jump: the place x has the pc y -/
noncomputable def sy_tgt (code : List sy_E) (x y : Nat) : Bool := Nat.beq (sy_nth sy_e0 code x).1 y
noncomputable def sy_ck (cc : ByteArray) (own host : String) (ini : Bool) (nL : Nat) (code : List sy_E) (lw : List Cond) (pc z x y npc : Nat) : Bool := match z with
  | 0 => true
  | 1 => sy_dc cc pc (.iconst ((y : Int) - 1)) 1 npc && (decide (Int32.ofInt ((y : Int) - 1) = nI (x / 16)) && (Nat.beq (x % 16) 0 && Nat.ble x 1000000000000000000000))
  | 2 => sy_dc cc pc (.bipush ((y : Int) - 128)) 2 npc && (decide ((Int8.ofInt ((y : Int) - 128)).toInt32 = nI (x / 16)) && (Nat.beq (x % 16) 0 && Nat.ble x 1000000000000000000000))
  | 3 => sy_dc cc pc (.sipush ((y : Int) - 32768)) 3 npc && (decide ((Int16.ofInt ((y : Int) - 32768)).toInt32 = nI (x / 16)) && (Nat.beq (x % 16) 0 && Nat.ble x 1000000000000000000000))
  | 4 => sy_dc cc pc (.lconst (Fin.ofNat 2 y)) 1 npc && (decide (Int64.ofNat ((Fin.ofNat 2 y : Fin 2) : Nat) = lN (x / 16)) && (Nat.beq (x % 16) 1 && Nat.ble x 1000000000000000000000))
  | 5 => sy_dc cc pc .aconst_null 1 npc && Nat.beq x 4
  | 6 => sy_dc cc pc (.ldc y) 2 npc && (sy_wd lw (.constant own y (nI (x / 16))) && (Nat.beq (x % 16) 0 && Nat.ble x 1000000000000000000000))
  | 7 => sy_dc cc pc (.ldc_w y) 3 npc && (sy_wd lw (.constant own y (nI (x / 16))) && (Nat.beq (x % 16) 0 && Nat.ble x 1000000000000000000000))
  | 8 => sy_dc cc pc (.ldc2_w y) 3 npc && (sy_wd lw (.constantLong own y (lN (x / 16))) && (Nat.beq (x % 16) 1 && Nat.ble x 1000000000000000000000))
  | 9 => sy_dc cc pc (.fconst 0) 1 npc && Nat.beq x 2
  | 10 => sy_dc cc pc (.dconst 0) 1 npc && Nat.beq x 3
  | 11 => sy_dc cc pc (.iload x) 2 npc
  | 12 => sy_dc cc pc (.iload_n (Fin.ofNat 4 x)) 1 npc && Nat.ble x 3
  | 13 => sy_dc cc pc (.lload x) 2 npc
  | 14 => sy_dc cc pc (.lload_n (Fin.ofNat 4 x)) 1 npc && Nat.ble x 3
  | 15 => sy_dc cc pc (.aload x) 2 npc
  | 16 => sy_dc cc pc (.aload_n (Fin.ofNat 4 x)) 1 npc && Nat.ble x 3
  | 17 => sy_dc cc pc (.istore x) 2 npc && Nat.ble (Nat.succ x) nL
  | 18 => sy_dc cc pc (.istore_n (Fin.ofNat 4 x)) 1 npc && (Nat.ble x 3 && Nat.ble (Nat.succ x) nL)
  | 19 => sy_dc cc pc (.lstore x) 2 npc && Nat.ble (Nat.succ (Nat.succ x)) nL
  | 20 => sy_dc cc pc (.lstore_n (Fin.ofNat 4 x)) 1 npc && (Nat.ble x 3 && Nat.ble (Nat.succ (Nat.succ x)) nL)
  | 21 => sy_dc cc pc (.astore x) 2 npc && Nat.ble (Nat.succ x) nL
  | 22 => sy_dc cc pc (.astore_n (Fin.ofNat 4 x)) 1 npc && (Nat.ble x 3 && Nat.ble (Nat.succ x) nL)
  | 23 => sy_dc cc pc (.fstore x) 2 npc && Nat.ble (Nat.succ x) nL
  | 24 => sy_dc cc pc (.dstore x) 2 npc && Nat.ble (Nat.succ (Nat.succ x)) nL
  | 25 => sy_dc cc pc (.iinc x ((y : Int) - 32768)) 3 npc && decide (Int32.ofInt ((y : Int) - 32768) = nI (y + 4294934528))
  | 26 => sy_dc cc pc .iadd 1 npc
  | 27 => sy_dc cc pc .isub 1 npc
  | 28 => sy_dc cc pc .imul 1 npc
  | 29 => sy_dc cc pc .iand 1 npc
  | 30 => sy_dc cc pc .ladd 1 npc
  | 31 => sy_dc cc pc .lsub 1 npc
  | 32 => sy_dc cc pc .lmul 1 npc
  | 33 => sy_dc cc pc .i2l 1 npc
  | 34 => sy_dc cc pc .l2i 1 npc
  | 35 => sy_dc cc pc .i2c 1 npc
  | 36 => sy_dc cc pc .lcmp 1 npc
  | 37 => sy_dc cc pc .dup 1 npc
  | 38 => sy_dc cc pc .pop 1 npc
  | 39 => sy_dc cc pc (.ifCond .eq ((y : Int) - pc)) 3 npc && sy_tgt code x y
  | 40 => sy_dc cc pc (.ifCond .ne ((y : Int) - pc)) 3 npc && sy_tgt code x y
  | 41 => sy_dc cc pc (.ifCond .lt ((y : Int) - pc)) 3 npc && sy_tgt code x y
  | 42 => sy_dc cc pc (.ifCond .ge ((y : Int) - pc)) 3 npc && sy_tgt code x y
  | 43 => sy_dc cc pc (.ifCond .gt ((y : Int) - pc)) 3 npc && sy_tgt code x y
  | 44 => sy_dc cc pc (.ifCond .le ((y : Int) - pc)) 3 npc && sy_tgt code x y
  | 45 => sy_dc cc pc (.if_icmp .eq ((y : Int) - pc)) 3 npc && sy_tgt code x y
  | 46 => sy_dc cc pc (.if_icmp .ne ((y : Int) - pc)) 3 npc && sy_tgt code x y
  | 47 => sy_dc cc pc (.if_icmp .lt ((y : Int) - pc)) 3 npc && sy_tgt code x y
  | 48 => sy_dc cc pc (.if_icmp .ge ((y : Int) - pc)) 3 npc && sy_tgt code x y
  | 49 => sy_dc cc pc (.if_icmp .gt ((y : Int) - pc)) 3 npc && sy_tgt code x y
  | 50 => sy_dc cc pc (.if_icmp .le ((y : Int) - pc)) 3 npc && sy_tgt code x y
  | 51 => sy_dc cc pc (.if_acmp .eq ((y : Int) - pc)) 3 npc && sy_tgt code x y
  | 52 => sy_dc cc pc (.if_acmp .ne ((y : Int) - pc)) 3 npc && sy_tgt code x y
  | 53 => sy_dc cc pc (.ifnull ((y : Int) - pc)) 3 npc && sy_tgt code x y
  | 54 => sy_dc cc pc (.ifnonnull ((y : Int) - pc)) 3 npc && sy_tgt code x y
  | 55 => sy_dt cc pc (.goto ((y : Int) - pc)) 3 && sy_tgt code x y
  | 56 => sy_dt cc pc .ireturn 1
  | 57 => sy_dt cc pc .lreturn 1
  | 58 => sy_dt cc pc .areturn 1
  | 59 => sy_dt cc pc .freturn 1
  | 60 => sy_dt cc pc .dreturn 1
  | 61 => sy_dt cc pc .return_ 1
  | 62 => sy_dc cc pc (.getfield (y / 8)) 3 npc && (Nat.ble (x / 64) 15 && (Nat.ble (Nat.succ (x % 64)) (sy_cN (x / 64)) && (sy_wd lw (.fieldLink own (y / 8) (sy_fr (x / 64) (x % 64)).1 (sy_fr (x / 64) (x % 64)).2.1 (sy_fr (x / 64) (x % 64)).2.2.1))))
  | 63 => sy_dc cc pc (.getfield (y / 8)) 3 npc && (Nat.ble (x / 64) 15 && (Nat.ble (Nat.succ (x % 64)) (sy_cN (x / 64)) && (sy_wd lw (.fieldLinkNest own (y / 8) (sy_fr (x / 64) (x % 64)).1 (sy_fr (x / 64) (x % 64)).2.1 (sy_fr (x / 64) (x % 64)).2.2.1 host))))
  | 64 => sy_dc cc pc (.putfield (y / 8)) 3 npc && (Nat.ble (x / 64) 15 && (Nat.ble (Nat.succ (x % 64)) (sy_cN (x / 64)) && (sy_wd lw (.fieldLink own (y / 8) (sy_fr (x / 64) (x % 64)).1 (sy_fr (x / 64) (x % 64)).2.1 (sy_fr (x / 64) (x % 64)).2.2.1) && (decide ((parseFieldDescriptor (sy_fr (x / 64) (x % 64)).2.2.1).map sy_tyc = some (y % 8)) && decide ((sy_fr (x / 64) (x % 64)).2.2.2 = false)))))
  | 65 => sy_dc cc pc (.putfield (y / 8)) 3 npc && (Nat.ble (x / 64) 15 && (Nat.ble (Nat.succ (x % 64)) (sy_cN (x / 64)) && (sy_wd lw (.fieldLinkNest own (y / 8) (sy_fr (x / 64) (x % 64)).1 (sy_fr (x / 64) (x % 64)).2.1 (sy_fr (x / 64) (x % 64)).2.2.1 host) && (decide ((parseFieldDescriptor (sy_fr (x / 64) (x % 64)).2.2.1).map sy_tyc = some (y % 8)) && decide ((sy_fr (x / 64) (x % 64)).2.2.2 = false)))))
  | 66 => sy_dc cc pc (.putfield (y / 8)) 3 npc && (Nat.ble (x / 64) 15 && (Nat.ble (Nat.succ (x % 64)) (sy_cN (x / 64)) && (sy_wd lw (.fieldLink own (y / 8) (sy_fr (x / 64) (x % 64)).1 (sy_fr (x / 64) (x % 64)).2.1 (sy_fr (x / 64) (x % 64)).2.2.1) && (decide ((parseFieldDescriptor (sy_fr (x / 64) (x % 64)).2.2.1).map sy_tyc = some (y % 8)) && (decide ((sy_fr (x / 64) (x % 64)).2.2.2 = true) && (ini && decide ((sy_fr (x / 64) (x % 64)).1 = own)))))))
  | 67 => sy_dc cc pc (.new y) 3 npc && (Nat.ble x 15 && (sy_wd lw (.classLink own y (sy_cn x)) && (sy_wd lw (.instantiable (sy_cn x) (sy_cN x)) && sy_wd lw (.initialized (sy_cn x)))))
  | 68 => sy_dc cc pc (.newarray (sy_aty x)) 2 npc && (Nat.ble x 5 && sy_wd lw (.arrayClass (newarray.typeOf (sy_aty x))))
  | 69 => sy_dc cc pc (.anewarray y) 3 npc && (Nat.ble 6 x && (Nat.ble x 11 && sy_wd lw (.classLink own y (sy_an x))))
  | 70 => sy_dc cc pc .arraylength 1 npc
  | 71 => sy_dc cc pc .iaload 1 npc
  | 72 => sy_dc cc pc .laload 1 npc
  | 73 => sy_dc cc pc .aaload 1 npc
  | 74 => sy_dc cc pc .baload 1 npc
  | 75 => sy_dc cc pc .iastore 1 npc
  | 76 => sy_dc cc pc .lastore 1 npc
  | 77 => sy_dc cc pc .aastore 1 npc
  | 78 => sy_dc cc pc .castore 1 npc
  | 79 => sy_dc cc pc (.checkcast y) 3 npc && (Nat.beq x 0 && sy_wd lw (.classLink own y "[I"))
  | 85 => sy_dc cc pc (.invokevirtual y) 3 npc && (sy_wd lw (.methodLink own y ⟨"[I", "clone", "()Ljava/lang/Object;"⟩) && (sy_wd lw (.sameMethod "[I" "java/lang/Object" "clone" "()Ljava/lang/Object;") && (sy_wd lw (.native ⟨"java/lang/Object", "clone", "()Ljava/lang/Object;"⟩) && (sy_wd lw (.instanceMethod ⟨"java/lang/Object", "clone", "()Ljava/lang/Object;"⟩) && sy_wd lw (.selects "[I" ⟨"[I", "clone", "()Ljava/lang/Object;"⟩ ⟨"java/lang/Object", "clone", "()Ljava/lang/Object;"⟩)))))
  | 86 => sy_dc cc pc (.invokestatic y) 3 npc && (sy_wd lw (.methodLink own y arraycopyName) && (sy_wd lw (.native arraycopyName) && (sy_wd lw (.static arraycopyName) && sy_wd lw (.initialized "java/lang/System"))))
  | 87 => sy_dc cc pc (.multianewarray y 2) 4 npc && (Nat.beq x 12 && (sy_wd lw (.classLink own y ("[" ++ (FieldType.array .boolean).toString)) && sy_wd lw (.arrayClass .boolean)))
  | 91 => sy_dc cc pc (.invokespecial y) 3 npc && (sy_wd lw (.methodLink own y Lib.objectInit) && (sy_wd lw (.instanceMethod Lib.objectInit) && sy_wd lw (.code Lib.objectInit ⟨#[0xb1]⟩ 1 none)))
  | _ => true
end SYQ
