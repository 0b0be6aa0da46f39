/-! what is checked of the methods: calls, ends, throws, handlers -/
section SYV
noncomputable def sy_im (i : Nat) : MethodName := (sy_inf i).1
noncomputable def sy_ib (i : Nat) : ByteArray := (sy_inf i).2.1
noncomputable def sy_il (i : Nat) : Nat := (sy_inf i).2.2.1
noncomputable def sy_ir (i : Nat) : Option FieldType := (sy_inf i).2.2.2.1
noncomputable def sy_hh (i : Nat) : List (Nat × Nat × Nat × Nat) := (sy_inf i).2.2.2.2.1
noncomputable def sy_io (i : Nat) : String := (sy_inf i).2.2.2.2.2.1
noncomputable def sy_iw (i : Nat) : List Cond := (sy_inf i).2.2.2.2.2.2
def sy_ar (y : MethodName) : Option Nat := (parseMethodDescriptor y.desc).map (fun d => d.parameters.length)
def sy_sx (k : Nat) : Nat := match k with
  | 0 => 0
  | 1 => 1
  | 2 => 1
  | 3 => 2
  | 4 => 3
  | 5 => 4
  | 6 => 3
  | 7 => 1
  | 8 => 1
  | 9 => 1
  | 10 => 1
  | 11 => 1
  | 12 => 5
  | 13 => 2
  | 14 => 1
  | 15 => 3
  | _ => 1
def sy_xn : List String := ["java/lang/RuntimeException", "java/lang/Exception"]
/-- the offsets of the table that are asked for -/
def sy_off (lo hi d : Int) (offs : Array Int) (K : Nat) : Int := if (K : Int) < lo ∨ hi < (K : Int) then d else (offs[((K : Int) - lo).toNat]?).getD 0
noncomputable def sy_swk (code : List sy_E) (pc : Nat) (lo hi d : Int) (offs : Array Int) : Bool := decide (hi < lo + offs.size) && (List.range 64).all fun K => decide (((sy_nth sy_e0 code (sy_nth 0 sy_sw K)).1 : Int) = (pc : Int) + sy_off lo hi d offs K)
noncomputable def sy_ck2 (i pc z x y npc : Nat) : Bool := match z with
  | 56 => decide ((sy_ir i).map sy_tyc = some y) && (Nat.beq y 0 || (Nat.beq y 5 || Nat.beq y 6))
  | 57 => decide ((sy_ir i).map sy_tyc = some y) && Nat.beq y 1
  | 58 => decide ((sy_ir i).map sy_tyc = some y) && Nat.beq y 2
  | 59 => decide ((sy_ir i).map sy_tyc = some y) && Nat.beq y 3
  | 60 => decide ((sy_ir i).map sy_tyc = some y) && Nat.beq y 4
  | 61 => decide (sy_ir i = none)
  | 80 => sy_dc (sy_ib i) pc (.invokevirtual (y / 16)) 3 npc && (sy_wd (sy_iw i) (.methodLink (sy_im i).cls (y / 16) (sy_im x)) && (sy_wd (sy_iw i) (.instanceMethod (sy_im x)) && (sy_wd (sy_iw i) (.selects (sy_im x).cls (sy_im x) (sy_im x)) && (sy_wd (sy_iw i) (.initialized (sy_im x).cls) && (decide (sy_ar (sy_im x) = some (y % 16 - 1)) && (Nat.ble 1 (y % 16) &&
      (decide (sy_hh x = []) && (Nat.ble 1 (sy_meth x).2.2.2 && (Nat.ble (sy_meth x).2.2.2 16 && (decide (sy_cn (Nat.pred (sy_meth x).2.2.2) = (sy_im x).cls) && (Nat.ble 1 x && Nat.ble x 227)))))))))))
  | 82 => sy_dc (sy_ib i) pc (.invokespecial (y / 16)) 3 npc && (sy_wd (sy_iw i) (.methodLink (sy_im i).cls (y / 16) (sy_im x)) && (sy_wd (sy_iw i) (.instanceMethod (sy_im x)) && (sy_wd (sy_iw i) (.initialized (sy_im x).cls) && (decide (sy_ar (sy_im x) = some (y % 16 - 1)) && (Nat.ble 1 (y % 16) &&
      (decide (sy_hh x = []) && (decide ((sy_im x).name = "<init>") && (decide (sy_ir x = none) && (Nat.ble 1 (sy_meth x).2.2.2 && (Nat.ble 1 x && Nat.ble x 227))))))))))
  | 83 => sy_dc (sy_ib i) pc (.invokestatic (y / 16)) 3 npc && (sy_wd (sy_iw i) (.methodLink (sy_im i).cls (y / 16) (sy_im x)) && (sy_wd (sy_iw i) (.static (sy_im x)) && (sy_wd (sy_iw i) (.initialized (sy_im x).cls) && (decide (sy_ar (sy_im x) = some (y % 16)) &&
      (decide (sy_hh x = []) && (Nat.ble 1 x && Nat.ble x 227))))))
  | 84 => sy_dc (sy_ib i) pc (.invokestatic (y / 16)) 3 npc && (sy_wd (sy_iw i) (.methodLink (sy_im i).cls (y / 16) (sy_im x)) && (sy_wd (sy_iw i) (.static (sy_im x)) && (sy_wd (sy_iw i) (.initialized (sy_im x).cls) && (decide (sy_ar (sy_im x) = some (y % 16)) &&
      (decide (sy_hh x ≠ []) && (Nat.ble 1 x && Nat.ble x 227))))))
  | 88 => sy_dt (sy_ib i) pc (.new (sy_sit y).1) 3 && (sy_dt (sy_ib i) (pc + 3) .dup 1 && (sy_dt (sy_ib i) (pc + 4) (.ldc (sy_sit y).2.1) 2 && (sy_dt (sy_ib i) (pc + 6) (.invokespecial (sy_sit y).2.2.1) 3 && (sy_dt (sy_ib i) (pc + 9) .athrow 1 &&
      (sy_wd (sy_iw i) (.classLink (sy_im i).cls (sy_sit y).1 (sy_ex x)) && (sy_wd (sy_iw i) (.initialized (sy_ex x)) && (decide ((sy_im i).cls = "Manypens") && (Nat.ble y 16 && (Nat.beq x (sy_sx y) && decide (sy_hh i = []))))))))))
  | 89 => sy_dt (sy_ib i) pc (.new (sy_sit y).1) 3 && (sy_dt (sy_ib i) (pc + 3) .dup 1 && (sy_dt (sy_ib i) (pc + 4) (.ldc_w (sy_sit y).2.1) 3 && (sy_dt (sy_ib i) (pc + 7) (.invokespecial (sy_sit y).2.2.1) 3 && (sy_dt (sy_ib i) (pc + 10) .athrow 1 &&
      (sy_wd (sy_iw i) (.classLink (sy_im i).cls (sy_sit y).1 (sy_ex x)) && (sy_wd (sy_iw i) (.initialized (sy_ex x)) && (decide ((sy_im i).cls = "Manypens") && (Nat.ble y 16 && (Nat.beq x (sy_sx y) && decide (sy_hh i = []))))))))))
  | 90 => match decode (sy_ib i) pc with
    | .ok (.tableswitch d lo hi offs, _) => sy_swk (sy_meth i).1 pc lo hi d offs
    | _ => false
  | 81 => false
  | _ => true
noncomputable def sy_cke (i : Nat) (e : sy_E) (npc : Nat) : Bool := sy_ck (sy_ib i) (sy_im i).cls (sy_io i) (decide ((sy_im i).name = "<init>")) (sy_il i) (sy_meth i).1 (sy_iw i) e.1 e.2.1 e.2.2.1 e.2.2.2 npc && sy_ck2 i e.1 e.2.1 e.2.2.1 e.2.2.2 npc
noncomputable def sy_ckl (i : Nat) (l : List sy_E) : Bool := List.rec (motive := fun _ => Bool) true (fun e k r => cond (sy_cke i e (sy_nth sy_e0 k 0).1) r false) l
/-- a handler's row: abstract, and as the tables have it -/
noncomputable def sy_ckh (i : Nat) (a b : Nat × Nat × Nat × Nat) : Bool := Nat.beq a.1 b.1 && (Nat.beq a.2.1 b.2.1 && (Nat.beq (sy_nth sy_e0 (sy_meth i).1 a.2.2.1).1 b.2.2.1 && (decide (b.2.2.2 ≠ 0) && (Nat.ble a.2.2.2 5 && (Nat.beq (sy_nth sy_e0 (sy_meth i).1 (Nat.add a.2.2.1 2)).2.2.2 0 && sy_wd (sy_iw i) (.classLink (sy_im i).cls b.2.2.2 (sy_ex a.2.2.2)))))))
noncomputable def sy_cw (i : Nat) : Cond := match sy_hh i with
  | [] => .code (sy_im i) (sy_ib i) (sy_il i) (sy_ir i)
  | h :: t => .codeWith (sy_im i) (sy_ib i) (sy_il i) (sy_ir i) (h :: t)
/-- all that is checked of a method -/
noncomputable def sy_gd1 (i : Nat) : Bool := sy_ckl i (sy_meth i).1
noncomputable def sy_gd2 (i : Nat) : Bool := (sy_iw i).all fun u => decide (u ∈ lw_tbl) && (goodWord u || sy_isN u)
noncomputable def sy_gd3 (i : Nat) : Bool := Nat.beq (sy_meth i).2.1 (sy_il i) && (Nat.beq (sy_nth sy_e0 (sy_meth i).1 0).1 0 && (Nat.ble (sy_il i) 100 && (decide ((sy_meth i).2.2.1.length = (sy_hh i).length) && (((sy_meth i).2.2.1.zip (sy_hh i)).all (fun q => sy_ckh i q.1 q.2) &&
  (plainFor (sy_im i) && (decide ((sy_im i).cls ≠ "java/lang/invoke/MethodHandle") && decide ((sy_im i).cls ≠ "java/lang/invoke/VarHandle")))))))
noncomputable def sy_gd4 (i : Nat) : Bool := decide (sy_cw i ∈ lw_tbl) && goodWord (sy_cw i)
noncomputable def sy_rg (f : Nat → Bool) (a n : Nat) : Bool := Nat.rec (motive := fun _ => Bool) true (fun k r => cond (f (Nat.add a k)) r false) n
end SYV
