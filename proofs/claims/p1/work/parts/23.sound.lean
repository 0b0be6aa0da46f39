/-! the run of the abstract machine is the machine's own -/
section SYW
def sy_rf (d : Nat) : Nat := d + 20
def sy_rl (d : Nat) : Nat := 300 * (d + 1)
def sy_ri (y : Nat) : Instr := match y with
  | 1 => .lreturn
  | 2 => .areturn
  | 3 => .freturn
  | 4 => .dreturn
  | _ => .ireturn
/-- what a call leaves: the world grown, the rest as it was -/
def sy_Wq (w : sy_Wd) (A : Nat → Prop) (ρ : Nat → Nat) (n : Nat) (X : sy_X) (ρ' : Nat → Nat) (H : Heap) : Prop :=
  sy_ag n ρ ρ' ∧ n ≤ X.2.2.2.2.1.1 ∧ va_P w.1 sy_cl (sy_ws w ρ' X.2.2.2.2.1) H ∧ va_D A (sy_ws w ρ' X.2.2.2.2.1) ∧ sy_wfH X.2.2.2.2.1
def sy_Qc (w : sy_Wd) (A : Nat → Prop) (ρ : Nat → Nat) (n : Nat) (X : sy_X) : Array Value → State → Outcome → State → Prop := fun _ st o t =>
  ∃ ρ', sy_Wq w A ρ n X ρ' t.heap ∧ va_F A st t ∧ ((X.1 = 3 ∧ o = .returned none) ∨ (X.1 = 4 ∧ sy_wfV X.2.2.2.2.1.1 X.2.1 ∧ o = .returned (some (sy_v w ρ' X.2.1))))
def sy_XC (w : sy_Wd) (A : Nat → Prop) (ρ : Nat → Nat) (n : Nat) (X : sy_X) : String → State → State → Prop := fun E st t =>
  X.1 = 6 ∧ X.2.1 ≤ 5 ∧ E = sy_ex X.2.1 ∧ ∃ ρ', sy_Wq w A ρ n X ρ' t.heap ∧ va_F A st t
def sy_Pc (w : sy_Wd) (len : Nat) (ρ : Nat → Nat) (h : sy_H) (sz : Nat) (vals : List Nat) : Array Value → State → Prop := fun a U =>
  a = (vals.map (sy_v w ρ)).toArray ∧ U.heap.size = sz ∧ va_P w.1 sy_cl (sy_ws w ρ h) U.heap ∧ va_D (va_A (sy_ws w ρ h) sz) (sy_ws w ρ h) ∧ sy_GA w len (va_A (sy_ws w ρ h) sz) U U.heap
/-- the method i, as its frame stands -/
def sy_Ct (l : Launch) (p : Program) (R : Room) (s : State) (m : MethodId) (args : Array Value) (meth : Method) (c : Code) (w : sy_Wd) (A : Nat → Prop) (tk : sy_T) (len i d : Nat) : Prop :=
  p.tables.exec = Jvm.exec ∧ c.code = sy_ib i ∧ c.maxLocals = sy_il i ∧ s.vm.findClass (sy_im i).cls = some m.cls ∧ (∀ u ∈ sy_gtb, u.before args s = true) ∧ ((sy_im i).name = "<init>" → meth.name = "<init>") ∧ sy_GA w len A s s.heap ∧ (∀ q, s.heap.size ≤ q → A q) ∧ sy_TK tk w.2.2.1 ∧
  meth.locks = false ∧ meth.sig.returnType = sy_ir i ∧ (i ≠ 0 → c.exceptionTable.toList = tableOf (sy_hh i)) ∧ sy_rf d ≤ R.frames ∧ sy_rl d ≤ R.locals ∧ l.stackTraces = false ∧ (∀ u ∈ sy_iw i, u ∈ sy_tbl) ∧ sy_gd3 i = true ∧ sy_gd1 i = true
theorem sy_Ct.cx {l : Launch} {p : Program} {R : Room} {s : State} {m : MethodId} {args : Array Value} {meth : Method} {c : Code} {w : sy_Wd} {A : Nat → Prop} {tk : sy_T} {len i d : Nat} (h : sy_Ct l p R s m args meth c w A tk len i d) :
    sy_Cx p R s m args meth c w A tk len (sy_ib i) (sy_im i).cls (decide ((sy_im i).name = "<init>")) (sy_il i) (sy_iw i) := by
  obtain ⟨h1, h2, h3, h4, h5, h6, h7, h8, h9, h10, h11, h12, h13, h14, h15, h16, h17, h18⟩ := h
  refine ⟨h1, h2, h3, h4, sy_hts h5 h7.2.1, h16, fun q => h6 (of_decide_eq_true q), h7.1, h8, h9, ?_, ?_⟩
  · unfold sy_rf at h13
    omega
  · unfold sy_rl at h14
    omega
/-- the ends that a run may come to, and that the machine is to be led on from -/
def sy_En (p : Program) (l : Launch) (e : Env) (R : Room) (s : State) (m : MethodId) (args : Array Value) (below : List Frame) (meth : Method) (c : Code) (Q : State → Prop) (w : sy_Wd) (A : Nat → Prop) (i n : Nat) (ρ : Nat → Nat) (X : sy_X) : Prop :=
  ∀ (ρ' : Nat → Nat) (H' : Heap) (locs' : List Loc) (ls' : Array Slot) (pc' : Nat), sy_ag n ρ ρ' → n ≤ X.2.2.2.2.1.1 → sy_HP w A s.heap ρ' X.2.2.2.2.1 H' locs' → ls'.size = sy_il i →
    (X.1 = 3 → sy_ir i = none → decode (sy_ib i) pc' = .ok (.return_, 1) → W p l e R s m args below meth c H' locs' X.2.2.2.2.2.1 X.2.2.2.2.2.2 Q (F0 m pc' ls' [])) ∧
    (X.1 = 4 → sy_wfV X.2.2.2.2.1.1 X.2.1 → ∀ y, (sy_ir i).map sy_tyc = some y → sy_okf y X.2.1 = true → decode (sy_ib i) pc' = .ok (sy_ri y, 1) → W p l e R s m args below meth c H' locs' X.2.2.2.2.2.1 X.2.2.2.2.2.2 Q (F0 m pc' ls' [sy_v w ρ' X.2.1])) ∧
    (X.1 = 6 → X.2.1 ≤ 5 → sy_hh i = [] → ∀ (q : Addr) (ce : Cell) (st : List Value), H'[q]? = some ce → ce.vm = .none → s.vm.findClass (sy_ex X.2.1) = some ce.cls → vx_W p l e R s m args below meth c H' locs' X.2.2.2.2.2.1 X.2.2.2.2.2.2 Q (F0 m pc' ls' st) q) ∧
    (X.1 = 6 → ∀ (z y npc : Nat) (st : List Value), 88 ≤ z → z ≤ 89 → sy_ck2 i pc' z X.2.1 y npc = true → (st.map fun v => v.category).sum ≤ 50 → ∀ cells slots, cells + 1 = X.2.2.2.2.2.1 → slots + 6 = X.2.2.2.2.2.2 → W p l e R s m args below meth c H' locs' cells slots Q (F0 m pc' ls' st)) ∧
    (X.1 = 8 → ∀ (stC : List Value), sy_LP w ρ' (sy_il i) X.2.2.2.2.1.1 X.2.2.1 ls' → sy_SP w ρ' X.2.2.2.2.1.1 X.2.2.2.1 stC → W p l e R s m args below meth c H' locs' X.2.2.2.2.2.1 X.2.2.2.2.2.2 Q (F0 m X.2.1 ls' stC))
theorem sy_En.ag {p : Program} {l : Launch} {e : Env} {R : Room} {s : State} {m : MethodId} {args : Array Value} {below : List Frame} {meth : Method} {c : Code} {Q : State → Prop} {w : sy_Wd} {A : Nat → Prop} {i n n' : Nat} {ρ ρ' : Nat → Nat} {X : sy_X}
    (h : sy_En p l e R s m args below meth c Q w A i n ρ X) (ha : sy_ag n ρ ρ') (hn : n ≤ n') : sy_En p l e R s m args below meth c Q w A i n' ρ' X :=
  fun ρ2 H' locs' ls' pc' h1 h2 h3 h4 => h ρ2 H' locs' ls' pc' (ha.trans h1 hn) (Nat.le_trans hn h2) h3 h4
/-- what is proved by induction on the fuel -/
def sy_Sd (l : Launch) (w : sy_Wd) (tk : sy_T) (len fuel : Nat) : Prop :=
  ∀ (d i : Nat) (rest : List sy_E) (L : Nat) (st : List Nat) (h : sy_H) (cells slots : Nat) (X : sy_X), i ≤ 227 → sy_ckl i rest = true → sy_run tk len fuel d (sy_meth i) rest L st h cells slots = X → X.1 ≠ 0 →
  ∀ (p : Program) (e : Env) (R : Room) (s : State) (m : MethodId) (args : Array Value) (below : List Frame) (meth : Method) (c : Code) (Q : State → Prop) (A : Nat → Prop), sy_Ct l p R s m args meth c w A tk len i d → X.2.2.2.2.2.1 ≤ R.cells → X.2.2.2.2.2.2 ≤ R.slots →
  ∀ (ρ : Nat → Nat) (H : Heap) (locs : List Loc) (ls : Array Slot) (stC : List Value), sy_HP w A s.heap ρ h H locs → sy_LP w ρ (sy_il i) h.1 L ls → sy_SP w ρ h.1 st stC → sy_En p l e R s m args below meth c Q w A i h.1 ρ X →
    W p l e R s m args below meth c H locs cells slots Q (F0 m (sy_nth sy_e0 rest 0).1 ls stC)
theorem sy_ckl_drop {i : Nat} : ∀ (l : List sy_E) (n : Nat), sy_ckl i l = true → sy_ckl i (l.drop n) = true
  | [], n, h => by simpa using h
  | a :: l, 0, h => h
  | a :: l, n + 1, h => sy_ckl_drop l n (sy_and h).2
end SYW
