/-! comparisons, conversions, references -/
section SYO2
variable {p : Program} {l : Launch} {e : Env} {R : Room} {s : State} {m : MethodId} {args : Array Value} {below : List Frame} {meth : Method} {c : Code} {Q : State → Prop} {w : sy_Wd} {A : Nat → Prop} {nL pc npc tpc : Nat} {tk : sy_T}
theorem sy_p2_inv {st : List Nat} {f : Nat → Nat → List Nat → sy_X} {Y : sy_X} (h : (sy_p1 st fun b r => sy_p1 r fun a r => f a b r) = Y) (hk : Y.1 ≠ 0) : ∃ a b r, st = b :: a :: r ∧ f a b r = Y := by
  obtain ⟨b, r, e1, q1⟩ := sy_p1_inv h hk
  obtain ⟨a, r2, e2, q2⟩ := sy_p1_inv q1 hk
  subst e2
  exact ⟨a, b, r2, e1, q2⟩
theorem sy_SPc2 {ρ : Nat → Nat} {n a b : Nat} {r : List Nat} {stC : List Value} (h : sy_SP w ρ n (b :: a :: r) stC) : stC = sy_v w ρ b :: sy_v w ρ a :: r.map (sy_v w ρ) ∧ sy_wfV n b ∧ sy_wfV n a ∧ ∀ u ∈ r, sy_wfV n u :=
  ⟨h.1, h.2 b List.mem_cons_self, h.2 a (List.mem_cons_of_mem _ List.mem_cons_self), fun u hu => h.2 u (List.mem_cons_of_mem _ (List.mem_cons_of_mem _ hu))⟩
theorem sy_py_lt {n v : Nat} (h : sy_wfV n v) : sy_py v < 2 ^ 67 := by
  have := h.1
  show v / 16 < _
  omega
theorem sy_ok_iand {x y : Nat} (hT : sy_TK tk w.2.2.1) (hs : ∀ (ls : Array Slot) (st : List Value) (a b : Int32), sy_ST p l e R s m args below meth c Q pc npc ls (.int b :: .int a :: st) (.int (a &&& b) :: st)) :
    sy_OK p l e R s m args below meth c Q w A nL pc npc tpc (sy_iand tk x y) := by
  intro L st h cells slots Y hY hk hc hsl ρ H locs ls stC hH hL hS kk
  have hk0 : Y.1 ≠ 0 := by omega
  obtain ⟨a, b, r, e1, q1⟩ := sy_p2_inv hY hk0
  subst e1
  obtain ⟨hS1, hvb, hva, hr⟩ := sy_SPc2 hS
  subst hS1
  rcases sy_cond_inv q1 with ⟨c1, q2⟩ | ⟨c1, q2⟩
  · obtain ⟨h1, h2⟩ := sy_if_inv q2 hk0
    rw [sy_force_eq] at h2
    subst h2
    have ha := sy_beq c1
    have hb := sy_beq h1
    have hw : sy_wfV h.1 (sy_pk 0 (Nat.land (sy_py a) (sy_py b))) := by
      refine ⟨?_, fun q => ?_⟩
      · have h1 := hva.1
        have h2 : Nat.land (sy_py a) (sy_py b) ≤ sy_py a := Nat.and_le_left
        have h3 : sy_py a = a / 16 := rfl
        show 16 * Nat.land (sy_py a) (sy_py b) + 0 < 2 ^ 71
        omega
      · rw [sy_tg_pk (by decide)] at q
        cases q
    have K := kk ρ H locs ls _ sy_ag.rf (Nat.le_refl _) hH hL (sy_SPm hw hr)
    rw [sy_v0 (sy_tg_pk (by decide)), sy_py_pk (by decide)] at K
    rw [sy_v0 ha, sy_v0 hb]
    refine hs ls _ _ _ _ _ _ _ ?_
    rw [sy_land]
    exact K
  · obtain ⟨h1, h2⟩ := sy_if_inv q2 hk0
    rw [sy_force_eq] at h2
    subst h2
    obtain ⟨h1, h3⟩ := sy_and h1
    obtain ⟨h3, h4⟩ := sy_and h3
    have ha := sy_beq h1
    have hb : b = 1008 := sy_beq h3
    subst hb
    obtain ⟨t1, t2⟩ := (hT (sy_py a)).2.2 (sy_beq h4)
    have hw : sy_wfV h.1 (sy_pk 0 (sy_tok tk (sy_py a)).2.1) := sy_wfV_pk (by decide) (fun q => by cases q) (by omega)
    have K := kk ρ H locs ls _ sy_ag.rf (Nat.le_refl _) hH hL (sy_SPm hw hr)
    rw [sy_v0 (sy_tg_pk (by decide)), sy_py_pk (by decide), ← t1] at K
    rw [sy_v6 ha, sy_v0 (v := 1008) rfl]
    exact hs ls _ _ _ _ _ _ _ K
theorem sy_ext (m : Nat) : cond (Nat.ble 2147483648 m) (Nat.add m 18446744069414584320) m = if 2147483648 ≤ m then m + 18446744069414584320 else m := by
  by_cases hm : 2147483648 ≤ m
  · rw [if_pos hm, Nat.ble_eq_true_of_le hm]
    rfl
  · rw [if_neg hm]
    cases hb : Nat.ble 2147483648 m with
    | true => exact absurd (Nat.le_of_ble_eq_true hb) hm
    | false => rfl
theorem sy_i2l_eq' (n : Nat) : (nI n).toInt64 = lN (if 2147483648 ≤ Nat.mod n 4294967296 then Nat.mod n 4294967296 + 18446744069414584320 else Nat.mod n 4294967296) := sy_i2l_eq n
theorem sy_ok_i2l {x y : Nat} (hs : ∀ (ls : Array Slot) (st : List Value) (a : Int32), sy_ST p l e R s m args below meth c Q pc npc ls (.int a :: st) (.long a.toInt64 :: st)) :
    sy_OK p l e R s m args below meth c Q w A nL pc npc tpc (sy_i2l tk x y) := by
  intro L st h cells slots Y hY hk hc hsl ρ H locs ls stC hH hL hS kk
  have hk0 : Y.1 ≠ 0 := by omega
  obtain ⟨a, r, e1, q1⟩ := sy_p1_inv hY hk0
  subst e1
  obtain ⟨hS1, hva, hr⟩ := sy_SPc hS
  subst hS1
  rcases sy_cond_inv q1 with ⟨c1, q2⟩ | ⟨c1, q2⟩
  · rw [sy_force_eq] at q2
    subst q2
    have ha := sy_beq c1
    have he := sy_ext (Nat.mod (sy_py a) 4294967296)
    have hm : Nat.mod (sy_py a) 4294967296 < 4294967296 := Nat.mod_lt _ (by decide)
    have hw : sy_wfV h.1 (sy_pk 1 (cond (Nat.ble 2147483648 (Nat.mod (sy_py a) 4294967296)) (Nat.add (Nat.mod (sy_py a) 4294967296) 18446744069414584320) (Nat.mod (sy_py a) 4294967296))) :=
      sy_wfV_pk (by decide) (fun q => by cases q) (by rw [he]; split <;> omega)
    have K := kk ρ H locs ls _ sy_ag.rf (Nat.le_refl _) hH hL (sy_SPm hw hr)
    rw [sy_v1 (sy_tg_pk (by decide)), sy_py_pk (by decide), he, ← sy_i2l_eq'] at K
    rw [sy_v0 ha]
    exact hs ls _ _ _ _ _ _ K
  · obtain ⟨h1, h2⟩ := sy_if_inv q2 hk0
    rw [sy_force_eq] at h2
    subst h2
    have ha : a % 16 = 6 := sy_beq h1
    have t7 : sy_tg (Nat.succ a) = 7 := by
      show (a + 1) % 16 = 7
      omega
    have p7 : sy_py (Nat.succ a) = sy_py a := by
      show (a + 1) / 16 = a / 16
      omega
    have hw : sy_wfV h.1 (Nat.succ a) := ⟨by have := hva.1; show a + 1 < 2 ^ 71; omega, fun q => by rw [t7] at q; cases q⟩
    have K := kk ρ H locs ls _ sy_ag.rf (Nat.le_refl _) hH hL (sy_SPm hw hr)
    rw [sy_v7 t7, p7] at K
    rw [sy_v6 ha]
    exact hs ls _ _ _ _ _ _ K
theorem sy_ok_l2i {x y : Nat} (hs : ∀ (ls : Array Slot) (st : List Value) (a : Int64), sy_ST p l e R s m args below meth c Q pc npc ls (.long a :: st) (.int a.toInt32 :: st)) :
    sy_OK p l e R s m args below meth c Q w A nL pc npc tpc (sy_l2i tk x y) := by
  intro L st h cells slots Y hY hk hc hsl ρ H locs ls stC hH hL hS kk
  have hk0 : Y.1 ≠ 0 := by omega
  obtain ⟨a, r, e1, q1⟩ := sy_p1_inv hY hk0
  subst e1
  obtain ⟨hS1, hva, hr⟩ := sy_SPc hS
  subst hS1
  obtain ⟨h1, h2⟩ := sy_if_inv q1 hk0
  rw [sy_force_eq] at h2
  subst h2
  have K := kk ρ H locs ls _ sy_ag.rf (Nat.le_refl _) hH hL (sy_SPm (sy_wfV_pk (by decide) (fun q => by cases q) (Nat.lt_trans (Nat.mod_lt _ (by decide)) (by decide))) hr)
  rw [sy_v0 (sy_tg_pk (by decide)), sy_py_pk (by decide)] at K
  rw [sy_v1 (sy_beq h1)]
  refine hs ls _ _ _ _ _ _ ?_
  rw [sy_l2i_eq]
  exact K
theorem sy_ch_nI (n : Nat) : sy_ch (nI n) = nI (n % 65536) := by
  show (⟨UInt32.ofNat n % 65536⟩ : Int32) = ⟨UInt32.ofNat (n % 65536)⟩
  congr 1
  apply UInt32.toNat_inj.mp
  rw [UInt32.toNat_mod, UInt32.toNat_ofNat', UInt32.toNat_ofNat']
  have e : (65536 : UInt32).toNat = 65536 := rfl
  rw [e]
  omega
theorem sy_ok_i2c {x y : Nat} (hT : sy_TK tk w.2.2.1) (hs : ∀ (ls : Array Slot) (st : List Value) (a : Int32), sy_ST p l e R s m args below meth c Q pc npc ls (.int a :: st) (.int (sy_ch a) :: st)) :
    sy_OK p l e R s m args below meth c Q w A nL pc npc tpc (sy_i2c tk x y) := by
  intro L st h cells slots Y hY hk hc hsl ρ H locs ls stC hH hL hS kk
  have hk0 : Y.1 ≠ 0 := by omega
  obtain ⟨a, r, e1, q1⟩ := sy_p1_inv hY hk0
  subst e1
  obtain ⟨hS1, hva, hr⟩ := sy_SPc hS
  subst hS1
  rcases sy_cond_inv q1 with ⟨c1, q2⟩ | ⟨c1, q2⟩
  · rw [sy_force_eq] at q2
    subst q2
    have ha := sy_beq c1
    have K := kk ρ H locs ls _ sy_ag.rf (Nat.le_refl _) hH hL (sy_SPm (sy_wfV_pk (by decide) (fun q => by cases q) (Nat.lt_trans (Nat.mod_lt _ (by decide)) (by decide))) hr)
    rw [sy_v0 (sy_tg_pk (by decide)), sy_py_pk (by decide)] at K
    rw [sy_v0 ha]
    refine hs ls _ _ _ _ _ _ ?_
    rw [sy_ch_nI]
    exact K
  · obtain ⟨h1, h2⟩ := sy_if_inv q2 hk0
    obtain ⟨h1, h3⟩ := sy_and h1
    have ha : sy_tg a = 6 := sy_beq h1
    have hb := (hT (sy_py a)).2.1 (sy_beq h3)
    have hb2 := sy_ch_k (w.2.2.1 (sy_py a))
    rw [sy_v6 ha]
    rcases sy_cond_inv h2 with ⟨c2, q3⟩ | ⟨c2, q3⟩
    · rw [sy_force_eq] at q3
      subst q3
      have e2 := sy_beq c2
      have hlo : Nat.sub (sy_tok tk (sy_py a)).2.1 2147483648 = (sy_tok tk (sy_py a)).2.1 - 2147483648 := rfl
      have K := kk ρ H locs ls _ sy_ag.rf (Nat.le_refl _) hH hL (sy_SPm (sy_wfV_pk (by decide) (fun q => by cases q) (by rw [hlo]; omega)) hr)
      rw [sy_v0 (sy_tg_pk (by decide)), sy_py_pk (by decide)] at K
      have e3 : sy_ch (w.2.2.1 (sy_py a)) = nI (Nat.sub (sy_tok tk (sy_py a)).2.1 2147483648) := by
        rw [sy_k_eq, sy_k_nI, hlo]
        omega
      refine hs ls _ _ _ _ _ _ ?_
      rw [e3]
      exact K
    · rw [sy_force_eq] at q3
      subst q3
      have ha6 : a % 16 = 6 := ha
      have t8 : sy_tg (Nat.add a 2) = 8 := by
        show (a + 2) % 16 = 8
        omega
      have p8 : sy_py (Nat.add a 2) = sy_py a := by
        show (a + 2) / 16 = a / 16
        omega
      have hw : sy_wfV h.1 (Nat.add a 2) := ⟨by have := hva.1; show a + 2 < 2 ^ 71; omega, fun q => by rw [t8] at q; cases q⟩
      have K := kk ρ H locs ls _ sy_ag.rf (Nat.le_refl _) hH hL (sy_SPm hw hr)
      rw [sy_v8 t8, p8] at K
      exact hs ls _ _ _ _ _ _ K
/-- what q says of two ints -/
def sy_dec (w : sy_Wd) (tk : sy_T) (q : sy_T → Nat → Nat → Nat) (P : Int32 → Int32 → Prop) : Prop := ∀ (ρ : Nat → Nat) (a b : Nat) (x y : Int32), sy_v w ρ a = .int x → sy_v w ρ b = .int y → (q tk a b = 1 → P x y) ∧ (q tk a b = 0 → ¬ P x y)
theorem sy_dec_lt (hT : sy_TK tk w.2.2.1) : sy_dec w tk sy_lt (fun x y => x < y) := fun ρ a b x y ha hb => by
  have h := sy_lt_ok (tk := tk) (sy_iv_i hT ha) (sy_iv_i hT hb)
  exact ⟨fun q => sy_k_lt.mpr (h.1 q), fun q z => h.2 q (sy_k_lt.mp z)⟩
theorem sy_dec_gt (hT : sy_TK tk w.2.2.1) : sy_dec w tk sy_gt (fun x y => y < x) := fun ρ a b x y ha hb => by
  have h := sy_lt_ok (tk := tk) (sy_iv_i hT hb) (sy_iv_i hT ha)
  exact ⟨fun q => sy_k_lt.mpr (h.1 q), fun q z => h.2 q (sy_k_lt.mp z)⟩
theorem sy_dec_eq (hT : sy_TK tk w.2.2.1) : sy_dec w tk sy_eq (fun x y => x = y) := fun ρ a b x y ha hb => by
  have h := sy_eq_ok (tk := tk) (sy_iv_i hT ha) (sy_iv_i hT hb)
  exact ⟨fun q => sy_k_eq.mpr (h.1 q), fun q z => h.2 q (sy_k_eq.mp z)⟩
theorem sy_ok_icmp {q : sy_T → Nat → Nat → Nat} {P : Int32 → Int32 → Prop} (neg : Bool) {x y : Nat} (hq : sy_dec w tk q P)
    (hs : ∀ (H : Heap) (locs : List Loc) (cells slots : Nat) (ls : Array Slot) (st : List Value) (a b : Int32), (cond neg (¬ P a b) (P a b) → W p l e R s m args below meth c H locs cells slots Q (F0 m tpc ls st)) → (cond neg (P a b) (¬ P a b) → W p l e R s m args below meth c H locs cells slots Q (F0 m npc ls st)) → W p l e R s m args below meth c H locs cells slots Q (F0 m pc ls (.int b :: .int a :: st))) :
    sy_OK p l e R s m args below meth c Q w A nL pc npc tpc (sy_icmp q neg tk x y) := by
  intro L st h cells slots Y hY hk hc hsl ρ H locs ls stC hH hL hS kk
  have hk0 : Y.1 ≠ 0 := by omega
  obtain ⟨a, b, r, e1, q1⟩ := sy_p2_inv hY hk0
  subst e1
  obtain ⟨hS1, hvb, hva, hr⟩ := sy_SPc2 hS
  subst hS1
  obtain ⟨h1, h2⟩ := sy_if_inv q1 hk0
  obtain ⟨h1, h3⟩ := sy_and h1
  obtain ⟨va, ea⟩ := sy_vi_ex (w := w) (ρ := ρ) (sy_beq h1)
  obtain ⟨vb, eb⟩ := sy_vi_ex (w := w) (ρ := ρ) (sy_beq h3)
  obtain ⟨d1, d2⟩ := hq ρ a b va vb ea eb
  rw [ea, eb]
  rcases sy_fork_inv h2 hk0 with ⟨r1, q2⟩ | ⟨r1, q2⟩
  · have hP := d1 r1
    cases neg with
    | true =>
      have q2 : sy_go L r h cells slots = Y := q2
      subst q2
      exact hs _ _ _ _ _ _ _ _ (fun z => absurd hP z) (fun _ => kk ρ H locs ls _ sy_ag.rf (Nat.le_refl _) hH hL ⟨rfl, hr⟩)
    | false =>
      have q2 : sy_jmp x L r h cells slots = Y := q2
      subst q2
      exact hs _ _ _ _ _ _ _ _ (fun _ => kk ρ H locs ls _ sy_ag.rf (Nat.le_refl _) hH hL ⟨rfl, hr⟩) (fun z => absurd hP z)
  · have hP := d2 r1
    cases neg with
    | true =>
      have q2 : sy_jmp x L r h cells slots = Y := q2
      subst q2
      exact hs _ _ _ _ _ _ _ _ (fun _ => kk ρ H locs ls _ sy_ag.rf (Nat.le_refl _) hH hL ⟨rfl, hr⟩) (fun z => absurd z hP)
    | false =>
      have q2 : sy_go L r h cells slots = Y := q2
      subst q2
      exact hs _ _ _ _ _ _ _ _ (fun z => absurd z hP) (fun _ => kk ρ H locs ls _ sy_ag.rf (Nat.le_refl _) hH hL ⟨rfl, hr⟩)
theorem sy_ok_ifc {q : sy_T → Nat → Nat → Nat} {P : Int32 → Int32 → Prop} (neg : Bool) {x y : Nat} (hq : sy_dec w tk q P)
    (hs : ∀ (H : Heap) (locs : List Loc) (cells slots : Nat) (ls : Array Slot) (st : List Value) (a : Int32), (cond neg (¬ P a 0) (P a 0) → W p l e R s m args below meth c H locs cells slots Q (F0 m tpc ls st)) → (cond neg (P a 0) (¬ P a 0) → W p l e R s m args below meth c H locs cells slots Q (F0 m npc ls st)) → W p l e R s m args below meth c H locs cells slots Q (F0 m pc ls (.int a :: st))) :
    sy_OK p l e R s m args below meth c Q w A nL pc npc tpc (sy_ifc q neg tk x y) := by
  intro L st h cells slots Y hY hk hc hsl ρ H locs ls stC hH hL hS kk
  have hk0 : Y.1 ≠ 0 := by omega
  obtain ⟨a, r, e1, q1⟩ := sy_p1_inv hY hk0
  subst e1
  obtain ⟨hS1, hva, hr⟩ := sy_SPc hS
  subst hS1
  obtain ⟨h1, h2⟩ := sy_if_inv q1 hk0
  obtain ⟨h1, h3⟩ := sy_and h1
  obtain ⟨va, ea⟩ := sy_vi_ex (w := w) (ρ := ρ) (sy_beq h1)
  have eb : sy_v w ρ 0 = .int 0 := sy_v0 (v := 0) rfl
  obtain ⟨d1, d2⟩ := hq ρ a 0 va 0 ea eb
  rw [ea]
  rcases sy_fork_inv h2 hk0 with ⟨r1, q2⟩ | ⟨r1, q2⟩
  · have hP := d1 r1
    cases neg with
    | true =>
      have q2 : sy_go L r h cells slots = Y := q2
      subst q2
      exact hs _ _ _ _ _ _ _ (fun z => absurd hP z) (fun _ => kk ρ H locs ls _ sy_ag.rf (Nat.le_refl _) hH hL ⟨rfl, hr⟩)
    | false =>
      have q2 : sy_jmp x L r h cells slots = Y := q2
      subst q2
      exact hs _ _ _ _ _ _ _ (fun _ => kk ρ H locs ls _ sy_ag.rf (Nat.le_refl _) hH hL ⟨rfl, hr⟩) (fun z => absurd hP z)
  · have hP := d2 r1
    cases neg with
    | true =>
      have q2 : sy_jmp x L r h cells slots = Y := q2
      subst q2
      exact hs _ _ _ _ _ _ _ (fun _ => kk ρ H locs ls _ sy_ag.rf (Nat.le_refl _) hH hL ⟨rfl, hr⟩) (fun z => absurd z hP)
    | false =>
      have q2 : sy_go L r h cells slots = Y := q2
      subst q2
      exact hs _ _ _ _ _ _ _ (fun z => absurd z hP) (fun _ => kk ρ H locs ls _ sy_ag.rf (Nat.le_refl _) hH hL ⟨rfl, hr⟩)
theorem sy_ok_lcmp {x y : Nat} (hT : sy_TK tk w.2.2.1) (hs : ∀ (ls : Array Slot) (st : List Value) (a b : Int64), sy_ST p l e R s m args below meth c Q pc npc ls (.long b :: .long a :: st) (.int (lg_cmp a b) :: st)) :
    sy_OK p l e R s m args below meth c Q w A nL pc npc tpc (sy_lcmp tk x y) := by
  intro L st h cells slots Y hY hk hc hsl ρ H locs ls stC hH hL hS kk
  have hk0 : Y.1 ≠ 0 := by omega
  obtain ⟨a, b, r, e1, q1⟩ := sy_p2_inv hY hk0
  subst e1
  obtain ⟨hS1, hvb, hva, hr⟩ := sy_SPc2 hS
  subst hS1
  obtain ⟨h1, h2⟩ := sy_if_inv q1 hk0
  obtain ⟨h1, h3⟩ := sy_and h1
  obtain ⟨va, ea⟩ := sy_vl_ex (w := w) (ρ := ρ) (sy_beq h1)
  obtain ⟨vb, eb⟩ := sy_vl_ex (w := w) (ρ := ρ) (sy_beq h3)
  have d1 := sy_lt_ok (tk := tk) (sy_iv_l hT ea) (sy_iv_l hT eb)
  have d2 := sy_lt_ok (tk := tk) (sy_iv_l hT eb) (sy_iv_l hT ea)
  rw [ea, eb]
  have fin : ∀ v : Nat, sy_tg v = 0 → v < 2 ^ 71 → nI (sy_py v) = lg_cmp va vb → sy_go L (v :: r) h cells slots = Y → W p l e R s m args below meth c H locs cells slots Q (F0 m pc ls (.long vb :: .long va :: r.map (sy_v w ρ))) := by
    intro v hv hv2 he hg
    subst hg
    have K := kk ρ H locs ls _ sy_ag.rf (Nat.le_refl _) hH hL (sy_SPm ⟨hv2, fun q => by rw [hv] at q; cases q⟩ hr)
    rw [sy_v0 hv, he] at K
    exact hs ls _ _ _ _ _ _ _ K
  rcases sy_fork_inv h2 hk0 with ⟨r1, q2⟩ | ⟨r1, q2⟩
  · have hP := sy_kl_lt.mpr (d1.1 r1)
    exact fin 68719476720 rfl (by decide) (by
      have h9 : ¬ vb < va := fun z => by have := sy_kl_lt.mp z; have := sy_kl_lt.mp hP; omega
      have h8 : ¬ va = vb := fun z => by rw [z] at hP; have := sy_kl_lt.mp hP; omega
      simp [lg_cmp, h9, h8]
      first | rfl | decide) q2
  · have hP := fun z => d1.2 r1 (sy_kl_lt.mp z)
    rcases sy_fork_inv q2 hk0 with ⟨r2, q3⟩ | ⟨r2, q3⟩
    · have hP2 := sy_kl_lt.mpr (d2.1 r2)
      exact fin 16 rfl (by decide) (by simp [lg_cmp, hP2]; first | rfl | decide) q3
    · have hP2 := fun z => d2.2 r2 (sy_kl_lt.mp z)
      exact fin 0 rfl (by decide) (by
        have h8 : va = vb := by
          apply Int64.toInt_inj.mp
          have n1 := d1.2 r1
          have n2 := d2.2 r2
          have k1 := Int64.le_toInt va
          have k2 := Int64.le_toInt vb
          unfold sy_kl at n1 n2
          omega
        simp [lg_cmp, hP2, h8]
        first | rfl | decide) q3
theorem sy_ok_dup {x y : Nat} (hs : ∀ (ls : Array Slot) (st : List Value) (a : Value), a.category = 1 → sy_ST p l e R s m args below meth c Q pc npc ls (a :: st) (a :: a :: st)) : sy_OK p l e R s m args below meth c Q w A nL pc npc tpc (sy_dup tk x y) := by
  intro L st h cells slots Y hY hk hc hsl ρ H locs ls stC hH hL hS kk
  have hk0 : Y.1 ≠ 0 := by omega
  obtain ⟨a, r, e1, q1⟩ := sy_p1_inv hY hk0
  subst e1
  obtain ⟨hS1, hva, hr⟩ := sy_SPc hS
  obtain ⟨h1, h2⟩ := sy_if_inv q1 hk0
  subst h2
  have K := kk ρ H locs ls _ sy_ag.rf (Nat.le_refl _) hH hL (sy_SPm hva hS.2)
  subst hS1
  exact hs ls _ _ (sy_ct_cat'.trans (sy_beq h1)) _ _ _ _ K
theorem sy_ok_pop {x y : Nat} (hs : ∀ (ls : Array Slot) (st : List Value) (a : Value), a.category = 1 → sy_ST p l e R s m args below meth c Q pc npc ls (a :: st) st) : sy_OK p l e R s m args below meth c Q w A nL pc npc tpc (sy_pop tk x y) := by
  intro L st h cells slots Y hY hk hc hsl ρ H locs ls stC hH hL hS kk
  have hk0 : Y.1 ≠ 0 := by omega
  obtain ⟨a, r, e1, q1⟩ := sy_p1_inv hY hk0
  subst e1
  obtain ⟨hS1, hva, hr⟩ := sy_SPc hS
  obtain ⟨h1, h2⟩ := sy_if_inv q1 hk0
  subst h2
  subst hS1
  exact hs ls _ _ (sy_ct_cat'.trans (sy_beq h1)) _ _ _ _ (kk ρ H locs ls _ sy_ag.rf (Nat.le_refl _) hH hL ⟨rfl, hr⟩)
theorem sy_ok_goto {x y : Nat} (hs : ∀ (ls : Array Slot) (st : List Value), sy_ST p l e R s m args below meth c Q pc tpc ls st st) : sy_OK p l e R s m args below meth c Q w A nL pc npc tpc (sy_goto tk x y) := by
  intro L st h cells slots Y hY hk hc hsl ρ H locs ls stC hH hL hS kk
  subst hY
  exact hs ls _ _ _ _ _ (kk ρ H locs ls _ sy_ag.rf (Nat.le_refl _) hH hL hS)
theorem sy_isr_inv {v : Nat} (h : sy_isr v = true) : v = 4 ∨ sy_tg v = 5 := by
  unfold sy_isr at h
  cases h4 : Nat.beq v 4 with
  | true => exact Or.inl (sy_beq h4)
  | false =>
    rw [h4] at h
    exact Or.inr (sy_beq h)
theorem sy_isr_inv' {v : Nat} (h : sy_isr v = true) : sy_tg v = 4 ∨ sy_tg v = 5 := (sy_isr_inv h).elim (fun e => Or.inl (by rw [e]; rfl)) Or.inr
theorem sy_ok_nul (neg : Bool) {x y : Nat} (hs1 : ∀ (ls : Array Slot) (st : List Value) (a : Nat), sy_ST p l e R s m args below meth c Q pc (cond neg tpc npc) ls (.ref a :: st) st) (hs2 : ∀ (ls : Array Slot) (st : List Value), sy_ST p l e R s m args below meth c Q pc (cond neg npc tpc) ls (.null :: st) st) :
    sy_OK p l e R s m args below meth c Q w A nL pc npc tpc (sy_nul neg tk x y) := by
  intro L st h cells slots Y hY hk hc hsl ρ H locs ls stC hH hL hS kk
  have hk0 : Y.1 ≠ 0 := by omega
  obtain ⟨a, r, e1, q1⟩ := sy_p1_inv hY hk0
  subst e1
  obtain ⟨hS1, hva, hr⟩ := sy_SPc hS
  obtain ⟨h1, h2⟩ := sy_if_inv q1 hk0
  subst hS1
  rcases sy_isr_inv' h1 with ht | ht
  · rw [sy_v4 ht]
    rw [ht] at h2
    cases neg with
    | true =>
      have h2 : sy_go L r h cells slots = Y := h2
      subst h2
      exact hs2 ls _ _ _ _ _ (kk ρ H locs ls _ sy_ag.rf (Nat.le_refl _) hH hL ⟨rfl, hr⟩)
    | false =>
      have h2 : sy_jmp x L r h cells slots = Y := h2
      subst h2
      exact hs2 ls _ _ _ _ _ (kk ρ H locs ls _ sy_ag.rf (Nat.le_refl _) hH hL ⟨rfl, hr⟩)
  · rw [sy_v5 ht]
    rw [ht] at h2
    cases neg with
    | true =>
      have h2 : sy_jmp x L r h cells slots = Y := h2
      subst h2
      exact hs1 ls _ _ _ _ _ _ (kk ρ H locs ls _ sy_ag.rf (Nat.le_refl _) hH hL ⟨rfl, hr⟩)
    | false =>
      have h2 : sy_go L r h cells slots = Y := h2
      subst h2
      exact hs1 ls _ _ _ _ _ _ (kk ρ H locs ls _ sy_ag.rf (Nat.le_refl _) hH hL ⟨rfl, hr⟩)
/-- a reference as the rows write it -/
theorem sy_v_rf {ρ : Nat → Nat} {v : Nat} (h : sy_tg v = 4 ∨ sy_tg v = 5) : sy_v w ρ v = va_rf (if sy_tg v = 4 then none else some (ρ (sy_py v))) := by
  rcases h with h | h
  · rw [sy_v4 h, if_pos h]; rfl
  · rw [sy_v5 h, if_neg (by rw [h]; decide)]; rfl
theorem sy_ok_acmp (neg : Bool) {x y : Nat} (hs : ∀ (H : Heap) (locs : List Loc) (cells slots : Nat) (ls : Array Slot) (st : List Value) (a b : Option Nat), (cond neg (¬ a = b) (a = b) → W p l e R s m args below meth c H locs cells slots Q (F0 m tpc ls st)) → (cond neg (a = b) (¬ a = b) → W p l e R s m args below meth c H locs cells slots Q (F0 m npc ls st)) → W p l e R s m args below meth c H locs cells slots Q (F0 m pc ls (va_rf b :: va_rf a :: st))) :
    sy_OK p l e R s m args below meth c Q w A nL pc npc tpc (sy_acmp neg tk x y) := by
  intro L st h cells slots Y hY hk hc hsl ρ H locs ls stC hH hL hS kk
  have hk0 : Y.1 ≠ 0 := by omega
  obtain ⟨a, b, r, e1, q1⟩ := sy_p2_inv hY hk0
  subst e1
  obtain ⟨hS1, hvb, hva, hr⟩ := sy_SPc2 hS
  subst hS1
  obtain ⟨h1, h2⟩ := sy_if_inv q1 hk0
  obtain ⟨h1, h3⟩ := sy_and h1
  have ta := sy_isr_inv' h1
  have tb := sy_isr_inv' h3
  have key : (if sy_tg a = 4 then none else some (ρ (sy_py a))) = (if sy_tg b = 4 then none else some (ρ (sy_py b))) ↔ ((sy_tg a = 4 ∧ sy_tg b = 4) ∨ a = b) := by
    rcases ta with ta | ta <;> rcases tb with tb | tb
    · simp [ta, tb]
    · rw [if_pos ta, if_neg (by rw [tb]; decide)]
      refine ⟨fun q => (by cases q), fun q => ?_⟩
      rcases q with q | q
      · rw [tb] at q; cases q.2
      · rw [q, tb] at ta; cases ta
    · rw [if_pos tb, if_neg (by rw [ta]; decide)]
      refine ⟨fun q => (by cases q), fun q => ?_⟩
      rcases q with q | q
      · rw [ta] at q; cases q.1
      · rw [q, tb] at ta; cases ta
    · rw [if_neg (by rw [ta]; decide), if_neg (by rw [tb]; decide)]
      refine ⟨fun q => Or.inr ?_, fun q => ?_⟩
      · have h9 : ρ (sy_py a) = ρ (sy_py b) := Option.some.inj q
        have ia := hva.2 ta
        have ib := hvb.2 tb
        have g1 := sy_ws_get (w := w) (ρ := ρ) (h := h) ia
        have g2 := sy_ws_get (w := w) (ρ := ρ) (h := h) ib
        have e9 := hH.2.1.1 _ _ _ _ g1 g2 h9
        rw [← sy_pk_eq a, ← sy_pk_eq b, ta, tb, e9]
      · rcases q with q | q
        · rw [ta] at q; cases q.1
        · rw [q]
  rw [sy_v_rf ta, sy_v_rf tb]
  have kt : (cond neg (cond (Nat.beq a b) false true) (Nat.beq a b) = true) → ((sy_tg a = 4 ∧ sy_tg b = 4) → a = b) → cond neg (¬ (if sy_tg a = 4 then none else some (ρ (sy_py a))) = (if sy_tg b = 4 then none else some (ρ (sy_py b)))) ((if sy_tg a = 4 then none else some (ρ (sy_py a))) = (if sy_tg b = 4 then none else some (ρ (sy_py b)))) := by
    intro h9 h8
    cases neg with
    | true =>
      intro q
      have q := key.mp q
      have q : a = b := q.elim h8 id
      subst q
      have h9 : cond (Nat.beq a a) false true = true := h9
      rw [Nat.beq_refl] at h9
      cases h9
    | false => exact key.mpr (Or.inr (sy_beq h9))
  have kf : (cond neg (cond (Nat.beq a b) false true) (Nat.beq a b) = false) → ((sy_tg a = 4 ∧ sy_tg b = 4) → a = b) → cond neg ((if sy_tg a = 4 then none else some (ρ (sy_py a))) = (if sy_tg b = 4 then none else some (ρ (sy_py b)))) (¬ (if sy_tg a = 4 then none else some (ρ (sy_py a))) = (if sy_tg b = 4 then none else some (ρ (sy_py b)))) := by
    intro h9 h8
    cases neg with
    | false =>
      intro q
      have q := key.mp q
      have q : a = b := q.elim h8 id
      subst q
      have h9 : Nat.beq a a = false := h9
      rw [Nat.beq_refl] at h9
      cases h9
    | true =>
      cases hb : Nat.beq a b with
      | true => exact key.mpr (Or.inr (sy_beq hb))
      | false =>
        have h9 : cond (Nat.beq a b) false true = false := h9
        rw [hb] at h9
        cases h9
  have h48 : (sy_tg a = 4 ∧ sy_tg b = 4) → a = b := fun z => by
    rcases sy_isr_inv h1 with e1 | e1
    · rcases sy_isr_inv h3 with e2 | e2
      · rw [e1, e2]
      · rw [z.2] at e2; cases e2
    · rw [z.1] at e1; cases e1
  · rcases sy_cond_inv h2 with ⟨c2, q3⟩ | ⟨c2, q3⟩
    · subst q3
      exact hs _ _ _ _ _ _ _ _ (fun _ => kk ρ H locs ls _ sy_ag.rf (Nat.le_refl _) hH hL ⟨rfl, hr⟩) (fun z => by
        have z2 := kt c2 h48
        cases neg with
        | true => exact absurd z z2
        | false => exact absurd z2 z)
    · subst q3
      exact hs _ _ _ _ _ _ _ _ (fun z => by
        have z2 := kf c2 h48
        cases neg with
        | true => exact absurd z2 z
        | false => exact absurd z z2) (fun _ => kk ρ H locs ls _ sy_ag.rf (Nat.le_refl _) hH hL ⟨rfl, hr⟩)
end SYO2
