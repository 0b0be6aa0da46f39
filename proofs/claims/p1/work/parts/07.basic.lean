/-! plain facts of the abstract machine -/
section SYL
theorem sy_nth_nil {α : Type} (d : α) (n : Nat) : sy_nth d [] n = d := rfl
theorem sy_nth_zero {α : Type} (d a : α) (l : List α) : sy_nth d (a :: l) 0 = a := rfl
theorem sy_nth_succ {α : Type} (d a : α) (l : List α) (n : Nat) : sy_nth d (a :: l) (n + 1) = sy_nth d l n := rfl
theorem sy_nth_get {α : Type} (d : α) : ∀ (l : List α) (n : Nat), sy_nth d l n = (l[n]?).getD d
  | [], n => by simp [sy_nth_nil]
  | a :: l, 0 => by simp [sy_nth_zero]
  | a :: l, n + 1 => by simp [sy_nth_succ, sy_nth_get d l n]
theorem sy_drop_eq {α : Type} : ∀ (l : List α) (n : Nat), sy_drop l n = l.drop n
  | [], n => by simp [sy_drop]
  | a :: l, 0 => rfl
  | a :: l, n + 1 => by
    show sy_drop l n = _
    rw [sy_drop_eq l n]; rfl
theorem sy_len_eq {α : Type} : ∀ l : List α, sy_len l = l.length
  | [] => rfl
  | a :: l => by
    show Nat.succ (sy_len l) = _
    rw [sy_len_eq l]; rfl
theorem sy_rev_eq : ∀ (l : List Nat) (n : Nat) (acc : List Nat), sy_rev l n acc = (l.take n).reverse ++ acc
  | [], n, acc => by simp [sy_rev]
  | a :: l, 0, acc => by
    show acc = _
    simp
  | a :: l, n + 1, acc => by
    show sy_rev l n (a :: acc) = _
    rw [sy_rev_eq l n]; simp
theorem sy_pad_get {α : Type} (d x : α) : ∀ (n j : Nat), sy_nth d (sy_pad d x n) j = if n = j then x else d
  | 0, 0 => rfl
  | 0, j + 1 => by
    show d = _
    simp
  | n + 1, 0 => by
    show d = _
    simp
  | n + 1, j + 1 => by
    show sy_nth d (sy_pad d x n) j = _
    rw [sy_pad_get d x n j]
    simp
theorem sy_put_get {α : Type} (d x : α) : ∀ (l : List α) (n j : Nat), sy_nth d (sy_put d x l n) j = if n = j then x else sy_nth d l j
  | [], n, j => by
    show sy_nth d (sy_pad d x n) j = _
    rw [sy_pad_get]; rfl
  | a :: l, 0, 0 => rfl
  | a :: l, 0, j + 1 => rfl
  | a :: l, n + 1, 0 => rfl
  | a :: l, n + 1, j + 1 => by
    show sy_nth d (sy_put d x l n) j = _
    rw [sy_put_get d x l n j, sy_nth_succ]
    simp
theorem sy_force_eq {α : Type} (n : Nat) (f : Nat → α) : sy_force n f = f n := by cases n <;> rfl
/-- get and put of a tree with q leaves: by the place's rest -/
def sy_law {α : Type} (q : Nat) (g : Nat → α → sy_O) (pt : Nat → sy_O → α → α) : Prop := ∀ (i j : Nat) (x : sy_O) (t : α), g j (pt i x t) = if i % q = j % q then x else g j t
theorem sy_bt_eq {i j q : Nat} (h : sy_bt i q = sy_bt j q) : i / q % 2 = j / q % 2 := by
  have e : ∀ a, sy_bt a q = Nat.beq (a / q % 2) 1 := fun _ => rfl
  rw [e, e] at h
  have h1 : i / q % 2 < 2 := Nat.mod_lt _ (by decide)
  have h2 : j / q % 2 < 2 := Nat.mod_lt _ (by decide)
  generalize i / q % 2 = a at h h1 ⊢
  generalize j / q % 2 = b at h h2 ⊢
  match a, b, h, h1, h2 with
  | 0, 0, _, _, _ => rfl
  | 0, 1, h, _, _ => exact absurd h (by decide)
  | 1, 0, h, _, _ => exact absurd h (by decide)
  | 1, 1, _, _, _ => rfl
theorem sy_law_up {α : Type} {q : Nat} {g : Nat → α → sy_O} {pt : Nat → sy_O → α → α} (hl : sy_law q g pt) : sy_law (q * 2) (sy_gl q g) (sy_pl q pt) := by
  intro i j x t
  have e : ∀ a : Nat, a % (q * 2) = a % q + q * (a / q % 2) := fun a => Nat.mod_mul
  unfold sy_gl sy_pl
  by_cases hb : sy_bt i q = sy_bt j q
  · have hq : (i % (q * 2) = j % (q * 2)) = (i % q = j % q) := by
      rw [e, e, sy_bt_eq hb]
      exact propext ⟨fun h => Nat.add_right_cancel h, fun h => by rw [h]⟩
    rw [← hb]
    simp only [hq]
    cases sy_bt i q with
    | true => exact hl i j x t.2
    | false => exact hl i j x t.1
  · have hq : ¬ (i % (q * 2) = j % (q * 2)) := by
      intro h
      apply hb
      have h3 : i / q % 2 = j / q % 2 := by
        rw [e, e] at h
        by_cases hq0 : q = 0
        · subst hq0; simp
        · have h1 : i % q < q := Nat.mod_lt _ (Nat.pos_of_ne_zero hq0)
          have h2 : j % q < q := Nat.mod_lt _ (Nat.pos_of_ne_zero hq0)
          have d1 : (i % q + q * (i / q % 2)) / q = i / q % 2 := by
            rw [Nat.add_mul_div_left _ _ (Nat.pos_of_ne_zero hq0), Nat.div_eq_of_lt h1, Nat.zero_add]
          have d2 : (j % q + q * (j / q % 2)) / q = j / q % 2 := by
            rw [Nat.add_mul_div_left _ _ (Nat.pos_of_ne_zero hq0), Nat.div_eq_of_lt h2, Nat.zero_add]
          rw [← d1, ← d2, h]
      show Nat.beq (i / q % 2) 1 = Nat.beq (j / q % 2) 1
      rw [h3]
    rw [if_neg hq]
    cases hi : sy_bt i q with
    | true =>
      cases hj : sy_bt j q with
      | true => exact absurd (hi.trans hj.symm) hb
      | false => rfl
    | false =>
      cases hj : sy_bt j q with
      | true => rfl
      | false => exact absurd (hi.trans hj.symm) hb
theorem sy_law0 : sy_law 1 sy_g0 sy_q0 := by
  intro i j x t
  rw [if_pos (by rw [Nat.mod_one, Nat.mod_one])]
  rfl
theorem sy_law9 : sy_law 512 sy_g9 sy_q9 := sy_law_up (sy_law_up (sy_law_up (sy_law_up (sy_law_up (sy_law_up (sy_law_up (sy_law_up (sy_law_up sy_law0))))))))
theorem sy_hg_hp (t : sy_U9) (i j : Nat) (x : sy_O) (hi : i < 512) (hj : j < 512) : sy_hg (sy_hp t i x) j = if i = j then x else sy_hg t j := by
  have h := sy_law9 i j x t
  rw [Nat.mod_eq_of_lt hi, Nat.mod_eq_of_lt hj] at h
  exact h
theorem sy_rd_bit (c i k : Nat) : (sy_rd c i).testBit k = (decide (k < 72) && c.testBit (72 * i + k)) := by
  have e : sy_rd c i = (c >>> (72 * i)) % 2 ^ 72 := rfl
  rw [e, Nat.testBit_mod_two_pow, Nat.testBit_shiftRight]
theorem sy_rd_lt (c i : Nat) : sy_rd c i < 2 ^ 72 := by
  have e : sy_rd c i = (c >>> (72 * i)) % 2 ^ 72 := rfl
  rw [e]
  exact Nat.mod_lt _ (by decide)
theorem sy_wr_bit (c i v k : Nat) : (sy_wr c i v).testBit k = (c.testBit k ^^ (decide (72 * i ≤ k) && ((sy_rd c i).testBit (k - 72 * i) ^^ v.testBit (k - 72 * i)))) := by
  have e : sy_wr c i v = c ^^^ ((sy_rd c i ^^^ v) <<< (72 * i)) := rfl
  rw [e, Nat.testBit_xor, Nat.testBit_shiftLeft, Nat.testBit_xor]
theorem sy_rd_wr (c i j v : Nat) (hv : v < 2 ^ 72) : sy_rd (sy_wr c i v) j = if i = j then v else sy_rd c j := by
  apply Nat.eq_of_testBit_eq
  intro k
  rw [sy_rd_bit, sy_wr_bit]
  have hb : ∀ n, 72 ≤ n → v.testBit n = false := fun n hn => Nat.testBit_lt_two_pow (Nat.lt_of_lt_of_le hv (Nat.pow_le_pow_right (by decide) hn))
  by_cases hk : k < 72
  · by_cases hij : i = j
    · subst hij
      rw [if_pos rfl, sy_rd_bit]
      have h1 : 72 * i + k - 72 * i = k := by omega
      rw [h1]
      simp [hk]
    · rw [if_neg hij, sy_rd_bit c j k]
      by_cases h2 : 72 * i ≤ 72 * j + k
      · have h3 : 72 ≤ 72 * j + k - 72 * i := by omega
        rw [sy_rd_bit, hb _ h3]
        have h4 : ¬ (72 * j + k - 72 * i < 72) := by omega
        simp [h4]
      · simp [h2]
  · by_cases hij : i = j
    · rw [if_pos hij, hb k (by omega)]
      simp [hk]
    · rw [if_neg hij, sy_rd_bit c j k]
      simp [hk]
theorem sy_p1_inv {st : List Nat} {f : Nat → List Nat → sy_X} {Y : sy_X} (h : sy_p1 st f = Y) (hk : Y.1 ≠ 0) : ∃ v r, st = v :: r ∧ f v r = Y := by
  cases st with
  | nil => exact absurd (by rw [← h]; rfl) hk
  | cons v r => exact ⟨v, r, rfl, h⟩
theorem sy_if_inv {b : Bool} {x Y : sy_X} (h : sy_if b x = Y) (hk : Y.1 ≠ 0) : b = true ∧ x = Y := by
  cases b with
  | false => exact absurd (by rw [← h]; rfl) hk
  | true => exact ⟨rfl, h⟩
theorem sy_and {a b : Bool} (h : cond a b false = true) : a = true ∧ b = true := by cases a <;> simp_all
theorem sy_beq {a b : Nat} (h : Nat.beq a b = true) : a = b := Nat.eq_of_beq_eq_true h
theorem sy_ble {a b : Nat} (h : Nat.ble a b = true) : a ≤ b := Nat.le_of_ble_eq_true h
theorem sy_cond_inv {b : Bool} {x y Y : sy_X} (h : cond b x y = Y) : (b = true ∧ x = Y) ∨ (b = false ∧ y = Y) := by
  cases b with
  | false => exact Or.inr ⟨rfl, h⟩
  | true => exact Or.inl ⟨rfl, h⟩
theorem sy_tg_pk {t n : Nat} (h : t < 16) : sy_tg (sy_pk t n) = t := by
  show (16 * n + t) % 16 = t
  omega
theorem sy_py_pk {t n : Nat} (h : t < 16) : sy_py (sy_pk t n) = n := by
  show (16 * n + t) / 16 = n
  omega
theorem sy_pk_eq (v : Nat) : sy_pk (sy_tg v) (sy_py v) = v := by
  show 16 * (v / 16) + v % 16 = v
  omega
theorem sy_pk_of {v t : Nat} (h : sy_tg v = t) : v = sy_pk t (sy_py v) := by rw [← h, sy_pk_eq]
theorem sy_cell_inv {h : sy_H} {v : Nat} {f : Nat → Nat → Nat → sy_X} {Y : sy_X} (hh : sy_cell h v f = Y) (hk : Y.1 ≠ 0) : sy_tg v = 5 ∧ sy_py v < h.1 ∧ ∃ k n d, sy_hg h.2 (sy_py v) = (k, n, d) ∧ f k n d = Y := by
  obtain ⟨h1, h2⟩ := sy_if_inv hh hk
  obtain ⟨h3, h4⟩ := sy_and h1
  refine ⟨sy_beq h3, sy_ble h4, (sy_hg h.2 (sy_py v)).1, (sy_hg h.2 (sy_py v)).2.1, (sy_hg h.2 (sy_py v)).2.2, rfl, ?_⟩
  rw [← h2]
  exact (sy_force_eq _ _).symm
theorem sy_ty_tg {v t : Nat} (h : sy_ty v = t) (ht : t < 5) : (t = 0 ∧ (sy_tg v = 0 ∨ sy_tg v = 6 ∨ sy_tg v = 8)) ∨ (t = 1 ∧ (sy_tg v = 1 ∨ sy_tg v = 7)) ∨ (t = 2 ∧ (sy_tg v = 4 ∨ sy_tg v = 5 ∨ sy_tg v = 9)) ∨ (t = 3 ∧ sy_tg v = 2) ∨ (t = 4 ∧ sy_tg v = 3) := by
  have hg : sy_tg v < 16 := Nat.mod_lt _ (by decide)
  unfold sy_ty at h
  generalize sy_tg v = g at h hg ⊢
  match g, h, hg with
  | 0, h, _ => exact Or.inl ⟨h.symm, Or.inl rfl⟩
  | 1, h, _ => exact Or.inr (Or.inl ⟨h.symm, Or.inl rfl⟩)
  | 2, h, _ => exact Or.inr (Or.inr (Or.inr (Or.inl ⟨h.symm, rfl⟩)))
  | 3, h, _ => exact Or.inr (Or.inr (Or.inr (Or.inr ⟨h.symm, rfl⟩)))
  | 4, h, _ => exact Or.inr (Or.inr (Or.inl ⟨h.symm, Or.inl rfl⟩))
  | 5, h, _ => exact Or.inr (Or.inr (Or.inl ⟨h.symm, Or.inr (Or.inl rfl)⟩))
  | 6, h, _ => exact Or.inl ⟨h.symm, Or.inr (Or.inl rfl)⟩
  | 7, h, _ => exact Or.inr (Or.inl ⟨h.symm, Or.inr rfl⟩)
  | 8, h, _ => exact Or.inl ⟨h.symm, Or.inr (Or.inr rfl)⟩
  | 9, h, _ => exact Or.inr (Or.inr (Or.inl ⟨h.symm, Or.inr (Or.inr rfl)⟩))
  | 10, h, _ => exact absurd (show (9 : Nat) = t from h) (by omega)
  | 11, h, _ => exact absurd (show (9 : Nat) = t from h) (by omega)
  | 12, h, _ => exact absurd (show (9 : Nat) = t from h) (by omega)
  | 13, h, _ => exact absurd (show (9 : Nat) = t from h) (by omega)
  | 14, h, _ => exact absurd (show (9 : Nat) = t from h) (by omega)
  | 15, h, _ => exact absurd (show (9 : Nat) = t from h) (by omega)
  | n + 16, _, hg => exact absurd hg (by omega)
end SYL
