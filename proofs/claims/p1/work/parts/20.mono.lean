/-! the room only grows; what a step can be -/
section SYX
def sy_mn (c s : Nat) (Y : sy_X) : Prop := Y.1 ≠ 0 → c ≤ Y.2.2.2.2.2.1 ∧ s ≤ Y.2.2.2.2.2.2
theorem mn_no {c s a : Nat} : sy_mn c s (sy_no a) := fun h => absurd rfl h
theorem mn_mk {c s k a L c' s' : Nat} {st : List Nat} {h : sy_H} (h1 : c ≤ c') (h2 : s ≤ s') : sy_mn c s (k, a, L, st, h, c', s') := fun _ => ⟨h1, h2⟩
theorem mn_go {c s L c' s' : Nat} {st : List Nat} {h : sy_H} (h1 : c ≤ c') (h2 : s ≤ s') : sy_mn c s (sy_go L st h c' s') := fun _ => ⟨h1, h2⟩
theorem mn_jmp {c s L x c' s' : Nat} {st : List Nat} {h : sy_H} (h1 : c ≤ c') (h2 : s ≤ s') : sy_mn c s (sy_jmp x L st h c' s') := fun _ => ⟨h1, h2⟩
theorem mn_cond {c s : Nat} {b : Bool} {X Y : sy_X} (h1 : sy_mn c s X) (h2 : sy_mn c s Y) : sy_mn c s (cond b X Y) := by
  cases b with
  | true => exact h1
  | false => exact h2
theorem mn_if {c s : Nat} {b : Bool} {X : sy_X} (h1 : sy_mn c s X) : sy_mn c s (sy_if b X) := by
  cases b with
  | true => exact h1
  | false => exact mn_no
theorem mn_force {c s n : Nat} {f : Nat → sy_X} (h : sy_mn c s (f n)) : sy_mn c s (sy_force n f) := by rw [sy_force_eq]; exact h
theorem mn_p1 {c s : Nat} {st : List Nat} {f : Nat → List Nat → sy_X} (h : ∀ v r, sy_mn c s (f v r)) : sy_mn c s (sy_p1 st f) := mn_cond (h _ _) mn_no
theorem mn_cell {c s v : Nat} {h0 : sy_H} {f : Nat → Nat → Nat → sy_X} (h : ∀ k n d, sy_mn c s (f k n d)) : sy_mn c s (sy_cell h0 v f) := by
  unfold sy_cell
  refine mn_if ?_
  exact mn_force (h _ _ _)
theorem mn_fork {c s r : Nat} {X Y : sy_X} (h1 : sy_mn c s X) (h2 : sy_mn c s Y) : sy_mn c s (sy_fork r X Y) := by
  match r with
  | 0 => exact h2
  | 1 => exact h1
  | n + 2 => exact mn_no
theorem mn_ix {c s i n : Nat} {tk : sy_T} {f : Nat → sy_X} (h : ∀ j, sy_mn c s (f j)) : sy_mn c s (sy_ix tk i n f) := mn_cond (mn_if (h _)) (mn_cond (mn_cond mn_no mn_no) mn_no)
theorem mn_nat {c s n : Nat} {X : sy_X} {f : Nat → sy_X} (h1 : sy_mn c s X) (h2 : ∀ m, sy_mn c s (f m)) : sy_mn c s (Nat.rec (motive := fun _ => sy_X) X (fun m _ => f m) n) := by
  cases n with
  | zero => exact h1
  | succ m => exact h2 m
theorem mn_lst {α : Type} {c s : Nat} {l : List α} {X Y : sy_X} (h1 : sy_mn c s X) (h2 : sy_mn c s Y) : sy_mn c s (List.rec (motive := fun _ => sy_X) X (fun _ _ _ => Y) l) := by
  cases l with
  | nil => exact h1
  | cons a t => exact h2
theorem mn_br {q : sy_T → Nat → Nat → Nat} {neg : Bool} {tk : sy_T} {x L a b c s : Nat} {r : List Nat} {h : sy_H} : sy_mn c s (sy_br q neg tk x L a b r h c s) :=
  mn_if (mn_fork (mn_cond (mn_go (Nat.le_refl _) (Nat.le_refl _)) (mn_jmp (Nat.le_refl _) (Nat.le_refl _))) (mn_cond (mn_jmp (Nat.le_refl _) (Nat.le_refl _)) (mn_go (Nat.le_refl _) (Nat.le_refl _))))
theorem mn_alloc {h : sy_H} {L k n d c s : Nat} {r : List Nat} : sy_mn c s (sy_alloc h L r c s k n d) :=
  mn_if (mn_force (mn_force (mn_force (mn_force (mn_go (Nat.le_add_right _ _) (Nat.le_add_right _ _))))))
theorem mn_op (len : Nat) (tk : sy_T) (x y L : Nat) (st : List Nat) (h : sy_H) (c s : Nat) : ∀ z, sy_mn c s ((sy_op len z).1 tk x y L st h c s)
  | 0 => mn_no
  | 1 => mn_go (Nat.le_refl _) (Nat.le_refl _)
  | 2 => mn_go (Nat.le_refl _) (Nat.le_refl _)
  | 3 => mn_go (Nat.le_refl _) (Nat.le_refl _)
  | 4 => mn_go (Nat.le_refl _) (Nat.le_refl _)
  | 5 => mn_go (Nat.le_refl _) (Nat.le_refl _)
  | 6 => mn_go (Nat.le_refl _) (Nat.le_refl _)
  | 7 => mn_go (Nat.le_refl _) (Nat.le_refl _)
  | 8 => mn_go (Nat.le_refl _) (Nat.le_refl _)
  | 9 => mn_go (Nat.le_refl _) (Nat.le_refl _)
  | 10 => mn_go (Nat.le_refl _) (Nat.le_refl _)
  | 11 => mn_nat mn_no fun _ => mn_if (mn_go (Nat.le_refl _) (Nat.le_refl _))
  | 12 => mn_nat mn_no fun _ => mn_if (mn_go (Nat.le_refl _) (Nat.le_refl _))
  | 13 => mn_nat mn_no fun _ => mn_if (mn_go (Nat.le_refl _) (Nat.le_refl _))
  | 14 => mn_nat mn_no fun _ => mn_if (mn_go (Nat.le_refl _) (Nat.le_refl _))
  | 15 => mn_nat mn_no fun _ => mn_if (mn_go (Nat.le_refl _) (Nat.le_refl _))
  | 16 => mn_nat mn_no fun _ => mn_if (mn_go (Nat.le_refl _) (Nat.le_refl _))
  | 17 => mn_p1 fun _ _ => mn_if (mn_force (mn_go (Nat.le_refl _) (Nat.le_refl _)))
  | 18 => mn_p1 fun _ _ => mn_if (mn_force (mn_go (Nat.le_refl _) (Nat.le_refl _)))
  | 19 => mn_p1 fun _ _ => mn_if (mn_force (mn_go (Nat.le_refl _) (Nat.le_refl _)))
  | 20 => mn_p1 fun _ _ => mn_if (mn_force (mn_go (Nat.le_refl _) (Nat.le_refl _)))
  | 21 => mn_p1 fun _ _ => mn_if (mn_force (mn_go (Nat.le_refl _) (Nat.le_refl _)))
  | 22 => mn_p1 fun _ _ => mn_if (mn_force (mn_go (Nat.le_refl _) (Nat.le_refl _)))
  | 23 => mn_p1 fun _ _ => mn_if (mn_force (mn_go (Nat.le_refl _) (Nat.le_refl _)))
  | 24 => mn_p1 fun _ _ => mn_if (mn_force (mn_go (Nat.le_refl _) (Nat.le_refl _)))
  | 25 => mn_nat mn_no fun _ => mn_if (mn_force (mn_go (Nat.le_refl _) (Nat.le_refl _)))
  | 26 => mn_p1 fun _ _ => mn_p1 fun _ _ => mn_if (mn_force (mn_go (Nat.le_refl _) (Nat.le_refl _)))
  | 27 => mn_p1 fun _ _ => mn_p1 fun _ _ => mn_if (mn_force (mn_go (Nat.le_refl _) (Nat.le_refl _)))
  | 28 => mn_p1 fun _ _ => mn_p1 fun _ _ => mn_if (mn_force (mn_go (Nat.le_refl _) (Nat.le_refl _)))
  | 29 => mn_p1 fun _ _ => mn_p1 fun _ _ => mn_cond (mn_if (mn_force (mn_go (Nat.le_refl _) (Nat.le_refl _)))) (mn_if (mn_force (mn_go (Nat.le_refl _) (Nat.le_refl _))))
  | 30 => mn_p1 fun _ _ => mn_p1 fun _ _ => mn_if (mn_force (mn_go (Nat.le_refl _) (Nat.le_refl _)))
  | 31 => mn_p1 fun _ _ => mn_p1 fun _ _ => mn_if (mn_force (mn_go (Nat.le_refl _) (Nat.le_refl _)))
  | 32 => mn_p1 fun _ _ => mn_p1 fun _ _ => mn_if (mn_force (mn_go (Nat.le_refl _) (Nat.le_refl _)))
  | 33 => mn_p1 fun _ _ => mn_cond (mn_force (mn_go (Nat.le_refl _) (Nat.le_refl _))) (mn_if (mn_force (mn_go (Nat.le_refl _) (Nat.le_refl _))))
  | 34 => mn_p1 fun _ _ => mn_if (mn_force (mn_go (Nat.le_refl _) (Nat.le_refl _)))
  | 35 => mn_p1 fun _ _ => mn_cond (mn_force (mn_go (Nat.le_refl _) (Nat.le_refl _))) (mn_if (mn_cond (mn_force (mn_go (Nat.le_refl _) (Nat.le_refl _))) (mn_force (mn_go (Nat.le_refl _) (Nat.le_refl _)))))
  | 36 => mn_p1 fun _ _ => mn_p1 fun _ _ => mn_if (mn_fork (mn_go (Nat.le_refl _) (Nat.le_refl _)) (mn_fork (mn_go (Nat.le_refl _) (Nat.le_refl _)) (mn_go (Nat.le_refl _) (Nat.le_refl _))))
  | 37 => mn_p1 fun _ _ => mn_if (mn_go (Nat.le_refl _) (Nat.le_refl _))
  | 38 => mn_p1 fun _ _ => mn_if (mn_go (Nat.le_refl _) (Nat.le_refl _))
  | 39 => mn_p1 fun _ _ => mn_br
  | 40 => mn_p1 fun _ _ => mn_br
  | 41 => mn_p1 fun _ _ => mn_br
  | 42 => mn_p1 fun _ _ => mn_br
  | 43 => mn_p1 fun _ _ => mn_br
  | 44 => mn_p1 fun _ _ => mn_br
  | 45 => mn_p1 fun _ _ => mn_p1 fun _ _ => mn_br
  | 46 => mn_p1 fun _ _ => mn_p1 fun _ _ => mn_br
  | 47 => mn_p1 fun _ _ => mn_p1 fun _ _ => mn_br
  | 48 => mn_p1 fun _ _ => mn_p1 fun _ _ => mn_br
  | 49 => mn_p1 fun _ _ => mn_p1 fun _ _ => mn_br
  | 50 => mn_p1 fun _ _ => mn_p1 fun _ _ => mn_br
  | 51 => mn_p1 fun _ _ => mn_p1 fun _ _ => mn_if (mn_cond (mn_jmp (Nat.le_refl _) (Nat.le_refl _)) (mn_go (Nat.le_refl _) (Nat.le_refl _)))
  | 52 => mn_p1 fun _ _ => mn_p1 fun _ _ => mn_if (mn_cond (mn_jmp (Nat.le_refl _) (Nat.le_refl _)) (mn_go (Nat.le_refl _) (Nat.le_refl _)))
  | 53 => mn_p1 fun _ _ => mn_if (mn_cond (mn_jmp (Nat.le_refl _) (Nat.le_refl _)) (mn_go (Nat.le_refl _) (Nat.le_refl _)))
  | 54 => mn_p1 fun _ _ => mn_if (mn_cond (mn_jmp (Nat.le_refl _) (Nat.le_refl _)) (mn_go (Nat.le_refl _) (Nat.le_refl _)))
  | 55 => mn_jmp (Nat.le_refl _) (Nat.le_refl _)
  | 56 => mn_p1 fun _ _ => mn_if (mn_mk (Nat.le_refl _) (Nat.le_refl _))
  | 57 => mn_p1 fun _ _ => mn_if (mn_mk (Nat.le_refl _) (Nat.le_refl _))
  | 58 => mn_p1 fun _ _ => mn_if (mn_mk (Nat.le_refl _) (Nat.le_refl _))
  | 59 => mn_p1 fun _ _ => mn_if (mn_mk (Nat.le_refl _) (Nat.le_refl _))
  | 60 => mn_p1 fun _ _ => mn_if (mn_mk (Nat.le_refl _) (Nat.le_refl _))
  | 61 => mn_if (mn_mk (Nat.le_refl _) (Nat.le_refl _))
  | 62 => mn_p1 fun _ _ => mn_cell fun _ _ _ => mn_if (mn_force (mn_go (Nat.le_refl _) (Nat.le_refl _)))
  | 63 => mn_p1 fun _ _ => mn_cell fun _ _ _ => mn_if (mn_force (mn_go (Nat.le_refl _) (Nat.le_refl _)))
  | 64 => mn_p1 fun _ _ => mn_p1 fun _ _ => mn_cell fun _ _ _ => mn_if (mn_force (mn_go (Nat.le_refl _) (Nat.le_refl _)))
  | 65 => mn_p1 fun _ _ => mn_p1 fun _ _ => mn_cell fun _ _ _ => mn_if (mn_force (mn_go (Nat.le_refl _) (Nat.le_refl _)))
  | 66 => mn_p1 fun _ _ => mn_p1 fun _ _ => mn_cell fun _ _ _ => mn_if (mn_force (mn_go (Nat.le_refl _) (Nat.le_refl _)))
  | 67 => mn_alloc
  | 68 => mn_p1 fun _ _ => mn_if mn_alloc
  | 69 => mn_p1 fun _ _ => mn_if mn_alloc
  | 70 => mn_p1 fun _ _ => mn_cond (mn_go (Nat.le_refl _) (Nat.le_refl _)) (mn_cell fun _ _ _ => mn_if (mn_force (mn_go (Nat.le_refl _) (Nat.le_refl _))))
  | 71 => mn_p1 fun _ _ => mn_p1 fun _ _ => mn_cond (mn_if (mn_lst (mn_mk (Nat.le_refl _) (Nat.le_refl _)) (mn_cond (mn_force (mn_go (Nat.le_refl _) (Nat.le_refl _))) (mn_force (mn_go (Nat.le_refl _) (Nat.le_refl _))))))
      (mn_p1 fun _ _ => mn_p1 fun _ _ => mn_cell fun _ _ _ => mn_if (mn_ix fun _ => mn_force (mn_if (mn_go (Nat.le_refl _) (Nat.le_refl _)))))
  | 72 => mn_p1 fun _ _ => mn_p1 fun _ _ => mn_cell fun _ _ _ => mn_if (mn_ix fun _ => mn_force (mn_if (mn_go (Nat.le_refl _) (Nat.le_refl _))))
  | 73 => mn_p1 fun _ _ => mn_p1 fun _ _ => mn_cell fun _ _ _ => mn_if (mn_ix fun _ => mn_force (mn_if (mn_go (Nat.le_refl _) (Nat.le_refl _))))
  | 74 => mn_p1 fun _ _ => mn_p1 fun _ _ => mn_cell fun _ _ _ => mn_if (mn_ix fun _ => mn_force (mn_if (mn_go (Nat.le_refl _) (Nat.le_refl _))))
  | 75 => mn_p1 fun _ _ => mn_p1 fun _ _ => mn_p1 fun _ _ => mn_cell fun _ _ _ => mn_if (mn_ix fun _ => mn_force (mn_go (Nat.le_refl _) (Nat.le_refl _)))
  | 76 => mn_p1 fun _ _ => mn_p1 fun _ _ => mn_p1 fun _ _ => mn_cell fun _ _ _ => mn_if (mn_ix fun _ => mn_force (mn_go (Nat.le_refl _) (Nat.le_refl _)))
  | 77 => mn_p1 fun _ _ => mn_p1 fun _ _ => mn_p1 fun _ _ => mn_cell fun _ _ _ => mn_if (mn_cond (mn_ix fun _ => mn_force (mn_go (Nat.le_refl _) (Nat.le_refl _))) (mn_cell fun _ _ _ => mn_if (mn_ix fun _ => mn_force (mn_go (Nat.le_refl _) (Nat.le_refl _)))))
  | 78 => mn_p1 fun _ _ => mn_p1 fun _ _ => mn_p1 fun _ _ => mn_cell fun _ _ _ => mn_if (mn_ix fun _ => mn_force (mn_go (Nat.le_refl _) (Nat.le_refl _)))
  | 79 => mn_p1 fun _ _ => mn_cell fun _ _ _ => mn_if (mn_go (Nat.le_refl _) (Nat.le_refl _))
  | 80 => mn_mk (Nat.le_refl _) (Nat.le_refl _)
  | 81 => mn_mk (Nat.le_refl _) (Nat.le_refl _)
  | 82 => mn_mk (Nat.le_refl _) (Nat.le_refl _)
  | 83 => mn_mk (Nat.le_refl _) (Nat.le_refl _)
  | 84 => mn_mk (Nat.le_refl _) (Nat.le_refl _)
  | 85 => mn_p1 fun _ _ => mn_cell fun _ _ _ => mn_if mn_alloc
  | 86 => mn_p1 fun _ _ => mn_p1 fun _ _ => mn_p1 fun _ _ => mn_p1 fun _ _ => mn_p1 fun _ _ => mn_cell fun _ _ _ => mn_cell fun _ _ _ => mn_if (mn_if (mn_force (mn_go (Nat.le_refl _) (Nat.le_refl _))))
  | 87 => mn_p1 fun _ _ => mn_p1 fun _ _ => mn_if (mn_force (mn_force (mn_force (mn_force (mn_force (mn_go (Nat.le_trans (Nat.le_add_right _ _) (Nat.le_add_right _ _)) (Nat.le_trans (Nat.le_add_right _ _) (Nat.le_add_right _ _))))))))
  | 88 => mn_mk (Nat.le_add_right _ _) (Nat.le_add_right _ _)
  | 89 => mn_mk (Nat.le_add_right _ _) (Nat.le_add_right _ _)
  | 90 => mn_p1 fun _ _ => mn_if (mn_force (mn_jmp (Nat.le_refl _) (Nat.le_refl _)))
  | 91 => mn_p1 fun _ _ => mn_if (mn_go (Nat.le_refl _) (Nat.le_refl _))
  | _ + 92 => mn_no
theorem sy_run_succ {tk : sy_T} {len fuel d : Nat} {M : sy_M} {e : sy_E} {k : List sy_E} {L : Nat} {st : List Nat} {h : sy_H} {c s : Nat} :
    sy_run tk len (fuel + 1) d M (e :: k) L st h c s = sy_step (sy_run tk len fuel) d M e.1 e.2.1 e.2.2.2 k ((sy_op len e.2.1).1 tk e.2.2.1 e.2.2.2 L st h c s) (8, e.1, L, st, h, c, s) := rfl
/-- what a step can be -/
theorem sy_step_inv {ih : sy_R} {d : Nat} {M : sy_M} {pc z y : Nat} {k : List sy_E} {Y Z X : sy_X} (h : sy_step ih d M pc z y k Y Z = X) (hX : X.1 ≠ 0) :
    (Y.1 = 1 ∧ X = ih d M k Y.2.2.1 Y.2.2.2.1 Y.2.2.2.2.1 Y.2.2.2.2.2.1 Y.2.2.2.2.2.2) ∨ (Y.1 = 2 ∧ (z = 90 ∨ (sy_nth sy_e0 (M.1.drop Y.2.1) 0).1 = y) ∧ X = ih d M (M.1.drop Y.2.1) Y.2.2.1 Y.2.2.2.1 Y.2.2.2.2.1 Y.2.2.2.2.2.1 Y.2.2.2.2.2.2) ∨
    (Y.1 = 3 ∧ z = 61 ∧ X = Y) ∨ (Y.1 = 4 ∧ 56 ≤ z ∧ z ≤ 60 ∧ X = Y) ∨ (Y.1 = 5 ∧ 80 ≤ z ∧ z ≤ 84 ∧ X = sy_k5 ih d M pc z (y % 16) k Y) ∨ (Y.1 = 6 ∧ 88 ≤ z ∧ z ≤ 89 ∧ sy_cats Z.2.2.2.1 ≤ 50 ∧ X = sy_k6 M Y) ∨ (Y.1 = 8 ∧ X = Z) := by
  rcases sy_cond_inv h with ⟨h1, h2⟩ | ⟨h1, h2⟩
  · exact Or.inl ⟨sy_beq h1, h2.symm⟩
  · have h2 : sy_nth (sy_no 0) [sy_no Y.2.1, sy_no 0, sy_k2 ih d M z y Y, sy_if (Nat.beq z 61) Y, sy_if (sy_in 56 z 60) Y, sy_if (sy_in 80 z 84) (sy_k5 ih d M pc z (Nat.mod y 16) k Y), sy_if (sy_in 88 z 89) (sy_if (Nat.ble (sy_cats Z.2.2.2.1) 50) (sy_k6 M Y)), sy_no 0, Z] Y.1 = X := h2
    generalize hk : Y.1 = kd at h2
    have inn : ∀ {a b : Nat}, sy_in a z b = true → a ≤ z ∧ z ≤ b := fun q => by
      obtain ⟨q1, q2⟩ := sy_and q
      exact ⟨sy_ble q1, sy_ble q2⟩
    match kd, h2 with
    | 0, h2 => exact absurd (by rw [← h2]; rfl) hX
    | 1, h2 => exact absurd (by rw [← h2]; rfl) hX
    | 2, h2 =>
      have h2 : sy_k2 ih d M z y Y = X := h2
      unfold sy_k2 at h2
      rw [sy_force_eq, sy_drop_eq] at h2
      obtain ⟨q1, q2⟩ := sy_if_inv h2 hX
      refine Or.inr (Or.inl ⟨rfl, ?_, q2.symm⟩)
      cases hz : Nat.beq z 90 with
      | true => exact Or.inl (sy_beq hz)
      | false =>
        rw [hz] at q1
        exact Or.inr (sy_beq q1)
    | 3, h2 =>
      obtain ⟨q1, q2⟩ := sy_if_inv h2 hX
      exact Or.inr (Or.inr (Or.inl ⟨rfl, sy_beq q1, q2.symm⟩))
    | 4, h2 =>
      obtain ⟨q1, q2⟩ := sy_if_inv h2 hX
      exact Or.inr (Or.inr (Or.inr (Or.inl ⟨rfl, (inn q1).1, (inn q1).2, q2.symm⟩)))
    | 5, h2 =>
      obtain ⟨q1, q2⟩ := sy_if_inv h2 hX
      exact Or.inr (Or.inr (Or.inr (Or.inr (Or.inl ⟨rfl, (inn q1).1, (inn q1).2, q2.symm⟩))))
    | 6, h2 =>
      obtain ⟨q1, q2⟩ := sy_if_inv h2 hX
      obtain ⟨q3, q4⟩ := sy_if_inv q2 hX
      exact Or.inr (Or.inr (Or.inr (Or.inr (Or.inr (Or.inl ⟨rfl, (inn q1).1, (inn q1).2, sy_ble q3, q4.symm⟩)))))
    | 7, h2 => exact absurd (by rw [← h2]; rfl) hX
    | 8, h2 => exact Or.inr (Or.inr (Or.inr (Or.inr (Or.inr (Or.inr ⟨rfl, h2.symm⟩)))))
    | n + 9, h2 => exact absurd (by rw [← h2]; rfl) hX
theorem sy_k5_inv {ih : sy_R} {d : Nat} {M : sy_M} {pc z n : Nat} {k : List sy_E} {Y X : sy_X} (h : sy_k5 ih d M pc z n k Y = X) (hX : X.1 ≠ 0) : ∃ d', d = d' + 1 ∧ n ≤ Y.2.2.2.1.length ∧ sy_cats (Y.2.2.2.1.drop n) ≤ 8 ∧ sy_recv (sy_meth Y.2.1).2.2.2 (sy_nth 0 Y.2.2.2.1 (Nat.pred n)) Y.2.2.2.2.1 = true ∧ sy_cats (Y.2.2.2.1.take n).reverse ≤ (sy_meth Y.2.1).2.1 ∧
    sy_back ih d M pc z k Y.2.2.1 (Y.2.2.2.1.drop n) Y.2.2.2.2.2.1 Y.2.2.2.2.2.2 (ih d' (sy_meth Y.2.1) (sy_meth Y.2.1).1 (sy_args (Y.2.2.2.1.take n).reverse 0 0) [] Y.2.2.2.2.1 0 0) = X := by
  cases d with
  | zero => exact absurd (by rw [← h]; rfl) hX
  | succ d' =>
    obtain ⟨h1, h2⟩ := sy_if_inv h hX
    obtain ⟨h1, h3⟩ := sy_and h1
    rw [sy_len_eq] at h1
    rw [sy_drop_eq] at h3
    rw [sy_force_eq] at h2
    obtain ⟨h4, h5⟩ := sy_if_inv h2 hX
    rw [sy_drop_eq, sy_rev_eq, List.append_nil] at h5
    obtain ⟨h4, h6⟩ := sy_and h4
    rw [sy_rev_eq, List.append_nil] at h6
    exact ⟨d', rfl, sy_ble h1, sy_ble h3, h4, sy_ble h6, h5⟩
theorem sy_back_inv {ih : sy_R} {d : Nat} {M : sy_M} {pc z : Nat} {k : List sy_E} {L : Nat} {st : List Nat} {c s : Nat} {Z X : sy_X} (h : sy_back ih d M pc z k L st c s Z = X) (hX : X.1 ≠ 0) :
    (Z.1 = 3 ∧ X = ih d M k L st Z.2.2.2.2.1 (c + Z.2.2.2.2.2.1) (s + Z.2.2.2.2.2.2)) ∨ (Z.1 = 4 ∧ X = ih d M k L (Z.2.1 :: st) Z.2.2.2.2.1 (c + Z.2.2.2.2.2.1) (s + Z.2.2.2.2.2.2)) ∨
    (Z.1 = 6 ∧ z ≠ 82 ∧ M.2.2.1 = [] ∧ X = (6, Z.2.1, 0, [], Z.2.2.2.2.1, c + Z.2.2.2.2.2.1, s + Z.2.2.2.2.2.2)) ∨ (Z.1 = 6 ∧ z ≠ 82 ∧ ∃ q, sy_hand M.2.2.1 pc Z.2.1 = q + 1 ∧ X = sy_caught (M.1.drop q) Z.2.2.2.2.1 (c + Z.2.2.2.2.2.1) (s + Z.2.2.2.2.2.2)) := by
  have h2 : sy_nth (sy_no 0) [sy_no Z.2.1, sy_no 0, sy_no 0, sy_b3 ih d M k L st c s Z, sy_b4 ih d M k L st c s Z, sy_no 0, sy_b6 M pc z c s Z] Z.1 = X := h
  generalize hk : Z.1 = kd at h2
  match kd, h2 with
  | 0, h2 => exact absurd (by rw [← h2]; rfl) hX
  | 1, h2 => exact absurd (by rw [← h2]; rfl) hX
  | 2, h2 => exact absurd (by rw [← h2]; rfl) hX
  | 3, h2 =>
    have h2 : sy_b3 ih d M k L st c s Z = X := h2
    unfold sy_b3 at h2
    rw [sy_force_eq, sy_force_eq] at h2
    exact Or.inl ⟨rfl, h2.symm⟩
  | 4, h2 =>
    have h2 : sy_b4 ih d M k L st c s Z = X := h2
    unfold sy_b4 at h2
    rw [sy_force_eq, sy_force_eq, sy_force_eq] at h2
    exact Or.inr (Or.inl ⟨rfl, h2.symm⟩)
  | 5, h2 => exact absurd (by rw [← h2]; rfl) hX
  | 6, h2 =>
    have h2 : sy_b6 M pc z c s Z = X := h2
    unfold sy_b6 at h2
    obtain ⟨hz0, h2⟩ := sy_if_inv h2 hX
    have hz0 : z ≠ 82 := fun q => by rw [q] at hz0; cases hz0
    rw [sy_force_eq, sy_force_eq] at h2
    cases hh : sy_hand M.2.2.1 pc Z.2.1 with
    | zero =>
      rw [hh] at h2
      rcases sy_cond_inv h2 with ⟨q1, q2⟩ | ⟨q1, q2⟩
      · rw [sy_len_eq] at q1
        exact Or.inr (Or.inr (Or.inl ⟨rfl, hz0, List.eq_nil_of_length_eq_zero (sy_beq q1), q2.symm⟩))
      · exact absurd (by rw [← q2]; rfl) hX
    | succ q =>
      rw [hh] at h2
      have h2 : sy_caught (sy_drop M.1 q) Z.2.2.2.2.1 (c + Z.2.2.2.2.2.1) (s + Z.2.2.2.2.2.2) = X := h2
      rw [sy_drop_eq] at h2
      exact Or.inr (Or.inr (Or.inr ⟨rfl, hz0, q, rfl, h2.symm⟩))
  | n + 7, h2 => exact absurd (by rw [← h2]; rfl) hX
theorem sy_mono (tk : sy_T) (len : Nat) : ∀ (fuel d : Nat) (M : sy_M) (rest : List sy_E) (L : Nat) (st : List Nat) (h : sy_H) (c s : Nat), sy_mn c s (sy_run tk len fuel d M rest L st h c s)
  | 0, _, _, _, _, _, _, _, _ => mn_no
  | fuel + 1, d, M, [], L, st, h, c, s => mn_no
  | fuel + 1, d, M, e :: k, L, st, h, c, s => by
    intro hX
    have hop := mn_op len tk e.2.2.1 e.2.2.2 L st h c s e.2.1
    rcases sy_step_inv (sy_run_succ (tk := tk) (len := len) (fuel := fuel) (d := d) (M := M) (e := e) (k := k) (L := L) (st := st) (h := h) (c := c) (s := s)).symm hX with ⟨h1, h2⟩ | ⟨h1, -, h2⟩ | ⟨h1, -, h2⟩ | ⟨h1, -, -, h2⟩ | ⟨h1, -, -, h2⟩ | ⟨h1, -, -, -, h2⟩ | ⟨h1, h2⟩
    · obtain ⟨o1, o2⟩ := hop (by rw [h1]; decide)
      rw [h2] at hX ⊢
      obtain ⟨p1, p2⟩ := sy_mono tk len fuel _ _ _ _ _ _ _ _ hX
      exact ⟨Nat.le_trans o1 p1, Nat.le_trans o2 p2⟩
    · obtain ⟨o1, o2⟩ := hop (by rw [h1]; decide)
      rw [h2] at hX ⊢
      obtain ⟨p1, p2⟩ := sy_mono tk len fuel _ _ _ _ _ _ _ _ hX
      exact ⟨Nat.le_trans o1 p1, Nat.le_trans o2 p2⟩
    · rw [h2]
      exact hop (by rw [h1]; decide)
    · rw [h2]
      exact hop (by rw [h1]; decide)
    · obtain ⟨o1, o2⟩ := hop (by rw [h1]; decide)
      obtain ⟨d', rfl, -, -, -, -, h7⟩ := sy_k5_inv h2.symm hX
      rcases sy_back_inv h7 hX with ⟨-, h8⟩ | ⟨-, h8⟩ | ⟨-, -, -, h8⟩ | ⟨-, -, q, -, h8⟩
      · rw [h8] at hX ⊢
        obtain ⟨p1, p2⟩ := sy_mono tk len fuel _ _ _ _ _ _ _ _ hX
        exact ⟨Nat.le_trans (Nat.le_trans o1 (Nat.le_add_right _ _)) p1, Nat.le_trans (Nat.le_trans o2 (Nat.le_add_right _ _)) p2⟩
      · rw [h8] at hX ⊢
        obtain ⟨p1, p2⟩ := sy_mono tk len fuel _ _ _ _ _ _ _ _ hX
        exact ⟨Nat.le_trans (Nat.le_trans o1 (Nat.le_add_right _ _)) p1, Nat.le_trans (Nat.le_trans o2 (Nat.le_add_right _ _)) p2⟩
      · rw [h8]
        exact ⟨Nat.le_trans o1 (Nat.le_add_right _ _), Nat.le_trans o2 (Nat.le_add_right _ _)⟩
      · rw [h8] at hX ⊢
        obtain ⟨-, h9⟩ := sy_if_inv (rfl : sy_caught _ _ _ _ = _) hX
        rw [← h9]
        exact ⟨Nat.le_trans o1 (Nat.le_add_right _ _), Nat.le_trans o2 (Nat.le_add_right _ _)⟩
    · obtain ⟨o1, o2⟩ := hop (by rw [h1]; decide)
      rcases sy_cond_inv h2.symm with ⟨-, h3⟩ | ⟨-, h3⟩
      · rw [← h3]
        exact ⟨o1, o2⟩
      · exact absurd (by rw [← h3]; rfl) hX
    · rw [h2]
      exact ⟨Nat.le_refl _, Nat.le_refl _⟩
end SYX
