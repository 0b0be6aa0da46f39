/-! the statics' checks, put together -/
section SYSG
noncomputable def sy_emp (l : List sy_E) : Bool := List.rec (motive := fun _ => Bool) true (fun _ _ _ => false) l
noncomputable def sy_gg (i : Nat) : Bool := cond (sy_emp (sy_meth i).1) true (cond (sy_gd1 i) (cond (sy_fd2 i) (cond (sy_gd3 i) (sy_fd4 i) false) false) false)
theorem sy_rg_of {f : Nat → Bool} {a : Nat} : ∀ (n : Nat), sy_rg f a n = true → ∀ k, k < n → f (a + k) = true
  | 0, _, k, hk => absurd hk (Nat.not_lt_zero _)
  | n + 1, h, k, hk => by
    obtain ⟨h1, h2⟩ := sy_and h
    by_cases hkn : k = n
    · subst hkn
      exact h1
    · exact sy_rg_of n h2 k (by omega)
theorem sy_gg_of {i : Nat} (h : sy_gg i = true) : (sy_meth i).1 = [] ∨ (sy_gd1 i = true ∧ sy_gd2 i = true ∧ sy_gd3 i = true ∧ sy_gd4 i = true) := by
  unfold sy_gg at h
  cases he : (sy_meth i).1 with
  | nil => exact Or.inl rfl
  | cons e k =>
    rw [he] at h
    obtain ⟨h1, h2⟩ := sy_and h
    obtain ⟨h2, h3⟩ := sy_and h2
    obtain ⟨h3, h4⟩ := sy_and h3
    exact Or.inr ⟨h1, sy_fd2_ok h2, h3, sy_fd4_ok h4⟩
/-- the first n places of l -/
noncomputable def sy_ckn (i : Nat) (l : List sy_E) : Nat → Bool := List.rec (motive := fun _ => Nat → Bool) (fun _ => true) (fun e k r n => Nat.rec (motive := fun _ => Bool) true (fun m _ => cond (sy_cke i e (sy_nth sy_e0 k 0).1) (r m) false) n) l
theorem sy_ckn_ok {i : Nat} : ∀ (l : List sy_E) (n : Nat), sy_ckn i l n = true → sy_ckl i (l.drop n) = true → sy_ckl i l = true
  | [], _, _, _ => rfl
  | _ :: _, 0, _, h => h
  | e :: k, n + 1, h, h2 => by
    obtain ⟨h1, h3⟩ := sy_and (h : cond (sy_cke i e (sy_nth sy_e0 k 0).1) (sy_ckn i k n) false = true)
    show cond (sy_cke i e (sy_nth sy_e0 k 0).1) (sy_ckl i k) false = true
    rw [h1, sy_ckn_ok k n h3 h2]
    rfl
end SYSG
