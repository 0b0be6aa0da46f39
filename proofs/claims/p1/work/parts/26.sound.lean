/-! the induction on the fuel -/
section SYJ
variable {l : Launch} {w : sy_Wd} {tk : sy_T} {len : Nat}
/-- which row of the handlers it is -/
theorem sy_hand_inv {pc E : Nat} : ∀ (hs : List (Nat × Nat × Nat × Nat)) (q : Nat), sy_hand hs pc E = q + 1 → ∃ (j a b : Nat), hs[j]? = some (a, b, q, E) ∧ a ≤ pc ∧ pc < b ∧ ∀ j', j' < j → ∀ r, hs[j']? = some r → (pc < r.1 ∨ r.2.1 ≤ pc) ∨ r.2.2.2 ≠ E
  | [], q, h => nomatch h
  | x :: hs, q, h => by
    have h : cond (cond (Nat.ble x.1 pc) (cond (Nat.ble (Nat.succ pc) x.2.1) (Nat.beq x.2.2.2 E) false) false) (Nat.succ x.2.2.1) (sy_hand hs pc E) = q + 1 := h
    cases hc : cond (Nat.ble x.1 pc) (cond (Nat.ble (Nat.succ pc) x.2.1) (Nat.beq x.2.2.2 E) false) false with
    | true =>
      rw [hc] at h
      have h : Nat.succ x.2.2.1 = q + 1 := h
      obtain ⟨h1, h2⟩ := sy_and hc
      obtain ⟨h2, h3⟩ := sy_and h2
      refine ⟨0, x.1, x.2.1, ?_, sy_ble h1, sy_ble h2, fun j' hj => absurd hj (Nat.not_lt_zero _)⟩
      have e1 : x.2.2.1 = q := by omega
      have e2 : x.2.2.2 = E := sy_beq h3
      show some x = _
      rw [← e1, ← e2]
    | false =>
      rw [hc] at h
      obtain ⟨j, a, b, h1, h2, h3, h4⟩ := sy_hand_inv hs q h
      refine ⟨j + 1, a, b, h1, h2, h3, fun j' hj r hr => ?_⟩
      cases j' with
      | zero =>
        have hr : some x = some r := hr
        cases hr
        by_cases hE : x.2.2.2 = E
        · refine Or.inl ?_
          by_cases h5 : x.1 ≤ pc
          · refine Or.inr (Nat.not_lt.mp fun h6 => ?_)
            rw [Nat.ble_eq_true_of_le h5, Nat.ble_eq_true_of_le (show Nat.succ pc ≤ x.2.1 from h6), hE, Nat.beq_refl] at hc
            cases hc
          · exact Or.inl (by omega)
        · exact Or.inr hE
      | succ k => exact h4 k (by omega) r hr
/-- the machine's table, split at the row that takes it -/
theorem sy_catch {p : Program} {e : Env} {R : Room} {s : State} {m : MethodId} {args : Array Value} {below : List Frame} {meth : Method} {c : Code} {Q : State → Prop} {A : Nat → Prop} {i d pc q E : Nat} {H : Heap} {locs : List Loc} {cells slots : Nat} {ls : Array Slot} {rest : List Value} {qa : Addr} {ce : Cell}
    (hC : sy_Ct l p R s m args meth c w A tk len i d) (hE5 : E ≤ 5) (hh : sy_hand (sy_meth i).2.2.1 pc E = q + 1) (hcell : H[qa]? = some ce) (hv : ce.vm = .none) (hcl : s.vm.findClass (sy_ex E) = some ce.cls)
    (kk : (sy_nth sy_e0 (sy_meth i).1 (q + 2)).2.2.2 = 0 → W p l e R s m args below meth c H locs cells slots Q (F0 m (sy_nth sy_e0 (sy_meth i).1 q).1 ls [.ref qa])) : vx_W p l e R s m args below meth c H locs cells slots Q (F0 m pc ls rest) qa := by
  obtain ⟨hx, hb, hml, hown, hg, hini, hGA, hA, hT, hlocks, hret, htab, hf, hlo, hl, hiw, hg3, hg1⟩ := hC
  obtain ⟨f1, f2, f3, f4, f5, f6, f7, f8⟩ := sy_gd3_of hg3
  have hts := sy_hts hg hGA.2.1
  obtain ⟨z1, z2, z3, z4⟩ := hGA.2.2
  obtain ⟨j, a, b, h1, h2, h3, h4⟩ := sy_hand_inv _ q hh
  have hi0 : i ≠ 0 := fun q0 => by
    rw [q0] at h1
    cases h1
  have htab := htab hi0
  have hj : j < (sy_hh i).length := by rw [← f4]; exact (List.getElem?_eq_some_iff.mp h1).1
  have row : ∀ (k : Nat) (r : Nat × Nat × Nat × Nat) (t : Nat × Nat × Nat × Nat), (sy_meth i).2.2.1[k]? = some r → (sy_hh i)[k]? = some t → sy_ckh i r t = true := fun k r t hr ht => f5 (r, t) (by
    apply List.mem_of_getElem? (i := k)
    rw [List.getElem?_zip_eq_some]
    exact ⟨hr, ht⟩)
  have rowf : ∀ {r t : Nat × Nat × Nat × Nat}, sy_ckh i r t = true → r.1 = t.1 ∧ r.2.1 = t.2.1 ∧ (sy_nth sy_e0 (sy_meth i).1 r.2.2.1).1 = t.2.2.1 ∧ t.2.2.2 ≠ 0 ∧ r.2.2.2 ≤ 5 ∧ (Cond.classLink (sy_im i).cls t.2.2.2 (sy_ex r.2.2.2)).before args s = true := fun hck => by
    obtain ⟨g1, g2⟩ := sy_an2 hck
    obtain ⟨g2, g3⟩ := sy_an2 g2
    obtain ⟨g3, g4⟩ := sy_an2 g3
    obtain ⟨g4, g5⟩ := sy_an2 g4
    obtain ⟨g5, g6⟩ := sy_an2 g5
    obtain ⟨g7, g6⟩ := sy_an2 g6
    exact ⟨sy_beq g1, sy_beq g2, sy_beq g3, of_decide_eq_true g4, sy_ble g5, hts _ (hiw _ (of_decide_eq_true g6))⟩
  have ht0 : (sy_hh i)[j]? = some (sy_hh i)[j] := List.getElem?_eq_getElem hj
  obtain ⟨r1, r2, r3, r4, r5, r6⟩ := rowf (row j _ _ h1 ht0)
  have hsplit : c.exceptionTable.toList = tableOf ((sy_hh i).take j) ++ (⟨(sy_hh i)[j].1, (sy_hh i)[j].2.1, (sy_hh i)[j].2.2.1, (sy_hh i)[j].2.2.2⟩ : ExceptionTableEntry) :: tableOf ((sy_hh i).drop (j + 1)) := by
    rw [htab]
    conv => lhs; rw [← List.take_append_drop j (sy_hh i)]
    unfold tableOf
    rw [List.map_append, List.drop_eq_getElem_cons hj, List.map_cons]
  have hcast : (Cond.castable (sy_ex E) (sy_ex E)).before args s = true := hts _ (sy_tbl_memN ⟨sy_cast_all E hE5, rfl⟩)
  refine vx_catch (name := sy_ex E) hown _ _ _ hsplit (fun z hz => ?_) ?_ r4 r6 hcast hcell hv hcl ?_
  · obtain ⟨t, htm, rfl⟩ := List.mem_map.mp hz
    obtain ⟨k, hk⟩ := List.getElem?_of_mem htm
    have hkj : k < j := by
      have := (List.getElem?_eq_some_iff.mp hk).1
      rw [List.length_take] at this
      omega
    rw [List.getElem?_take_of_lt hkj] at hk
    have hk2 : k < (sy_meth i).2.2.1.length := by omega
    have hr0 : (sy_meth i).2.2.1[k]? = some (sy_meth i).2.2.1[k] := List.getElem?_eq_getElem hk2
    obtain ⟨s1, s2, s3, s4, s5, s6⟩ := rowf (row k _ _ hr0 hk)
    rcases h4 k hkj _ hr0 with ho | ho
    · refine Or.inl ?_
      show (decide (t.1 ≤ pc) && decide (pc < t.2.1)) = false
      rw [Bool.and_eq_false_iff, decide_eq_false_iff_not, decide_eq_false_iff_not]
      omega
    · exact Or.inr ⟨s4, _, s6, z4 _ _ hE5 s5 (fun q => ho q.symm)⟩
  · show (decide ((sy_hh i)[j].1 ≤ pc) && decide (pc < (sy_hh i)[j].2.1)) = true
    rw [← r1, ← r2, Bool.and_eq_true, decide_eq_true_iff, decide_eq_true_iff]
    exact ⟨h2, h3⟩
  · show W p l e R s m args below meth c H locs cells slots Q (F0 m (sy_hh i)[j].2.2.1 ls [.ref qa])
    rw [← r3]
    refine kk ?_
    obtain ⟨-, g⟩ := sy_an2 (row j _ _ h1 ht0)
    obtain ⟨-, g⟩ := sy_an2 g
    obtain ⟨-, g⟩ := sy_an2 g
    obtain ⟨-, g⟩ := sy_an2 g
    obtain ⟨-, g⟩ := sy_an2 g
    obtain ⟨g, -⟩ := sy_an2 g
    exact sy_beq g
theorem sy_tsw_k {sw : List Nat} {df x y L c s : Nat} {st : List Nat} {h : sy_H} : (sy_tsw sw df tk x y L st h c s).1 ≠ 1 := by
  cases st with
  | nil => show (0 : Nat) ≠ 1; decide
  | cons a r =>
    show (sy_if (cond (Nat.beq (sy_tg a) 0) (Nat.ble (sy_py a) 63) false) (sy_force (sy_nth df sw (sy_py a)) fun x => sy_jmp x L r h c s)).1 ≠ 1
    cases cond (Nat.beq (sy_tg a) 0) (Nat.ble (sy_py a) 63) false with
    | true =>
      show (sy_force (sy_nth df sw (sy_py a)) fun x => sy_jmp x L r h c s).1 ≠ 1
      rw [sy_force_eq]
      show (2 : Nat) ≠ 1
      decide
    | false => show (0 : Nat) ≠ 1; decide
end SYJ
