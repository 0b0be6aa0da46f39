/-! the main induction -/
section SYK1
variable {l : Launch} {w : sy_Wd} {tk : sy_T} {len : Nat}
theorem sy_word_at {args a' : Array Value} {s U : State} {u : Cond} (hW : s.WarmedH U.vm) (hg : goodWord u = true) (h : u.before args s = true) : u.before a' U = true := word_at hW (good_of_word hg) h
theorem sy_nth_drop {α : Type} (d : α) (l : List α) (n : Nat) : sy_nth d (l.drop n) 0 = sy_nth d l n := by
  rw [sy_nth_get, sy_nth_get, List.getElem?_drop, Nat.add_zero]
theorem sy_room_f {d r : Nat} (h : sy_rf (d + 1) ≤ r) : sy_rf d + 1 ≤ r := by
  unfold sy_rf at h ⊢
  omega
theorem sy_room_l {il d r : Nat} (h1 : il ≤ 100) (h : sy_rl (d + 1) ≤ r) : 8 + (il + 11) + sy_rl d ≤ r := by
  have h2 : 300 * (d + 1) + 300 ≤ r := h
  show 8 + (il + 11) + 300 * (d + 1) ≤ r
  generalize 300 * (d + 1) = z at h2 ⊢
  clear h
  omega
/-- a call's premises, of any kind -/
theorem sy_callfacts {p : Program} {R : Room} {s : State} {m : MethodId} {args : Array Value} {meth : Method} {c : Code} {A : Nat → Prop} {i d d' x : Nat} {Z : sy_X} (hC : sy_Ct l p R s m args meth c w A tk len i d) (hd : d = d' + 1) (hx3 : sy_gd3 x = true) (hx4 : sy_gd4 x = true) :
    (sy_rm d' Z).cells = Z.2.2.2.2.2.1 ∧ (sy_rm d' Z).slots = Z.2.2.2.2.2.2 ∧ (sy_rm d' Z).frames + 1 ≤ R.frames ∧ 8 + (sy_il x + 11) + (sy_rm d' Z).locals ≤ R.locals ∧ (∀ u ∈ sy_cw x :: sy_gtb, ∀ (a' : Array Value) (U : State), s.WarmedH U.vm → u.before a' U = true) ∧ (sy_cw x).before args s = true := by
  obtain ⟨hx, hb, hml, hown, hg, hini, hGA, hA, hT, hlocks, hret, htab, hf, hlo, hl, hiw, hg3, hg1⟩ := hC
  obtain ⟨f1, f2, f3, f4, f5, f6, f7, f8⟩ := sy_gd3_of hx3
  obtain ⟨g1, g2⟩ := sy_an2 hx4
  have hcw : sy_cw x ∈ sy_gtb := List.mem_filter.mpr ⟨of_decide_eq_true g1, g2⟩
  refine ⟨rfl, rfl, ?_, ?_, fun u hu a' U hW => ?_, hg _ hcw⟩
  · subst hd
    exact sy_room_f hf
  · subst hd
    exact sy_room_l f3 hlo
  · rcases List.mem_cons.mp hu with rfl | hu
    · exact sy_word_at hW g2 (hg _ hcw)
    · exact sy_word_at hW (List.mem_filter.mp hu).2 (hg _ hu)
/-- what a callee is given -/
theorem sy_pc {s : State} {A : Nat → Prop} {H : Heap} {locs : List Loc} {ρ : Nat → Nat} {h : sy_H} {vals : List Nat} (hGA : sy_GA w len A s s.heap) (hH : sy_HP w A s.heap ρ h H locs) (hA : ∀ q, s.heap.size ≤ q → A q) {U : State} (hU : U.heap = H) (hW : s.WarmedH U.vm) :
    sy_Pc w len ρ h H.size vals (vals.map (sy_v w ρ)).toArray U := by
  have hsub : ∀ q, va_A (sy_ws w ρ h) H.size q → A q := by
    intro q hq
    rcases hq with ⟨k, e', hk⟩ | hq
    · exact hH.2.1.2 k (q, e') hk
    · exact hA q (Nat.le_trans hH.2.2.1.1 hq)
  refine ⟨rfl, by rw [hU], by rw [hU]; exact hH.1, hH.2.1.self, ?_⟩
  rw [hU]
  exact sy_GA_tr hGA hW (fun q _ hq => hsub q hq) hsub hH.2.2.1.1 hH.2.2.1.2.1
theorem sy_blind {ρ : Nat → Nat} {h : sy_H} {sz : Nat} {vals : List Nat} : FrameBlind (sy_Pc w len ρ h sz vals) := by
  intro a U g mk hP
  obtain ⟨h1, h2, h3, h4, h5⟩ := hP
  exact ⟨h1, h2, h3, h4, sy_GA_tr (U := U.calling g mk a) (H' := U.heap) h5 (State.WarmedH.refl U) (fun _ _ q => q) (fun _ q => q) (Nat.le_refl _) (fun _ _ _ => rfl)⟩
theorem sy_ar_of {y : MethodName} {n : Nat} (h : sy_ar y = some n) : ∀ sig, parseMethodDescriptor y.desc = some sig → n = sig.parameters.length := by
  intro sig hs
  unfold sy_ar at h
  rw [hs] at h
  exact (Option.some.inj h).symm
end SYK1
