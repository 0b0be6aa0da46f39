section SYSO
theorem sy_ok_all : sy_Ok := by
  intro i h1 h2
  refine sy_gg_of ?_
  rcases Nat.lt_or_ge i 39 with h | h10
  · have := sy_rg_of _ sy_gr0 (i - 1) (by omega)
    rw [show 1 + (i - 1) = i by omega] at this
    exact this
  rcases Nat.lt_or_ge i 77 with h | h11
  · have := sy_rg_of _ sy_gr1 (i - 39) (by omega)
    rw [show 39 + (i - 39) = i by omega] at this
    exact this
  rcases Nat.lt_or_ge i 115 with h | h12
  · have := sy_rg_of _ sy_gr2 (i - 77) (by omega)
    rw [show 77 + (i - 77) = i by omega] at this
    exact this
  rcases Nat.lt_or_ge i 153 with h | h13
  · have := sy_rg_of _ sy_gr3 (i - 115) (by omega)
    rw [show 115 + (i - 115) = i by omega] at this
    exact this
  rcases Nat.lt_or_ge i 191 with h | h14
  · have := sy_rg_of _ sy_gr4 (i - 153) (by omega)
    rw [show 153 + (i - 153) = i by omega] at this
    exact this
  rcases Nat.lt_or_ge i 228 with h | h15
  · have := sy_rg_of _ sy_gr5 (i - 191) (by omega)
    rw [show 191 + (i - 191) = i by omega] at this
    exact this
  omega
end SYSO
