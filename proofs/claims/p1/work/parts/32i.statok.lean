section SYSO
theorem sy_ok_all : sy_Ok := by
  intro i h1 h2
  refine sy_gg_of ?_
  rcases Nat.lt_or_ge i 11 with h | h10
  · have := sy_rg_of _ sy_gr0 (i - 1) (by omega)
    rw [show 1 + (i - 1) = i by omega] at this
    exact this
  rcases Nat.lt_or_ge i 21 with h | h11
  · have := sy_rg_of _ sy_gr1 (i - 11) (by omega)
    rw [show 11 + (i - 11) = i by omega] at this
    exact this
  rcases Nat.lt_or_ge i 31 with h | h12
  · have := sy_rg_of _ sy_gr2 (i - 21) (by omega)
    rw [show 21 + (i - 21) = i by omega] at this
    exact this
  rcases Nat.lt_or_ge i 41 with h | h13
  · have := sy_rg_of _ sy_gr3 (i - 31) (by omega)
    rw [show 31 + (i - 31) = i by omega] at this
    exact this
  rcases Nat.lt_or_ge i 51 with h | h14
  · have := sy_rg_of _ sy_gr4 (i - 41) (by omega)
    rw [show 41 + (i - 41) = i by omega] at this
    exact this
  rcases Nat.lt_or_ge i 61 with h | h15
  · have := sy_rg_of _ sy_gr5 (i - 51) (by omega)
    rw [show 51 + (i - 51) = i by omega] at this
    exact this
  rcases Nat.lt_or_ge i 71 with h | h16
  · have := sy_rg_of _ sy_gr6 (i - 61) (by omega)
    rw [show 61 + (i - 61) = i by omega] at this
    exact this
  rcases Nat.lt_or_ge i 81 with h | h17
  · have := sy_rg_of _ sy_gr7 (i - 71) (by omega)
    rw [show 71 + (i - 71) = i by omega] at this
    exact this
  rcases Nat.lt_or_ge i 91 with h | h18
  · have := sy_rg_of _ sy_gr8 (i - 81) (by omega)
    rw [show 81 + (i - 81) = i by omega] at this
    exact this
  rcases Nat.lt_or_ge i 101 with h | h19
  · have := sy_rg_of _ sy_gr9 (i - 91) (by omega)
    rw [show 91 + (i - 91) = i by omega] at this
    exact this
  rcases Nat.lt_or_ge i 111 with h | h20
  · have := sy_rg_of _ sy_gr10 (i - 101) (by omega)
    rw [show 101 + (i - 101) = i by omega] at this
    exact this
  rcases Nat.lt_or_ge i 121 with h | h21
  · have := sy_rg_of _ sy_gr11 (i - 111) (by omega)
    rw [show 111 + (i - 111) = i by omega] at this
    exact this
  rcases Nat.lt_or_ge i 131 with h | h22
  · have := sy_rg_of _ sy_gr12 (i - 121) (by omega)
    rw [show 121 + (i - 121) = i by omega] at this
    exact this
  rcases Nat.lt_or_ge i 141 with h | h23
  · have := sy_rg_of _ sy_gr13 (i - 131) (by omega)
    rw [show 131 + (i - 131) = i by omega] at this
    exact this
  rcases Nat.lt_or_ge i 151 with h | h24
  · have := sy_rg_of _ sy_gr14 (i - 141) (by omega)
    rw [show 141 + (i - 141) = i by omega] at this
    exact this
  rcases Nat.lt_or_ge i 161 with h | h25
  · have := sy_rg_of _ sy_gr15 (i - 151) (by omega)
    rw [show 151 + (i - 151) = i by omega] at this
    exact this
  rcases Nat.lt_or_ge i 171 with h | h26
  · have := sy_rg_of _ sy_gr16 (i - 161) (by omega)
    rw [show 161 + (i - 161) = i by omega] at this
    exact this
  rcases Nat.lt_or_ge i 181 with h | h27
  · have := sy_rg_of _ sy_gr17 (i - 171) (by omega)
    rw [show 171 + (i - 171) = i by omega] at this
    exact this
  rcases Nat.lt_or_ge i 191 with h | h28
  · have := sy_rg_of _ sy_gr18 (i - 181) (by omega)
    rw [show 181 + (i - 181) = i by omega] at this
    exact this
  rcases Nat.lt_or_ge i 201 with h | h29
  · have := sy_rg_of _ sy_gr19 (i - 191) (by omega)
    rw [show 191 + (i - 191) = i by omega] at this
    exact this
  rcases Nat.lt_or_ge i 211 with h | h30
  · have := sy_rg_of _ sy_gr20 (i - 201) (by omega)
    rw [show 201 + (i - 201) = i by omega] at this
    exact this
  rcases Nat.lt_or_ge i 221 with h | h31
  · have := sy_rg_of _ sy_gr21 (i - 211) (by omega)
    rw [show 211 + (i - 211) = i by omega] at this
    exact this
  rcases Nat.lt_or_ge i 228 with h | h32
  · have := sy_rg_of _ sy_gr22 (i - 221) (by omega)
    rw [show 221 + (i - 221) = i by omega] at this
    exact this
  omega
end SYSO
