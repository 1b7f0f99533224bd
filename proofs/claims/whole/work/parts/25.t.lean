theorem isIn_new {nf ns P : Nat} {s : KS} (hP : P < 60) (h : s.1 11 P = -1) : p_X0_isIn nf ns (nn P) s = some (.inl (some 0), s) := by
  simp (disch := omega) [p_X0_isIn, nn_in, nn_tn, h, hP]
theorem isIn_fr {nf ns P f : Nat} {s : KS} (hP : P < 60) (hf : f < 10) (h : s.1 11 P = nn f) : p_X0_isIn nf ns (nn P) s = some (.inl (some 1), s) := by
  simp (disch := omega) [p_X0_isIn, nn_in, nn_tn, h, hP, nn_m1, nn_100, nn_le]
  omega
theorem isIn_sl {nf ns P i : Nat} {s : KS} (hP : P < 60) (hf : i < 20) (h : s.1 11 P = nn (100 + i)) : p_X0_isIn nf ns (nn P) s = some (.inl (some 0), s) := by
  simp (disch := omega) [p_X0_isIn, nn_in, nn_tn, h, hP, nn_m1, nn_100, nn_le]
