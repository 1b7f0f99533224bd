theorem isIn_new {nf ns P : Nat} {s : KS} (hP : P < 60) (h : s.1 11 P = -1) : p_X0_isIn nf ns (nn P) s = some (.inl (some 0), s) := by
  simp (disch := omega) [p_X0_isIn, nn_in, nn_tn, h, hP]
theorem isIn_fr {nf ns P f : Nat} {s : KS} (hP : P < 60) (hf : f < 10) (h : s.1 11 P = nn f) : p_X0_isIn nf ns (nn P) s = some (.inl (some 1), s) := by
  simp (disch := omega) [p_X0_isIn, nn_in, nn_tn, h, hP, nn_m1, nn_100g, (fF (by omega) : (100 ≤ f) = False)]
theorem isIn_sl {nf ns P i : Nat} {s : KS} (hP : P < 60) (hf : i < 20) (h : s.1 11 P = nn (100 + i)) : p_X0_isIn nf ns (nn P) s = some (.inl (some 0), s) := by
  simp (disch := omega) [p_X0_isIn, nn_in, nn_tn, h, hP, nn_m1, nn_100g]
theorem vac_new {nf ns P : Nat} {s : KS} (hP : P < 60) (h : s.1 11 P = -1) : p_X0_vacate nf ns (nn P) s = some (.inl none, kS s 11 P (-1)) := by
  simp (disch := omega) [p_X0_vacate, nn_in, nn_tn, h, hP, (eq_true (by decide) : ((-1 : Int32) < 100) = True)]
theorem vac_fr {nf ns P f : Nat} {s : KS} (hP : P < 60) (hf : f < nf) (hn : nf ≤ 10) (h : s.1 11 P = nn f) : p_X0_vacate nf ns (nn P) s = some (.inl none, kS (kS s 12 f (-1)) 11 P (-1)) := by
  simp (disch := omega) [p_X0_vacate, nn_in, nn_tn, h, hP, hf, nn_m1, nn_100l, (by omega : f < 100)]
theorem vac_sl {nf ns P i : Nat} {s : KS} (hP : P < 60) (hf : i < ns) (hn : ns ≤ 20) (h : s.1 11 P = nn (100 + i)) : p_X0_vacate nf ns (nn P) s = some (.inl none, kS (kS s 14 i (-1)) 11 P (-1)) := by
  simp (disch := omega) [p_X0_vacate, nn_in, nn_tn, h, hP, hf, nn_100l, (fF (by omega) : (100 + i < 100) = False), nn_100s]
theorem leastFree14 {nf ns : Nat} {s : KS} (hn : ns ≤ 20) : ∀ (k i n : Nat), i + k = ns → k < n → p_X0_leastFree_14_L2 nf ns n (nn i) s = some (.inl (some (lf (fun j => decide (s.1 14 j = -1)) k i)), s)
  | 0, i, n + 1, h1, h2 => by
    simp (disch := omega) [p_X0_leastFree_14_L2, nn_lit, nn_le, lf, (by omega : ns ≤ i)]
  | k + 1, i, n + 1, h1, h2 => by
    have ih := leastFree14 (nf := nf) (s := s) hn k (i + 1) n (by omega) (by omega)
    simp (disch := omega) only [p_X0_leastFree_14_L2, nn_lit, nn_le, lf, nn_in, nn_tn, (fF (by omega) : (ns ≤ i) = False), (by omega : i < ns), nn_p1, ih, decide_false, decide_true, cond_false, cond_true, decide_eq_true_eq]
    by_cases h : s.1 14 i = -1 <;> simp [h]
theorem leastFree14' {nf ns : Nat} {s : KS} (hn : ns ≤ 20) : p_X0_leastFree_14 nf ns s = some (.inl (some (lf (fun j => decide (s.1 14 j = -1)) ns 0)), s) := leastFree14 hn ns 0 400 (by omega) (by omega)
theorem leastFree12 {nf ns : Nat} {s : KS} (hn : nf ≤ 10) : ∀ (k i n : Nat), i + k = nf → k < n → p_X0_leastFree_12_L2 nf ns n (nn i) s = some (.inl (some (lf (fun j => decide (s.1 12 j = -1)) k i)), s)
  | 0, i, n + 1, h1, h2 => by
    simp (disch := omega) [p_X0_leastFree_12_L2, nn_lit, nn_le, lf, (by omega : nf ≤ i)]
  | k + 1, i, n + 1, h1, h2 => by
    have ih := leastFree12 (ns := ns) (s := s) hn k (i + 1) n (by omega) (by omega)
    simp (disch := omega) only [p_X0_leastFree_12_L2, nn_lit, nn_le, lf, nn_in, nn_tn, (fF (by omega) : (nf ≤ i) = False), (by omega : i < nf), nn_p1, ih, decide_false, decide_true, cond_false, cond_true, decide_eq_true_eq]
    by_cases h : s.1 12 i = -1 <;> simp [h]
theorem leastFree12' {nf ns : Nat} {s : KS} (hn : nf ≤ 10) : p_X0_leastFree_12 nf ns s = some (.inl (some (lf (fun j => decide (s.1 12 j = -1)) nf 0)), s) := leastFree12 hn nf 0 400 (by omega) (by omega)
theorem isText_p {nf ns P : Nat} {s : KS} (hP : P < 60) : p_X0_isText nf ns (nn P) s = some (.inl (some (if P < 6 then 1 else 0)), s) := by
  by_cases h : P < 6
  · simp (disch := omega) [p_X0_isText, nn_6g, h, (fF (by omega) : (6 ≤ P) = False)]
  · simp (disch := omega) [p_X0_isText, nn_6g, h, (by omega : 6 ≤ P)]
theorem canGo_t {nf ns P : Nat} {s : KS} (hP : P < 6) : p_X0_canGo nf ns (nn P) s = some (.inl (some 1), s) := by
  simp [p_X0_canGo, isText_p (by omega : P < 60), hP, kbi]
theorem canGo_o {nf ns P : Nat} {s : KS} (hn : ns ≤ 20) (hP : P < 60) (h6 : 6 ≤ P) : p_X0_canGo nf ns (nn P) s = some (.inl (some (if lf (fun j => decide (s.1 14 j = -1)) ns 0 = -1 then 0 else 1)), s) := by
  simp only [p_X0_canGo, isText_p hP, (fF (by omega) : (P < 6) = False), kbi, leastFree14' hn, if_false, decide_true, Bool.not_true, cond_false]
  by_cases h : lf (fun j => decide (s.1 14 j = -1)) ns 0 = -1 <;> simp [h]
theorem sendOut_t {nf ns P f : Nat} {s : KS} (hP : P < 6) (hf : f < nf) (hn : nf ≤ 10) (h : s.1 11 P = nn f) : p_X0_sendOut nf ns (nn P) s = some (.inl none, kS (kS (kS s 12 f (-1)) 11 P (-1)) 8 9 (s.1 8 9 + 1)) := by
  simp [p_X0_sendOut, isText_p (by omega : P < 60), hP, kbi, kbv, vac_fr (by omega : P < 60) hf hn h, kS_1]
theorem sendOut_o {nf ns P f j : Nat} {s : KS} (hP : P < 60) (h6 : 6 ≤ P) (hf : f < nf) (hn : nf ≤ 10) (hm : ns ≤ 20) (h : s.1 11 P = nn f) (hj : j < ns) (hl : lf (fun j => decide (s.1 14 j = -1)) ns 0 = nn j) : p_X0_sendOut nf ns (nn P) s = some (.inl none, kS (kS (kS (kS (kS s 12 f (-1)) 11 P (-1)) 14 j (nn P)) 11 P (nn (100 + j))) 8 9 (s.1 8 9 + 1)) := by
  simp (disch := omega) [p_X0_sendOut, isText_p hP, (fF (by omega) : (P < 6) = False), kbi, kbv, vac_fr hP hf hn h, kS_1, leastFree14' hm, hl, nn_m1, nn_in, hj, hP, nn_tn, nn_100p]
theorem nx_c {nf h : Nat} (hh : h < nf) (hn : nf ≤ 10) (s : KS) (r : Option Int32 ⊕ Nat) (h6 : s.1 8 6 = nn h) : cond (am_in (s.1 8 6) nf) (cond (decide ((Int32.ofNat nf) ≤ (((kS s 13 (s.1 8 6).toNatClampNeg (am_nar 1 (0 : Int32))).1 8 6) + (1 : Int32)))) (some (r, (kS (kS s 13 (s.1 8 6).toNatClampNeg (am_nar 1 (0 : Int32))) 8 6 (0 : Int32)))) (some (r, (kS (kS s 13 (s.1 8 6).toNatClampNeg (am_nar 1 (0 : Int32))) 8 6 (((kS s 13 (s.1 8 6).toNatClampNeg (am_nar 1 (0 : Int32))).1 8 6) + (1 : Int32)))))) none = some (r, kS (kS s 13 h 0) 8 6 (nn (nx nf h))) := by
  have e : (kS s 13 (s.1 8 6).toNatClampNeg (am_nar 1 (0 : Int32))).1 8 6 = nn h := h6
  rw [e, h6]
  simp (disch := omega) only [nn_in, nn_lit, nn_p1, nn_le, nn_tn, nar0, hh, decide_true, cond_true]
  unfold nx
  by_cases h9 : h + 1 < nf
  · simp [h9, (fF (by omega) : (nf ≤ h + 1) = False)]
  · simp [h9, (by omega : nf ≤ h + 1)]; rfl
theorem look_0 {nf ns h : Nat} {s : KS} (hh : h < nf) (hn : nf ≤ 10) (h6 : s.1 8 6 = nn h) (h12 : s.1 12 h = -1) : p_X0_lookAndMoveOn nf ns s = some (.inl (some 0), kS (kS s 13 h 0) 8 6 (nn (nx nf h))) := by
  unfold p_X0_lookAndMoveOn
  simp only [nx_c hh hn s _ h6]
  rw [h6, nn_tn (by omega), nn_in (by omega), h12]
  simp [hh]
theorem look_1 {nf ns h P : Nat} {s : KS} (hh : h < nf) (hn : nf ≤ 10) (h6 : s.1 8 6 = nn h) (hP : P < 60) (h12 : s.1 12 h = nn P) (h13 : s.1 13 h = 1) : p_X0_lookAndMoveOn nf ns s = some (.inl (some 0), kS (kS s 13 h 0) 8 6 (nn (nx nf h))) := by
  unfold p_X0_lookAndMoveOn
  simp only [nx_c hh hn s _ h6]
  rw [h6, nn_tn (by omega), nn_in (by omega), h12, h13]
  simp (disch := omega) [hh, nn_m1]
theorem look_2 {nf ns h P : Nat} {s : KS} (hh : h < nf) (hn : nf ≤ 10) (h6 : s.1 8 6 = nn h) (hP : P < 60) (h12 : s.1 12 h = nn P) (h13 : s.1 13 h = 0) (hg : p_X0_canGo nf ns (nn P) s = some (.inl (some 0), s)) : p_X0_lookAndMoveOn nf ns s = some (.inl (some 0), kS (kS s 13 h 0) 8 6 (nn (nx nf h))) := by
  unfold p_X0_lookAndMoveOn
  simp only [nx_c hh hn s _ h6]
  rw [h6, nn_tn (by omega), nn_in (by omega), h12, h13, hg]
  simp (disch := omega) [hh, nn_m1, kbi, nx_c hh hn s _ h6]
theorem look_3 {nf ns h P : Nat} {s s3 : KS} (hh : h < nf) (hn : nf ≤ 10) (h6 : s.1 8 6 = nn h) (hP : P < 60) (h12 : s.1 12 h = nn P) (h13 : s.1 13 h = 0) (hg : p_X0_canGo nf ns (nn P) s = some (.inl (some 1), s)) (ho : p_X0_sendOut nf ns (nn P) s = some (.inl none, s3)) (h63 : s3.1 8 6 = nn h) : p_X0_lookAndMoveOn nf ns s = some (.inl (some 1), kS (kS s3 13 h 0) 8 6 (nn (nx nf h))) := by
  unfold p_X0_lookAndMoveOn
  simp only [nx_c hh hn s _ h6]
  rw [h6, nn_tn (by omega), nn_in (by omega), h12, h13, hg]
  simp (disch := omega) [hh, nn_m1, kbi, kbv, ho, nx_c hh hn s3 _ h63]
