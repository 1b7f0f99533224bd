set_option maxRecDepth 20000 in
def g_X1_clamp (n f pc : Nat) (lv : am_Lv) (st : List am_V) (h : am_H) (b : Nat × Nat) : Option am_O := am_go X_X1_clamp 3 (some .int) am_rs0 [] [] (am_lp T_X1_clamp X_X1_clamp 3 (some .int) am_rs0 [] [] n) f (am_from pc T_X1_clamp) lv st h b
set_option maxRecDepth 20000 in
def j_X1_clamp (n pc : Nat) (lv : am_Lv) (st : List am_V) (h : am_H) (b : Nat × Nat) : Option am_O := am_lp T_X1_clamp X_X1_clamp 3 (some .int) am_rs0 [] [] n pc lv st h b
set_option maxRecDepth 20000 in
theorem j_X1_clamp_g (n pc : Nat) (lv : am_Lv) (st : List am_V) (h : am_H) (b : Nat × Nat) : j_X1_clamp (n + 1) pc lv st h b = g_X1_clamp n 1000 pc lv st h b := rfl
set_option maxRecDepth 20000 in
theorem j_X1_clamp_0 (pc : Nat) (lv : am_Lv) (st : List am_V) (h : am_H) (b : Nat × Nat) : j_X1_clamp 0 pc lv st h b = none := rfl
set_option maxRecDepth 20000 in
def p_X1_clamp (nf ns : Nat) (a0 : Int32) (a1 : Int32) (a2 : Int32) (s : KS) : KR := some (.inl (some (if a1 < (if a0 < a2 then a0 else a2) then (if a0 < a2 then a0 else a2) else a1)), s)
set_option maxRecDepth 20000 in
theorem e_X1_clamp {nf ns : Nat} {rest : am_H} (a0 : Int32) (a1 : Int32) (a2 : Int32) (s : KS) : F_X1_clamp [.inl (.int a0), .inl (.int a1), .inl (.int a2)] (kH nf ns rest s) = am_lf (kH nf ns rest) (p_X1_clamp nf ns a0 a1 a2 s) := by
  rw [p_X1_clamp]
  refine (show _ = g_X1_clamp 399 1000 0 [(0, .inl (.int a0)), (1, .inl (.int a1)), (2, .inl (.int a2))] [] (kH nf ns rest s) (0, 0) from am_fn_g (Nat.le_of_ble_eq_true rfl)).trans ?_
  refine ((show ∀ f n : Nat, g_X1_clamp n (f + 6) 0 [(0, .inl (.int a0)), (1, .inl (.int a1)), (2, .inl (.int a2))] [] (kH nf ns rest s) (0, 0) = some (.inl (some (.inl (.int (if a1 < (if a0 < a2 then a0 else a2) then (if a0 < a2 then a0 else a2) else a1)))), kH nf ns rest s) from fun f n => rfl) 994 399).trans ?_
  rfl
set_option maxRecDepth 20000 in
def g_X1_leavePages (n f pc : Nat) (lv : am_Lv) (st : List am_V) (h : am_H) (b : Nat × Nat) : Option am_O := am_go X_X1_leavePages 6 none am_rs0 [] [(3, [0, 1, 3, 4])] (am_lp T_X1_leavePages X_X1_leavePages 6 none am_rs0 [] [(3, [0, 1, 3, 4])] n) f (am_from pc T_X1_leavePages) lv st h b
set_option maxRecDepth 20000 in
def j_X1_leavePages (n pc : Nat) (lv : am_Lv) (st : List am_V) (h : am_H) (b : Nat × Nat) : Option am_O := am_lp T_X1_leavePages X_X1_leavePages 6 none am_rs0 [] [(3, [0, 1, 3, 4])] n pc lv st h b
set_option maxRecDepth 20000 in
theorem j_X1_leavePages_g (n pc : Nat) (lv : am_Lv) (st : List am_V) (h : am_H) (b : Nat × Nat) : j_X1_leavePages (n + 1) pc lv st h b = g_X1_leavePages n 1000 pc lv st h b := rfl
set_option maxRecDepth 20000 in
theorem j_X1_leavePages_0 (pc : Nat) (lv : am_Lv) (st : List am_V) (h : am_H) (b : Nat × Nat) : j_X1_leavePages 0 pc lv st h b = none := rfl
set_option maxRecDepth 20000 in
def p_X1_leavePages_L3 (nf ns : Nat) : Nat → Int32 → Int32 → Int32 → KS → KR
  | 0, _, _, _, _ => none
  | n + 1, l1, l3, l4, s => cond (decide (l3 ≤ l4)) (some (.inl none, s)) (cond (am_in l1 6) (cond ((decide (l1.toNatClampNeg < 6) && am_in l4 11)) (cond (decide ((s.2 l1.toNatClampNeg l4.toNatClampNeg) = (-1 : Int32))) (p_X1_leavePages_L3 nf ns n l1 l3 (l4 + (1 : Int32)) s) (kbv (p_X0_leave nf ns (s.2 l1.toNatClampNeg l4.toNatClampNeg) s) (fun s1 => cond (am_in l1 6) (cond ((decide (l1.toNatClampNeg < 6) && am_in l4 11)) (p_X1_leavePages_L3 nf ns n l1 l3 (l4 + (1 : Int32)) (kG s1 l1.toNatClampNeg l4.toNatClampNeg (-1 : Int32))) none) none))) none) none)
set_option maxRecDepth 20000 in
theorem b_X1_leavePages_L3 {nf ns : Nat} {rest : am_H} (n : Nat) (ih : ∀ (l1 : Int32) (l3 : Int32) (l4 : Int32) (s : KS), j_X1_leavePages n 3 [(0, .inl (.ref 0)), (1, .inl (.int l1)), (3, .inl (.int l3)), (4, .inl (.int l4))] [] (kH nf ns rest s) (0, 0) = am_lf (kH nf ns rest) (p_X1_leavePages_L3 nf ns n l1 l3 l4 s)) (f : Nat) (l1 : Int32) (l3 : Int32) (l4 : Int32) (s : KS) : g_X1_leavePages n (f + 29) 3 [(0, .inl (.ref 0)), (1, .inl (.int l1)), (3, .inl (.int l3)), (4, .inl (.int l4))] [] (kH nf ns rest s) (0, 0) = am_lf (kH nf ns rest) (p_X1_leavePages_L3 nf ns (n + 1) l1 l3 l4 s) := by
  rw [p_X1_leavePages_L3]
  refine ((show ∀ f n : Nat, g_X1_leavePages n (f + 3) 3 [(0, .inl (.ref 0)), (1, .inl (.int l1)), (3, .inl (.int l3)), (4, .inl (.int l4))] [] (kH nf ns rest s) (0, 0) = cond (decide (l3 ≤ l4)) (g_X1_leavePages n f 51 [(0, .inl (.ref 0)), (1, .inl (.int l1)), (3, .inl (.int l3)), (4, .inl (.int l4))] [] (kH nf ns rest s) (0, 0)) (g_X1_leavePages n f 9 [(0, .inl (.ref 0)), (1, .inl (.int l1)), (3, .inl (.int l3)), (4, .inl (.int l4))] [] (kH nf ns rest s) (0, 0)) from fun f n => rfl) (f + 26) n).trans ?_
  refine am_lcd ?_ ?_
  · refine ((show ∀ f n : Nat, g_X1_leavePages n (f + 1) 51 [(0, .inl (.ref 0)), (1, .inl (.int l1)), (3, .inl (.int l3)), (4, .inl (.int l4))] [] (kH nf ns rest s) (0, 0) = some (.inl none, kH nf ns rest s) from fun f n => rfl) (f + 25) n).trans ?_
    rfl
  · refine ((show ∀ f n : Nat, g_X1_leavePages n (f + 10) 9 [(0, .inl (.ref 0)), (1, .inl (.int l1)), (3, .inl (.int l3)), (4, .inl (.int l4))] [] (kH nf ns rest s) (0, 0) = cond (am_in l1 6) (cond ((decide (l1.toNatClampNeg < 6) && am_in l4 11)) (cond (decide ((s.2 l1.toNatClampNeg l4.toNatClampNeg) = (-1 : Int32))) (g_X1_leavePages n f 45 [(0, .inl (.ref 0)), (1, .inl (.int l1)), (3, .inl (.int l3)), (4, .inl (.int l4)), (5, .inl (.int (s.2 l1.toNatClampNeg l4.toNatClampNeg)))] [] (kH nf ns rest s) (0, 0)) (g_X1_leavePages n f 26 [(0, .inl (.ref 0)), (1, .inl (.int l1)), (3, .inl (.int l3)), (4, .inl (.int l4)), (5, .inl (.int (s.2 l1.toNatClampNeg l4.toNatClampNeg)))] [] (kH nf ns rest s) (0, 0))) none) none from fun f n => rfl) (f + 16) n).trans ?_
    refine am_lcd (B := none) ?_ rfl
    refine am_lcd (B := none) ?_ rfl
    refine am_lcd ?_ ?_
    · refine ((show ∀ f n : Nat, g_X1_leavePages n (f + 2) 45 [(0, .inl (.ref 0)), (1, .inl (.int l1)), (3, .inl (.int l3)), (4, .inl (.int l4)), (5, .inl (.int (s.2 l1.toNatClampNeg l4.toNatClampNeg)))] [] (kH nf ns rest s) (0, 0) = j_X1_leavePages n 3 [(0, .inl (.ref 0)), (1, .inl (.int l1)), (3, .inl (.int l3)), (4, .inl (.int (l4 + (1 : Int32))))] [] (kH nf ns rest s) (0, 0) from fun f n => rfl) (f + 14) n).trans ?_
      exact ih l1 l3 (l4 + (1 : Int32)) s
    · refine ((show ∀ f n : Nat, g_X1_leavePages n (f + 4) 26 [(0, .inl (.ref 0)), (1, .inl (.int l1)), (3, .inl (.int l3)), (4, .inl (.int l4)), (5, .inl (.int (s.2 l1.toNatClampNeg l4.toNatClampNeg)))] [] (kH nf ns rest s) (0, 0) = am_rv (F_X0_leave [.inl (.ref 8), .inl (.int (s.2 l1.toNatClampNeg l4.toNatClampNeg))] (kH nf ns rest s)) (fun h => g_X1_leavePages n f 35 [(0, .inl (.ref 0)), (1, .inl (.int l1)), (3, .inl (.int l3)), (4, .inl (.int l4)), (5, .inl (.int (s.2 l1.toNatClampNeg l4.toNatClampNeg)))] [] h (0, 0)) (fun x h => some (.inr x, h)) from fun f n => rfl) (f + 12) n).trans ?_
      rw [e_X0_leave (s.2 l1.toNatClampNeg l4.toNatClampNeg) s]
      refine am_lbv (fun s1 => ?_) (fun _ _ => rfl)
      refine ((show ∀ f n : Nat, g_X1_leavePages n (f + 9) 35 [(0, .inl (.ref 0)), (1, .inl (.int l1)), (3, .inl (.int l3)), (4, .inl (.int l4)), (5, .inl (.int (s.2 l1.toNatClampNeg l4.toNatClampNeg)))] [] (kH nf ns rest s1) (0, 0) = cond (am_in l1 6) (cond ((decide (l1.toNatClampNeg < 6) && am_in l4 11)) (j_X1_leavePages n 3 [(0, .inl (.ref 0)), (1, .inl (.int l1)), (3, .inl (.int l3)), (4, .inl (.int (l4 + (1 : Int32))))] [] (kH nf ns rest (kG s1 l1.toNatClampNeg l4.toNatClampNeg (-1 : Int32))) (0, 0)) none) none from fun f n => rfl) (f + 3) n).trans ?_
      refine am_lcd (B := none) ?_ rfl
      refine am_lcd (B := none) ?_ rfl
      exact ih l1 l3 (l4 + (1 : Int32)) (kG s1 l1.toNatClampNeg l4.toNatClampNeg (-1 : Int32))
set_option maxRecDepth 20000 in
theorem e_X1_leavePages_L3 {nf ns : Nat} {rest : am_H} : ∀ (n : Nat) (l1 : Int32) (l3 : Int32) (l4 : Int32) (s : KS), j_X1_leavePages n 3 [(0, .inl (.ref 0)), (1, .inl (.int l1)), (3, .inl (.int l3)), (4, .inl (.int l4))] [] (kH nf ns rest s) (0, 0) = am_lf (kH nf ns rest) (p_X1_leavePages_L3 nf ns n l1 l3 l4 s)
  | 0, _, _, _, _ => by rw [p_X1_leavePages_L3]; rfl
  | n + 1, l1, l3, l4, s => (j_X1_leavePages_g n 3 _ _ _ _).trans (b_X1_leavePages_L3 n (e_X1_leavePages_L3 n) 971 l1 l3 l4 s)
set_option maxRecDepth 20000 in
def p_X1_leavePages (nf ns : Nat) (a1 : Int32) (a2 : Int32) (a3 : Int32) (s : KS) : KR := p_X1_leavePages_L3 nf ns 400 a1 a3 a2 s
set_option maxRecDepth 20000 in
theorem e_X1_leavePages {nf ns : Nat} {rest : am_H} (a1 : Int32) (a2 : Int32) (a3 : Int32) (s : KS) : F_X1_leavePages [.inl (.ref 0), .inl (.int a1), .inl (.int a2), .inl (.int a3)] (kH nf ns rest s) = am_lf (kH nf ns rest) (p_X1_leavePages nf ns a1 a2 a3 s) := by
  rw [p_X1_leavePages]
  refine (show _ = g_X1_leavePages 399 1000 0 [(0, .inl (.ref 0)), (1, .inl (.int a1)), (2, .inl (.int a2)), (3, .inl (.int a3))] [] (kH nf ns rest s) (0, 0) from am_fn_g (Nat.le_of_ble_eq_true rfl)).trans ?_
  refine ((show ∀ f n : Nat, g_X1_leavePages n (f + 2) 0 [(0, .inl (.ref 0)), (1, .inl (.int a1)), (2, .inl (.int a2)), (3, .inl (.int a3))] [] (kH nf ns rest s) (0, 0) = g_X1_leavePages n f 3 [(0, .inl (.ref 0)), (1, .inl (.int a1)), (2, .inl (.int a2)), (3, .inl (.int a3)), (4, .inl (.int a2))] [] (kH nf ns rest s) (0, 0) from fun f n => rfl) 998 399).trans ?_
  refine ((show ∀ f n : Nat, g_X1_leavePages n (f + 1) 3 [(0, .inl (.ref 0)), (1, .inl (.int a1)), (2, .inl (.int a2)), (3, .inl (.int a3)), (4, .inl (.int a2))] [] (kH nf ns rest s) (0, 0) = g_X1_leavePages n (f + 1) 3 [(0, .inl (.ref 0)), (1, .inl (.int a1)), (3, .inl (.int a3)), (4, .inl (.int a2))] [] (kH nf ns rest s) (0, 0) from fun f n => rfl) 997 399).trans ?_
  exact b_X1_leavePages_L3 399 (e_X1_leavePages_L3 399) 969 a1 a3 a2 s
set_option maxRecDepth 20000 in
def g_X1_addPages (n f pc : Nat) (lv : am_Lv) (st : List am_V) (h : am_H) (b : Nat × Nat) : Option am_O := am_go X_X1_addPages 5 none am_rs0 [] [(3, [0, 1, 3, 4])] (am_lp T_X1_addPages X_X1_addPages 5 none am_rs0 [] [(3, [0, 1, 3, 4])] n) f (am_from pc T_X1_addPages) lv st h b
set_option maxRecDepth 20000 in
def j_X1_addPages (n pc : Nat) (lv : am_Lv) (st : List am_V) (h : am_H) (b : Nat × Nat) : Option am_O := am_lp T_X1_addPages X_X1_addPages 5 none am_rs0 [] [(3, [0, 1, 3, 4])] n pc lv st h b
set_option maxRecDepth 20000 in
theorem j_X1_addPages_g (n pc : Nat) (lv : am_Lv) (st : List am_V) (h : am_H) (b : Nat × Nat) : j_X1_addPages (n + 1) pc lv st h b = g_X1_addPages n 1000 pc lv st h b := rfl
set_option maxRecDepth 20000 in
theorem j_X1_addPages_0 (pc : Nat) (lv : am_Lv) (st : List am_V) (h : am_H) (b : Nat × Nat) : j_X1_addPages 0 pc lv st h b = none := rfl
set_option maxRecDepth 20000 in
def p_X1_addPages_L3 (nf ns : Nat) : Nat → Int32 → Int32 → Int32 → KS → KR
  | 0, _, _, _, _ => none
  | n + 1, l1, l3, l4, s => cond (decide (l3 ≤ l4)) (some (.inl none, s)) (cond (am_in l1 6) (kbi (p_X0_newPage nf ns  s) (fun x2 s1 => cond ((decide (l1.toNatClampNeg < 6) && am_in l4 11)) (p_X1_addPages_L3 nf ns n l1 l3 (l4 + (1 : Int32)) (kG s1 l1.toNatClampNeg l4.toNatClampNeg x2)) none)) none)
set_option maxRecDepth 20000 in
theorem b_X1_addPages_L3 {nf ns : Nat} {rest : am_H} (n : Nat) (ih : ∀ (l1 : Int32) (l3 : Int32) (l4 : Int32) (s : KS), j_X1_addPages n 3 [(0, .inl (.ref 0)), (1, .inl (.int l1)), (3, .inl (.int l3)), (4, .inl (.int l4))] [] (kH nf ns rest s) (0, 0) = am_lf (kH nf ns rest) (p_X1_addPages_L3 nf ns n l1 l3 l4 s)) (f : Nat) (l1 : Int32) (l3 : Int32) (l4 : Int32) (s : KS) : g_X1_addPages n (f + 17) 3 [(0, .inl (.ref 0)), (1, .inl (.int l1)), (3, .inl (.int l3)), (4, .inl (.int l4))] [] (kH nf ns rest s) (0, 0) = am_lf (kH nf ns rest) (p_X1_addPages_L3 nf ns (n + 1) l1 l3 l4 s) := by
  rw [p_X1_addPages_L3]
  refine ((show ∀ f n : Nat, g_X1_addPages n (f + 3) 3 [(0, .inl (.ref 0)), (1, .inl (.int l1)), (3, .inl (.int l3)), (4, .inl (.int l4))] [] (kH nf ns rest s) (0, 0) = cond (decide (l3 ≤ l4)) (g_X1_addPages n f 31 [(0, .inl (.ref 0)), (1, .inl (.int l1)), (3, .inl (.int l3)), (4, .inl (.int l4))] [] (kH nf ns rest s) (0, 0)) (g_X1_addPages n f 9 [(0, .inl (.ref 0)), (1, .inl (.int l1)), (3, .inl (.int l3)), (4, .inl (.int l4))] [] (kH nf ns rest s) (0, 0)) from fun f n => rfl) (f + 14) n).trans ?_
  refine am_lcd ?_ ?_
  · refine ((show ∀ f n : Nat, g_X1_addPages n (f + 1) 31 [(0, .inl (.ref 0)), (1, .inl (.int l1)), (3, .inl (.int l3)), (4, .inl (.int l4))] [] (kH nf ns rest s) (0, 0) = some (.inl none, kH nf ns rest s) from fun f n => rfl) (f + 13) n).trans ?_
    rfl
  · refine ((show ∀ f n : Nat, g_X1_addPages n (f + 8) 9 [(0, .inl (.ref 0)), (1, .inl (.int l1)), (3, .inl (.int l3)), (4, .inl (.int l4))] [] (kH nf ns rest s) (0, 0) = cond (am_in l1 6) (am_ri (F_X0_newPage [.inl (.ref 8)] (kH nf ns rest s)) (fun x2 h => g_X1_addPages n f 24 [(0, .inl (.ref 0)), (1, .inl (.int l1)), (3, .inl (.int l3)), (4, .inl (.int l4))] [.inl (.int x2), .inl (.int l4), .inr (7, l1.toNatClampNeg)] h (0, 0)) (fun x h => some (.inr x, h))) none from fun f n => rfl) (f + 6) n).trans ?_
    refine am_lcd (B := none) ?_ rfl
    rw [e_X0_newPage  s]
    refine am_lbi (fun x2 s1 => ?_) (fun _ _ => rfl)
    refine ((show ∀ f n : Nat, g_X1_addPages n (f + 3) 24 [(0, .inl (.ref 0)), (1, .inl (.int l1)), (3, .inl (.int l3)), (4, .inl (.int l4))] [.inl (.int x2), .inl (.int l4), .inr (7, l1.toNatClampNeg)] (kH nf ns rest s1) (0, 0) = cond ((decide (l1.toNatClampNeg < 6) && am_in l4 11)) (j_X1_addPages n 3 [(0, .inl (.ref 0)), (1, .inl (.int l1)), (3, .inl (.int l3)), (4, .inl (.int (l4 + (1 : Int32))))] [] (kH nf ns rest (kG s1 l1.toNatClampNeg l4.toNatClampNeg x2)) (0, 0)) none from fun f n => rfl) (f + 3) n).trans ?_
    refine am_lcd (B := none) ?_ rfl
    exact ih l1 l3 (l4 + (1 : Int32)) (kG s1 l1.toNatClampNeg l4.toNatClampNeg x2)
set_option maxRecDepth 20000 in
theorem e_X1_addPages_L3 {nf ns : Nat} {rest : am_H} : ∀ (n : Nat) (l1 : Int32) (l3 : Int32) (l4 : Int32) (s : KS), j_X1_addPages n 3 [(0, .inl (.ref 0)), (1, .inl (.int l1)), (3, .inl (.int l3)), (4, .inl (.int l4))] [] (kH nf ns rest s) (0, 0) = am_lf (kH nf ns rest) (p_X1_addPages_L3 nf ns n l1 l3 l4 s)
  | 0, _, _, _, _ => by rw [p_X1_addPages_L3]; rfl
  | n + 1, l1, l3, l4, s => (j_X1_addPages_g n 3 _ _ _ _).trans (b_X1_addPages_L3 n (e_X1_addPages_L3 n) 983 l1 l3 l4 s)
set_option maxRecDepth 20000 in
def p_X1_addPages (nf ns : Nat) (a1 : Int32) (a2 : Int32) (a3 : Int32) (s : KS) : KR := p_X1_addPages_L3 nf ns 400 a1 a3 a2 s
set_option maxRecDepth 20000 in
theorem e_X1_addPages {nf ns : Nat} {rest : am_H} (a1 : Int32) (a2 : Int32) (a3 : Int32) (s : KS) : F_X1_addPages [.inl (.ref 0), .inl (.int a1), .inl (.int a2), .inl (.int a3)] (kH nf ns rest s) = am_lf (kH nf ns rest) (p_X1_addPages nf ns a1 a2 a3 s) := by
  rw [p_X1_addPages]
  refine (show _ = g_X1_addPages 399 1000 0 [(0, .inl (.ref 0)), (1, .inl (.int a1)), (2, .inl (.int a2)), (3, .inl (.int a3))] [] (kH nf ns rest s) (0, 0) from am_fn_g (Nat.le_of_ble_eq_true rfl)).trans ?_
  refine ((show ∀ f n : Nat, g_X1_addPages n (f + 2) 0 [(0, .inl (.ref 0)), (1, .inl (.int a1)), (2, .inl (.int a2)), (3, .inl (.int a3))] [] (kH nf ns rest s) (0, 0) = g_X1_addPages n f 3 [(0, .inl (.ref 0)), (1, .inl (.int a1)), (2, .inl (.int a2)), (3, .inl (.int a3)), (4, .inl (.int a2))] [] (kH nf ns rest s) (0, 0) from fun f n => rfl) 998 399).trans ?_
  refine ((show ∀ f n : Nat, g_X1_addPages n (f + 1) 3 [(0, .inl (.ref 0)), (1, .inl (.int a1)), (2, .inl (.int a2)), (3, .inl (.int a3)), (4, .inl (.int a2))] [] (kH nf ns rest s) (0, 0) = g_X1_addPages n (f + 1) 3 [(0, .inl (.ref 0)), (1, .inl (.int a1)), (3, .inl (.int a3)), (4, .inl (.int a2))] [] (kH nf ns rest s) (0, 0) from fun f n => rfl) 997 399).trans ?_
  exact b_X1_addPages_L3 399 (e_X1_addPages_L3 399) 981 a1 a3 a2 s
set_option maxRecDepth 20000 in
def g_X1_startProgram (n f pc : Nat) (lv : am_Lv) (st : List am_V) (h : am_H) (b : Nat × Nat) : Option am_O := am_go X_X1_startProgram 4 none am_rs0 [] [(2, [0, 1, 2, 3]), (35, [0, 1, 2, 3])] (am_lp T_X1_startProgram X_X1_startProgram 4 none am_rs0 [] [(2, [0, 1, 2, 3]), (35, [0, 1, 2, 3])] n) f (am_from pc T_X1_startProgram) lv st h b
set_option maxRecDepth 20000 in
def j_X1_startProgram (n pc : Nat) (lv : am_Lv) (st : List am_V) (h : am_H) (b : Nat × Nat) : Option am_O := am_lp T_X1_startProgram X_X1_startProgram 4 none am_rs0 [] [(2, [0, 1, 2, 3]), (35, [0, 1, 2, 3])] n pc lv st h b
set_option maxRecDepth 20000 in
theorem j_X1_startProgram_g (n pc : Nat) (lv : am_Lv) (st : List am_V) (h : am_H) (b : Nat × Nat) : j_X1_startProgram (n + 1) pc lv st h b = g_X1_startProgram n 1000 pc lv st h b := rfl
set_option maxRecDepth 20000 in
theorem j_X1_startProgram_0 (pc : Nat) (lv : am_Lv) (st : List am_V) (h : am_H) (b : Nat × Nat) : j_X1_startProgram 0 pc lv st h b = none := rfl
set_option maxRecDepth 20000 in
def p_X1_startProgram_L35 (nf ns : Nat) : Nat → Int32 → Int32 → Int32 → KS → KR
  | 0, _, _, _, _ => none
  | n + 1, l1, l2, l3, s => cond (decide ((2 : Int32) ≤ l3)) (cond (am_in l1 6) (cond (am_in l2 3) (cond (am_in l1 6) (cond (am_in l1 6) (cond (am_in l1 6) (kbv (p_X1_addPages nf ns l1 (2 : Int32) ((2 : Int32) + ((kS (kS (kS s 2 l1.toNatClampNeg (l2)) 5 l1.toNatClampNeg ((if l2.toNatClampNeg = 0 then 1 else if l2.toNatClampNeg = 1 then 2 else 4))) 6 l1.toNatClampNeg ((1 : Int32))).1 5 l1.toNatClampNeg)) (kS (kS (kS s 2 l1.toNatClampNeg (l2)) 5 l1.toNatClampNeg ((if l2.toNatClampNeg = 0 then 1 else if l2.toNatClampNeg = 1 then 2 else 4))) 6 l1.toNatClampNeg ((1 : Int32)))) (fun s2 => kbv (p_X1_addPages nf ns l1 (10 : Int32) (11 : Int32) s2) (fun s3 => some (.inl none, s3)))) none) none) none) none) none) (cond (am_in l1 6) (kbi (p_X0_textPage nf ns l2 l3 s) (fun x5 s4 => cond ((decide (l1.toNatClampNeg < 6) && am_in l3 11)) (p_X1_startProgram_L35 nf ns n l1 l2 (l3 + (1 : Int32)) (kG s4 l1.toNatClampNeg l3.toNatClampNeg x5)) none)) none)
set_option maxRecDepth 20000 in
theorem b_X1_startProgram_L35 {nf ns : Nat} {rest : am_H} (n : Nat) (ih : ∀ (l1 : Int32) (l2 : Int32) (l3 : Int32) (s : KS), j_X1_startProgram n 35 [(0, .inl (.ref 0)), (1, .inl (.int l1)), (2, .inl (.int l2)), (3, .inl (.int l3))] [] (kH nf ns rest s) (0, 0) = am_lf (kH nf ns rest) (p_X1_startProgram_L35 nf ns n l1 l2 l3 s)) (f : Nat) (l1 : Int32) (l2 : Int32) (l3 : Int32) (s : KS) : g_X1_startProgram n (f + 39) 35 [(0, .inl (.ref 0)), (1, .inl (.int l1)), (2, .inl (.int l2)), (3, .inl (.int l3))] [] (kH nf ns rest s) (0, 0) = am_lf (kH nf ns rest) (p_X1_startProgram_L35 nf ns (n + 1) l1 l2 l3 s) := by
  rw [p_X1_startProgram_L35]
  refine ((show ∀ f n : Nat, g_X1_startProgram n (f + 3) 35 [(0, .inl (.ref 0)), (1, .inl (.int l1)), (2, .inl (.int l2)), (3, .inl (.int l3))] [] (kH nf ns rest s) (0, 0) = cond (decide ((2 : Int32) ≤ l3)) (g_X1_startProgram n f 59 [(0, .inl (.ref 0)), (1, .inl (.int l1)), (2, .inl (.int l2)), (3, .inl (.int l3))] [] (kH nf ns rest s) (0, 0)) (g_X1_startProgram n f 40 [(0, .inl (.ref 0)), (1, .inl (.int l1)), (2, .inl (.int l2)), (3, .inl (.int l3))] [] (kH nf ns rest s) (0, 0)) from fun f n => rfl) (f + 36) n).trans ?_
  refine am_lcd ?_ ?_
  · refine ((show ∀ f n : Nat, g_X1_startProgram n (f + 27) 59 [(0, .inl (.ref 0)), (1, .inl (.int l1)), (2, .inl (.int l2)), (3, .inl (.int l3))] [] (kH nf ns rest s) (0, 0) = cond (am_in l1 6) (cond (am_in l2 3) (cond (am_in l1 6) (cond (am_in l1 6) (cond (am_in l1 6) (am_rv (F_X1_addPages [.inl (.ref 0), .inl (.int l1), .inl (.int (2 : Int32)), .inl (.int ((2 : Int32) + ((kS (kS (kS s 2 l1.toNatClampNeg (l2)) 5 l1.toNatClampNeg ((if l2.toNatClampNeg = 0 then 1 else if l2.toNatClampNeg = 1 then 2 else 4))) 6 l1.toNatClampNeg ((1 : Int32))).1 5 l1.toNatClampNeg)))] (kH nf ns rest (kS (kS (kS s 2 l1.toNatClampNeg (l2)) 5 l1.toNatClampNeg ((if l2.toNatClampNeg = 0 then 1 else if l2.toNatClampNeg = 1 then 2 else 4))) 6 l1.toNatClampNeg ((1 : Int32))))) (fun h => g_X1_startProgram n f 98 [(0, .inl (.ref 0)), (1, .inl (.int l1)), (2, .inl (.int l2)), (3, .inl (.int l3))] [] h (0, 0)) (fun x h => some (.inr x, h))) none) none) none) none) none from fun f n => rfl) (f + 9) n).trans ?_
    refine am_lcd (B := none) ?_ rfl
    refine am_lcd (B := none) ?_ rfl
    refine am_lcd (B := none) ?_ rfl
    refine am_lcd (B := none) ?_ rfl
    refine am_lcd (B := none) ?_ rfl
    rw [e_X1_addPages l1 (2 : Int32) ((2 : Int32) + ((kS (kS (kS s 2 l1.toNatClampNeg (l2)) 5 l1.toNatClampNeg ((if l2.toNatClampNeg = 0 then 1 else if l2.toNatClampNeg = 1 then 2 else 4))) 6 l1.toNatClampNeg ((1 : Int32))).1 5 l1.toNatClampNeg)) (kS (kS (kS s 2 l1.toNatClampNeg (l2)) 5 l1.toNatClampNeg ((if l2.toNatClampNeg = 0 then 1 else if l2.toNatClampNeg = 1 then 2 else 4))) 6 l1.toNatClampNeg ((1 : Int32)))]
    refine am_lbv (fun s2 => ?_) (fun _ _ => rfl)
    refine ((show ∀ f n : Nat, g_X1_startProgram n (f + 5) 98 [(0, .inl (.ref 0)), (1, .inl (.int l1)), (2, .inl (.int l2)), (3, .inl (.int l3))] [] (kH nf ns rest s2) (0, 0) = am_rv (F_X1_addPages [.inl (.ref 0), .inl (.int l1), .inl (.int (10 : Int32)), .inl (.int (11 : Int32))] (kH nf ns rest s2)) (fun h => g_X1_startProgram n f 107 [(0, .inl (.ref 0)), (1, .inl (.int l1)), (2, .inl (.int l2)), (3, .inl (.int l3))] [] h (0, 0)) (fun x h => some (.inr x, h)) from fun f n => rfl) (f + 4) n).trans ?_
    rw [e_X1_addPages l1 (10 : Int32) (11 : Int32) s2]
    refine am_lbv (fun s3 => ?_) (fun _ _ => rfl)
    refine ((show ∀ f n : Nat, g_X1_startProgram n (f + 1) 107 [(0, .inl (.ref 0)), (1, .inl (.int l1)), (2, .inl (.int l2)), (3, .inl (.int l3))] [] (kH nf ns rest s3) (0, 0) = some (.inl none, kH nf ns rest s3) from fun f n => rfl) (f + 3) n).trans ?_
    rfl
  · refine ((show ∀ f n : Nat, g_X1_startProgram n (f + 8) 40 [(0, .inl (.ref 0)), (1, .inl (.int l1)), (2, .inl (.int l2)), (3, .inl (.int l3))] [] (kH nf ns rest s) (0, 0) = cond (am_in l1 6) (am_ri (F_X0_textPage [.inl (.int l2), .inl (.int l3)] (kH nf ns rest s)) (fun x5 h => g_X1_startProgram n f 52 [(0, .inl (.ref 0)), (1, .inl (.int l1)), (2, .inl (.int l2)), (3, .inl (.int l3))] [.inl (.int x5), .inl (.int l3), .inr (7, l1.toNatClampNeg)] h (0, 0)) (fun x h => some (.inr x, h))) none from fun f n => rfl) (f + 28) n).trans ?_
    refine am_lcd (B := none) ?_ rfl
    rw [e_X0_textPage l2 l3 s]
    refine am_lbi (fun x5 s4 => ?_) (fun _ _ => rfl)
    refine ((show ∀ f n : Nat, g_X1_startProgram n (f + 3) 52 [(0, .inl (.ref 0)), (1, .inl (.int l1)), (2, .inl (.int l2)), (3, .inl (.int l3))] [.inl (.int x5), .inl (.int l3), .inr (7, l1.toNatClampNeg)] (kH nf ns rest s4) (0, 0) = cond ((decide (l1.toNatClampNeg < 6) && am_in l3 11)) (j_X1_startProgram n 35 [(0, .inl (.ref 0)), (1, .inl (.int l1)), (2, .inl (.int l2)), (3, .inl (.int (l3 + (1 : Int32))))] [] (kH nf ns rest (kG s4 l1.toNatClampNeg l3.toNatClampNeg x5)) (0, 0)) none from fun f n => rfl) (f + 25) n).trans ?_
    refine am_lcd (B := none) ?_ rfl
    exact ih l1 l2 (l3 + (1 : Int32)) (kG s4 l1.toNatClampNeg l3.toNatClampNeg x5)
set_option maxRecDepth 20000 in
theorem e_X1_startProgram_L35 {nf ns : Nat} {rest : am_H} : ∀ (n : Nat) (l1 : Int32) (l2 : Int32) (l3 : Int32) (s : KS), j_X1_startProgram n 35 [(0, .inl (.ref 0)), (1, .inl (.int l1)), (2, .inl (.int l2)), (3, .inl (.int l3))] [] (kH nf ns rest s) (0, 0) = am_lf (kH nf ns rest) (p_X1_startProgram_L35 nf ns n l1 l2 l3 s)
  | 0, _, _, _, _ => by rw [p_X1_startProgram_L35]; rfl
  | n + 1, l1, l2, l3, s => (j_X1_startProgram_g n 35 _ _ _ _).trans (b_X1_startProgram_L35 n (e_X1_startProgram_L35 n) 961 l1 l2 l3 s)
set_option maxRecDepth 20000 in
def p_X1_startProgram_L2 (nf ns : Nat) : Nat → Int32 → Int32 → Int32 → KS → KR
  | 0, _, _, _, _ => none
  | n + 1, l1, l2, l3, s => cond (decide ((2 : Int32) ≤ l3)) (kbv (p_X1_leavePages nf ns l1 (0 : Int32) (11 : Int32) s) (fun s1 => p_X1_startProgram_L35 nf ns (n + 1) l1 l2 (0 : Int32) s1)) (kbi (p_X0_textPage nf ns l2 l3 s) (fun x7 s6 => kbv (p_X0_join nf ns x7 s6) (fun s8 => p_X1_startProgram_L2 nf ns n l1 l2 (l3 + (1 : Int32)) s8)))
set_option maxRecDepth 20000 in
theorem b_X1_startProgram_L2 {nf ns : Nat} {rest : am_H} (n : Nat) (ih : ∀ (l1 : Int32) (l2 : Int32) (l3 : Int32) (s : KS), j_X1_startProgram n 2 [(0, .inl (.ref 0)), (1, .inl (.int l1)), (2, .inl (.int l2)), (3, .inl (.int l3))] [] (kH nf ns rest s) (0, 0) = am_lf (kH nf ns rest) (p_X1_startProgram_L2 nf ns n l1 l2 l3 s)) (f : Nat) (l1 : Int32) (l2 : Int32) (l3 : Int32) (s : KS) : g_X1_startProgram n (f + 52) 2 [(0, .inl (.ref 0)), (1, .inl (.int l1)), (2, .inl (.int l2)), (3, .inl (.int l3))] [] (kH nf ns rest s) (0, 0) = am_lf (kH nf ns rest) (p_X1_startProgram_L2 nf ns (n + 1) l1 l2 l3 s) := by
  rw [p_X1_startProgram_L2]
  refine ((show ∀ f n : Nat, g_X1_startProgram n (f + 3) 2 [(0, .inl (.ref 0)), (1, .inl (.int l1)), (2, .inl (.int l2)), (3, .inl (.int l3))] [] (kH nf ns rest s) (0, 0) = cond (decide ((2 : Int32) ≤ l3)) (g_X1_startProgram n f 25 [(0, .inl (.ref 0)), (1, .inl (.int l1)), (2, .inl (.int l2)), (3, .inl (.int l3))] [] (kH nf ns rest s) (0, 0)) (g_X1_startProgram n f 7 [(0, .inl (.ref 0)), (1, .inl (.int l1)), (2, .inl (.int l2)), (3, .inl (.int l3))] [] (kH nf ns rest s) (0, 0)) from fun f n => rfl) (f + 49) n).trans ?_
  refine am_lcd ?_ ?_
  · refine ((show ∀ f n : Nat, g_X1_startProgram n (f + 5) 25 [(0, .inl (.ref 0)), (1, .inl (.int l1)), (2, .inl (.int l2)), (3, .inl (.int l3))] [] (kH nf ns rest s) (0, 0) = am_rv (F_X1_leavePages [.inl (.ref 0), .inl (.int l1), .inl (.int (0 : Int32)), .inl (.int (11 : Int32))] (kH nf ns rest s)) (fun h => g_X1_startProgram n f 33 [(0, .inl (.ref 0)), (1, .inl (.int l1)), (2, .inl (.int l2)), (3, .inl (.int l3))] [] h (0, 0)) (fun x h => some (.inr x, h)) from fun f n => rfl) (f + 44) n).trans ?_
    rw [e_X1_leavePages l1 (0 : Int32) (11 : Int32) s]
    refine am_lbv (fun s1 => ?_) (fun _ _ => rfl)
    refine ((show ∀ f n : Nat, g_X1_startProgram n (f + 2) 33 [(0, .inl (.ref 0)), (1, .inl (.int l1)), (2, .inl (.int l2)), (3, .inl (.int l3))] [] (kH nf ns rest s1) (0, 0) = g_X1_startProgram n f 35 [(0, .inl (.ref 0)), (1, .inl (.int l1)), (2, .inl (.int l2)), (3, .inl (.int (0 : Int32)))] [] (kH nf ns rest s1) (0, 0) from fun f n => rfl) (f + 42) n).trans ?_
    exact b_X1_startProgram_L35 n (e_X1_startProgram_L35 n) (f + 3) l1 l2 (0 : Int32) s1
  · refine ((show ∀ f n : Nat, g_X1_startProgram n (f + 5) 7 [(0, .inl (.ref 0)), (1, .inl (.int l1)), (2, .inl (.int l2)), (3, .inl (.int l3))] [] (kH nf ns rest s) (0, 0) = am_ri (F_X0_textPage [.inl (.int l2), .inl (.int l3)] (kH nf ns rest s)) (fun x7 h => g_X1_startProgram n f 16 [(0, .inl (.ref 0)), (1, .inl (.int l1)), (2, .inl (.int l2)), (3, .inl (.int l3))] [.inl (.int x7), .inl (.ref 8)] h (0, 0)) (fun x h => some (.inr x, h)) from fun f n => rfl) (f + 44) n).trans ?_
    rw [e_X0_textPage l2 l3 s]
    refine am_lbi (fun x7 s6 => ?_) (fun _ _ => rfl)
    refine ((show ∀ f n : Nat, g_X1_startProgram n (f + 1) 16 [(0, .inl (.ref 0)), (1, .inl (.int l1)), (2, .inl (.int l2)), (3, .inl (.int l3))] [.inl (.int x7), .inl (.ref 8)] (kH nf ns rest s6) (0, 0) = am_rv (F_X0_join [.inl (.ref 8), .inl (.int x7)] (kH nf ns rest s6)) (fun h => g_X1_startProgram n f 19 [(0, .inl (.ref 0)), (1, .inl (.int l1)), (2, .inl (.int l2)), (3, .inl (.int l3))] [] h (0, 0)) (fun x h => some (.inr x, h)) from fun f n => rfl) (f + 43) n).trans ?_
    rw [e_X0_join x7 s6]
    refine am_lbv (fun s8 => ?_) (fun _ _ => rfl)
    refine ((show ∀ f n : Nat, g_X1_startProgram n (f + 2) 19 [(0, .inl (.ref 0)), (1, .inl (.int l1)), (2, .inl (.int l2)), (3, .inl (.int l3))] [] (kH nf ns rest s8) (0, 0) = j_X1_startProgram n 2 [(0, .inl (.ref 0)), (1, .inl (.int l1)), (2, .inl (.int l2)), (3, .inl (.int (l3 + (1 : Int32))))] [] (kH nf ns rest s8) (0, 0) from fun f n => rfl) (f + 41) n).trans ?_
    exact ih l1 l2 (l3 + (1 : Int32)) s8
set_option maxRecDepth 20000 in
theorem e_X1_startProgram_L2 {nf ns : Nat} {rest : am_H} : ∀ (n : Nat) (l1 : Int32) (l2 : Int32) (l3 : Int32) (s : KS), j_X1_startProgram n 2 [(0, .inl (.ref 0)), (1, .inl (.int l1)), (2, .inl (.int l2)), (3, .inl (.int l3))] [] (kH nf ns rest s) (0, 0) = am_lf (kH nf ns rest) (p_X1_startProgram_L2 nf ns n l1 l2 l3 s)
  | 0, _, _, _, _ => by rw [p_X1_startProgram_L2]; rfl
  | n + 1, l1, l2, l3, s => (j_X1_startProgram_g n 2 _ _ _ _).trans (b_X1_startProgram_L2 n (e_X1_startProgram_L2 n) 948 l1 l2 l3 s)
set_option maxRecDepth 20000 in
def p_X1_startProgram (nf ns : Nat) (a1 : Int32) (a2 : Int32) (s : KS) : KR := p_X1_startProgram_L2 nf ns 400 a1 a2 (0 : Int32) s
set_option maxRecDepth 20000 in
theorem e_X1_startProgram {nf ns : Nat} {rest : am_H} (a1 : Int32) (a2 : Int32) (s : KS) : F_X1_startProgram [.inl (.ref 0), .inl (.int a1), .inl (.int a2)] (kH nf ns rest s) = am_lf (kH nf ns rest) (p_X1_startProgram nf ns a1 a2 s) := by
  rw [p_X1_startProgram]
  refine (show _ = g_X1_startProgram 399 1000 0 [(0, .inl (.ref 0)), (1, .inl (.int a1)), (2, .inl (.int a2))] [] (kH nf ns rest s) (0, 0) from am_fn_g (Nat.le_of_ble_eq_true rfl)).trans ?_
  refine ((show ∀ f n : Nat, g_X1_startProgram n (f + 2) 0 [(0, .inl (.ref 0)), (1, .inl (.int a1)), (2, .inl (.int a2))] [] (kH nf ns rest s) (0, 0) = g_X1_startProgram n f 2 [(0, .inl (.ref 0)), (1, .inl (.int a1)), (2, .inl (.int a2)), (3, .inl (.int (0 : Int32)))] [] (kH nf ns rest s) (0, 0) from fun f n => rfl) 998 399).trans ?_
  exact b_X1_startProgram_L2 399 (e_X1_startProgram_L2 399) 946 a1 a2 (0 : Int32) s
set_option maxRecDepth 20000 in
def g_X1_checkRange (n f pc : Nat) (lv : am_Lv) (st : List am_V) (h : am_H) (b : Nat × Nat) : Option am_O := am_go X_X1_checkRange 3 none am_rs0 [] [] (am_lp T_X1_checkRange X_X1_checkRange 3 none am_rs0 [] [] n) f (am_from pc T_X1_checkRange) lv st h b
set_option maxRecDepth 20000 in
def j_X1_checkRange (n pc : Nat) (lv : am_Lv) (st : List am_V) (h : am_H) (b : Nat × Nat) : Option am_O := am_lp T_X1_checkRange X_X1_checkRange 3 none am_rs0 [] [] n pc lv st h b
set_option maxRecDepth 20000 in
theorem j_X1_checkRange_g (n pc : Nat) (lv : am_Lv) (st : List am_V) (h : am_H) (b : Nat × Nat) : j_X1_checkRange (n + 1) pc lv st h b = g_X1_checkRange n 1000 pc lv st h b := rfl
set_option maxRecDepth 20000 in
theorem j_X1_checkRange_0 (pc : Nat) (lv : am_Lv) (st : List am_V) (h : am_H) (b : Nat × Nat) : j_X1_checkRange 0 pc lv st h b = none := rfl
set_option maxRecDepth 20000 in
def p_X1_checkRange (nf ns : Nat) (a0 : Int32) (a1 : Int32) (a2 : Int32) (s : KS) : KR := cond (decide (a0 < a1)) (some (.inr 0, s)) (cond (decide (a0 ≤ a2)) (some (.inl none, s)) (some (.inr 0, s)))
set_option maxRecDepth 20000 in
theorem e_X1_checkRange {nf ns : Nat} {rest : am_H} (a0 : Int32) (a1 : Int32) (a2 : Int32) (s : KS) : F_X1_checkRange [.inl (.int a0), .inl (.int a1), .inl (.int a2)] (kH nf ns rest s) = am_lf (kH nf ns rest) (p_X1_checkRange nf ns a0 a1 a2 s) := by
  rw [p_X1_checkRange]
  refine (show _ = g_X1_checkRange 399 1000 0 [(0, .inl (.int a0)), (1, .inl (.int a1)), (2, .inl (.int a2))] [] (kH nf ns rest s) (1, 6) from am_fn_g (Nat.le_of_ble_eq_true rfl)).trans ?_
  refine ((show ∀ f n : Nat, g_X1_checkRange n (f + 3) 0 [(0, .inl (.int a0)), (1, .inl (.int a1)), (2, .inl (.int a2))] [] (kH nf ns rest s) (1, 6) = cond (decide (a0 < a1)) (g_X1_checkRange n f 10 [(0, .inl (.int a0)), (1, .inl (.int a1)), (2, .inl (.int a2))] [] (kH nf ns rest s) (1, 6)) (g_X1_checkRange n f 5 [(0, .inl (.int a0)), (1, .inl (.int a1)), (2, .inl (.int a2))] [] (kH nf ns rest s) (1, 6)) from fun f n => rfl) 997 399).trans ?_
  refine am_lcd ?_ ?_
  · refine ((show ∀ f n : Nat, g_X1_checkRange n (f + 1) 10 [(0, .inl (.int a0)), (1, .inl (.int a1)), (2, .inl (.int a2))] [] (kH nf ns rest s) (1, 6) = some (.inr 0, kH nf ns rest s) from fun f n => rfl) 996 399).trans ?_
    rfl
  · refine ((show ∀ f n : Nat, g_X1_checkRange n (f + 3) 5 [(0, .inl (.int a0)), (1, .inl (.int a1)), (2, .inl (.int a2))] [] (kH nf ns rest s) (1, 6) = cond (decide (a0 ≤ a2)) (g_X1_checkRange n f 18 [(0, .inl (.int a0)), (1, .inl (.int a1)), (2, .inl (.int a2))] [] (kH nf ns rest s) (1, 6)) (g_X1_checkRange n f 10 [(0, .inl (.int a0)), (1, .inl (.int a1)), (2, .inl (.int a2))] [] (kH nf ns rest s) (1, 6)) from fun f n => rfl) 994 399).trans ?_
    refine am_lcd ?_ ?_
    · refine ((show ∀ f n : Nat, g_X1_checkRange n (f + 1) 18 [(0, .inl (.int a0)), (1, .inl (.int a1)), (2, .inl (.int a2))] [] (kH nf ns rest s) (1, 6) = some (.inl none, kH nf ns rest s) from fun f n => rfl) 993 399).trans ?_
      rfl
    · refine ((show ∀ f n : Nat, g_X1_checkRange n (f + 1) 10 [(0, .inl (.int a0)), (1, .inl (.int a1)), (2, .inl (.int a2))] [] (kH nf ns rest s) (1, 6) = some (.inr 0, kH nf ns rest s) from fun f n => rfl) 993 399).trans ?_
      rfl
set_option maxRecDepth 20000 in
def g_X1_checkProcess (n f pc : Nat) (lv : am_Lv) (st : List am_V) (h : am_H) (b : Nat × Nat) : Option am_O := am_go X_X1_checkProcess 1 none am_rs0 [] [] (am_lp T_X1_checkProcess X_X1_checkProcess 1 none am_rs0 [] [] n) f (am_from pc T_X1_checkProcess) lv st h b
set_option maxRecDepth 20000 in
def j_X1_checkProcess (n pc : Nat) (lv : am_Lv) (st : List am_V) (h : am_H) (b : Nat × Nat) : Option am_O := am_lp T_X1_checkProcess X_X1_checkProcess 1 none am_rs0 [] [] n pc lv st h b
set_option maxRecDepth 20000 in
theorem j_X1_checkProcess_g (n pc : Nat) (lv : am_Lv) (st : List am_V) (h : am_H) (b : Nat × Nat) : j_X1_checkProcess (n + 1) pc lv st h b = g_X1_checkProcess n 1000 pc lv st h b := rfl
set_option maxRecDepth 20000 in
theorem j_X1_checkProcess_0 (pc : Nat) (lv : am_Lv) (st : List am_V) (h : am_H) (b : Nat × Nat) : j_X1_checkProcess 0 pc lv st h b = none := rfl
set_option maxRecDepth 20000 in
def p_X1_checkProcess (nf ns : Nat) (a0 : Int32) (s : KS) : KR := kbv (p_X1_checkRange nf ns a0 (0 : Int32) (5 : Int32) s) (fun s1 => some (.inl none, s1))
set_option maxRecDepth 20000 in
theorem e_X1_checkProcess {nf ns : Nat} {rest : am_H} (a0 : Int32) (s : KS) : F_X1_checkProcess [.inl (.int a0)] (kH nf ns rest s) = am_lf (kH nf ns rest) (p_X1_checkProcess nf ns a0 s) := by
  rw [p_X1_checkProcess]
  refine (show _ = g_X1_checkProcess 399 1000 0 [(0, .inl (.int a0))] [] (kH nf ns rest s) (1, 6) from am_fn_g (Nat.le_of_ble_eq_true rfl)).trans ?_
  refine ((show ∀ f n : Nat, g_X1_checkProcess n (f + 4) 0 [(0, .inl (.int a0))] [] (kH nf ns rest s) (1, 6) = am_rv (F_X1_checkRange [.inl (.int a0), .inl (.int (0 : Int32)), .inl (.int (5 : Int32))] (kH nf ns rest s)) (fun h => g_X1_checkProcess n f 6 [(0, .inl (.int a0))] [] h (0, 0)) (fun x h => some (.inr x, h)) from fun f n => rfl) 996 399).trans ?_
  rw [e_X1_checkRange a0 (0 : Int32) (5 : Int32) s]
  refine am_lbv (fun s1 => ?_) (fun _ _ => rfl)
  refine ((show ∀ f n : Nat, g_X1_checkProcess n (f + 1) 6 [(0, .inl (.int a0))] [] (kH nf ns rest s1) (0, 0) = some (.inl none, kH nf ns rest s1) from fun f n => rfl) 995 399).trans ?_
  rfl
set_option maxRecDepth 20000 in
def g_X1_checkRunning (n f pc : Nat) (lv : am_Lv) (st : List am_V) (h : am_H) (b : Nat × Nat) : Option am_O := am_go X_X1_checkRunning 2 none am_rs0 [] [] (am_lp T_X1_checkRunning X_X1_checkRunning 2 none am_rs0 [] [] n) f (am_from pc T_X1_checkRunning) lv st h b
set_option maxRecDepth 20000 in
def j_X1_checkRunning (n pc : Nat) (lv : am_Lv) (st : List am_V) (h : am_H) (b : Nat × Nat) : Option am_O := am_lp T_X1_checkRunning X_X1_checkRunning 2 none am_rs0 [] [] n pc lv st h b
set_option maxRecDepth 20000 in
theorem j_X1_checkRunning_g (n pc : Nat) (lv : am_Lv) (st : List am_V) (h : am_H) (b : Nat × Nat) : j_X1_checkRunning (n + 1) pc lv st h b = g_X1_checkRunning n 1000 pc lv st h b := rfl
set_option maxRecDepth 20000 in
theorem j_X1_checkRunning_0 (pc : Nat) (lv : am_Lv) (st : List am_V) (h : am_H) (b : Nat × Nat) : j_X1_checkRunning 0 pc lv st h b = none := rfl
set_option maxRecDepth 20000 in
def p_X1_checkRunning (nf ns : Nat) (a1 : Int32) (s : KS) : KR := cond (am_in a1 6) (cond (decide ((s.1 1 a1.toNatClampNeg) = (1 : Int32))) (some (.inl none, s)) (some (.inr 1, s))) none
set_option maxRecDepth 20000 in
theorem e_X1_checkRunning {nf ns : Nat} {rest : am_H} (a1 : Int32) (s : KS) : F_X1_checkRunning [.inl (.ref 0), .inl (.int a1)] (kH nf ns rest s) = am_lf (kH nf ns rest) (p_X1_checkRunning nf ns a1 s) := by
  rw [p_X1_checkRunning]
  refine (show _ = g_X1_checkRunning 399 1000 0 [(0, .inl (.ref 0)), (1, .inl (.int a1))] [] (kH nf ns rest s) (1, 6) from am_fn_g (Nat.le_of_ble_eq_true rfl)).trans ?_
  refine ((show ∀ f n : Nat, g_X1_checkRunning n (f + 6) 0 [(0, .inl (.ref 0)), (1, .inl (.int a1))] [] (kH nf ns rest s) (1, 6) = cond (am_in a1 6) (cond (decide ((s.1 1 a1.toNatClampNeg) = (1 : Int32))) (g_X1_checkRunning n f 18 [(0, .inl (.ref 0)), (1, .inl (.int a1))] [] (kH nf ns rest s) (1, 6)) (g_X1_checkRunning n f 10 [(0, .inl (.ref 0)), (1, .inl (.int a1))] [] (kH nf ns rest s) (1, 6))) none from fun f n => rfl) 994 399).trans ?_
  refine am_lcd (B := none) ?_ rfl
  refine am_lcd ?_ ?_
  · refine ((show ∀ f n : Nat, g_X1_checkRunning n (f + 1) 18 [(0, .inl (.ref 0)), (1, .inl (.int a1))] [] (kH nf ns rest s) (1, 6) = some (.inl none, kH nf ns rest s) from fun f n => rfl) 993 399).trans ?_
    rfl
  · refine ((show ∀ f n : Nat, g_X1_checkRunning n (f + 1) 10 [(0, .inl (.ref 0)), (1, .inl (.int a1))] [] (kH nf ns rest s) (1, 6) = some (.inr 1, kH nf ns rest s) from fun f n => rfl) 993 399).trans ?_
    rfl
set_option maxRecDepth 20000 in
def g_X1_leastFreeProcess (n f pc : Nat) (lv : am_Lv) (st : List am_V) (h : am_H) (b : Nat × Nat) : Option am_O := am_go X_X1_leastFreeProcess 2 (some .int) am_rs0 [] [(2, [0, 1])] (am_lp T_X1_leastFreeProcess X_X1_leastFreeProcess 2 (some .int) am_rs0 [] [(2, [0, 1])] n) f (am_from pc T_X1_leastFreeProcess) lv st h b
set_option maxRecDepth 20000 in
def j_X1_leastFreeProcess (n pc : Nat) (lv : am_Lv) (st : List am_V) (h : am_H) (b : Nat × Nat) : Option am_O := am_lp T_X1_leastFreeProcess X_X1_leastFreeProcess 2 (some .int) am_rs0 [] [(2, [0, 1])] n pc lv st h b
set_option maxRecDepth 20000 in
theorem j_X1_leastFreeProcess_g (n pc : Nat) (lv : am_Lv) (st : List am_V) (h : am_H) (b : Nat × Nat) : j_X1_leastFreeProcess (n + 1) pc lv st h b = g_X1_leastFreeProcess n 1000 pc lv st h b := rfl
set_option maxRecDepth 20000 in
theorem j_X1_leastFreeProcess_0 (pc : Nat) (lv : am_Lv) (st : List am_V) (h : am_H) (b : Nat × Nat) : j_X1_leastFreeProcess 0 pc lv st h b = none := rfl
set_option maxRecDepth 20000 in
def p_X1_leastFreeProcess_L2 (nf ns : Nat) : Nat → Int32 → KS → KR
  | 0, _, _ => none
  | n + 1, l1, s => cond (decide ((6 : Int32) ≤ l1)) (some (.inl (some (-1 : Int32)), s)) (cond (am_in l1 6) (cond (!decide ((s.1 1 l1.toNatClampNeg) = (0 : Int32))) (p_X1_leastFreeProcess_L2 nf ns n (l1 + (1 : Int32)) s) (some (.inl (some l1), s))) none)
set_option maxRecDepth 20000 in
theorem b_X1_leastFreeProcess_L2 {nf ns : Nat} {rest : am_H} (n : Nat) (ih : ∀ (l1 : Int32) (s : KS), j_X1_leastFreeProcess n 2 [(0, .inl (.ref 0)), (1, .inl (.int l1))] [] (kH nf ns rest s) (0, 0) = am_lf (kH nf ns rest) (p_X1_leastFreeProcess_L2 nf ns n l1 s)) (f : Nat) (l1 : Int32) (s : KS) : g_X1_leastFreeProcess n (f + 13) 2 [(0, .inl (.ref 0)), (1, .inl (.int l1))] [] (kH nf ns rest s) (0, 0) = am_lf (kH nf ns rest) (p_X1_leastFreeProcess_L2 nf ns (n + 1) l1 s) := by
  rw [p_X1_leastFreeProcess_L2]
  refine ((show ∀ f n : Nat, g_X1_leastFreeProcess n (f + 3) 2 [(0, .inl (.ref 0)), (1, .inl (.int l1))] [] (kH nf ns rest s) (0, 0) = cond (decide ((6 : Int32) ≤ l1)) (g_X1_leastFreeProcess n f 25 [(0, .inl (.ref 0)), (1, .inl (.int l1))] [] (kH nf ns rest s) (0, 0)) (g_X1_leastFreeProcess n f 8 [(0, .inl (.ref 0)), (1, .inl (.int l1))] [] (kH nf ns rest s) (0, 0)) from fun f n => rfl) (f + 10) n).trans ?_
  refine am_lcd ?_ ?_
  · refine ((show ∀ f n : Nat, g_X1_leastFreeProcess n (f + 2) 25 [(0, .inl (.ref 0)), (1, .inl (.int l1))] [] (kH nf ns rest s) (0, 0) = some (.inl (some (.inl (.int (-1 : Int32)))), kH nf ns rest s) from fun f n => rfl) (f + 8) n).trans ?_
    rfl
  · refine ((show ∀ f n : Nat, g_X1_leastFreeProcess n (f + 5) 8 [(0, .inl (.ref 0)), (1, .inl (.int l1))] [] (kH nf ns rest s) (0, 0) = cond (am_in l1 6) (cond (!decide ((s.1 1 l1.toNatClampNeg) = (0 : Int32))) (g_X1_leastFreeProcess n f 19 [(0, .inl (.ref 0)), (1, .inl (.int l1))] [] (kH nf ns rest s) (0, 0)) (g_X1_leastFreeProcess n f 17 [(0, .inl (.ref 0)), (1, .inl (.int l1))] [] (kH nf ns rest s) (0, 0))) none from fun f n => rfl) (f + 5) n).trans ?_
    refine am_lcd (B := none) ?_ rfl
    refine am_lcd ?_ ?_
    · refine ((show ∀ f n : Nat, g_X1_leastFreeProcess n (f + 2) 19 [(0, .inl (.ref 0)), (1, .inl (.int l1))] [] (kH nf ns rest s) (0, 0) = j_X1_leastFreeProcess n 2 [(0, .inl (.ref 0)), (1, .inl (.int (l1 + (1 : Int32))))] [] (kH nf ns rest s) (0, 0) from fun f n => rfl) (f + 3) n).trans ?_
      exact ih (l1 + (1 : Int32)) s
    · refine ((show ∀ f n : Nat, g_X1_leastFreeProcess n (f + 2) 17 [(0, .inl (.ref 0)), (1, .inl (.int l1))] [] (kH nf ns rest s) (0, 0) = some (.inl (some (.inl (.int l1))), kH nf ns rest s) from fun f n => rfl) (f + 3) n).trans ?_
      rfl
set_option maxRecDepth 20000 in
theorem e_X1_leastFreeProcess_L2 {nf ns : Nat} {rest : am_H} : ∀ (n : Nat) (l1 : Int32) (s : KS), j_X1_leastFreeProcess n 2 [(0, .inl (.ref 0)), (1, .inl (.int l1))] [] (kH nf ns rest s) (0, 0) = am_lf (kH nf ns rest) (p_X1_leastFreeProcess_L2 nf ns n l1 s)
  | 0, _, _ => by rw [p_X1_leastFreeProcess_L2]; rfl
  | n + 1, l1, s => (j_X1_leastFreeProcess_g n 2 _ _ _ _).trans (b_X1_leastFreeProcess_L2 n (e_X1_leastFreeProcess_L2 n) 987 l1 s)
set_option maxRecDepth 20000 in
def p_X1_leastFreeProcess (nf ns : Nat)  (s : KS) : KR := p_X1_leastFreeProcess_L2 nf ns 400 (0 : Int32) s
set_option maxRecDepth 20000 in
theorem e_X1_leastFreeProcess {nf ns : Nat} {rest : am_H}  (s : KS) : F_X1_leastFreeProcess [.inl (.ref 0)] (kH nf ns rest s) = am_lf (kH nf ns rest) (p_X1_leastFreeProcess nf ns  s) := by
  rw [p_X1_leastFreeProcess]
  refine (show _ = g_X1_leastFreeProcess 399 1000 0 [(0, .inl (.ref 0))] [] (kH nf ns rest s) (0, 0) from am_fn_g (Nat.le_of_ble_eq_true rfl)).trans ?_
  refine ((show ∀ f n : Nat, g_X1_leastFreeProcess n (f + 2) 0 [(0, .inl (.ref 0))] [] (kH nf ns rest s) (0, 0) = g_X1_leastFreeProcess n f 2 [(0, .inl (.ref 0)), (1, .inl (.int (0 : Int32)))] [] (kH nf ns rest s) (0, 0) from fun f n => rfl) 998 399).trans ?_
  exact b_X1_leastFreeProcess_L2 399 (e_X1_leastFreeProcess_L2 399) 985 (0 : Int32) s
set_option maxRecDepth 20000 in
def g_X1_sharePages (n f pc : Nat) (lv : am_Lv) (st : List am_V) (h : am_H) (b : Nat × Nat) : Option am_O := am_go X_X1_sharePages 5 none am_rs0 [] [(2, [0, 1, 2, 3])] (am_lp T_X1_sharePages X_X1_sharePages 5 none am_rs0 [] [(2, [0, 1, 2, 3])] n) f (am_from pc T_X1_sharePages) lv st h b
set_option maxRecDepth 20000 in
def j_X1_sharePages (n pc : Nat) (lv : am_Lv) (st : List am_V) (h : am_H) (b : Nat × Nat) : Option am_O := am_lp T_X1_sharePages X_X1_sharePages 5 none am_rs0 [] [(2, [0, 1, 2, 3])] n pc lv st h b
set_option maxRecDepth 20000 in
theorem j_X1_sharePages_g (n pc : Nat) (lv : am_Lv) (st : List am_V) (h : am_H) (b : Nat × Nat) : j_X1_sharePages (n + 1) pc lv st h b = g_X1_sharePages n 1000 pc lv st h b := rfl
set_option maxRecDepth 20000 in
theorem j_X1_sharePages_0 (pc : Nat) (lv : am_Lv) (st : List am_V) (h : am_H) (b : Nat × Nat) : j_X1_sharePages 0 pc lv st h b = none := rfl
set_option maxRecDepth 20000 in
def p_X1_sharePages_L2 (nf ns : Nat) : Nat → Int32 → Int32 → Int32 → KS → KR
  | 0, _, _, _, _ => none
  | n + 1, l1, l2, l3, s => cond (decide ((11 : Int32) ≤ l3)) (some (.inl none, s)) (cond (am_in l1 6) (cond ((decide (l1.toNatClampNeg < 6) && am_in l3 11)) (cond (decide ((s.2 l1.toNatClampNeg l3.toNatClampNeg) = (-1 : Int32))) (cond (am_in l2 6) (cond ((decide (l2.toNatClampNeg < 6) && am_in l3 11)) (p_X1_sharePages_L2 nf ns n l1 l2 (l3 + (1 : Int32)) (kG s l2.toNatClampNeg l3.toNatClampNeg (s.2 l1.toNatClampNeg l3.toNatClampNeg))) none) none) (kbv (p_X0_join nf ns (s.2 l1.toNatClampNeg l3.toNatClampNeg) s) (fun s1 => cond (am_in l2 6) (cond ((decide (l2.toNatClampNeg < 6) && am_in l3 11)) (p_X1_sharePages_L2 nf ns n l1 l2 (l3 + (1 : Int32)) (kG s1 l2.toNatClampNeg l3.toNatClampNeg (s.2 l1.toNatClampNeg l3.toNatClampNeg))) none) none))) none) none)
set_option maxRecDepth 20000 in
theorem b_X1_sharePages_L2 {nf ns : Nat} {rest : am_H} (n : Nat) (ih : ∀ (l1 : Int32) (l2 : Int32) (l3 : Int32) (s : KS), j_X1_sharePages n 2 [(0, .inl (.ref 0)), (1, .inl (.int l1)), (2, .inl (.int l2)), (3, .inl (.int l3))] [] (kH nf ns rest s) (0, 0) = am_lf (kH nf ns rest) (p_X1_sharePages_L2 nf ns n l1 l2 l3 s)) (f : Nat) (l1 : Int32) (l2 : Int32) (l3 : Int32) (s : KS) : g_X1_sharePages n (f + 29) 2 [(0, .inl (.ref 0)), (1, .inl (.int l1)), (2, .inl (.int l2)), (3, .inl (.int l3))] [] (kH nf ns rest s) (0, 0) = am_lf (kH nf ns rest) (p_X1_sharePages_L2 nf ns (n + 1) l1 l2 l3 s) := by
  rw [p_X1_sharePages_L2]
  refine ((show ∀ f n : Nat, g_X1_sharePages n (f + 3) 2 [(0, .inl (.ref 0)), (1, .inl (.int l1)), (2, .inl (.int l2)), (3, .inl (.int l3))] [] (kH nf ns rest s) (0, 0) = cond (decide ((11 : Int32) ≤ l3)) (g_X1_sharePages n f 49 [(0, .inl (.ref 0)), (1, .inl (.int l1)), (2, .inl (.int l2)), (3, .inl (.int l3))] [] (kH nf ns rest s) (0, 0)) (g_X1_sharePages n f 8 [(0, .inl (.ref 0)), (1, .inl (.int l1)), (2, .inl (.int l2)), (3, .inl (.int l3))] [] (kH nf ns rest s) (0, 0)) from fun f n => rfl) (f + 26) n).trans ?_
  refine am_lcd ?_ ?_
  · refine ((show ∀ f n : Nat, g_X1_sharePages n (f + 1) 49 [(0, .inl (.ref 0)), (1, .inl (.int l1)), (2, .inl (.int l2)), (3, .inl (.int l3))] [] (kH nf ns rest s) (0, 0) = some (.inl none, kH nf ns rest s) from fun f n => rfl) (f + 25) n).trans ?_
    rfl
  · refine ((show ∀ f n : Nat, g_X1_sharePages n (f + 10) 8 [(0, .inl (.ref 0)), (1, .inl (.int l1)), (2, .inl (.int l2)), (3, .inl (.int l3))] [] (kH nf ns rest s) (0, 0) = cond (am_in l1 6) (cond ((decide (l1.toNatClampNeg < 6) && am_in l3 11)) (cond (decide ((s.2 l1.toNatClampNeg l3.toNatClampNeg) = (-1 : Int32))) (g_X1_sharePages n f 33 [(0, .inl (.ref 0)), (1, .inl (.int l1)), (2, .inl (.int l2)), (3, .inl (.int l3)), (4, .inl (.int (s.2 l1.toNatClampNeg l3.toNatClampNeg)))] [] (kH nf ns rest s) (0, 0)) (g_X1_sharePages n f 24 [(0, .inl (.ref 0)), (1, .inl (.int l1)), (2, .inl (.int l2)), (3, .inl (.int l3)), (4, .inl (.int (s.2 l1.toNatClampNeg l3.toNatClampNeg)))] [] (kH nf ns rest s) (0, 0))) none) none from fun f n => rfl) (f + 16) n).trans ?_
    refine am_lcd (B := none) ?_ rfl
    refine am_lcd (B := none) ?_ rfl
    refine am_lcd ?_ ?_
    · refine ((show ∀ f n : Nat, g_X1_sharePages n (f + 9) 33 [(0, .inl (.ref 0)), (1, .inl (.int l1)), (2, .inl (.int l2)), (3, .inl (.int l3)), (4, .inl (.int (s.2 l1.toNatClampNeg l3.toNatClampNeg)))] [] (kH nf ns rest s) (0, 0) = cond (am_in l2 6) (cond ((decide (l2.toNatClampNeg < 6) && am_in l3 11)) (j_X1_sharePages n 2 [(0, .inl (.ref 0)), (1, .inl (.int l1)), (2, .inl (.int l2)), (3, .inl (.int (l3 + (1 : Int32))))] [] (kH nf ns rest (kG s l2.toNatClampNeg l3.toNatClampNeg (s.2 l1.toNatClampNeg l3.toNatClampNeg))) (0, 0)) none) none from fun f n => rfl) (f + 7) n).trans ?_
      refine am_lcd (B := none) ?_ rfl
      refine am_lcd (B := none) ?_ rfl
      exact ih l1 l2 (l3 + (1 : Int32)) (kG s l2.toNatClampNeg l3.toNatClampNeg (s.2 l1.toNatClampNeg l3.toNatClampNeg))
    · refine ((show ∀ f n : Nat, g_X1_sharePages n (f + 4) 24 [(0, .inl (.ref 0)), (1, .inl (.int l1)), (2, .inl (.int l2)), (3, .inl (.int l3)), (4, .inl (.int (s.2 l1.toNatClampNeg l3.toNatClampNeg)))] [] (kH nf ns rest s) (0, 0) = am_rv (F_X0_join [.inl (.ref 8), .inl (.int (s.2 l1.toNatClampNeg l3.toNatClampNeg))] (kH nf ns rest s)) (fun h => g_X1_sharePages n f 33 [(0, .inl (.ref 0)), (1, .inl (.int l1)), (2, .inl (.int l2)), (3, .inl (.int l3)), (4, .inl (.int (s.2 l1.toNatClampNeg l3.toNatClampNeg)))] [] h (0, 0)) (fun x h => some (.inr x, h)) from fun f n => rfl) (f + 12) n).trans ?_
      rw [e_X0_join (s.2 l1.toNatClampNeg l3.toNatClampNeg) s]
      refine am_lbv (fun s1 => ?_) (fun _ _ => rfl)
      refine ((show ∀ f n : Nat, g_X1_sharePages n (f + 9) 33 [(0, .inl (.ref 0)), (1, .inl (.int l1)), (2, .inl (.int l2)), (3, .inl (.int l3)), (4, .inl (.int (s.2 l1.toNatClampNeg l3.toNatClampNeg)))] [] (kH nf ns rest s1) (0, 0) = cond (am_in l2 6) (cond ((decide (l2.toNatClampNeg < 6) && am_in l3 11)) (j_X1_sharePages n 2 [(0, .inl (.ref 0)), (1, .inl (.int l1)), (2, .inl (.int l2)), (3, .inl (.int (l3 + (1 : Int32))))] [] (kH nf ns rest (kG s1 l2.toNatClampNeg l3.toNatClampNeg (s.2 l1.toNatClampNeg l3.toNatClampNeg))) (0, 0)) none) none from fun f n => rfl) (f + 3) n).trans ?_
      refine am_lcd (B := none) ?_ rfl
      refine am_lcd (B := none) ?_ rfl
      exact ih l1 l2 (l3 + (1 : Int32)) (kG s1 l2.toNatClampNeg l3.toNatClampNeg (s.2 l1.toNatClampNeg l3.toNatClampNeg))
set_option maxRecDepth 20000 in
theorem e_X1_sharePages_L2 {nf ns : Nat} {rest : am_H} : ∀ (n : Nat) (l1 : Int32) (l2 : Int32) (l3 : Int32) (s : KS), j_X1_sharePages n 2 [(0, .inl (.ref 0)), (1, .inl (.int l1)), (2, .inl (.int l2)), (3, .inl (.int l3))] [] (kH nf ns rest s) (0, 0) = am_lf (kH nf ns rest) (p_X1_sharePages_L2 nf ns n l1 l2 l3 s)
  | 0, _, _, _, _ => by rw [p_X1_sharePages_L2]; rfl
  | n + 1, l1, l2, l3, s => (j_X1_sharePages_g n 2 _ _ _ _).trans (b_X1_sharePages_L2 n (e_X1_sharePages_L2 n) 971 l1 l2 l3 s)
set_option maxRecDepth 20000 in
def p_X1_sharePages (nf ns : Nat) (a1 : Int32) (a2 : Int32) (s : KS) : KR := p_X1_sharePages_L2 nf ns 400 a1 a2 (0 : Int32) s
set_option maxRecDepth 20000 in
theorem e_X1_sharePages {nf ns : Nat} {rest : am_H} (a1 : Int32) (a2 : Int32) (s : KS) : F_X1_sharePages [.inl (.ref 0), .inl (.int a1), .inl (.int a2)] (kH nf ns rest s) = am_lf (kH nf ns rest) (p_X1_sharePages nf ns a1 a2 s) := by
  rw [p_X1_sharePages]
  refine (show _ = g_X1_sharePages 399 1000 0 [(0, .inl (.ref 0)), (1, .inl (.int a1)), (2, .inl (.int a2))] [] (kH nf ns rest s) (0, 0) from am_fn_g (Nat.le_of_ble_eq_true rfl)).trans ?_
  refine ((show ∀ f n : Nat, g_X1_sharePages n (f + 2) 0 [(0, .inl (.ref 0)), (1, .inl (.int a1)), (2, .inl (.int a2))] [] (kH nf ns rest s) (0, 0) = g_X1_sharePages n f 2 [(0, .inl (.ref 0)), (1, .inl (.int a1)), (2, .inl (.int a2)), (3, .inl (.int (0 : Int32)))] [] (kH nf ns rest s) (0, 0) from fun f n => rfl) 998 399).trans ?_
  exact b_X1_sharePages_L2 399 (e_X1_sharePages_L2 399) 969 a1 a2 (0 : Int32) s
set_option maxRecDepth 20000 in
def g_X1_fork (n f pc : Nat) (lv : am_Lv) (st : List am_V) (h : am_H) (b : Nat × Nat) : Option am_O := am_go X_X1_fork 3 (some .int) am_rs0 [] [] (am_lp T_X1_fork X_X1_fork 3 (some .int) am_rs0 [] [] n) f (am_from pc T_X1_fork) lv st h b
set_option maxRecDepth 20000 in
def j_X1_fork (n pc : Nat) (lv : am_Lv) (st : List am_V) (h : am_H) (b : Nat × Nat) : Option am_O := am_lp T_X1_fork X_X1_fork 3 (some .int) am_rs0 [] [] n pc lv st h b
set_option maxRecDepth 20000 in
theorem j_X1_fork_g (n pc : Nat) (lv : am_Lv) (st : List am_V) (h : am_H) (b : Nat × Nat) : j_X1_fork (n + 1) pc lv st h b = g_X1_fork n 1000 pc lv st h b := rfl
set_option maxRecDepth 20000 in
theorem j_X1_fork_0 (pc : Nat) (lv : am_Lv) (st : List am_V) (h : am_H) (b : Nat × Nat) : j_X1_fork 0 pc lv st h b = none := rfl
set_option maxRecDepth 20000 in
def p_X1_fork (nf ns : Nat) (a1 : Int32) (s : KS) : KR := kbv (p_X1_checkProcess nf ns a1 s) (fun s1 => kbv (p_X1_checkRunning nf ns a1 s1) (fun s2 => kbi (p_X1_leastFreeProcess nf ns  s2) (fun x4 s3 => cond (!decide (x4 = (-1 : Int32))) (cond (am_in x4 6) (cond (am_in x4 6) (cond (am_in a1 6) (cond (am_in x4 6) (cond (am_in a1 6) (cond (am_in x4 6) (cond (am_in a1 6) (cond (am_in x4 6) (kbv (p_X1_sharePages nf ns a1 x4 (kS (kS (kS (kS (kS s3 1 x4.toNatClampNeg ((1 : Int32))) 3 x4.toNatClampNeg (a1)) 2 x4.toNatClampNeg (((kS (kS s3 1 x4.toNatClampNeg ((1 : Int32))) 3 x4.toNatClampNeg (a1)).1 2 a1.toNatClampNeg))) 5 x4.toNatClampNeg (((kS (kS (kS s3 1 x4.toNatClampNeg ((1 : Int32))) 3 x4.toNatClampNeg (a1)) 2 x4.toNatClampNeg (((kS (kS s3 1 x4.toNatClampNeg ((1 : Int32))) 3 x4.toNatClampNeg (a1)).1 2 a1.toNatClampNeg))).1 5 a1.toNatClampNeg))) 6 x4.toNatClampNeg (((kS (kS (kS (kS s3 1 x4.toNatClampNeg ((1 : Int32))) 3 x4.toNatClampNeg (a1)) 2 x4.toNatClampNeg (((kS (kS s3 1 x4.toNatClampNeg ((1 : Int32))) 3 x4.toNatClampNeg (a1)).1 2 a1.toNatClampNeg))) 5 x4.toNatClampNeg (((kS (kS (kS s3 1 x4.toNatClampNeg ((1 : Int32))) 3 x4.toNatClampNeg (a1)) 2 x4.toNatClampNeg (((kS (kS s3 1 x4.toNatClampNeg ((1 : Int32))) 3 x4.toNatClampNeg (a1)).1 2 a1.toNatClampNeg))).1 5 a1.toNatClampNeg))).1 6 a1.toNatClampNeg)))) (fun s5 => some (.inl (some x4), s5))) none) none) none) none) none) none) none) none) (some (.inr 2, s3)))))
set_option maxRecDepth 20000 in
theorem e_X1_fork {nf ns : Nat} {rest : am_H} (a1 : Int32) (s : KS) : F_X1_fork [.inl (.ref 0), .inl (.int a1)] (kH nf ns rest s) = am_lf (kH nf ns rest) (p_X1_fork nf ns a1 s) := by
  rw [p_X1_fork]
  refine (show _ = g_X1_fork 399 1000 0 [(0, .inl (.ref 0)), (1, .inl (.int a1))] [] (kH nf ns rest s) (3, 18) from am_fn_g (Nat.le_of_ble_eq_true rfl)).trans ?_
  refine ((show ∀ f n : Nat, g_X1_fork n (f + 2) 0 [(0, .inl (.ref 0)), (1, .inl (.int a1))] [] (kH nf ns rest s) (3, 18) = am_rv (F_X1_checkProcess [.inl (.int a1)] (kH nf ns rest s)) (fun h => g_X1_fork n f 4 [(0, .inl (.ref 0)), (1, .inl (.int a1))] [] h (2, 12)) (fun x h => some (.inr x, h)) from fun f n => rfl) 998 399).trans ?_
  rw [e_X1_checkProcess a1 s]
  refine am_lbv (fun s1 => ?_) (fun _ _ => rfl)
  refine ((show ∀ f n : Nat, g_X1_fork n (f + 3) 4 [(0, .inl (.ref 0)), (1, .inl (.int a1))] [] (kH nf ns rest s1) (2, 12) = am_rv (F_X1_checkRunning [.inl (.ref 0), .inl (.int a1)] (kH nf ns rest s1)) (fun h => g_X1_fork n f 9 [(0, .inl (.ref 0)), (1, .inl (.int a1))] [] h (1, 6)) (fun x h => some (.inr x, h)) from fun f n => rfl) 995 399).trans ?_
  rw [e_X1_checkRunning a1 s1]
  refine am_lbv (fun s2 => ?_) (fun _ _ => rfl)
  refine ((show ∀ f n : Nat, g_X1_fork n (f + 2) 9 [(0, .inl (.ref 0)), (1, .inl (.int a1))] [] (kH nf ns rest s2) (1, 6) = am_ri (F_X1_leastFreeProcess [.inl (.ref 0)] (kH nf ns rest s2)) (fun x4 h => g_X1_fork n f 13 [(0, .inl (.ref 0)), (1, .inl (.int a1))] [.inl (.int x4)] h (1, 6)) (fun x h => some (.inr x, h)) from fun f n => rfl) 993 399).trans ?_
  rw [e_X1_leastFreeProcess  s2]
  refine am_lbi (fun x4 s3 => ?_) (fun _ _ => rfl)
  refine ((show ∀ f n : Nat, g_X1_fork n (f + 4) 13 [(0, .inl (.ref 0)), (1, .inl (.int a1))] [.inl (.int x4)] (kH nf ns rest s3) (1, 6) = cond (!decide (x4 = (-1 : Int32))) (g_X1_fork n f 27 [(0, .inl (.ref 0)), (1, .inl (.int a1)), (2, .inl (.int x4))] [] (kH nf ns rest s3) (1, 6)) (g_X1_fork n f 19 [(0, .inl (.ref 0)), (1, .inl (.int a1)), (2, .inl (.int x4))] [] (kH nf ns rest s3) (1, 6)) from fun f n => rfl) 989 399).trans ?_
  refine am_lcd ?_ ?_
  · refine ((show ∀ f n : Nat, g_X1_fork n (f + 38) 27 [(0, .inl (.ref 0)), (1, .inl (.int a1)), (2, .inl (.int x4))] [] (kH nf ns rest s3) (1, 6) = cond (am_in x4 6) (cond (am_in x4 6) (cond (am_in a1 6) (cond (am_in x4 6) (cond (am_in a1 6) (cond (am_in x4 6) (cond (am_in a1 6) (cond (am_in x4 6) (am_rv (F_X1_sharePages [.inl (.ref 0), .inl (.int a1), .inl (.int x4)] (kH nf ns rest (kS (kS (kS (kS (kS s3 1 x4.toNatClampNeg ((1 : Int32))) 3 x4.toNatClampNeg (a1)) 2 x4.toNatClampNeg (((kS (kS s3 1 x4.toNatClampNeg ((1 : Int32))) 3 x4.toNatClampNeg (a1)).1 2 a1.toNatClampNeg))) 5 x4.toNatClampNeg (((kS (kS (kS s3 1 x4.toNatClampNeg ((1 : Int32))) 3 x4.toNatClampNeg (a1)) 2 x4.toNatClampNeg (((kS (kS s3 1 x4.toNatClampNeg ((1 : Int32))) 3 x4.toNatClampNeg (a1)).1 2 a1.toNatClampNeg))).1 5 a1.toNatClampNeg))) 6 x4.toNatClampNeg (((kS (kS (kS (kS s3 1 x4.toNatClampNeg ((1 : Int32))) 3 x4.toNatClampNeg (a1)) 2 x4.toNatClampNeg (((kS (kS s3 1 x4.toNatClampNeg ((1 : Int32))) 3 x4.toNatClampNeg (a1)).1 2 a1.toNatClampNeg))) 5 x4.toNatClampNeg (((kS (kS (kS s3 1 x4.toNatClampNeg ((1 : Int32))) 3 x4.toNatClampNeg (a1)) 2 x4.toNatClampNeg (((kS (kS s3 1 x4.toNatClampNeg ((1 : Int32))) 3 x4.toNatClampNeg (a1)).1 2 a1.toNatClampNeg))).1 5 a1.toNatClampNeg))).1 6 a1.toNatClampNeg))))) (fun h => g_X1_fork n f 83 [(0, .inl (.ref 0)), (1, .inl (.int a1)), (2, .inl (.int x4))] [] h (1, 6)) (fun x h => some (.inr x, h))) none) none) none) none) none) none) none) none from fun f n => rfl) 951 399).trans ?_
    refine am_lcd (B := none) ?_ rfl
    refine am_lcd (B := none) ?_ rfl
    refine am_lcd (B := none) ?_ rfl
    refine am_lcd (B := none) ?_ rfl
    refine am_lcd (B := none) ?_ rfl
    refine am_lcd (B := none) ?_ rfl
    refine am_lcd (B := none) ?_ rfl
    refine am_lcd (B := none) ?_ rfl
    rw [e_X1_sharePages a1 x4 (kS (kS (kS (kS (kS s3 1 x4.toNatClampNeg ((1 : Int32))) 3 x4.toNatClampNeg (a1)) 2 x4.toNatClampNeg (((kS (kS s3 1 x4.toNatClampNeg ((1 : Int32))) 3 x4.toNatClampNeg (a1)).1 2 a1.toNatClampNeg))) 5 x4.toNatClampNeg (((kS (kS (kS s3 1 x4.toNatClampNeg ((1 : Int32))) 3 x4.toNatClampNeg (a1)) 2 x4.toNatClampNeg (((kS (kS s3 1 x4.toNatClampNeg ((1 : Int32))) 3 x4.toNatClampNeg (a1)).1 2 a1.toNatClampNeg))).1 5 a1.toNatClampNeg))) 6 x4.toNatClampNeg (((kS (kS (kS (kS s3 1 x4.toNatClampNeg ((1 : Int32))) 3 x4.toNatClampNeg (a1)) 2 x4.toNatClampNeg (((kS (kS s3 1 x4.toNatClampNeg ((1 : Int32))) 3 x4.toNatClampNeg (a1)).1 2 a1.toNatClampNeg))) 5 x4.toNatClampNeg (((kS (kS (kS s3 1 x4.toNatClampNeg ((1 : Int32))) 3 x4.toNatClampNeg (a1)) 2 x4.toNatClampNeg (((kS (kS s3 1 x4.toNatClampNeg ((1 : Int32))) 3 x4.toNatClampNeg (a1)).1 2 a1.toNatClampNeg))).1 5 a1.toNatClampNeg))).1 6 a1.toNatClampNeg)))]
    refine am_lbv (fun s5 => ?_) (fun _ _ => rfl)
    refine ((show ∀ f n : Nat, g_X1_fork n (f + 2) 83 [(0, .inl (.ref 0)), (1, .inl (.int a1)), (2, .inl (.int x4))] [] (kH nf ns rest s5) (1, 6) = some (.inl (some (.inl (.int x4))), kH nf ns rest s5) from fun f n => rfl) 949 399).trans ?_
    rfl
  · refine ((show ∀ f n : Nat, g_X1_fork n (f + 1) 19 [(0, .inl (.ref 0)), (1, .inl (.int a1)), (2, .inl (.int x4))] [] (kH nf ns rest s3) (1, 6) = some (.inr 2, kH nf ns rest s3) from fun f n => rfl) 988 399).trans ?_
    rfl
set_option maxRecDepth 20000 in
def g_X1_exec (n f pc : Nat) (lv : am_Lv) (st : List am_V) (h : am_H) (b : Nat × Nat) : Option am_O := am_go X_X1_exec 3 (some .int) am_rs0 [] [] (am_lp T_X1_exec X_X1_exec 3 (some .int) am_rs0 [] [] n) f (am_from pc T_X1_exec) lv st h b
set_option maxRecDepth 20000 in
def j_X1_exec (n pc : Nat) (lv : am_Lv) (st : List am_V) (h : am_H) (b : Nat × Nat) : Option am_O := am_lp T_X1_exec X_X1_exec 3 (some .int) am_rs0 [] [] n pc lv st h b
set_option maxRecDepth 20000 in
theorem j_X1_exec_g (n pc : Nat) (lv : am_Lv) (st : List am_V) (h : am_H) (b : Nat × Nat) : j_X1_exec (n + 1) pc lv st h b = g_X1_exec n 1000 pc lv st h b := rfl
set_option maxRecDepth 20000 in
theorem j_X1_exec_0 (pc : Nat) (lv : am_Lv) (st : List am_V) (h : am_H) (b : Nat × Nat) : j_X1_exec 0 pc lv st h b = none := rfl
set_option maxRecDepth 20000 in
def p_X1_exec (nf ns : Nat) (a1 : Int32) (a2 : Int32) (s : KS) : KR := kbv (p_X1_checkProcess nf ns a1 s) (fun s1 => kbv (p_X1_checkRange nf ns a2 (0 : Int32) (2 : Int32) s1) (fun s2 => kbv (p_X1_checkRunning nf ns a1 s2) (fun s3 => kbv (p_X1_startProgram nf ns a1 a2 s3) (fun s4 => cond (am_in a1 6) (some (.inl (some ((4 : Int32) * (s4.1 5 a1.toNatClampNeg))), s4)) none))))
set_option maxRecDepth 20000 in
theorem e_X1_exec {nf ns : Nat} {rest : am_H} (a1 : Int32) (a2 : Int32) (s : KS) : F_X1_exec [.inl (.ref 0), .inl (.int a1), .inl (.int a2)] (kH nf ns rest s) = am_lf (kH nf ns rest) (p_X1_exec nf ns a1 a2 s) := by
  rw [p_X1_exec]
  refine (show _ = g_X1_exec 399 1000 0 [(0, .inl (.ref 0)), (1, .inl (.int a1)), (2, .inl (.int a2))] [] (kH nf ns rest s) (3, 18) from am_fn_g (Nat.le_of_ble_eq_true rfl)).trans ?_
  refine ((show ∀ f n : Nat, g_X1_exec n (f + 2) 0 [(0, .inl (.ref 0)), (1, .inl (.int a1)), (2, .inl (.int a2))] [] (kH nf ns rest s) (3, 18) = am_rv (F_X1_checkProcess [.inl (.int a1)] (kH nf ns rest s)) (fun h => g_X1_exec n f 4 [(0, .inl (.ref 0)), (1, .inl (.int a1)), (2, .inl (.int a2))] [] h (2, 12)) (fun x h => some (.inr x, h)) from fun f n => rfl) 998 399).trans ?_
  rw [e_X1_checkProcess a1 s]
  refine am_lbv (fun s1 => ?_) (fun _ _ => rfl)
  refine ((show ∀ f n : Nat, g_X1_exec n (f + 4) 4 [(0, .inl (.ref 0)), (1, .inl (.int a1)), (2, .inl (.int a2))] [] (kH nf ns rest s1) (2, 12) = am_rv (F_X1_checkRange [.inl (.int a2), .inl (.int (0 : Int32)), .inl (.int (2 : Int32))] (kH nf ns rest s1)) (fun h => g_X1_exec n f 10 [(0, .inl (.ref 0)), (1, .inl (.int a1)), (2, .inl (.int a2))] [] h (1, 6)) (fun x h => some (.inr x, h)) from fun f n => rfl) 994 399).trans ?_
  rw [e_X1_checkRange a2 (0 : Int32) (2 : Int32) s1]
  refine am_lbv (fun s2 => ?_) (fun _ _ => rfl)
  refine ((show ∀ f n : Nat, g_X1_exec n (f + 3) 10 [(0, .inl (.ref 0)), (1, .inl (.int a1)), (2, .inl (.int a2))] [] (kH nf ns rest s2) (1, 6) = am_rv (F_X1_checkRunning [.inl (.ref 0), .inl (.int a1)] (kH nf ns rest s2)) (fun h => g_X1_exec n f 15 [(0, .inl (.ref 0)), (1, .inl (.int a1)), (2, .inl (.int a2))] [] h (0, 0)) (fun x h => some (.inr x, h)) from fun f n => rfl) 991 399).trans ?_
  rw [e_X1_checkRunning a1 s2]
  refine am_lbv (fun s3 => ?_) (fun _ _ => rfl)
  refine ((show ∀ f n : Nat, g_X1_exec n (f + 4) 15 [(0, .inl (.ref 0)), (1, .inl (.int a1)), (2, .inl (.int a2))] [] (kH nf ns rest s3) (0, 0) = am_rv (F_X1_startProgram [.inl (.ref 0), .inl (.int a1), .inl (.int a2)] (kH nf ns rest s3)) (fun h => g_X1_exec n f 21 [(0, .inl (.ref 0)), (1, .inl (.int a1)), (2, .inl (.int a2))] [] h (0, 0)) (fun x h => some (.inr x, h)) from fun f n => rfl) 987 399).trans ?_
  rw [e_X1_startProgram a1 a2 s3]
  refine am_lbv (fun s4 => ?_) (fun _ _ => rfl)
  refine ((show ∀ f n : Nat, g_X1_exec n (f + 7) 21 [(0, .inl (.ref 0)), (1, .inl (.int a1)), (2, .inl (.int a2))] [] (kH nf ns rest s4) (0, 0) = cond (am_in a1 6) (some (.inl (some (.inl (.int ((4 : Int32) * (s4.1 5 a1.toNatClampNeg))))), kH nf ns rest s4)) none from fun f n => rfl) 980 399).trans ?_
  refine am_lcd (B := none) ?_ rfl
  rfl
set_option maxRecDepth 20000 in
def g_X1_orphansToFirst (n f pc : Nat) (lv : am_Lv) (st : List am_V) (h : am_H) (b : Nat × Nat) : Option am_O := am_go X_X1_orphansToFirst 4 (some .int) am_rs0 [] [(4, [0, 1, 2, 3])] (am_lp T_X1_orphansToFirst X_X1_orphansToFirst 4 (some .int) am_rs0 [] [(4, [0, 1, 2, 3])] n) f (am_from pc T_X1_orphansToFirst) lv st h b
set_option maxRecDepth 20000 in
def j_X1_orphansToFirst (n pc : Nat) (lv : am_Lv) (st : List am_V) (h : am_H) (b : Nat × Nat) : Option am_O := am_lp T_X1_orphansToFirst X_X1_orphansToFirst 4 (some .int) am_rs0 [] [(4, [0, 1, 2, 3])] n pc lv st h b
set_option maxRecDepth 20000 in
theorem j_X1_orphansToFirst_g (n pc : Nat) (lv : am_Lv) (st : List am_V) (h : am_H) (b : Nat × Nat) : j_X1_orphansToFirst (n + 1) pc lv st h b = g_X1_orphansToFirst n 1000 pc lv st h b := rfl
set_option maxRecDepth 20000 in
theorem j_X1_orphansToFirst_0 (pc : Nat) (lv : am_Lv) (st : List am_V) (h : am_H) (b : Nat × Nat) : j_X1_orphansToFirst 0 pc lv st h b = none := rfl
set_option maxRecDepth 20000 in
def p_X1_orphansToFirst_L4 (nf ns : Nat) : Nat → Int32 → Int32 → Int32 → KS → KR
  | 0, _, _, _, _ => none
  | n + 1, l1, l2, l3, s => cond (decide ((6 : Int32) ≤ l3)) (some (.inl (some l2), s)) (cond (am_in l3 6) (cond (!decide ((s.1 3 l3.toNatClampNeg) = l1)) (p_X1_orphansToFirst_L4 nf ns n l1 l2 (l3 + (1 : Int32)) s) (cond (am_in l3 6) (p_X1_orphansToFirst_L4 nf ns n l1 (l2 + (1 : Int32)) (l3 + (1 : Int32)) (kS s 3 l3.toNatClampNeg ((0 : Int32)))) none)) none)
set_option maxRecDepth 20000 in
theorem b_X1_orphansToFirst_L4 {nf ns : Nat} {rest : am_H} (n : Nat) (ih : ∀ (l1 : Int32) (l2 : Int32) (l3 : Int32) (s : KS), j_X1_orphansToFirst n 4 [(0, .inl (.ref 0)), (1, .inl (.int l1)), (2, .inl (.int l2)), (3, .inl (.int l3))] [] (kH nf ns rest s) (0, 0) = am_lf (kH nf ns rest) (p_X1_orphansToFirst_L4 nf ns n l1 l2 l3 s)) (f : Nat) (l1 : Int32) (l2 : Int32) (l3 : Int32) (s : KS) : g_X1_orphansToFirst n (f + 20) 4 [(0, .inl (.ref 0)), (1, .inl (.int l1)), (2, .inl (.int l2)), (3, .inl (.int l3))] [] (kH nf ns rest s) (0, 0) = am_lf (kH nf ns rest) (p_X1_orphansToFirst_L4 nf ns (n + 1) l1 l2 l3 s) := by
  rw [p_X1_orphansToFirst_L4]
  refine ((show ∀ f n : Nat, g_X1_orphansToFirst n (f + 3) 4 [(0, .inl (.ref 0)), (1, .inl (.int l1)), (2, .inl (.int l2)), (3, .inl (.int l3))] [] (kH nf ns rest s) (0, 0) = cond (decide ((6 : Int32) ≤ l3)) (g_X1_orphansToFirst n f 36 [(0, .inl (.ref 0)), (1, .inl (.int l1)), (2, .inl (.int l2)), (3, .inl (.int l3))] [] (kH nf ns rest s) (0, 0)) (g_X1_orphansToFirst n f 10 [(0, .inl (.ref 0)), (1, .inl (.int l1)), (2, .inl (.int l2)), (3, .inl (.int l3))] [] (kH nf ns rest s) (0, 0)) from fun f n => rfl) (f + 17) n).trans ?_
  refine am_lcd ?_ ?_
  · refine ((show ∀ f n : Nat, g_X1_orphansToFirst n (f + 2) 36 [(0, .inl (.ref 0)), (1, .inl (.int l1)), (2, .inl (.int l2)), (3, .inl (.int l3))] [] (kH nf ns rest s) (0, 0) = some (.inl (some (.inl (.int l2))), kH nf ns rest s) from fun f n => rfl) (f + 15) n).trans ?_
    rfl
  · refine ((show ∀ f n : Nat, g_X1_orphansToFirst n (f + 6) 10 [(0, .inl (.ref 0)), (1, .inl (.int l1)), (2, .inl (.int l2)), (3, .inl (.int l3))] [] (kH nf ns rest s) (0, 0) = cond (am_in l3 6) (cond (!decide ((s.1 3 l3.toNatClampNeg) = l1)) (g_X1_orphansToFirst n f 30 [(0, .inl (.ref 0)), (1, .inl (.int l1)), (2, .inl (.int l2)), (3, .inl (.int l3))] [] (kH nf ns rest s) (0, 0)) (g_X1_orphansToFirst n f 20 [(0, .inl (.ref 0)), (1, .inl (.int l1)), (2, .inl (.int l2)), (3, .inl (.int l3))] [] (kH nf ns rest s) (0, 0))) none from fun f n => rfl) (f + 11) n).trans ?_
    refine am_lcd (B := none) ?_ rfl
    refine am_lcd ?_ ?_
    · refine ((show ∀ f n : Nat, g_X1_orphansToFirst n (f + 2) 30 [(0, .inl (.ref 0)), (1, .inl (.int l1)), (2, .inl (.int l2)), (3, .inl (.int l3))] [] (kH nf ns rest s) (0, 0) = j_X1_orphansToFirst n 4 [(0, .inl (.ref 0)), (1, .inl (.int l1)), (2, .inl (.int l2)), (3, .inl (.int (l3 + (1 : Int32))))] [] (kH nf ns rest s) (0, 0) from fun f n => rfl) (f + 9) n).trans ?_
      exact ih l1 l2 (l3 + (1 : Int32)) s
    · refine ((show ∀ f n : Nat, g_X1_orphansToFirst n (f + 8) 20 [(0, .inl (.ref 0)), (1, .inl (.int l1)), (2, .inl (.int l2)), (3, .inl (.int l3))] [] (kH nf ns rest s) (0, 0) = cond (am_in l3 6) (j_X1_orphansToFirst n 4 [(0, .inl (.ref 0)), (1, .inl (.int l1)), (2, .inl (.int (l2 + (1 : Int32)))), (3, .inl (.int (l3 + (1 : Int32))))] [] (kH nf ns rest (kS s 3 l3.toNatClampNeg ((0 : Int32)))) (0, 0)) none from fun f n => rfl) (f + 3) n).trans ?_
      refine am_lcd (B := none) ?_ rfl
      exact ih l1 (l2 + (1 : Int32)) (l3 + (1 : Int32)) (kS s 3 l3.toNatClampNeg ((0 : Int32)))
set_option maxRecDepth 20000 in
theorem e_X1_orphansToFirst_L4 {nf ns : Nat} {rest : am_H} : ∀ (n : Nat) (l1 : Int32) (l2 : Int32) (l3 : Int32) (s : KS), j_X1_orphansToFirst n 4 [(0, .inl (.ref 0)), (1, .inl (.int l1)), (2, .inl (.int l2)), (3, .inl (.int l3))] [] (kH nf ns rest s) (0, 0) = am_lf (kH nf ns rest) (p_X1_orphansToFirst_L4 nf ns n l1 l2 l3 s)
  | 0, _, _, _, _ => by rw [p_X1_orphansToFirst_L4]; rfl
  | n + 1, l1, l2, l3, s => (j_X1_orphansToFirst_g n 4 _ _ _ _).trans (b_X1_orphansToFirst_L4 n (e_X1_orphansToFirst_L4 n) 980 l1 l2 l3 s)
set_option maxRecDepth 20000 in
def p_X1_orphansToFirst (nf ns : Nat) (a1 : Int32) (s : KS) : KR := p_X1_orphansToFirst_L4 nf ns 400 a1 (0 : Int32) (0 : Int32) s
set_option maxRecDepth 20000 in
theorem e_X1_orphansToFirst {nf ns : Nat} {rest : am_H} (a1 : Int32) (s : KS) : F_X1_orphansToFirst [.inl (.ref 0), .inl (.int a1)] (kH nf ns rest s) = am_lf (kH nf ns rest) (p_X1_orphansToFirst nf ns a1 s) := by
  rw [p_X1_orphansToFirst]
  refine (show _ = g_X1_orphansToFirst 399 1000 0 [(0, .inl (.ref 0)), (1, .inl (.int a1))] [] (kH nf ns rest s) (0, 0) from am_fn_g (Nat.le_of_ble_eq_true rfl)).trans ?_
  refine ((show ∀ f n : Nat, g_X1_orphansToFirst n (f + 4) 0 [(0, .inl (.ref 0)), (1, .inl (.int a1))] [] (kH nf ns rest s) (0, 0) = g_X1_orphansToFirst n f 4 [(0, .inl (.ref 0)), (1, .inl (.int a1)), (2, .inl (.int (0 : Int32))), (3, .inl (.int (0 : Int32)))] [] (kH nf ns rest s) (0, 0) from fun f n => rfl) 996 399).trans ?_
  exact b_X1_orphansToFirst_L4 399 (e_X1_orphansToFirst_L4 399) 976 a1 (0 : Int32) (0 : Int32) s
set_option maxRecDepth 20000 in
def g_X1_exit (n f pc : Nat) (lv : am_Lv) (st : List am_V) (h : am_H) (b : Nat × Nat) : Option am_O := am_go X_X1_exit 3 (some .int) am_rs0 [] [] (am_lp T_X1_exit X_X1_exit 3 (some .int) am_rs0 [] [] n) f (am_from pc T_X1_exit) lv st h b
set_option maxRecDepth 20000 in
def j_X1_exit (n pc : Nat) (lv : am_Lv) (st : List am_V) (h : am_H) (b : Nat × Nat) : Option am_O := am_lp T_X1_exit X_X1_exit 3 (some .int) am_rs0 [] [] n pc lv st h b
set_option maxRecDepth 20000 in
theorem j_X1_exit_g (n pc : Nat) (lv : am_Lv) (st : List am_V) (h : am_H) (b : Nat × Nat) : j_X1_exit (n + 1) pc lv st h b = g_X1_exit n 1000 pc lv st h b := rfl
set_option maxRecDepth 20000 in
theorem j_X1_exit_0 (pc : Nat) (lv : am_Lv) (st : List am_V) (h : am_H) (b : Nat × Nat) : j_X1_exit 0 pc lv st h b = none := rfl
set_option maxRecDepth 20000 in
def p_X1_exit (nf ns : Nat) (a1 : Int32) (a2 : Int32) (s : KS) : KR := kbv (p_X1_checkRange nf ns a1 (1 : Int32) (5 : Int32) s) (fun s1 => kbv (p_X1_checkRange nf ns a2 (0 : Int32) (255 : Int32) s1) (fun s2 => kbv (p_X1_checkRunning nf ns a1 s2) (fun s3 => cond (am_in a1 6) (cond (am_in a1 6) (kbv (p_X1_leavePages nf ns a1 (0 : Int32) (11 : Int32) (kS (kS s3 1 a1.toNatClampNeg ((2 : Int32))) 4 a1.toNatClampNeg (a2))) (fun s4 => kbi (p_X1_orphansToFirst nf ns a1 s4) (fun x6 s5 => some (.inl (some x6), s5)))) none) none)))
set_option maxRecDepth 20000 in
theorem e_X1_exit {nf ns : Nat} {rest : am_H} (a1 : Int32) (a2 : Int32) (s : KS) : F_X1_exit [.inl (.ref 0), .inl (.int a1), .inl (.int a2)] (kH nf ns rest s) = am_lf (kH nf ns rest) (p_X1_exit nf ns a1 a2 s) := by
  rw [p_X1_exit]
  refine (show _ = g_X1_exit 399 1000 0 [(0, .inl (.ref 0)), (1, .inl (.int a1)), (2, .inl (.int a2))] [] (kH nf ns rest s) (3, 18) from am_fn_g (Nat.le_of_ble_eq_true rfl)).trans ?_
  refine ((show ∀ f n : Nat, g_X1_exit n (f + 4) 0 [(0, .inl (.ref 0)), (1, .inl (.int a1)), (2, .inl (.int a2))] [] (kH nf ns rest s) (3, 18) = am_rv (F_X1_checkRange [.inl (.int a1), .inl (.int (1 : Int32)), .inl (.int (5 : Int32))] (kH nf ns rest s)) (fun h => g_X1_exit n f 6 [(0, .inl (.ref 0)), (1, .inl (.int a1)), (2, .inl (.int a2))] [] h (2, 12)) (fun x h => some (.inr x, h)) from fun f n => rfl) 996 399).trans ?_
  rw [e_X1_checkRange a1 (1 : Int32) (5 : Int32) s]
  refine am_lbv (fun s1 => ?_) (fun _ _ => rfl)
  refine ((show ∀ f n : Nat, g_X1_exit n (f + 4) 6 [(0, .inl (.ref 0)), (1, .inl (.int a1)), (2, .inl (.int a2))] [] (kH nf ns rest s1) (2, 12) = am_rv (F_X1_checkRange [.inl (.int a2), .inl (.int (0 : Int32)), .inl (.int (255 : Int32))] (kH nf ns rest s1)) (fun h => g_X1_exit n f 14 [(0, .inl (.ref 0)), (1, .inl (.int a1)), (2, .inl (.int a2))] [] h (1, 6)) (fun x h => some (.inr x, h)) from fun f n => rfl) 992 399).trans ?_
  rw [e_X1_checkRange a2 (0 : Int32) (255 : Int32) s1]
  refine am_lbv (fun s2 => ?_) (fun _ _ => rfl)
  refine ((show ∀ f n : Nat, g_X1_exit n (f + 3) 14 [(0, .inl (.ref 0)), (1, .inl (.int a1)), (2, .inl (.int a2))] [] (kH nf ns rest s2) (1, 6) = am_rv (F_X1_checkRunning [.inl (.ref 0), .inl (.int a1)] (kH nf ns rest s2)) (fun h => g_X1_exit n f 19 [(0, .inl (.ref 0)), (1, .inl (.int a1)), (2, .inl (.int a2))] [] h (0, 0)) (fun x h => some (.inr x, h)) from fun f n => rfl) 989 399).trans ?_
  rw [e_X1_checkRunning a1 s2]
  refine am_lbv (fun s3 => ?_) (fun _ _ => rfl)
  refine ((show ∀ f n : Nat, g_X1_exit n (f + 15) 19 [(0, .inl (.ref 0)), (1, .inl (.int a1)), (2, .inl (.int a2))] [] (kH nf ns rest s3) (0, 0) = cond (am_in a1 6) (cond (am_in a1 6) (am_rv (F_X1_leavePages [.inl (.ref 0), .inl (.int a1), .inl (.int (0 : Int32)), .inl (.int (11 : Int32))] (kH nf ns rest (kS (kS s3 1 a1.toNatClampNeg ((2 : Int32))) 4 a1.toNatClampNeg (a2)))) (fun h => g_X1_exit n f 41 [(0, .inl (.ref 0)), (1, .inl (.int a1)), (2, .inl (.int a2))] [] h (0, 0)) (fun x h => some (.inr x, h))) none) none from fun f n => rfl) 974 399).trans ?_
  refine am_lcd (B := none) ?_ rfl
  refine am_lcd (B := none) ?_ rfl
  rw [e_X1_leavePages a1 (0 : Int32) (11 : Int32) (kS (kS s3 1 a1.toNatClampNeg ((2 : Int32))) 4 a1.toNatClampNeg (a2))]
  refine am_lbv (fun s4 => ?_) (fun _ _ => rfl)
  refine ((show ∀ f n : Nat, g_X1_exit n (f + 3) 41 [(0, .inl (.ref 0)), (1, .inl (.int a1)), (2, .inl (.int a2))] [] (kH nf ns rest s4) (0, 0) = am_ri (F_X1_orphansToFirst [.inl (.ref 0), .inl (.int a1)] (kH nf ns rest s4)) (fun x6 h => g_X1_exit n f 46 [(0, .inl (.ref 0)), (1, .inl (.int a1)), (2, .inl (.int a2))] [.inl (.int x6)] h (0, 0)) (fun x h => some (.inr x, h)) from fun f n => rfl) 971 399).trans ?_
  rw [e_X1_orphansToFirst a1 s4]
  refine am_lbi (fun x6 s5 => ?_) (fun _ _ => rfl)
  refine ((show ∀ f n : Nat, g_X1_exit n (f + 1) 46 [(0, .inl (.ref 0)), (1, .inl (.int a1)), (2, .inl (.int a2))] [.inl (.int x6)] (kH nf ns rest s5) (0, 0) = some (.inl (some (.inl (.int x6))), kH nf ns rest s5) from fun f n => rfl) 970 399).trans ?_
  rfl
set_option maxRecDepth 20000 in
def g_X1_isParent (n f pc : Nat) (lv : am_Lv) (st : List am_V) (h : am_H) (b : Nat × Nat) : Option am_O := am_go X_X1_isParent 3 (some .boolean) am_rs0 [] [(2, [0, 1, 2])] (am_lp T_X1_isParent X_X1_isParent 3 (some .boolean) am_rs0 [] [(2, [0, 1, 2])] n) f (am_from pc T_X1_isParent) lv st h b
set_option maxRecDepth 20000 in
def j_X1_isParent (n pc : Nat) (lv : am_Lv) (st : List am_V) (h : am_H) (b : Nat × Nat) : Option am_O := am_lp T_X1_isParent X_X1_isParent 3 (some .boolean) am_rs0 [] [(2, [0, 1, 2])] n pc lv st h b
set_option maxRecDepth 20000 in
theorem j_X1_isParent_g (n pc : Nat) (lv : am_Lv) (st : List am_V) (h : am_H) (b : Nat × Nat) : j_X1_isParent (n + 1) pc lv st h b = g_X1_isParent n 1000 pc lv st h b := rfl
set_option maxRecDepth 20000 in
theorem j_X1_isParent_0 (pc : Nat) (lv : am_Lv) (st : List am_V) (h : am_H) (b : Nat × Nat) : j_X1_isParent 0 pc lv st h b = none := rfl
set_option maxRecDepth 20000 in
def p_X1_isParent_L2 (nf ns : Nat) : Nat → Int32 → Int32 → KS → KR
  | 0, _, _, _ => none
  | n + 1, l1, l2, s => cond (decide ((6 : Int32) ≤ l2)) (some (.inl (some (0 : Int32)), s)) (cond (am_in l2 6) (cond (!decide ((s.1 3 l2.toNatClampNeg) = l1)) (p_X1_isParent_L2 nf ns n l1 (l2 + (1 : Int32)) s) (some (.inl (some (1 : Int32)), s))) none)
set_option maxRecDepth 20000 in
theorem b_X1_isParent_L2 {nf ns : Nat} {rest : am_H} (n : Nat) (ih : ∀ (l1 : Int32) (l2 : Int32) (s : KS), j_X1_isParent n 2 [(0, .inl (.ref 0)), (1, .inl (.int l1)), (2, .inl (.int l2))] [] (kH nf ns rest s) (0, 0) = am_lf (kH nf ns rest) (p_X1_isParent_L2 nf ns n l1 l2 s)) (f : Nat) (l1 : Int32) (l2 : Int32) (s : KS) : g_X1_isParent n (f + 14) 2 [(0, .inl (.ref 0)), (1, .inl (.int l1)), (2, .inl (.int l2))] [] (kH nf ns rest s) (0, 0) = am_lf (kH nf ns rest) (p_X1_isParent_L2 nf ns (n + 1) l1 l2 s) := by
  rw [p_X1_isParent_L2]
  refine ((show ∀ f n : Nat, g_X1_isParent n (f + 3) 2 [(0, .inl (.ref 0)), (1, .inl (.int l1)), (2, .inl (.int l2))] [] (kH nf ns rest s) (0, 0) = cond (decide ((6 : Int32) ≤ l2)) (g_X1_isParent n f 26 [(0, .inl (.ref 0)), (1, .inl (.int l1)), (2, .inl (.int l2))] [] (kH nf ns rest s) (0, 0)) (g_X1_isParent n f 8 [(0, .inl (.ref 0)), (1, .inl (.int l1)), (2, .inl (.int l2))] [] (kH nf ns rest s) (0, 0)) from fun f n => rfl) (f + 11) n).trans ?_
  refine am_lcd ?_ ?_
  · refine ((show ∀ f n : Nat, g_X1_isParent n (f + 2) 26 [(0, .inl (.ref 0)), (1, .inl (.int l1)), (2, .inl (.int l2))] [] (kH nf ns rest s) (0, 0) = some (.inl (some (.inl (.int (0 : Int32)))), kH nf ns rest s) from fun f n => rfl) (f + 9) n).trans ?_
    rfl
  · refine ((show ∀ f n : Nat, g_X1_isParent n (f + 6) 8 [(0, .inl (.ref 0)), (1, .inl (.int l1)), (2, .inl (.int l2))] [] (kH nf ns rest s) (0, 0) = cond (am_in l2 6) (cond (!decide ((s.1 3 l2.toNatClampNeg) = l1)) (g_X1_isParent n f 20 [(0, .inl (.ref 0)), (1, .inl (.int l1)), (2, .inl (.int l2))] [] (kH nf ns rest s) (0, 0)) (g_X1_isParent n f 18 [(0, .inl (.ref 0)), (1, .inl (.int l1)), (2, .inl (.int l2))] [] (kH nf ns rest s) (0, 0))) none from fun f n => rfl) (f + 5) n).trans ?_
    refine am_lcd (B := none) ?_ rfl
    refine am_lcd ?_ ?_
    · refine ((show ∀ f n : Nat, g_X1_isParent n (f + 2) 20 [(0, .inl (.ref 0)), (1, .inl (.int l1)), (2, .inl (.int l2))] [] (kH nf ns rest s) (0, 0) = j_X1_isParent n 2 [(0, .inl (.ref 0)), (1, .inl (.int l1)), (2, .inl (.int (l2 + (1 : Int32))))] [] (kH nf ns rest s) (0, 0) from fun f n => rfl) (f + 3) n).trans ?_
      exact ih l1 (l2 + (1 : Int32)) s
    · refine ((show ∀ f n : Nat, g_X1_isParent n (f + 2) 18 [(0, .inl (.ref 0)), (1, .inl (.int l1)), (2, .inl (.int l2))] [] (kH nf ns rest s) (0, 0) = some (.inl (some (.inl (.int (1 : Int32)))), kH nf ns rest s) from fun f n => rfl) (f + 3) n).trans ?_
      rfl
set_option maxRecDepth 20000 in
theorem e_X1_isParent_L2 {nf ns : Nat} {rest : am_H} : ∀ (n : Nat) (l1 : Int32) (l2 : Int32) (s : KS), j_X1_isParent n 2 [(0, .inl (.ref 0)), (1, .inl (.int l1)), (2, .inl (.int l2))] [] (kH nf ns rest s) (0, 0) = am_lf (kH nf ns rest) (p_X1_isParent_L2 nf ns n l1 l2 s)
  | 0, _, _, _ => by rw [p_X1_isParent_L2]; rfl
  | n + 1, l1, l2, s => (j_X1_isParent_g n 2 _ _ _ _).trans (b_X1_isParent_L2 n (e_X1_isParent_L2 n) 986 l1 l2 s)
set_option maxRecDepth 20000 in
def p_X1_isParent (nf ns : Nat) (a1 : Int32) (s : KS) : KR := p_X1_isParent_L2 nf ns 400 a1 (0 : Int32) s
set_option maxRecDepth 20000 in
theorem e_X1_isParent {nf ns : Nat} {rest : am_H} (a1 : Int32) (s : KS) : F_X1_isParent [.inl (.ref 0), .inl (.int a1)] (kH nf ns rest s) = am_lf (kH nf ns rest) (p_X1_isParent nf ns a1 s) := by
  rw [p_X1_isParent]
  refine (show _ = g_X1_isParent 399 1000 0 [(0, .inl (.ref 0)), (1, .inl (.int a1))] [] (kH nf ns rest s) (0, 0) from am_fn_g (Nat.le_of_ble_eq_true rfl)).trans ?_
  refine ((show ∀ f n : Nat, g_X1_isParent n (f + 2) 0 [(0, .inl (.ref 0)), (1, .inl (.int a1))] [] (kH nf ns rest s) (0, 0) = g_X1_isParent n f 2 [(0, .inl (.ref 0)), (1, .inl (.int a1)), (2, .inl (.int (0 : Int32)))] [] (kH nf ns rest s) (0, 0) from fun f n => rfl) 998 399).trans ?_
  exact b_X1_isParent_L2 399 (e_X1_isParent_L2 399) 984 a1 (0 : Int32) s
set_option maxRecDepth 20000 in
def g_X1_leastDeadChild (n f pc : Nat) (lv : am_Lv) (st : List am_V) (h : am_H) (b : Nat × Nat) : Option am_O := am_go X_X1_leastDeadChild 3 (some .int) am_rs0 [] [(2, [0, 1, 2])] (am_lp T_X1_leastDeadChild X_X1_leastDeadChild 3 (some .int) am_rs0 [] [(2, [0, 1, 2])] n) f (am_from pc T_X1_leastDeadChild) lv st h b
set_option maxRecDepth 20000 in
def j_X1_leastDeadChild (n pc : Nat) (lv : am_Lv) (st : List am_V) (h : am_H) (b : Nat × Nat) : Option am_O := am_lp T_X1_leastDeadChild X_X1_leastDeadChild 3 (some .int) am_rs0 [] [(2, [0, 1, 2])] n pc lv st h b
set_option maxRecDepth 20000 in
theorem j_X1_leastDeadChild_g (n pc : Nat) (lv : am_Lv) (st : List am_V) (h : am_H) (b : Nat × Nat) : j_X1_leastDeadChild (n + 1) pc lv st h b = g_X1_leastDeadChild n 1000 pc lv st h b := rfl
set_option maxRecDepth 20000 in
theorem j_X1_leastDeadChild_0 (pc : Nat) (lv : am_Lv) (st : List am_V) (h : am_H) (b : Nat × Nat) : j_X1_leastDeadChild 0 pc lv st h b = none := rfl
set_option maxRecDepth 20000 in
def p_X1_leastDeadChild_L2 (nf ns : Nat) : Nat → Int32 → Int32 → KS → KR
  | 0, _, _, _ => none
  | n + 1, l1, l2, s => cond (decide ((6 : Int32) ≤ l2)) (some (.inl (some (-1 : Int32)), s)) (cond (am_in l2 6) (cond (!decide ((s.1 3 l2.toNatClampNeg) = l1)) (p_X1_leastDeadChild_L2 nf ns n l1 (l2 + (1 : Int32)) s) (cond (am_in l2 6) (cond (!decide ((s.1 1 l2.toNatClampNeg) = (2 : Int32))) (p_X1_leastDeadChild_L2 nf ns n l1 (l2 + (1 : Int32)) s) (some (.inl (some l2), s))) none)) none)
set_option maxRecDepth 20000 in
theorem b_X1_leastDeadChild_L2 {nf ns : Nat} {rest : am_H} (n : Nat) (ih : ∀ (l1 : Int32) (l2 : Int32) (s : KS), j_X1_leastDeadChild n 2 [(0, .inl (.ref 0)), (1, .inl (.int l1)), (2, .inl (.int l2))] [] (kH nf ns rest s) (0, 0) = am_lf (kH nf ns rest) (p_X1_leastDeadChild_L2 nf ns n l1 l2 s)) (f : Nat) (l1 : Int32) (l2 : Int32) (s : KS) : g_X1_leastDeadChild n (f + 20) 2 [(0, .inl (.ref 0)), (1, .inl (.int l1)), (2, .inl (.int l2))] [] (kH nf ns rest s) (0, 0) = am_lf (kH nf ns rest) (p_X1_leastDeadChild_L2 nf ns (n + 1) l1 l2 s) := by
  rw [p_X1_leastDeadChild_L2]
  refine ((show ∀ f n : Nat, g_X1_leastDeadChild n (f + 3) 2 [(0, .inl (.ref 0)), (1, .inl (.int l1)), (2, .inl (.int l2))] [] (kH nf ns rest s) (0, 0) = cond (decide ((6 : Int32) ≤ l2)) (g_X1_leastDeadChild n f 36 [(0, .inl (.ref 0)), (1, .inl (.int l1)), (2, .inl (.int l2))] [] (kH nf ns rest s) (0, 0)) (g_X1_leastDeadChild n f 8 [(0, .inl (.ref 0)), (1, .inl (.int l1)), (2, .inl (.int l2))] [] (kH nf ns rest s) (0, 0)) from fun f n => rfl) (f + 17) n).trans ?_
  refine am_lcd ?_ ?_
  · refine ((show ∀ f n : Nat, g_X1_leastDeadChild n (f + 2) 36 [(0, .inl (.ref 0)), (1, .inl (.int l1)), (2, .inl (.int l2))] [] (kH nf ns rest s) (0, 0) = some (.inl (some (.inl (.int (-1 : Int32)))), kH nf ns rest s) from fun f n => rfl) (f + 15) n).trans ?_
    rfl
  · refine ((show ∀ f n : Nat, g_X1_leastDeadChild n (f + 6) 8 [(0, .inl (.ref 0)), (1, .inl (.int l1)), (2, .inl (.int l2))] [] (kH nf ns rest s) (0, 0) = cond (am_in l2 6) (cond (!decide ((s.1 3 l2.toNatClampNeg) = l1)) (g_X1_leastDeadChild n f 30 [(0, .inl (.ref 0)), (1, .inl (.int l1)), (2, .inl (.int l2))] [] (kH nf ns rest s) (0, 0)) (g_X1_leastDeadChild n f 18 [(0, .inl (.ref 0)), (1, .inl (.int l1)), (2, .inl (.int l2))] [] (kH nf ns rest s) (0, 0))) none from fun f n => rfl) (f + 11) n).trans ?_
    refine am_lcd (B := none) ?_ rfl
    refine am_lcd ?_ ?_
    · refine ((show ∀ f n : Nat, g_X1_leastDeadChild n (f + 2) 30 [(0, .inl (.ref 0)), (1, .inl (.int l1)), (2, .inl (.int l2))] [] (kH nf ns rest s) (0, 0) = j_X1_leastDeadChild n 2 [(0, .inl (.ref 0)), (1, .inl (.int l1)), (2, .inl (.int (l2 + (1 : Int32))))] [] (kH nf ns rest s) (0, 0) from fun f n => rfl) (f + 9) n).trans ?_
      exact ih l1 (l2 + (1 : Int32)) s
    · refine ((show ∀ f n : Nat, g_X1_leastDeadChild n (f + 6) 18 [(0, .inl (.ref 0)), (1, .inl (.int l1)), (2, .inl (.int l2))] [] (kH nf ns rest s) (0, 0) = cond (am_in l2 6) (cond (!decide ((s.1 1 l2.toNatClampNeg) = (2 : Int32))) (g_X1_leastDeadChild n f 30 [(0, .inl (.ref 0)), (1, .inl (.int l1)), (2, .inl (.int l2))] [] (kH nf ns rest s) (0, 0)) (g_X1_leastDeadChild n f 28 [(0, .inl (.ref 0)), (1, .inl (.int l1)), (2, .inl (.int l2))] [] (kH nf ns rest s) (0, 0))) none from fun f n => rfl) (f + 5) n).trans ?_
      refine am_lcd (B := none) ?_ rfl
      refine am_lcd ?_ ?_
      · refine ((show ∀ f n : Nat, g_X1_leastDeadChild n (f + 2) 30 [(0, .inl (.ref 0)), (1, .inl (.int l1)), (2, .inl (.int l2))] [] (kH nf ns rest s) (0, 0) = j_X1_leastDeadChild n 2 [(0, .inl (.ref 0)), (1, .inl (.int l1)), (2, .inl (.int (l2 + (1 : Int32))))] [] (kH nf ns rest s) (0, 0) from fun f n => rfl) (f + 3) n).trans ?_
        exact ih l1 (l2 + (1 : Int32)) s
      · refine ((show ∀ f n : Nat, g_X1_leastDeadChild n (f + 2) 28 [(0, .inl (.ref 0)), (1, .inl (.int l1)), (2, .inl (.int l2))] [] (kH nf ns rest s) (0, 0) = some (.inl (some (.inl (.int l2))), kH nf ns rest s) from fun f n => rfl) (f + 3) n).trans ?_
        rfl
set_option maxRecDepth 20000 in
theorem e_X1_leastDeadChild_L2 {nf ns : Nat} {rest : am_H} : ∀ (n : Nat) (l1 : Int32) (l2 : Int32) (s : KS), j_X1_leastDeadChild n 2 [(0, .inl (.ref 0)), (1, .inl (.int l1)), (2, .inl (.int l2))] [] (kH nf ns rest s) (0, 0) = am_lf (kH nf ns rest) (p_X1_leastDeadChild_L2 nf ns n l1 l2 s)
  | 0, _, _, _ => by rw [p_X1_leastDeadChild_L2]; rfl
  | n + 1, l1, l2, s => (j_X1_leastDeadChild_g n 2 _ _ _ _).trans (b_X1_leastDeadChild_L2 n (e_X1_leastDeadChild_L2 n) 980 l1 l2 s)
set_option maxRecDepth 20000 in
def p_X1_leastDeadChild (nf ns : Nat) (a1 : Int32) (s : KS) : KR := p_X1_leastDeadChild_L2 nf ns 400 a1 (0 : Int32) s
set_option maxRecDepth 20000 in
theorem e_X1_leastDeadChild {nf ns : Nat} {rest : am_H} (a1 : Int32) (s : KS) : F_X1_leastDeadChild [.inl (.ref 0), .inl (.int a1)] (kH nf ns rest s) = am_lf (kH nf ns rest) (p_X1_leastDeadChild nf ns a1 s) := by
  rw [p_X1_leastDeadChild]
  refine (show _ = g_X1_leastDeadChild 399 1000 0 [(0, .inl (.ref 0)), (1, .inl (.int a1))] [] (kH nf ns rest s) (0, 0) from am_fn_g (Nat.le_of_ble_eq_true rfl)).trans ?_
  refine ((show ∀ f n : Nat, g_X1_leastDeadChild n (f + 2) 0 [(0, .inl (.ref 0)), (1, .inl (.int a1))] [] (kH nf ns rest s) (0, 0) = g_X1_leastDeadChild n f 2 [(0, .inl (.ref 0)), (1, .inl (.int a1)), (2, .inl (.int (0 : Int32)))] [] (kH nf ns rest s) (0, 0) from fun f n => rfl) 998 399).trans ?_
  exact b_X1_leastDeadChild_L2 399 (e_X1_leastDeadChild_L2 399) 978 a1 (0 : Int32) s
set_option maxRecDepth 20000 in
def g_X1_await (n f pc : Nat) (lv : am_Lv) (st : List am_V) (h : am_H) (b : Nat × Nat) : Option am_O := am_go X_X1_await 3 (some .int) am_rs0 [] [] (am_lp T_X1_await X_X1_await 3 (some .int) am_rs0 [] [] n) f (am_from pc T_X1_await) lv st h b
set_option maxRecDepth 20000 in
def j_X1_await (n pc : Nat) (lv : am_Lv) (st : List am_V) (h : am_H) (b : Nat × Nat) : Option am_O := am_lp T_X1_await X_X1_await 3 (some .int) am_rs0 [] [] n pc lv st h b
set_option maxRecDepth 20000 in
theorem j_X1_await_g (n pc : Nat) (lv : am_Lv) (st : List am_V) (h : am_H) (b : Nat × Nat) : j_X1_await (n + 1) pc lv st h b = g_X1_await n 1000 pc lv st h b := rfl
set_option maxRecDepth 20000 in
theorem j_X1_await_0 (pc : Nat) (lv : am_Lv) (st : List am_V) (h : am_H) (b : Nat × Nat) : j_X1_await 0 pc lv st h b = none := rfl
set_option maxRecDepth 20000 in
def p_X1_await (nf ns : Nat) (a1 : Int32) (s : KS) : KR := kbv (p_X1_checkProcess nf ns a1 s) (fun s1 => kbv (p_X1_checkRunning nf ns a1 s1) (fun s2 => kbi (p_X1_isParent nf ns a1 s2) (fun x4 s3 => cond (!decide (x4 = (0 : Int32))) (kbi (p_X1_leastDeadChild nf ns a1 s3) (fun x6 s5 => cond (!decide (x6 = (-1 : Int32))) (cond (am_in x6 6) (cond (am_in x6 6) (cond (am_in x6 6) (some (.inl (some (((256 : Int32) * x6) + ((kS (kS s5 1 x6.toNatClampNeg ((0 : Int32))) 3 x6.toNatClampNeg ((-1 : Int32))).1 4 x6.toNatClampNeg))), (kS (kS s5 1 x6.toNatClampNeg ((0 : Int32))) 3 x6.toNatClampNeg ((-1 : Int32))))) none) none) none) (some (.inr 3, s5)))) (some (.inr 2, s3)))))
set_option maxRecDepth 20000 in
theorem e_X1_await {nf ns : Nat} {rest : am_H} (a1 : Int32) (s : KS) : F_X1_await [.inl (.ref 0), .inl (.int a1)] (kH nf ns rest s) = am_lf (kH nf ns rest) (p_X1_await nf ns a1 s) := by
  rw [p_X1_await]
  refine (show _ = g_X1_await 399 1000 0 [(0, .inl (.ref 0)), (1, .inl (.int a1))] [] (kH nf ns rest s) (4, 24) from am_fn_g (Nat.le_of_ble_eq_true rfl)).trans ?_
  refine ((show ∀ f n : Nat, g_X1_await n (f + 2) 0 [(0, .inl (.ref 0)), (1, .inl (.int a1))] [] (kH nf ns rest s) (4, 24) = am_rv (F_X1_checkProcess [.inl (.int a1)] (kH nf ns rest s)) (fun h => g_X1_await n f 4 [(0, .inl (.ref 0)), (1, .inl (.int a1))] [] h (3, 18)) (fun x h => some (.inr x, h)) from fun f n => rfl) 998 399).trans ?_
  rw [e_X1_checkProcess a1 s]
  refine am_lbv (fun s1 => ?_) (fun _ _ => rfl)
  refine ((show ∀ f n : Nat, g_X1_await n (f + 3) 4 [(0, .inl (.ref 0)), (1, .inl (.int a1))] [] (kH nf ns rest s1) (3, 18) = am_rv (F_X1_checkRunning [.inl (.ref 0), .inl (.int a1)] (kH nf ns rest s1)) (fun h => g_X1_await n f 9 [(0, .inl (.ref 0)), (1, .inl (.int a1))] [] h (2, 12)) (fun x h => some (.inr x, h)) from fun f n => rfl) 995 399).trans ?_
  rw [e_X1_checkRunning a1 s1]
  refine am_lbv (fun s2 => ?_) (fun _ _ => rfl)
  refine ((show ∀ f n : Nat, g_X1_await n (f + 3) 9 [(0, .inl (.ref 0)), (1, .inl (.int a1))] [] (kH nf ns rest s2) (2, 12) = am_ri (F_X1_isParent [.inl (.ref 0), .inl (.int a1)] (kH nf ns rest s2)) (fun x4 h => g_X1_await n f 14 [(0, .inl (.ref 0)), (1, .inl (.int a1))] [.inl (.int x4)] h (2, 12)) (fun x h => some (.inr x, h)) from fun f n => rfl) 992 399).trans ?_
  rw [e_X1_isParent a1 s2]
  refine am_lbi (fun x4 s3 => ?_) (fun _ _ => rfl)
  refine ((show ∀ f n : Nat, g_X1_await n (f + 1) 14 [(0, .inl (.ref 0)), (1, .inl (.int a1))] [.inl (.int x4)] (kH nf ns rest s3) (2, 12) = cond (!decide (x4 = (0 : Int32))) (g_X1_await n f 25 [(0, .inl (.ref 0)), (1, .inl (.int a1))] [] (kH nf ns rest s3) (2, 12)) (g_X1_await n f 17 [(0, .inl (.ref 0)), (1, .inl (.int a1))] [] (kH nf ns rest s3) (2, 12)) from fun f n => rfl) 991 399).trans ?_
  refine am_lcd ?_ ?_
  · refine ((show ∀ f n : Nat, g_X1_await n (f + 3) 25 [(0, .inl (.ref 0)), (1, .inl (.int a1))] [] (kH nf ns rest s3) (2, 12) = am_ri (F_X1_leastDeadChild [.inl (.ref 0), .inl (.int a1)] (kH nf ns rest s3)) (fun x6 h => g_X1_await n f 30 [(0, .inl (.ref 0)), (1, .inl (.int a1))] [.inl (.int x6)] h (2, 12)) (fun x h => some (.inr x, h)) from fun f n => rfl) 988 399).trans ?_
    rw [e_X1_leastDeadChild a1 s3]
    refine am_lbi (fun x6 s5 => ?_) (fun _ _ => rfl)
    refine ((show ∀ f n : Nat, g_X1_await n (f + 4) 30 [(0, .inl (.ref 0)), (1, .inl (.int a1))] [.inl (.int x6)] (kH nf ns rest s5) (2, 12) = cond (!decide (x6 = (-1 : Int32))) (g_X1_await n f 44 [(0, .inl (.ref 0)), (1, .inl (.int a1)), (2, .inl (.int x6))] [] (kH nf ns rest s5) (2, 12)) (g_X1_await n f 36 [(0, .inl (.ref 0)), (1, .inl (.int a1)), (2, .inl (.int x6))] [] (kH nf ns rest s5) (2, 12)) from fun f n => rfl) 984 399).trans ?_
    refine am_lcd ?_ ?_
    · refine ((show ∀ f n : Nat, g_X1_await n (f + 19) 44 [(0, .inl (.ref 0)), (1, .inl (.int a1)), (2, .inl (.int x6))] [] (kH nf ns rest s5) (2, 12) = cond (am_in x6 6) (cond (am_in x6 6) (cond (am_in x6 6) (some (.inl (some (.inl (.int (((256 : Int32) * x6) + ((kS (kS s5 1 x6.toNatClampNeg ((0 : Int32))) 3 x6.toNatClampNeg ((-1 : Int32))).1 4 x6.toNatClampNeg))))), kH nf ns rest (kS (kS s5 1 x6.toNatClampNeg ((0 : Int32))) 3 x6.toNatClampNeg ((-1 : Int32))))) none) none) none from fun f n => rfl) 965 399).trans ?_
      refine am_lcd (B := none) ?_ rfl
      refine am_lcd (B := none) ?_ rfl
      refine am_lcd (B := none) ?_ rfl
      rfl
    · refine ((show ∀ f n : Nat, g_X1_await n (f + 1) 36 [(0, .inl (.ref 0)), (1, .inl (.int a1)), (2, .inl (.int x6))] [] (kH nf ns rest s5) (2, 12) = some (.inr 3, kH nf ns rest s5) from fun f n => rfl) 983 399).trans ?_
      rfl
  · refine ((show ∀ f n : Nat, g_X1_await n (f + 1) 17 [(0, .inl (.ref 0)), (1, .inl (.int a1))] [] (kH nf ns rest s3) (2, 12) = some (.inr 2, kH nf ns rest s3) from fun f n => rfl) 990 399).trans ?_
    rfl
set_option maxRecDepth 20000 in
def g_X1_grow (n f pc : Nat) (lv : am_Lv) (st : List am_V) (h : am_H) (b : Nat × Nat) : Option am_O := am_go X_X1_grow 5 (some .int) am_rs0 [] [] (am_lp T_X1_grow X_X1_grow 5 (some .int) am_rs0 [] [] n) f (am_from pc T_X1_grow) lv st h b
set_option maxRecDepth 20000 in
def j_X1_grow (n pc : Nat) (lv : am_Lv) (st : List am_V) (h : am_H) (b : Nat × Nat) : Option am_O := am_lp T_X1_grow X_X1_grow 5 (some .int) am_rs0 [] [] n pc lv st h b
set_option maxRecDepth 20000 in
theorem j_X1_grow_g (n pc : Nat) (lv : am_Lv) (st : List am_V) (h : am_H) (b : Nat × Nat) : j_X1_grow (n + 1) pc lv st h b = g_X1_grow n 1000 pc lv st h b := rfl
set_option maxRecDepth 20000 in
theorem j_X1_grow_0 (pc : Nat) (lv : am_Lv) (st : List am_V) (h : am_H) (b : Nat × Nat) : j_X1_grow 0 pc lv st h b = none := rfl
set_option maxRecDepth 20000 in
def p_X1_grow (nf ns : Nat) (a1 : Int32) (a2 : Int32) (s : KS) : KR := kbv (p_X1_checkProcess nf ns a1 s) (fun s1 => kbv (p_X1_checkRange nf ns a2 (-6 : Int32) (6 : Int32) s1) (fun s2 => kbv (p_X1_checkRunning nf ns a1 s2) (fun s3 => cond (am_in a1 6) (cond (decide (((s3.1 5 a1.toNatClampNeg) + a2) < (0 : Int32))) (some (.inr 2, s3)) (cond (decide (((s3.1 5 a1.toNatClampNeg) + a2) ≤ (6 : Int32))) (kbv (p_X1_addPages nf ns a1 ((2 : Int32) + (s3.1 5 a1.toNatClampNeg)) ((2 : Int32) + ((s3.1 5 a1.toNatClampNeg) + a2)) s3) (fun s4 => kbv (p_X1_leavePages nf ns a1 ((2 : Int32) + ((s3.1 5 a1.toNatClampNeg) + a2)) ((2 : Int32) + (s3.1 5 a1.toNatClampNeg)) s4) (fun s5 => cond (am_in a1 6) (some (.inl (some ((s3.1 5 a1.toNatClampNeg) + a2)), (kS s5 5 a1.toNatClampNeg (((s3.1 5 a1.toNatClampNeg) + a2))))) none))) (some (.inr 2, s3)))) none)))
set_option maxRecDepth 20000 in
theorem e_X1_grow {nf ns : Nat} {rest : am_H} (a1 : Int32) (a2 : Int32) (s : KS) : F_X1_grow [.inl (.ref 0), .inl (.int a1), .inl (.int a2)] (kH nf ns rest s) = am_lf (kH nf ns rest) (p_X1_grow nf ns a1 a2 s) := by
  rw [p_X1_grow]
  refine (show _ = g_X1_grow 399 1000 0 [(0, .inl (.ref 0)), (1, .inl (.int a1)), (2, .inl (.int a2))] [] (kH nf ns rest s) (4, 24) from am_fn_g (Nat.le_of_ble_eq_true rfl)).trans ?_
  refine ((show ∀ f n : Nat, g_X1_grow n (f + 2) 0 [(0, .inl (.ref 0)), (1, .inl (.int a1)), (2, .inl (.int a2))] [] (kH nf ns rest s) (4, 24) = am_rv (F_X1_checkProcess [.inl (.int a1)] (kH nf ns rest s)) (fun h => g_X1_grow n f 4 [(0, .inl (.ref 0)), (1, .inl (.int a1)), (2, .inl (.int a2))] [] h (3, 18)) (fun x h => some (.inr x, h)) from fun f n => rfl) 998 399).trans ?_
  rw [e_X1_checkProcess a1 s]
  refine am_lbv (fun s1 => ?_) (fun _ _ => rfl)
  refine ((show ∀ f n : Nat, g_X1_grow n (f + 4) 4 [(0, .inl (.ref 0)), (1, .inl (.int a1)), (2, .inl (.int a2))] [] (kH nf ns rest s1) (3, 18) = am_rv (F_X1_checkRange [.inl (.int a2), .inl (.int (-6 : Int32)), .inl (.int (6 : Int32))] (kH nf ns rest s1)) (fun h => g_X1_grow n f 12 [(0, .inl (.ref 0)), (1, .inl (.int a1)), (2, .inl (.int a2))] [] h (2, 12)) (fun x h => some (.inr x, h)) from fun f n => rfl) 994 399).trans ?_
  rw [e_X1_checkRange a2 (-6 : Int32) (6 : Int32) s1]
  refine am_lbv (fun s2 => ?_) (fun _ _ => rfl)
  refine ((show ∀ f n : Nat, g_X1_grow n (f + 3) 12 [(0, .inl (.ref 0)), (1, .inl (.int a1)), (2, .inl (.int a2))] [] (kH nf ns rest s2) (2, 12) = am_rv (F_X1_checkRunning [.inl (.ref 0), .inl (.int a1)] (kH nf ns rest s2)) (fun h => g_X1_grow n f 17 [(0, .inl (.ref 0)), (1, .inl (.int a1)), (2, .inl (.int a2))] [] h (1, 6)) (fun x h => some (.inr x, h)) from fun f n => rfl) 991 399).trans ?_
  rw [e_X1_checkRunning a1 s2]
  refine am_lbv (fun s3 => ?_) (fun _ _ => rfl)
  refine ((show ∀ f n : Nat, g_X1_grow n (f + 11) 17 [(0, .inl (.ref 0)), (1, .inl (.int a1)), (2, .inl (.int a2))] [] (kH nf ns rest s3) (1, 6) = cond (am_in a1 6) (cond (decide (((s3.1 5 a1.toNatClampNeg) + a2) < (0 : Int32))) (g_X1_grow n f 41 [(0, .inl (.ref 0)), (1, .inl (.int a1)), (2, .inl (.int a2)), (3, .inl (.int (s3.1 5 a1.toNatClampNeg))), (4, .inl (.int ((s3.1 5 a1.toNatClampNeg) + a2)))] [] (kH nf ns rest s3) (1, 6)) (g_X1_grow n f 34 [(0, .inl (.ref 0)), (1, .inl (.int a1)), (2, .inl (.int a2)), (3, .inl (.int (s3.1 5 a1.toNatClampNeg))), (4, .inl (.int ((s3.1 5 a1.toNatClampNeg) + a2)))] [] (kH nf ns rest s3) (1, 6))) none from fun f n => rfl) 980 399).trans ?_
  refine am_lcd (B := none) ?_ rfl
  refine am_lcd ?_ ?_
  · refine ((show ∀ f n : Nat, g_X1_grow n (f + 1) 41 [(0, .inl (.ref 0)), (1, .inl (.int a1)), (2, .inl (.int a2)), (3, .inl (.int (s3.1 5 a1.toNatClampNeg))), (4, .inl (.int ((s3.1 5 a1.toNatClampNeg) + a2)))] [] (kH nf ns rest s3) (1, 6) = some (.inr 2, kH nf ns rest s3) from fun f n => rfl) 979 399).trans ?_
    rfl
  · refine ((show ∀ f n : Nat, g_X1_grow n (f + 3) 34 [(0, .inl (.ref 0)), (1, .inl (.int a1)), (2, .inl (.int a2)), (3, .inl (.int (s3.1 5 a1.toNatClampNeg))), (4, .inl (.int ((s3.1 5 a1.toNatClampNeg) + a2)))] [] (kH nf ns rest s3) (1, 6) = cond (decide (((s3.1 5 a1.toNatClampNeg) + a2) ≤ (6 : Int32))) (g_X1_grow n f 49 [(0, .inl (.ref 0)), (1, .inl (.int a1)), (2, .inl (.int a2)), (3, .inl (.int (s3.1 5 a1.toNatClampNeg))), (4, .inl (.int ((s3.1 5 a1.toNatClampNeg) + a2)))] [] (kH nf ns rest s3) (1, 6)) (g_X1_grow n f 41 [(0, .inl (.ref 0)), (1, .inl (.int a1)), (2, .inl (.int a2)), (3, .inl (.int (s3.1 5 a1.toNatClampNeg))), (4, .inl (.int ((s3.1 5 a1.toNatClampNeg) + a2)))] [] (kH nf ns rest s3) (1, 6)) from fun f n => rfl) 977 399).trans ?_
    refine am_lcd ?_ ?_
    · refine ((show ∀ f n : Nat, g_X1_grow n (f + 9) 49 [(0, .inl (.ref 0)), (1, .inl (.int a1)), (2, .inl (.int a2)), (3, .inl (.int (s3.1 5 a1.toNatClampNeg))), (4, .inl (.int ((s3.1 5 a1.toNatClampNeg) + a2)))] [] (kH nf ns rest s3) (1, 6) = am_rv (F_X1_addPages [.inl (.ref 0), .inl (.int a1), .inl (.int ((2 : Int32) + (s3.1 5 a1.toNatClampNeg))), .inl (.int ((2 : Int32) + ((s3.1 5 a1.toNatClampNeg) + a2)))] (kH nf ns rest s3)) (fun h => g_X1_grow n f 61 [(0, .inl (.ref 0)), (1, .inl (.int a1)), (2, .inl (.int a2)), (3, .inl (.int (s3.1 5 a1.toNatClampNeg))), (4, .inl (.int ((s3.1 5 a1.toNatClampNeg) + a2)))] [] h (1, 6)) (fun x h => some (.inr x, h)) from fun f n => rfl) 968 399).trans ?_
      rw [e_X1_addPages a1 ((2 : Int32) + (s3.1 5 a1.toNatClampNeg)) ((2 : Int32) + ((s3.1 5 a1.toNatClampNeg) + a2)) s3]
      refine am_lbv (fun s4 => ?_) (fun _ _ => rfl)
      refine ((show ∀ f n : Nat, g_X1_grow n (f + 9) 61 [(0, .inl (.ref 0)), (1, .inl (.int a1)), (2, .inl (.int a2)), (3, .inl (.int (s3.1 5 a1.toNatClampNeg))), (4, .inl (.int ((s3.1 5 a1.toNatClampNeg) + a2)))] [] (kH nf ns rest s4) (1, 6) = am_rv (F_X1_leavePages [.inl (.ref 0), .inl (.int a1), .inl (.int ((2 : Int32) + ((s3.1 5 a1.toNatClampNeg) + a2))), .inl (.int ((2 : Int32) + (s3.1 5 a1.toNatClampNeg)))] (kH nf ns rest s4)) (fun h => g_X1_grow n f 73 [(0, .inl (.ref 0)), (1, .inl (.int a1)), (2, .inl (.int a2)), (3, .inl (.int (s3.1 5 a1.toNatClampNeg))), (4, .inl (.int ((s3.1 5 a1.toNatClampNeg) + a2)))] [] h (1, 6)) (fun x h => some (.inr x, h)) from fun f n => rfl) 959 399).trans ?_
      rw [e_X1_leavePages a1 ((2 : Int32) + ((s3.1 5 a1.toNatClampNeg) + a2)) ((2 : Int32) + (s3.1 5 a1.toNatClampNeg)) s4]
      refine am_lbv (fun s5 => ?_) (fun _ _ => rfl)
      refine ((show ∀ f n : Nat, g_X1_grow n (f + 7) 73 [(0, .inl (.ref 0)), (1, .inl (.int a1)), (2, .inl (.int a2)), (3, .inl (.int (s3.1 5 a1.toNatClampNeg))), (4, .inl (.int ((s3.1 5 a1.toNatClampNeg) + a2)))] [] (kH nf ns rest s5) (1, 6) = cond (am_in a1 6) (some (.inl (some (.inl (.int ((s3.1 5 a1.toNatClampNeg) + a2)))), kH nf ns rest (kS s5 5 a1.toNatClampNeg (((s3.1 5 a1.toNatClampNeg) + a2))))) none from fun f n => rfl) 952 399).trans ?_
      refine am_lcd (B := none) ?_ rfl
      rfl
    · refine ((show ∀ f n : Nat, g_X1_grow n (f + 1) 41 [(0, .inl (.ref 0)), (1, .inl (.int a1)), (2, .inl (.int a2)), (3, .inl (.int (s3.1 5 a1.toNatClampNeg))), (4, .inl (.int ((s3.1 5 a1.toNatClampNeg) + a2)))] [] (kH nf ns rest s3) (1, 6) = some (.inr 2, kH nf ns rest s3) from fun f n => rfl) 976 399).trans ?_
      rfl
set_option maxRecDepth 20000 in
def g_X1_checkAddress (n f pc : Nat) (lv : am_Lv) (st : List am_V) (h : am_H) (b : Nat × Nat) : Option am_O := am_go X_X1_checkAddress 3 none am_rs0 [] [] (am_lp T_X1_checkAddress X_X1_checkAddress 3 none am_rs0 [] [] n) f (am_from pc T_X1_checkAddress) lv st h b
set_option maxRecDepth 20000 in
def j_X1_checkAddress (n pc : Nat) (lv : am_Lv) (st : List am_V) (h : am_H) (b : Nat × Nat) : Option am_O := am_lp T_X1_checkAddress X_X1_checkAddress 3 none am_rs0 [] [] n pc lv st h b
set_option maxRecDepth 20000 in
theorem j_X1_checkAddress_g (n pc : Nat) (lv : am_Lv) (st : List am_V) (h : am_H) (b : Nat × Nat) : j_X1_checkAddress (n + 1) pc lv st h b = g_X1_checkAddress n 1000 pc lv st h b := rfl
set_option maxRecDepth 20000 in
theorem j_X1_checkAddress_0 (pc : Nat) (lv : am_Lv) (st : List am_V) (h : am_H) (b : Nat × Nat) : j_X1_checkAddress 0 pc lv st h b = none := rfl
set_option maxRecDepth 20000 in
def p_X1_checkAddress (nf ns : Nat) (a1 : Int32) (a2 : Int32) (s : KS) : KR := kbv (p_X1_checkProcess nf ns a1 s) (fun s1 => kbv (p_X1_checkRange nf ns a2 (0 : Int32) (43 : Int32) s1) (fun s2 => kbv (p_X1_checkRunning nf ns a1 s2) (fun s3 => some (.inl none, s3))))
set_option maxRecDepth 20000 in
theorem e_X1_checkAddress {nf ns : Nat} {rest : am_H} (a1 : Int32) (a2 : Int32) (s : KS) : F_X1_checkAddress [.inl (.ref 0), .inl (.int a1), .inl (.int a2)] (kH nf ns rest s) = am_lf (kH nf ns rest) (p_X1_checkAddress nf ns a1 a2 s) := by
  rw [p_X1_checkAddress]
  refine (show _ = g_X1_checkAddress 399 1000 0 [(0, .inl (.ref 0)), (1, .inl (.int a1)), (2, .inl (.int a2))] [] (kH nf ns rest s) (3, 18) from am_fn_g (Nat.le_of_ble_eq_true rfl)).trans ?_
  refine ((show ∀ f n : Nat, g_X1_checkAddress n (f + 2) 0 [(0, .inl (.ref 0)), (1, .inl (.int a1)), (2, .inl (.int a2))] [] (kH nf ns rest s) (3, 18) = am_rv (F_X1_checkProcess [.inl (.int a1)] (kH nf ns rest s)) (fun h => g_X1_checkAddress n f 4 [(0, .inl (.ref 0)), (1, .inl (.int a1)), (2, .inl (.int a2))] [] h (2, 12)) (fun x h => some (.inr x, h)) from fun f n => rfl) 998 399).trans ?_
  rw [e_X1_checkProcess a1 s]
  refine am_lbv (fun s1 => ?_) (fun _ _ => rfl)
  refine ((show ∀ f n : Nat, g_X1_checkAddress n (f + 4) 4 [(0, .inl (.ref 0)), (1, .inl (.int a1)), (2, .inl (.int a2))] [] (kH nf ns rest s1) (2, 12) = am_rv (F_X1_checkRange [.inl (.int a2), .inl (.int (0 : Int32)), .inl (.int (43 : Int32))] (kH nf ns rest s1)) (fun h => g_X1_checkAddress n f 11 [(0, .inl (.ref 0)), (1, .inl (.int a1)), (2, .inl (.int a2))] [] h (1, 6)) (fun x h => some (.inr x, h)) from fun f n => rfl) 994 399).trans ?_
  rw [e_X1_checkRange a2 (0 : Int32) (43 : Int32) s1]
  refine am_lbv (fun s2 => ?_) (fun _ _ => rfl)
  refine ((show ∀ f n : Nat, g_X1_checkAddress n (f + 3) 11 [(0, .inl (.ref 0)), (1, .inl (.int a1)), (2, .inl (.int a2))] [] (kH nf ns rest s2) (1, 6) = am_rv (F_X1_checkRunning [.inl (.ref 0), .inl (.int a1)] (kH nf ns rest s2)) (fun h => g_X1_checkAddress n f 16 [(0, .inl (.ref 0)), (1, .inl (.int a1)), (2, .inl (.int a2))] [] h (0, 0)) (fun x h => some (.inr x, h)) from fun f n => rfl) 991 399).trans ?_
  rw [e_X1_checkRunning a1 s2]
  refine am_lbv (fun s3 => ?_) (fun _ _ => rfl)
  refine ((show ∀ f n : Nat, g_X1_checkAddress n (f + 1) 16 [(0, .inl (.ref 0)), (1, .inl (.int a1)), (2, .inl (.int a2))] [] (kH nf ns rest s3) (0, 0) = some (.inl none, kH nf ns rest s3) from fun f n => rfl) 990 399).trans ?_
  rfl
set_option maxRecDepth 20000 in
def g_X1_growStackTo (n f pc : Nat) (lv : am_Lv) (st : List am_V) (h : am_H) (b : Nat × Nat) : Option am_O := am_go X_X1_growStackTo 4 none am_rs0 [] [] (am_lp T_X1_growStackTo X_X1_growStackTo 4 none am_rs0 [] [] n) f (am_from pc T_X1_growStackTo) lv st h b
set_option maxRecDepth 20000 in
def j_X1_growStackTo (n pc : Nat) (lv : am_Lv) (st : List am_V) (h : am_H) (b : Nat × Nat) : Option am_O := am_lp T_X1_growStackTo X_X1_growStackTo 4 none am_rs0 [] [] n pc lv st h b
set_option maxRecDepth 20000 in
theorem j_X1_growStackTo_g (n pc : Nat) (lv : am_Lv) (st : List am_V) (h : am_H) (b : Nat × Nat) : j_X1_growStackTo (n + 1) pc lv st h b = g_X1_growStackTo n 1000 pc lv st h b := rfl
set_option maxRecDepth 20000 in
theorem j_X1_growStackTo_0 (pc : Nat) (lv : am_Lv) (st : List am_V) (h : am_H) (b : Nat × Nat) : j_X1_growStackTo 0 pc lv st h b = none := rfl
set_option maxRecDepth 20000 in
def p_X1_growStackTo (nf ns : Nat) (a1 : Int32) (a2 : Int32) (s : KS) : KR := cond (am_in a1 6) (cond (decide (a2 < (8 : Int32))) (some (.inl none, s)) (cond (decide (((11 : Int32) - (s.1 6 a1.toNatClampNeg)) ≤ a2)) (some (.inl none, s)) (kbv (p_X1_addPages nf ns a1 a2 ((11 : Int32) - (s.1 6 a1.toNatClampNeg)) s) (fun s1 => cond (am_in a1 6) (some (.inl none, (kS s1 6 a1.toNatClampNeg (((11 : Int32) - a2))))) none)))) none
set_option maxRecDepth 20000 in
theorem e_X1_growStackTo {nf ns : Nat} {rest : am_H} (a1 : Int32) (a2 : Int32) (s : KS) : F_X1_growStackTo [.inl (.ref 0), .inl (.int a1), .inl (.int a2)] (kH nf ns rest s) = am_lf (kH nf ns rest) (p_X1_growStackTo nf ns a1 a2 s) := by
  rw [p_X1_growStackTo]
  refine (show _ = g_X1_growStackTo 399 1000 0 [(0, .inl (.ref 0)), (1, .inl (.int a1)), (2, .inl (.int a2))] [] (kH nf ns rest s) (0, 0) from am_fn_g (Nat.le_of_ble_eq_true rfl)).trans ?_
  refine ((show ∀ f n : Nat, g_X1_growStackTo n (f + 10) 0 [(0, .inl (.ref 0)), (1, .inl (.int a1)), (2, .inl (.int a2))] [] (kH nf ns rest s) (0, 0) = cond (am_in a1 6) (cond (decide (a2 < (8 : Int32))) (g_X1_growStackTo n f 38 [(0, .inl (.ref 0)), (1, .inl (.int a1)), (2, .inl (.int a2)), (3, .inl (.int ((11 : Int32) - (s.1 6 a1.toNatClampNeg))))] [] (kH nf ns rest s) (0, 0)) (g_X1_growStackTo n f 16 [(0, .inl (.ref 0)), (1, .inl (.int a1)), (2, .inl (.int a2)), (3, .inl (.int ((11 : Int32) - (s.1 6 a1.toNatClampNeg))))] [] (kH nf ns rest s) (0, 0))) none from fun f n => rfl) 990 399).trans ?_
  refine am_lcd (B := none) ?_ rfl
  refine am_lcd ?_ ?_
  · refine ((show ∀ f n : Nat, g_X1_growStackTo n (f + 1) 38 [(0, .inl (.ref 0)), (1, .inl (.int a1)), (2, .inl (.int a2)), (3, .inl (.int ((11 : Int32) - (s.1 6 a1.toNatClampNeg))))] [] (kH nf ns rest s) (0, 0) = some (.inl none, kH nf ns rest s) from fun f n => rfl) 989 399).trans ?_
    rfl
  · refine ((show ∀ f n : Nat, g_X1_growStackTo n (f + 3) 16 [(0, .inl (.ref 0)), (1, .inl (.int a1)), (2, .inl (.int a2)), (3, .inl (.int ((11 : Int32) - (s.1 6 a1.toNatClampNeg))))] [] (kH nf ns rest s) (0, 0) = cond (decide (((11 : Int32) - (s.1 6 a1.toNatClampNeg)) ≤ a2)) (g_X1_growStackTo n f 38 [(0, .inl (.ref 0)), (1, .inl (.int a1)), (2, .inl (.int a2)), (3, .inl (.int ((11 : Int32) - (s.1 6 a1.toNatClampNeg))))] [] (kH nf ns rest s) (0, 0)) (g_X1_growStackTo n f 21 [(0, .inl (.ref 0)), (1, .inl (.int a1)), (2, .inl (.int a2)), (3, .inl (.int ((11 : Int32) - (s.1 6 a1.toNatClampNeg))))] [] (kH nf ns rest s) (0, 0)) from fun f n => rfl) 987 399).trans ?_
    refine am_lcd ?_ ?_
    · refine ((show ∀ f n : Nat, g_X1_growStackTo n (f + 1) 38 [(0, .inl (.ref 0)), (1, .inl (.int a1)), (2, .inl (.int a2)), (3, .inl (.int ((11 : Int32) - (s.1 6 a1.toNatClampNeg))))] [] (kH nf ns rest s) (0, 0) = some (.inl none, kH nf ns rest s) from fun f n => rfl) 986 399).trans ?_
      rfl
    · refine ((show ∀ f n : Nat, g_X1_growStackTo n (f + 5) 21 [(0, .inl (.ref 0)), (1, .inl (.int a1)), (2, .inl (.int a2)), (3, .inl (.int ((11 : Int32) - (s.1 6 a1.toNatClampNeg))))] [] (kH nf ns rest s) (0, 0) = am_rv (F_X1_addPages [.inl (.ref 0), .inl (.int a1), .inl (.int a2), .inl (.int ((11 : Int32) - (s.1 6 a1.toNatClampNeg)))] (kH nf ns rest s)) (fun h => g_X1_growStackTo n f 28 [(0, .inl (.ref 0)), (1, .inl (.int a1)), (2, .inl (.int a2)), (3, .inl (.int ((11 : Int32) - (s.1 6 a1.toNatClampNeg))))] [] h (0, 0)) (fun x h => some (.inr x, h)) from fun f n => rfl) 982 399).trans ?_
      rw [e_X1_addPages a1 a2 ((11 : Int32) - (s.1 6 a1.toNatClampNeg)) s]
      refine am_lbv (fun s1 => ?_) (fun _ _ => rfl)
      refine ((show ∀ f n : Nat, g_X1_growStackTo n (f + 8) 28 [(0, .inl (.ref 0)), (1, .inl (.int a1)), (2, .inl (.int a2)), (3, .inl (.int ((11 : Int32) - (s.1 6 a1.toNatClampNeg))))] [] (kH nf ns rest s1) (0, 0) = cond (am_in a1 6) (some (.inl none, kH nf ns rest (kS s1 6 a1.toNatClampNeg (((11 : Int32) - a2))))) none from fun f n => rfl) 974 399).trans ?_
      refine am_lcd (B := none) ?_ rfl
      rfl
set_option maxRecDepth 20000 in
def g_X1_pageThere (n f pc : Nat) (lv : am_Lv) (st : List am_V) (h : am_H) (b : Nat × Nat) : Option am_O := am_go X_X1_pageThere 4 (some .int) am_rs0 [] [] (am_lp T_X1_pageThere X_X1_pageThere 4 (some .int) am_rs0 [] [] n) f (am_from pc T_X1_pageThere) lv st h b
set_option maxRecDepth 20000 in
def j_X1_pageThere (n pc : Nat) (lv : am_Lv) (st : List am_V) (h : am_H) (b : Nat × Nat) : Option am_O := am_lp T_X1_pageThere X_X1_pageThere 4 (some .int) am_rs0 [] [] n pc lv st h b
set_option maxRecDepth 20000 in
theorem j_X1_pageThere_g (n pc : Nat) (lv : am_Lv) (st : List am_V) (h : am_H) (b : Nat × Nat) : j_X1_pageThere (n + 1) pc lv st h b = g_X1_pageThere n 1000 pc lv st h b := rfl
set_option maxRecDepth 20000 in
theorem j_X1_pageThere_0 (pc : Nat) (lv : am_Lv) (st : List am_V) (h : am_H) (b : Nat × Nat) : j_X1_pageThere 0 pc lv st h b = none := rfl
set_option maxRecDepth 20000 in
def p_X1_pageThere (nf ns : Nat) (a1 : Int32) (a2 : Int32) (s : KS) : KR := cond (am_in a1 6) (cond ((decide (a1.toNatClampNeg < 6) && am_in a2 11)) (cond (!decide ((s.2 a1.toNatClampNeg a2.toNatClampNeg) = (-1 : Int32))) (some (.inl (some (s.2 a1.toNatClampNeg a2.toNatClampNeg)), s)) (some (.inr 4, s))) none) none
set_option maxRecDepth 20000 in
theorem e_X1_pageThere {nf ns : Nat} {rest : am_H} (a1 : Int32) (a2 : Int32) (s : KS) : F_X1_pageThere [.inl (.ref 0), .inl (.int a1), .inl (.int a2)] (kH nf ns rest s) = am_lf (kH nf ns rest) (p_X1_pageThere nf ns a1 a2 s) := by
  rw [p_X1_pageThere]
  refine (show _ = g_X1_pageThere 399 1000 0 [(0, .inl (.ref 0)), (1, .inl (.int a1)), (2, .inl (.int a2))] [] (kH nf ns rest s) (1, 6) from am_fn_g (Nat.le_of_ble_eq_true rfl)).trans ?_
  refine ((show ∀ f n : Nat, g_X1_pageThere n (f + 10) 0 [(0, .inl (.ref 0)), (1, .inl (.int a1)), (2, .inl (.int a2))] [] (kH nf ns rest s) (1, 6) = cond (am_in a1 6) (cond ((decide (a1.toNatClampNeg < 6) && am_in a2 11)) (cond (!decide ((s.2 a1.toNatClampNeg a2.toNatClampNeg) = (-1 : Int32))) (g_X1_pageThere n f 22 [(0, .inl (.ref 0)), (1, .inl (.int a1)), (2, .inl (.int a2)), (3, .inl (.int (s.2 a1.toNatClampNeg a2.toNatClampNeg)))] [] (kH nf ns rest s) (1, 6)) (g_X1_pageThere n f 14 [(0, .inl (.ref 0)), (1, .inl (.int a1)), (2, .inl (.int a2)), (3, .inl (.int (s.2 a1.toNatClampNeg a2.toNatClampNeg)))] [] (kH nf ns rest s) (1, 6))) none) none from fun f n => rfl) 990 399).trans ?_
  refine am_lcd (B := none) ?_ rfl
  refine am_lcd (B := none) ?_ rfl
  refine am_lcd ?_ ?_
  · refine ((show ∀ f n : Nat, g_X1_pageThere n (f + 2) 22 [(0, .inl (.ref 0)), (1, .inl (.int a1)), (2, .inl (.int a2)), (3, .inl (.int (s.2 a1.toNatClampNeg a2.toNatClampNeg)))] [] (kH nf ns rest s) (1, 6) = some (.inl (some (.inl (.int (s.2 a1.toNatClampNeg a2.toNatClampNeg)))), kH nf ns rest s) from fun f n => rfl) 988 399).trans ?_
    rfl
  · refine ((show ∀ f n : Nat, g_X1_pageThere n (f + 1) 14 [(0, .inl (.ref 0)), (1, .inl (.int a1)), (2, .inl (.int a2)), (3, .inl (.int (s.2 a1.toNatClampNeg a2.toNatClampNeg)))] [] (kH nf ns rest s) (1, 6) = some (.inr 4, kH nf ns rest s) from fun f n => rfl) 989 399).trans ?_
    rfl
set_option maxRecDepth 20000 in
def g_X1_read (n f pc : Nat) (lv : am_Lv) (st : List am_V) (h : am_H) (b : Nat × Nat) : Option am_O := am_go X_X1_read 4 (some .int) am_rs0 [] [] (am_lp T_X1_read X_X1_read 4 (some .int) am_rs0 [] [] n) f (am_from pc T_X1_read) lv st h b
set_option maxRecDepth 20000 in
def j_X1_read (n pc : Nat) (lv : am_Lv) (st : List am_V) (h : am_H) (b : Nat × Nat) : Option am_O := am_lp T_X1_read X_X1_read 4 (some .int) am_rs0 [] [] n pc lv st h b
set_option maxRecDepth 20000 in
theorem j_X1_read_g (n pc : Nat) (lv : am_Lv) (st : List am_V) (h : am_H) (b : Nat × Nat) : j_X1_read (n + 1) pc lv st h b = g_X1_read n 1000 pc lv st h b := rfl
set_option maxRecDepth 20000 in
theorem j_X1_read_0 (pc : Nat) (lv : am_Lv) (st : List am_V) (h : am_H) (b : Nat × Nat) : j_X1_read 0 pc lv st h b = none := rfl
set_option maxRecDepth 20000 in
def p_X1_read (nf ns : Nat) (a1 : Int32) (a2 : Int32) (s : KS) : KR := kbv (p_X1_checkAddress nf ns a1 a2 s) (fun s1 => kbv (p_X1_growStackTo nf ns a1 (a2 / (4 : Int32)) s1) (fun s2 => kbi (p_X1_pageThere nf ns a1 (a2 / (4 : Int32)) s2) (fun x4 s3 => kbi (p_X0_touch nf ns x4 s3) (fun x6 s5 => cond (!decide (x6 = (0 : Int32))) (kbi (p_X0_wordOf nf ns x4 (a2 - a2 / (4 : Int32) * (4 : Int32)) s5) (fun x8 s7 => some (.inl (some x8), s7))) (some (.inr 3, s5))))))
set_option maxRecDepth 20000 in
theorem e_X1_read {nf ns : Nat} {rest : am_H} (a1 : Int32) (a2 : Int32) (s : KS) : F_X1_read [.inl (.ref 0), .inl (.int a1), .inl (.int a2)] (kH nf ns rest s) = am_lf (kH nf ns rest) (p_X1_read nf ns a1 a2 s) := by
  rw [p_X1_read]
  refine (show _ = g_X1_read 399 1000 0 [(0, .inl (.ref 0)), (1, .inl (.int a1)), (2, .inl (.int a2))] [] (kH nf ns rest s) (5, 30) from am_fn_g (Nat.le_of_ble_eq_true rfl)).trans ?_
  refine ((show ∀ f n : Nat, g_X1_read n (f + 4) 0 [(0, .inl (.ref 0)), (1, .inl (.int a1)), (2, .inl (.int a2))] [] (kH nf ns rest s) (5, 30) = am_rv (F_X1_checkAddress [.inl (.ref 0), .inl (.int a1), .inl (.int a2)] (kH nf ns rest s)) (fun h => g_X1_read n f 6 [(0, .inl (.ref 0)), (1, .inl (.int a1)), (2, .inl (.int a2))] [] h (2, 12)) (fun x h => some (.inr x, h)) from fun f n => rfl) 996 399).trans ?_
  rw [e_X1_checkAddress a1 a2 s]
  refine am_lbv (fun s1 => ?_) (fun _ _ => rfl)
  refine ((show ∀ f n : Nat, g_X1_read n (f + 6) 6 [(0, .inl (.ref 0)), (1, .inl (.int a1)), (2, .inl (.int a2))] [] (kH nf ns rest s1) (2, 12) = am_rv (F_X1_growStackTo [.inl (.ref 0), .inl (.int a1), .inl (.int (a2 / (4 : Int32)))] (kH nf ns rest s1)) (fun h => g_X1_read n f 14 [(0, .inl (.ref 0)), (1, .inl (.int a1)), (2, .inl (.int a2))] [] h (2, 12)) (fun x h => some (.inr x, h)) from fun f n => rfl) 990 399).trans ?_
  rw [e_X1_growStackTo a1 (a2 / (4 : Int32)) s1]
  refine am_lbv (fun s2 => ?_) (fun _ _ => rfl)
  refine ((show ∀ f n : Nat, g_X1_read n (f + 6) 14 [(0, .inl (.ref 0)), (1, .inl (.int a1)), (2, .inl (.int a2))] [] (kH nf ns rest s2) (2, 12) = am_ri (F_X1_pageThere [.inl (.ref 0), .inl (.int a1), .inl (.int (a2 / (4 : Int32)))] (kH nf ns rest s2)) (fun x4 h => g_X1_read n f 22 [(0, .inl (.ref 0)), (1, .inl (.int a1)), (2, .inl (.int a2))] [.inl (.int x4)] h (1, 6)) (fun x h => some (.inr x, h)) from fun f n => rfl) 984 399).trans ?_
  rw [e_X1_pageThere a1 (a2 / (4 : Int32)) s2]
  refine am_lbi (fun x4 s3 => ?_) (fun _ _ => rfl)
  refine ((show ∀ f n : Nat, g_X1_read n (f + 5) 22 [(0, .inl (.ref 0)), (1, .inl (.int a1)), (2, .inl (.int a2))] [.inl (.int x4)] (kH nf ns rest s3) (1, 6) = am_ri (F_X0_touch [.inl (.ref 8), .inl (.int x4)] (kH nf ns rest s3)) (fun x6 h => g_X1_read n f 31 [(0, .inl (.ref 0)), (1, .inl (.int a1)), (2, .inl (.int a2)), (3, .inl (.int x4))] [.inl (.int x6)] h (1, 6)) (fun x h => some (.inr x, h)) from fun f n => rfl) 979 399).trans ?_
  rw [e_X0_touch x4 s3]
  refine am_lbi (fun x6 s5 => ?_) (fun _ _ => rfl)
  refine ((show ∀ f n : Nat, g_X1_read n (f + 1) 31 [(0, .inl (.ref 0)), (1, .inl (.int a1)), (2, .inl (.int a2)), (3, .inl (.int x4))] [.inl (.int x6)] (kH nf ns rest s5) (1, 6) = cond (!decide (x6 = (0 : Int32))) (g_X1_read n f 42 [(0, .inl (.ref 0)), (1, .inl (.int a1)), (2, .inl (.int a2)), (3, .inl (.int x4))] [] (kH nf ns rest s5) (1, 6)) (g_X1_read n f 34 [(0, .inl (.ref 0)), (1, .inl (.int a1)), (2, .inl (.int a2)), (3, .inl (.int x4))] [] (kH nf ns rest s5) (1, 6)) from fun f n => rfl) 978 399).trans ?_
  refine am_lcd ?_ ?_
  · refine ((show ∀ f n : Nat, g_X1_read n (f + 7) 42 [(0, .inl (.ref 0)), (1, .inl (.int a1)), (2, .inl (.int a2)), (3, .inl (.int x4))] [] (kH nf ns rest s5) (1, 6) = am_ri (F_X0_wordOf [.inl (.ref 8), .inl (.int x4), .inl (.int (a2 - a2 / (4 : Int32) * (4 : Int32)))] (kH nf ns rest s5)) (fun x8 h => g_X1_read n f 53 [(0, .inl (.ref 0)), (1, .inl (.int a1)), (2, .inl (.int a2)), (3, .inl (.int x4))] [.inl (.int x8)] h (1, 6)) (fun x h => some (.inr x, h)) from fun f n => rfl) 971 399).trans ?_
    rw [e_X0_wordOf x4 (a2 - a2 / (4 : Int32) * (4 : Int32)) s5]
    refine am_lbi (fun x8 s7 => ?_) (fun _ _ => rfl)
    refine ((show ∀ f n : Nat, g_X1_read n (f + 1) 53 [(0, .inl (.ref 0)), (1, .inl (.int a1)), (2, .inl (.int a2)), (3, .inl (.int x4))] [.inl (.int x8)] (kH nf ns rest s7) (1, 6) = some (.inl (some (.inl (.int x8))), kH nf ns rest s7) from fun f n => rfl) 970 399).trans ?_
    rfl
  · refine ((show ∀ f n : Nat, g_X1_read n (f + 1) 34 [(0, .inl (.ref 0)), (1, .inl (.int a1)), (2, .inl (.int a2)), (3, .inl (.int x4))] [] (kH nf ns rest s5) (1, 6) = some (.inr 3, kH nf ns rest s5) from fun f n => rfl) 977 399).trans ?_
    rfl
set_option maxRecDepth 20000 in
def g_X1_write (n f pc : Nat) (lv : am_Lv) (st : List am_V) (h : am_H) (b : Nat × Nat) : Option am_O := am_go X_X1_write 7 (some .int) am_rs0 [] [] (am_lp T_X1_write X_X1_write 7 (some .int) am_rs0 [] [] n) f (am_from pc T_X1_write) lv st h b
set_option maxRecDepth 20000 in
def j_X1_write (n pc : Nat) (lv : am_Lv) (st : List am_V) (h : am_H) (b : Nat × Nat) : Option am_O := am_lp T_X1_write X_X1_write 7 (some .int) am_rs0 [] [] n pc lv st h b
set_option maxRecDepth 20000 in
theorem j_X1_write_g (n pc : Nat) (lv : am_Lv) (st : List am_V) (h : am_H) (b : Nat × Nat) : j_X1_write (n + 1) pc lv st h b = g_X1_write n 1000 pc lv st h b := rfl
set_option maxRecDepth 20000 in
theorem j_X1_write_0 (pc : Nat) (lv : am_Lv) (st : List am_V) (h : am_H) (b : Nat × Nat) : j_X1_write 0 pc lv st h b = none := rfl
set_option maxRecDepth 20000 in
def p_X1_write (nf ns : Nat) (a1 : Int32) (a2 : Int32) (a3 : Int32) (s : KS) : KR := kbv (p_X1_checkAddress nf ns a1 a2 s) (fun s1 => kbv (p_X1_growStackTo nf ns a1 (a2 / (4 : Int32)) s1) (fun s2 => kbi (p_X1_pageThere nf ns a1 (a2 / (4 : Int32)) s2) (fun x4 s3 => cond (decide ((2 : Int32) ≤ (a2 / (4 : Int32)))) (kbi (p_X0_touchOwn nf ns x4 s3) (fun x6 s5 => cond (!decide (x6 = (-1 : Int32))) (cond (am_in a1 6) (cond ((decide (a1.toNatClampNeg < 6) && am_in (a2 / (4 : Int32)) 11)) (kbi (p_X0_replaceWord nf ns x6 (a2 - a2 / (4 : Int32) * (4 : Int32)) a3 (kG s5 a1.toNatClampNeg (a2 / (4 : Int32)).toNatClampNeg x6)) (fun x8 s7 => some (.inl (some x8), s7))) none) none) (some (.inr 3, s5)))) (some (.inr 2, s3)))))
set_option maxRecDepth 20000 in
theorem e_X1_write {nf ns : Nat} {rest : am_H} (a1 : Int32) (a2 : Int32) (a3 : Int32) (s : KS) : F_X1_write [.inl (.ref 0), .inl (.int a1), .inl (.int a2), .inl (.int a3)] (kH nf ns rest s) = am_lf (kH nf ns rest) (p_X1_write nf ns a1 a2 a3 s) := by
  rw [p_X1_write]
  refine (show _ = g_X1_write 399 1000 0 [(0, .inl (.ref 0)), (1, .inl (.int a1)), (2, .inl (.int a2)), (3, .inl (.int a3))] [] (kH nf ns rest s) (6, 36) from am_fn_g (Nat.le_of_ble_eq_true rfl)).trans ?_
  refine ((show ∀ f n : Nat, g_X1_write n (f + 4) 0 [(0, .inl (.ref 0)), (1, .inl (.int a1)), (2, .inl (.int a2)), (3, .inl (.int a3))] [] (kH nf ns rest s) (6, 36) = am_rv (F_X1_checkAddress [.inl (.ref 0), .inl (.int a1), .inl (.int a2)] (kH nf ns rest s)) (fun h => g_X1_write n f 6 [(0, .inl (.ref 0)), (1, .inl (.int a1)), (2, .inl (.int a2)), (3, .inl (.int a3))] [] h (3, 18)) (fun x h => some (.inr x, h)) from fun f n => rfl) 996 399).trans ?_
  rw [e_X1_checkAddress a1 a2 s]
  refine am_lbv (fun s1 => ?_) (fun _ _ => rfl)
  refine ((show ∀ f n : Nat, g_X1_write n (f + 8) 6 [(0, .inl (.ref 0)), (1, .inl (.int a1)), (2, .inl (.int a2)), (3, .inl (.int a3))] [] (kH nf ns rest s1) (3, 18) = am_rv (F_X1_growStackTo [.inl (.ref 0), .inl (.int a1), .inl (.int (a2 / (4 : Int32)))] (kH nf ns rest s1)) (fun h => g_X1_write n f 18 [(0, .inl (.ref 0)), (1, .inl (.int a1)), (2, .inl (.int a2)), (3, .inl (.int a3)), (4, .inl (.int (a2 / (4 : Int32))))] [] h (3, 18)) (fun x h => some (.inr x, h)) from fun f n => rfl) 988 399).trans ?_
  rw [e_X1_growStackTo a1 (a2 / (4 : Int32)) s1]
  refine am_lbv (fun s2 => ?_) (fun _ _ => rfl)
  refine ((show ∀ f n : Nat, g_X1_write n (f + 4) 18 [(0, .inl (.ref 0)), (1, .inl (.int a1)), (2, .inl (.int a2)), (3, .inl (.int a3)), (4, .inl (.int (a2 / (4 : Int32))))] [] (kH nf ns rest s2) (3, 18) = am_ri (F_X1_pageThere [.inl (.ref 0), .inl (.int a1), .inl (.int (a2 / (4 : Int32)))] (kH nf ns rest s2)) (fun x4 h => g_X1_write n f 25 [(0, .inl (.ref 0)), (1, .inl (.int a1)), (2, .inl (.int a2)), (3, .inl (.int a3)), (4, .inl (.int (a2 / (4 : Int32))))] [.inl (.int x4)] h (2, 12)) (fun x h => some (.inr x, h)) from fun f n => rfl) 984 399).trans ?_
  rw [e_X1_pageThere a1 (a2 / (4 : Int32)) s2]
  refine am_lbi (fun x4 s3 => ?_) (fun _ _ => rfl)
  refine ((show ∀ f n : Nat, g_X1_write n (f + 4) 25 [(0, .inl (.ref 0)), (1, .inl (.int a1)), (2, .inl (.int a2)), (3, .inl (.int a3)), (4, .inl (.int (a2 / (4 : Int32))))] [.inl (.int x4)] (kH nf ns rest s3) (2, 12) = cond (decide ((2 : Int32) ≤ (a2 / (4 : Int32)))) (g_X1_write n f 41 [(0, .inl (.ref 0)), (1, .inl (.int a1)), (2, .inl (.int a2)), (3, .inl (.int a3)), (4, .inl (.int (a2 / (4 : Int32)))), (5, .inl (.int x4))] [] (kH nf ns rest s3) (2, 12)) (g_X1_write n f 33 [(0, .inl (.ref 0)), (1, .inl (.int a1)), (2, .inl (.int a2)), (3, .inl (.int a3)), (4, .inl (.int (a2 / (4 : Int32)))), (5, .inl (.int x4))] [] (kH nf ns rest s3) (2, 12)) from fun f n => rfl) 980 399).trans ?_
  refine am_lcd ?_ ?_
  · refine ((show ∀ f n : Nat, g_X1_write n (f + 4) 41 [(0, .inl (.ref 0)), (1, .inl (.int a1)), (2, .inl (.int a2)), (3, .inl (.int a3)), (4, .inl (.int (a2 / (4 : Int32)))), (5, .inl (.int x4))] [] (kH nf ns rest s3) (2, 12) = am_ri (F_X0_touchOwn [.inl (.ref 8), .inl (.int x4)] (kH nf ns rest s3)) (fun x6 h => g_X1_write n f 50 [(0, .inl (.ref 0)), (1, .inl (.int a1)), (2, .inl (.int a2)), (3, .inl (.int a3)), (4, .inl (.int (a2 / (4 : Int32)))), (5, .inl (.int x4))] [.inl (.int x6)] h (2, 12)) (fun x h => some (.inr x, h)) from fun f n => rfl) 976 399).trans ?_
    rw [e_X0_touchOwn x4 s3]
    refine am_lbi (fun x6 s5 => ?_) (fun _ _ => rfl)
    refine ((show ∀ f n : Nat, g_X1_write n (f + 4) 50 [(0, .inl (.ref 0)), (1, .inl (.int a1)), (2, .inl (.int a2)), (3, .inl (.int a3)), (4, .inl (.int (a2 / (4 : Int32)))), (5, .inl (.int x4))] [.inl (.int x6)] (kH nf ns rest s5) (2, 12) = cond (!decide (x6 = (-1 : Int32))) (g_X1_write n f 66 [(0, .inl (.ref 0)), (1, .inl (.int a1)), (2, .inl (.int a2)), (3, .inl (.int a3)), (4, .inl (.int (a2 / (4 : Int32)))), (5, .inl (.int x4)), (6, .inl (.int x6))] [] (kH nf ns rest s5) (2, 12)) (g_X1_write n f 58 [(0, .inl (.ref 0)), (1, .inl (.int a1)), (2, .inl (.int a2)), (3, .inl (.int a3)), (4, .inl (.int (a2 / (4 : Int32)))), (5, .inl (.int x4)), (6, .inl (.int x6))] [] (kH nf ns rest s5) (2, 12)) from fun f n => rfl) 972 399).trans ?_
    refine am_lcd ?_ ?_
    · refine ((show ∀ f n : Nat, g_X1_write n (f + 15) 66 [(0, .inl (.ref 0)), (1, .inl (.int a1)), (2, .inl (.int a2)), (3, .inl (.int a3)), (4, .inl (.int (a2 / (4 : Int32)))), (5, .inl (.int x4)), (6, .inl (.int x6))] [] (kH nf ns rest s5) (2, 12) = cond (am_in a1 6) (cond ((decide (a1.toNatClampNeg < 6) && am_in (a2 / (4 : Int32)) 11)) (am_ri (F_X0_replaceWord [.inl (.ref 8), .inl (.int x6), .inl (.int (a2 - a2 / (4 : Int32) * (4 : Int32))), .inl (.int a3)] (kH nf ns rest (kG s5 a1.toNatClampNeg (a2 / (4 : Int32)).toNatClampNeg x6))) (fun x8 h => g_X1_write n f 90 [(0, .inl (.ref 0)), (1, .inl (.int a1)), (2, .inl (.int a2)), (3, .inl (.int a3)), (4, .inl (.int (a2 / (4 : Int32)))), (5, .inl (.int x4)), (6, .inl (.int x6))] [.inl (.int x8)] h (2, 12)) (fun x h => some (.inr x, h))) none) none from fun f n => rfl) 957 399).trans ?_
      refine am_lcd (B := none) ?_ rfl
      refine am_lcd (B := none) ?_ rfl
      rw [e_X0_replaceWord x6 (a2 - a2 / (4 : Int32) * (4 : Int32)) a3 (kG s5 a1.toNatClampNeg (a2 / (4 : Int32)).toNatClampNeg x6)]
      refine am_lbi (fun x8 s7 => ?_) (fun _ _ => rfl)
      refine ((show ∀ f n : Nat, g_X1_write n (f + 1) 90 [(0, .inl (.ref 0)), (1, .inl (.int a1)), (2, .inl (.int a2)), (3, .inl (.int a3)), (4, .inl (.int (a2 / (4 : Int32)))), (5, .inl (.int x4)), (6, .inl (.int x6))] [.inl (.int x8)] (kH nf ns rest s7) (2, 12) = some (.inl (some (.inl (.int x8))), kH nf ns rest s7) from fun f n => rfl) 956 399).trans ?_
      rfl
    · refine ((show ∀ f n : Nat, g_X1_write n (f + 1) 58 [(0, .inl (.ref 0)), (1, .inl (.int a1)), (2, .inl (.int a2)), (3, .inl (.int a3)), (4, .inl (.int (a2 / (4 : Int32)))), (5, .inl (.int x4)), (6, .inl (.int x6))] [] (kH nf ns rest s5) (2, 12) = some (.inr 3, kH nf ns rest s5) from fun f n => rfl) 971 399).trans ?_
      rfl
  · refine ((show ∀ f n : Nat, g_X1_write n (f + 1) 33 [(0, .inl (.ref 0)), (1, .inl (.int a1)), (2, .inl (.int a2)), (3, .inl (.int a3)), (4, .inl (.int (a2 / (4 : Int32)))), (5, .inl (.int x4))] [] (kH nf ns rest s3) (2, 12) = some (.inr 2, kH nf ns rest s3) from fun f n => rfl) 979 399).trans ?_
    rfl
set_option maxRecDepth 20000 in
def g_X1_sweep (n f pc : Nat) (lv : am_Lv) (st : List am_V) (h : am_H) (b : Nat × Nat) : Option am_O := am_go X_X1_sweep 4 (some .int) am_rs0 [] [(11, [0, 1, 2, 3])] (am_lp T_X1_sweep X_X1_sweep 4 (some .int) am_rs0 [] [(11, [0, 1, 2, 3])] n) f (am_from pc T_X1_sweep) lv st h b
set_option maxRecDepth 20000 in
def j_X1_sweep (n pc : Nat) (lv : am_Lv) (st : List am_V) (h : am_H) (b : Nat × Nat) : Option am_O := am_lp T_X1_sweep X_X1_sweep 4 (some .int) am_rs0 [] [(11, [0, 1, 2, 3])] n pc lv st h b
set_option maxRecDepth 20000 in
theorem j_X1_sweep_g (n pc : Nat) (lv : am_Lv) (st : List am_V) (h : am_H) (b : Nat × Nat) : j_X1_sweep (n + 1) pc lv st h b = g_X1_sweep n 1000 pc lv st h b := rfl
set_option maxRecDepth 20000 in
theorem j_X1_sweep_0 (pc : Nat) (lv : am_Lv) (st : List am_V) (h : am_H) (b : Nat × Nat) : j_X1_sweep 0 pc lv st h b = none := rfl
set_option maxRecDepth 20000 in
def p_X1_sweep_L11 (nf ns : Nat) : Nat → Int32 → Int32 → Int32 → KS → KR
  | 0, _, _, _, _ => none
  | n + 1, l1, l2, l3, s => cond (decide (l1 ≤ l3)) (some (.inl (some l2), s)) (kbi (p_X0_lookAndMoveOn nf ns  s) (fun x3 s2 => cond (decide (x3 = (0 : Int32))) (p_X1_sweep_L11 nf ns n l1 l2 (l3 + (1 : Int32)) s2) (p_X1_sweep_L11 nf ns n l1 (l2 + (1 : Int32)) (l3 + (1 : Int32)) s2)))
set_option maxRecDepth 20000 in
theorem b_X1_sweep_L11 {nf ns : Nat} {rest : am_H} (n : Nat) (ih : ∀ (l1 : Int32) (l2 : Int32) (l3 : Int32) (s : KS), j_X1_sweep n 11 [(0, .inl (.ref 0)), (1, .inl (.int l1)), (2, .inl (.int l2)), (3, .inl (.int l3))] [] (kH nf ns rest s) (0, 0) = am_lf (kH nf ns rest) (p_X1_sweep_L11 nf ns n l1 l2 l3 s)) (f : Nat) (l1 : Int32) (l2 : Int32) (l3 : Int32) (s : KS) : g_X1_sweep n (f + 13) 11 [(0, .inl (.ref 0)), (1, .inl (.int l1)), (2, .inl (.int l2)), (3, .inl (.int l3))] [] (kH nf ns rest s) (0, 0) = am_lf (kH nf ns rest) (p_X1_sweep_L11 nf ns (n + 1) l1 l2 l3 s) := by
  rw [p_X1_sweep_L11]
  refine ((show ∀ f n : Nat, g_X1_sweep n (f + 3) 11 [(0, .inl (.ref 0)), (1, .inl (.int l1)), (2, .inl (.int l2)), (3, .inl (.int l3))] [] (kH nf ns rest s) (0, 0) = cond (decide (l1 ≤ l3)) (g_X1_sweep n f 35 [(0, .inl (.ref 0)), (1, .inl (.int l1)), (2, .inl (.int l2)), (3, .inl (.int l3))] [] (kH nf ns rest s) (0, 0)) (g_X1_sweep n f 16 [(0, .inl (.ref 0)), (1, .inl (.int l1)), (2, .inl (.int l2)), (3, .inl (.int l3))] [] (kH nf ns rest s) (0, 0)) from fun f n => rfl) (f + 10) n).trans ?_
  refine am_lcd ?_ ?_
  · refine ((show ∀ f n : Nat, g_X1_sweep n (f + 2) 35 [(0, .inl (.ref 0)), (1, .inl (.int l1)), (2, .inl (.int l2)), (3, .inl (.int l3))] [] (kH nf ns rest s) (0, 0) = some (.inl (some (.inl (.int l2))), kH nf ns rest s) from fun f n => rfl) (f + 8) n).trans ?_
    rfl
  · refine ((show ∀ f n : Nat, g_X1_sweep n (f + 3) 16 [(0, .inl (.ref 0)), (1, .inl (.int l1)), (2, .inl (.int l2)), (3, .inl (.int l3))] [] (kH nf ns rest s) (0, 0) = am_ri (F_X0_lookAndMoveOn [.inl (.ref 8)] (kH nf ns rest s)) (fun x3 h => g_X1_sweep n f 23 [(0, .inl (.ref 0)), (1, .inl (.int l1)), (2, .inl (.int l2)), (3, .inl (.int l3))] [.inl (.int x3)] h (0, 0)) (fun x h => some (.inr x, h)) from fun f n => rfl) (f + 7) n).trans ?_
    rw [e_X0_lookAndMoveOn  s]
    refine am_lbi (fun x3 s2 => ?_) (fun _ _ => rfl)
    refine ((show ∀ f n : Nat, g_X1_sweep n (f + 1) 23 [(0, .inl (.ref 0)), (1, .inl (.int l1)), (2, .inl (.int l2)), (3, .inl (.int l3))] [.inl (.int x3)] (kH nf ns rest s2) (0, 0) = cond (decide (x3 = (0 : Int32))) (g_X1_sweep n f 29 [(0, .inl (.ref 0)), (1, .inl (.int l1)), (2, .inl (.int l2)), (3, .inl (.int l3))] [] (kH nf ns rest s2) (0, 0)) (g_X1_sweep n f 26 [(0, .inl (.ref 0)), (1, .inl (.int l1)), (2, .inl (.int l2)), (3, .inl (.int l3))] [] (kH nf ns rest s2) (0, 0)) from fun f n => rfl) (f + 6) n).trans ?_
    refine am_lcd ?_ ?_
    · refine ((show ∀ f n : Nat, g_X1_sweep n (f + 2) 29 [(0, .inl (.ref 0)), (1, .inl (.int l1)), (2, .inl (.int l2)), (3, .inl (.int l3))] [] (kH nf ns rest s2) (0, 0) = j_X1_sweep n 11 [(0, .inl (.ref 0)), (1, .inl (.int l1)), (2, .inl (.int l2)), (3, .inl (.int (l3 + (1 : Int32))))] [] (kH nf ns rest s2) (0, 0) from fun f n => rfl) (f + 4) n).trans ?_
      exact ih l1 l2 (l3 + (1 : Int32)) s2
    · refine ((show ∀ f n : Nat, g_X1_sweep n (f + 3) 26 [(0, .inl (.ref 0)), (1, .inl (.int l1)), (2, .inl (.int l2)), (3, .inl (.int l3))] [] (kH nf ns rest s2) (0, 0) = j_X1_sweep n 11 [(0, .inl (.ref 0)), (1, .inl (.int l1)), (2, .inl (.int (l2 + (1 : Int32)))), (3, .inl (.int (l3 + (1 : Int32))))] [] (kH nf ns rest s2) (0, 0) from fun f n => rfl) (f + 3) n).trans ?_
      exact ih l1 (l2 + (1 : Int32)) (l3 + (1 : Int32)) s2
set_option maxRecDepth 20000 in
theorem e_X1_sweep_L11 {nf ns : Nat} {rest : am_H} : ∀ (n : Nat) (l1 : Int32) (l2 : Int32) (l3 : Int32) (s : KS), j_X1_sweep n 11 [(0, .inl (.ref 0)), (1, .inl (.int l1)), (2, .inl (.int l2)), (3, .inl (.int l3))] [] (kH nf ns rest s) (0, 0) = am_lf (kH nf ns rest) (p_X1_sweep_L11 nf ns n l1 l2 l3 s)
  | 0, _, _, _, _ => by rw [p_X1_sweep_L11]; rfl
  | n + 1, l1, l2, l3, s => (j_X1_sweep_g n 11 _ _ _ _).trans (b_X1_sweep_L11 n (e_X1_sweep_L11 n) 987 l1 l2 l3 s)
set_option maxRecDepth 20000 in
def p_X1_sweep (nf ns : Nat) (a1 : Int32) (s : KS) : KR := kbv (p_X1_checkRange nf ns a1 (1 : Int32) (20 : Int32) s) (fun s1 => p_X1_sweep_L11 nf ns 400 a1 (0 : Int32) (0 : Int32) s1)
set_option maxRecDepth 20000 in
theorem e_X1_sweep {nf ns : Nat} {rest : am_H} (a1 : Int32) (s : KS) : F_X1_sweep [.inl (.ref 0), .inl (.int a1)] (kH nf ns rest s) = am_lf (kH nf ns rest) (p_X1_sweep nf ns a1 s) := by
  rw [p_X1_sweep]
  refine (show _ = g_X1_sweep 399 1000 0 [(0, .inl (.ref 0)), (1, .inl (.int a1))] [] (kH nf ns rest s) (1, 6) from am_fn_g (Nat.le_of_ble_eq_true rfl)).trans ?_
  refine ((show ∀ f n : Nat, g_X1_sweep n (f + 4) 0 [(0, .inl (.ref 0)), (1, .inl (.int a1))] [] (kH nf ns rest s) (1, 6) = am_rv (F_X1_checkRange [.inl (.int a1), .inl (.int (1 : Int32)), .inl (.int (20 : Int32))] (kH nf ns rest s)) (fun h => g_X1_sweep n f 7 [(0, .inl (.ref 0)), (1, .inl (.int a1))] [] h (0, 0)) (fun x h => some (.inr x, h)) from fun f n => rfl) 996 399).trans ?_
  rw [e_X1_checkRange a1 (1 : Int32) (20 : Int32) s]
  refine am_lbv (fun s1 => ?_) (fun _ _ => rfl)
  refine ((show ∀ f n : Nat, g_X1_sweep n (f + 4) 7 [(0, .inl (.ref 0)), (1, .inl (.int a1))] [] (kH nf ns rest s1) (0, 0) = g_X1_sweep n f 11 [(0, .inl (.ref 0)), (1, .inl (.int a1)), (2, .inl (.int (0 : Int32))), (3, .inl (.int (0 : Int32)))] [] (kH nf ns rest s1) (0, 0) from fun f n => rfl) 992 399).trans ?_
  exact b_X1_sweep_L11 399 (e_X1_sweep_L11 399) 979 a1 (0 : Int32) (0 : Int32) s1
set_option maxRecDepth 20000 in
def g_X1_swapOut (n f pc : Nat) (lv : am_Lv) (st : List am_V) (h : am_H) (b : Nat × Nat) : Option am_O := am_go X_X1_swapOut 5 (some .int) am_rs0 [] [(13, [0, 1, 2, 3])] (am_lp T_X1_swapOut X_X1_swapOut 5 (some .int) am_rs0 [] [(13, [0, 1, 2, 3])] n) f (am_from pc T_X1_swapOut) lv st h b
set_option maxRecDepth 20000 in
def j_X1_swapOut (n pc : Nat) (lv : am_Lv) (st : List am_V) (h : am_H) (b : Nat × Nat) : Option am_O := am_lp T_X1_swapOut X_X1_swapOut 5 (some .int) am_rs0 [] [(13, [0, 1, 2, 3])] n pc lv st h b
set_option maxRecDepth 20000 in
theorem j_X1_swapOut_g (n pc : Nat) (lv : am_Lv) (st : List am_V) (h : am_H) (b : Nat × Nat) : j_X1_swapOut (n + 1) pc lv st h b = g_X1_swapOut n 1000 pc lv st h b := rfl
set_option maxRecDepth 20000 in
theorem j_X1_swapOut_0 (pc : Nat) (lv : am_Lv) (st : List am_V) (h : am_H) (b : Nat × Nat) : j_X1_swapOut 0 pc lv st h b = none := rfl
set_option maxRecDepth 20000 in
def p_X1_swapOut_L13 (nf ns : Nat) : Nat → Int32 → Int32 → Int32 → KS → KR
  | 0, _, _, _, _ => none
  | n + 1, l1, l2, l3, s => cond (decide ((11 : Int32) ≤ l3)) (some (.inl (some l2), s)) (cond (am_in l1 6) (cond ((decide (l1.toNatClampNeg < 6) && am_in l3 11)) (cond (decide ((s.2 l1.toNatClampNeg l3.toNatClampNeg) = (-1 : Int32))) (p_X1_swapOut_L13 nf ns n l1 l2 (l3 + (1 : Int32)) s) (kbi (p_X0_sendOutIfUnshared nf ns (s.2 l1.toNatClampNeg l3.toNatClampNeg) s) (fun x4 s3 => cond (decide (x4 = (0 : Int32))) (p_X1_swapOut_L13 nf ns n l1 l2 (l3 + (1 : Int32)) s3) (p_X1_swapOut_L13 nf ns n l1 (l2 + (1 : Int32)) (l3 + (1 : Int32)) s3)))) none) none)
set_option maxRecDepth 20000 in
theorem b_X1_swapOut_L13 {nf ns : Nat} {rest : am_H} (n : Nat) (ih : ∀ (l1 : Int32) (l2 : Int32) (l3 : Int32) (s : KS), j_X1_swapOut n 13 [(0, .inl (.ref 0)), (1, .inl (.int l1)), (2, .inl (.int l2)), (3, .inl (.int l3))] [] (kH nf ns rest s) (0, 0) = am_lf (kH nf ns rest) (p_X1_swapOut_L13 nf ns n l1 l2 l3 s)) (f : Nat) (l1 : Int32) (l2 : Int32) (l3 : Int32) (s : KS) : g_X1_swapOut n (f + 24) 13 [(0, .inl (.ref 0)), (1, .inl (.int l1)), (2, .inl (.int l2)), (3, .inl (.int l3))] [] (kH nf ns rest s) (0, 0) = am_lf (kH nf ns rest) (p_X1_swapOut_L13 nf ns (n + 1) l1 l2 l3 s) := by
  rw [p_X1_swapOut_L13]
  refine ((show ∀ f n : Nat, g_X1_swapOut n (f + 3) 13 [(0, .inl (.ref 0)), (1, .inl (.int l1)), (2, .inl (.int l2)), (3, .inl (.int l3))] [] (kH nf ns rest s) (0, 0) = cond (decide ((11 : Int32) ≤ l3)) (g_X1_swapOut n f 56 [(0, .inl (.ref 0)), (1, .inl (.int l1)), (2, .inl (.int l2)), (3, .inl (.int l3))] [] (kH nf ns rest s) (0, 0)) (g_X1_swapOut n f 19 [(0, .inl (.ref 0)), (1, .inl (.int l1)), (2, .inl (.int l2)), (3, .inl (.int l3))] [] (kH nf ns rest s) (0, 0)) from fun f n => rfl) (f + 21) n).trans ?_
  refine am_lcd ?_ ?_
  · refine ((show ∀ f n : Nat, g_X1_swapOut n (f + 2) 56 [(0, .inl (.ref 0)), (1, .inl (.int l1)), (2, .inl (.int l2)), (3, .inl (.int l3))] [] (kH nf ns rest s) (0, 0) = some (.inl (some (.inl (.int l2))), kH nf ns rest s) from fun f n => rfl) (f + 19) n).trans ?_
    rfl
  · refine ((show ∀ f n : Nat, g_X1_swapOut n (f + 10) 19 [(0, .inl (.ref 0)), (1, .inl (.int l1)), (2, .inl (.int l2)), (3, .inl (.int l3))] [] (kH nf ns rest s) (0, 0) = cond (am_in l1 6) (cond ((decide (l1.toNatClampNeg < 6) && am_in l3 11)) (cond (decide ((s.2 l1.toNatClampNeg l3.toNatClampNeg) = (-1 : Int32))) (g_X1_swapOut n f 50 [(0, .inl (.ref 0)), (1, .inl (.int l1)), (2, .inl (.int l2)), (3, .inl (.int l3)), (4, .inl (.int (s.2 l1.toNatClampNeg l3.toNatClampNeg)))] [] (kH nf ns rest s) (0, 0)) (g_X1_swapOut n f 35 [(0, .inl (.ref 0)), (1, .inl (.int l1)), (2, .inl (.int l2)), (3, .inl (.int l3)), (4, .inl (.int (s.2 l1.toNatClampNeg l3.toNatClampNeg)))] [] (kH nf ns rest s) (0, 0))) none) none from fun f n => rfl) (f + 11) n).trans ?_
    refine am_lcd (B := none) ?_ rfl
    refine am_lcd (B := none) ?_ rfl
    refine am_lcd ?_ ?_
    · refine ((show ∀ f n : Nat, g_X1_swapOut n (f + 2) 50 [(0, .inl (.ref 0)), (1, .inl (.int l1)), (2, .inl (.int l2)), (3, .inl (.int l3)), (4, .inl (.int (s.2 l1.toNatClampNeg l3.toNatClampNeg)))] [] (kH nf ns rest s) (0, 0) = j_X1_swapOut n 13 [(0, .inl (.ref 0)), (1, .inl (.int l1)), (2, .inl (.int l2)), (3, .inl (.int (l3 + (1 : Int32))))] [] (kH nf ns rest s) (0, 0) from fun f n => rfl) (f + 9) n).trans ?_
      exact ih l1 l2 (l3 + (1 : Int32)) s
    · refine ((show ∀ f n : Nat, g_X1_swapOut n (f + 4) 35 [(0, .inl (.ref 0)), (1, .inl (.int l1)), (2, .inl (.int l2)), (3, .inl (.int l3)), (4, .inl (.int (s.2 l1.toNatClampNeg l3.toNatClampNeg)))] [] (kH nf ns rest s) (0, 0) = am_ri (F_X0_sendOutIfUnshared [.inl (.ref 8), .inl (.int (s.2 l1.toNatClampNeg l3.toNatClampNeg))] (kH nf ns rest s)) (fun x4 h => g_X1_swapOut n f 44 [(0, .inl (.ref 0)), (1, .inl (.int l1)), (2, .inl (.int l2)), (3, .inl (.int l3)), (4, .inl (.int (s.2 l1.toNatClampNeg l3.toNatClampNeg)))] [.inl (.int x4)] h (0, 0)) (fun x h => some (.inr x, h)) from fun f n => rfl) (f + 7) n).trans ?_
      rw [e_X0_sendOutIfUnshared (s.2 l1.toNatClampNeg l3.toNatClampNeg) s]
      refine am_lbi (fun x4 s3 => ?_) (fun _ _ => rfl)
      refine ((show ∀ f n : Nat, g_X1_swapOut n (f + 1) 44 [(0, .inl (.ref 0)), (1, .inl (.int l1)), (2, .inl (.int l2)), (3, .inl (.int l3)), (4, .inl (.int (s.2 l1.toNatClampNeg l3.toNatClampNeg)))] [.inl (.int x4)] (kH nf ns rest s3) (0, 0) = cond (decide (x4 = (0 : Int32))) (g_X1_swapOut n f 50 [(0, .inl (.ref 0)), (1, .inl (.int l1)), (2, .inl (.int l2)), (3, .inl (.int l3)), (4, .inl (.int (s.2 l1.toNatClampNeg l3.toNatClampNeg)))] [] (kH nf ns rest s3) (0, 0)) (g_X1_swapOut n f 47 [(0, .inl (.ref 0)), (1, .inl (.int l1)), (2, .inl (.int l2)), (3, .inl (.int l3)), (4, .inl (.int (s.2 l1.toNatClampNeg l3.toNatClampNeg)))] [] (kH nf ns rest s3) (0, 0)) from fun f n => rfl) (f + 6) n).trans ?_
      refine am_lcd ?_ ?_
      · refine ((show ∀ f n : Nat, g_X1_swapOut n (f + 2) 50 [(0, .inl (.ref 0)), (1, .inl (.int l1)), (2, .inl (.int l2)), (3, .inl (.int l3)), (4, .inl (.int (s.2 l1.toNatClampNeg l3.toNatClampNeg)))] [] (kH nf ns rest s3) (0, 0) = j_X1_swapOut n 13 [(0, .inl (.ref 0)), (1, .inl (.int l1)), (2, .inl (.int l2)), (3, .inl (.int (l3 + (1 : Int32))))] [] (kH nf ns rest s3) (0, 0) from fun f n => rfl) (f + 4) n).trans ?_
        exact ih l1 l2 (l3 + (1 : Int32)) s3
      · refine ((show ∀ f n : Nat, g_X1_swapOut n (f + 3) 47 [(0, .inl (.ref 0)), (1, .inl (.int l1)), (2, .inl (.int l2)), (3, .inl (.int l3)), (4, .inl (.int (s.2 l1.toNatClampNeg l3.toNatClampNeg)))] [] (kH nf ns rest s3) (0, 0) = j_X1_swapOut n 13 [(0, .inl (.ref 0)), (1, .inl (.int l1)), (2, .inl (.int (l2 + (1 : Int32)))), (3, .inl (.int (l3 + (1 : Int32))))] [] (kH nf ns rest s3) (0, 0) from fun f n => rfl) (f + 3) n).trans ?_
        exact ih l1 (l2 + (1 : Int32)) (l3 + (1 : Int32)) s3
set_option maxRecDepth 20000 in
theorem e_X1_swapOut_L13 {nf ns : Nat} {rest : am_H} : ∀ (n : Nat) (l1 : Int32) (l2 : Int32) (l3 : Int32) (s : KS), j_X1_swapOut n 13 [(0, .inl (.ref 0)), (1, .inl (.int l1)), (2, .inl (.int l2)), (3, .inl (.int l3))] [] (kH nf ns rest s) (0, 0) = am_lf (kH nf ns rest) (p_X1_swapOut_L13 nf ns n l1 l2 l3 s)
  | 0, _, _, _, _ => by rw [p_X1_swapOut_L13]; rfl
  | n + 1, l1, l2, l3, s => (j_X1_swapOut_g n 13 _ _ _ _).trans (b_X1_swapOut_L13 n (e_X1_swapOut_L13 n) 976 l1 l2 l3 s)
set_option maxRecDepth 20000 in
def p_X1_swapOut (nf ns : Nat) (a1 : Int32) (s : KS) : KR := kbv (p_X1_checkProcess nf ns a1 s) (fun s1 => kbv (p_X1_checkRunning nf ns a1 s1) (fun s2 => p_X1_swapOut_L13 nf ns 400 a1 (0 : Int32) (2 : Int32) s2))
set_option maxRecDepth 20000 in
theorem e_X1_swapOut {nf ns : Nat} {rest : am_H} (a1 : Int32) (s : KS) : F_X1_swapOut [.inl (.ref 0), .inl (.int a1)] (kH nf ns rest s) = am_lf (kH nf ns rest) (p_X1_swapOut nf ns a1 s) := by
  rw [p_X1_swapOut]
  refine (show _ = g_X1_swapOut 399 1000 0 [(0, .inl (.ref 0)), (1, .inl (.int a1))] [] (kH nf ns rest s) (2, 12) from am_fn_g (Nat.le_of_ble_eq_true rfl)).trans ?_
  refine ((show ∀ f n : Nat, g_X1_swapOut n (f + 2) 0 [(0, .inl (.ref 0)), (1, .inl (.int a1))] [] (kH nf ns rest s) (2, 12) = am_rv (F_X1_checkProcess [.inl (.int a1)] (kH nf ns rest s)) (fun h => g_X1_swapOut n f 4 [(0, .inl (.ref 0)), (1, .inl (.int a1))] [] h (1, 6)) (fun x h => some (.inr x, h)) from fun f n => rfl) 998 399).trans ?_
  rw [e_X1_checkProcess a1 s]
  refine am_lbv (fun s1 => ?_) (fun _ _ => rfl)
  refine ((show ∀ f n : Nat, g_X1_swapOut n (f + 3) 4 [(0, .inl (.ref 0)), (1, .inl (.int a1))] [] (kH nf ns rest s1) (1, 6) = am_rv (F_X1_checkRunning [.inl (.ref 0), .inl (.int a1)] (kH nf ns rest s1)) (fun h => g_X1_swapOut n f 9 [(0, .inl (.ref 0)), (1, .inl (.int a1))] [] h (0, 0)) (fun x h => some (.inr x, h)) from fun f n => rfl) 995 399).trans ?_
  rw [e_X1_checkRunning a1 s1]
  refine am_lbv (fun s2 => ?_) (fun _ _ => rfl)
  refine ((show ∀ f n : Nat, g_X1_swapOut n (f + 4) 9 [(0, .inl (.ref 0)), (1, .inl (.int a1))] [] (kH nf ns rest s2) (0, 0) = g_X1_swapOut n f 13 [(0, .inl (.ref 0)), (1, .inl (.int a1)), (2, .inl (.int (0 : Int32))), (3, .inl (.int (2 : Int32)))] [] (kH nf ns rest s2) (0, 0) from fun f n => rfl) 991 399).trans ?_
  exact b_X1_swapOut_L13 399 (e_X1_swapOut_L13 399) 967 a1 (0 : Int32) (2 : Int32) s2
set_option maxRecDepth 20000 in
def g_X1_where (n f pc : Nat) (lv : am_Lv) (st : List am_V) (h : am_H) (b : Nat × Nat) : Option am_O := am_go X_X1_where 3 (some .int) am_rs0 [] [] (am_lp T_X1_where X_X1_where 3 (some .int) am_rs0 [] [] n) f (am_from pc T_X1_where) lv st h b
set_option maxRecDepth 20000 in
def j_X1_where (n pc : Nat) (lv : am_Lv) (st : List am_V) (h : am_H) (b : Nat × Nat) : Option am_O := am_lp T_X1_where X_X1_where 3 (some .int) am_rs0 [] [] n pc lv st h b
set_option maxRecDepth 20000 in
theorem j_X1_where_g (n pc : Nat) (lv : am_Lv) (st : List am_V) (h : am_H) (b : Nat × Nat) : j_X1_where (n + 1) pc lv st h b = g_X1_where n 1000 pc lv st h b := rfl
set_option maxRecDepth 20000 in
theorem j_X1_where_0 (pc : Nat) (lv : am_Lv) (st : List am_V) (h : am_H) (b : Nat × Nat) : j_X1_where 0 pc lv st h b = none := rfl
set_option maxRecDepth 20000 in
def p_X1_where (nf ns : Nat) (a1 : Int32) (a2 : Int32) (s : KS) : KR := kbv (p_X1_checkAddress nf ns a1 a2 s) (fun s1 => kbi (p_X1_pageThere nf ns a1 (a2 / (4 : Int32)) s1) (fun x3 s2 => kbi (p_X0_homeOf nf ns x3 s2) (fun x5 s4 => some (.inl (some x5), s4))))
set_option maxRecDepth 20000 in
theorem e_X1_where {nf ns : Nat} {rest : am_H} (a1 : Int32) (a2 : Int32) (s : KS) : F_X1_where [.inl (.ref 0), .inl (.int a1), .inl (.int a2)] (kH nf ns rest s) = am_lf (kH nf ns rest) (p_X1_where nf ns a1 a2 s) := by
  rw [p_X1_where]
  refine (show _ = g_X1_where 399 1000 0 [(0, .inl (.ref 0)), (1, .inl (.int a1)), (2, .inl (.int a2))] [] (kH nf ns rest s) (4, 24) from am_fn_g (Nat.le_of_ble_eq_true rfl)).trans ?_
  refine ((show ∀ f n : Nat, g_X1_where n (f + 4) 0 [(0, .inl (.ref 0)), (1, .inl (.int a1)), (2, .inl (.int a2))] [] (kH nf ns rest s) (4, 24) = am_rv (F_X1_checkAddress [.inl (.ref 0), .inl (.int a1), .inl (.int a2)] (kH nf ns rest s)) (fun h => g_X1_where n f 6 [(0, .inl (.ref 0)), (1, .inl (.int a1)), (2, .inl (.int a2))] [] h (1, 6)) (fun x h => some (.inr x, h)) from fun f n => rfl) 996 399).trans ?_
  rw [e_X1_checkAddress a1 a2 s]
  refine am_lbv (fun s1 => ?_) (fun _ _ => rfl)
  refine ((show ∀ f n : Nat, g_X1_where n (f + 8) 6 [(0, .inl (.ref 0)), (1, .inl (.int a1)), (2, .inl (.int a2))] [] (kH nf ns rest s1) (1, 6) = am_ri (F_X1_pageThere [.inl (.ref 0), .inl (.int a1), .inl (.int (a2 / (4 : Int32)))] (kH nf ns rest s1)) (fun x3 h => g_X1_where n f 18 [(0, .inl (.ref 0)), (1, .inl (.int a1)), (2, .inl (.int a2))] [.inl (.int x3), .inl (.ref 8)] h (0, 0)) (fun x h => some (.inr x, h)) from fun f n => rfl) 988 399).trans ?_
  rw [e_X1_pageThere a1 (a2 / (4 : Int32)) s1]
  refine am_lbi (fun x3 s2 => ?_) (fun _ _ => rfl)
  refine ((show ∀ f n : Nat, g_X1_where n (f + 1) 18 [(0, .inl (.ref 0)), (1, .inl (.int a1)), (2, .inl (.int a2))] [.inl (.int x3), .inl (.ref 8)] (kH nf ns rest s2) (0, 0) = am_ri (F_X0_homeOf [.inl (.ref 8), .inl (.int x3)] (kH nf ns rest s2)) (fun x5 h => g_X1_where n f 21 [(0, .inl (.ref 0)), (1, .inl (.int a1)), (2, .inl (.int a2))] [.inl (.int x5)] h (0, 0)) (fun x h => some (.inr x, h)) from fun f n => rfl) 987 399).trans ?_
  rw [e_X0_homeOf x3 s2]
  refine am_lbi (fun x5 s4 => ?_) (fun _ _ => rfl)
  refine ((show ∀ f n : Nat, g_X1_where n (f + 1) 21 [(0, .inl (.ref 0)), (1, .inl (.int a1)), (2, .inl (.int a2))] [.inl (.int x5)] (kH nf ns rest s4) (0, 0) = some (.inl (some (.inl (.int x5))), kH nf ns rest s4) from fun f n => rfl) 986 399).trans ?_
  rfl
set_option maxRecDepth 20000 in
def g_X1_sharers (n f pc : Nat) (lv : am_Lv) (st : List am_V) (h : am_H) (b : Nat × Nat) : Option am_O := am_go X_X1_sharers 3 (some .int) am_rs0 [] [] (am_lp T_X1_sharers X_X1_sharers 3 (some .int) am_rs0 [] [] n) f (am_from pc T_X1_sharers) lv st h b
set_option maxRecDepth 20000 in
def j_X1_sharers (n pc : Nat) (lv : am_Lv) (st : List am_V) (h : am_H) (b : Nat × Nat) : Option am_O := am_lp T_X1_sharers X_X1_sharers 3 (some .int) am_rs0 [] [] n pc lv st h b
set_option maxRecDepth 20000 in
theorem j_X1_sharers_g (n pc : Nat) (lv : am_Lv) (st : List am_V) (h : am_H) (b : Nat × Nat) : j_X1_sharers (n + 1) pc lv st h b = g_X1_sharers n 1000 pc lv st h b := rfl
set_option maxRecDepth 20000 in
theorem j_X1_sharers_0 (pc : Nat) (lv : am_Lv) (st : List am_V) (h : am_H) (b : Nat × Nat) : j_X1_sharers 0 pc lv st h b = none := rfl
set_option maxRecDepth 20000 in
def p_X1_sharers (nf ns : Nat) (a1 : Int32) (a2 : Int32) (s : KS) : KR := kbv (p_X1_checkAddress nf ns a1 a2 s) (fun s1 => kbi (p_X1_pageThere nf ns a1 (a2 / (4 : Int32)) s1) (fun x3 s2 => kbi (p_X0_usersOf nf ns x3 s2) (fun x5 s4 => some (.inl (some x5), s4))))
set_option maxRecDepth 20000 in
theorem e_X1_sharers {nf ns : Nat} {rest : am_H} (a1 : Int32) (a2 : Int32) (s : KS) : F_X1_sharers [.inl (.ref 0), .inl (.int a1), .inl (.int a2)] (kH nf ns rest s) = am_lf (kH nf ns rest) (p_X1_sharers nf ns a1 a2 s) := by
  rw [p_X1_sharers]
  refine (show _ = g_X1_sharers 399 1000 0 [(0, .inl (.ref 0)), (1, .inl (.int a1)), (2, .inl (.int a2))] [] (kH nf ns rest s) (4, 24) from am_fn_g (Nat.le_of_ble_eq_true rfl)).trans ?_
  refine ((show ∀ f n : Nat, g_X1_sharers n (f + 4) 0 [(0, .inl (.ref 0)), (1, .inl (.int a1)), (2, .inl (.int a2))] [] (kH nf ns rest s) (4, 24) = am_rv (F_X1_checkAddress [.inl (.ref 0), .inl (.int a1), .inl (.int a2)] (kH nf ns rest s)) (fun h => g_X1_sharers n f 6 [(0, .inl (.ref 0)), (1, .inl (.int a1)), (2, .inl (.int a2))] [] h (1, 6)) (fun x h => some (.inr x, h)) from fun f n => rfl) 996 399).trans ?_
  rw [e_X1_checkAddress a1 a2 s]
  refine am_lbv (fun s1 => ?_) (fun _ _ => rfl)
  refine ((show ∀ f n : Nat, g_X1_sharers n (f + 8) 6 [(0, .inl (.ref 0)), (1, .inl (.int a1)), (2, .inl (.int a2))] [] (kH nf ns rest s1) (1, 6) = am_ri (F_X1_pageThere [.inl (.ref 0), .inl (.int a1), .inl (.int (a2 / (4 : Int32)))] (kH nf ns rest s1)) (fun x3 h => g_X1_sharers n f 18 [(0, .inl (.ref 0)), (1, .inl (.int a1)), (2, .inl (.int a2))] [.inl (.int x3), .inl (.ref 8)] h (0, 0)) (fun x h => some (.inr x, h)) from fun f n => rfl) 988 399).trans ?_
  rw [e_X1_pageThere a1 (a2 / (4 : Int32)) s1]
  refine am_lbi (fun x3 s2 => ?_) (fun _ _ => rfl)
  refine ((show ∀ f n : Nat, g_X1_sharers n (f + 1) 18 [(0, .inl (.ref 0)), (1, .inl (.int a1)), (2, .inl (.int a2))] [.inl (.int x3), .inl (.ref 8)] (kH nf ns rest s2) (0, 0) = am_ri (F_X0_usersOf [.inl (.ref 8), .inl (.int x3)] (kH nf ns rest s2)) (fun x5 h => g_X1_sharers n f 21 [(0, .inl (.ref 0)), (1, .inl (.int a1)), (2, .inl (.int a2))] [.inl (.int x5)] h (0, 0)) (fun x h => some (.inr x, h)) from fun f n => rfl) 987 399).trans ?_
  rw [e_X0_usersOf x3 s2]
  refine am_lbi (fun x5 s4 => ?_) (fun _ _ => rfl)
  refine ((show ∀ f n : Nat, g_X1_sharers n (f + 1) 21 [(0, .inl (.ref 0)), (1, .inl (.int a1)), (2, .inl (.int a2))] [.inl (.int x5)] (kH nf ns rest s4) (0, 0) = some (.inl (some (.inl (.int x5))), kH nf ns rest s4) from fun f n => rfl) 986 399).trans ?_
  rfl
set_option maxRecDepth 20000 in
def g_X1_fact (n f pc : Nat) (lv : am_Lv) (st : List am_V) (h : am_H) (b : Nat × Nat) : Option am_O := am_go X_X1_fact 3 (some .int) am_rs0 [] [] (am_lp T_X1_fact X_X1_fact 3 (some .int) am_rs0 [] [] n) f (am_from pc T_X1_fact) lv st h b
set_option maxRecDepth 20000 in
def j_X1_fact (n pc : Nat) (lv : am_Lv) (st : List am_V) (h : am_H) (b : Nat × Nat) : Option am_O := am_lp T_X1_fact X_X1_fact 3 (some .int) am_rs0 [] [] n pc lv st h b
set_option maxRecDepth 20000 in
theorem j_X1_fact_g (n pc : Nat) (lv : am_Lv) (st : List am_V) (h : am_H) (b : Nat × Nat) : j_X1_fact (n + 1) pc lv st h b = g_X1_fact n 1000 pc lv st h b := rfl
set_option maxRecDepth 20000 in
theorem j_X1_fact_0 (pc : Nat) (lv : am_Lv) (st : List am_V) (h : am_H) (b : Nat × Nat) : j_X1_fact 0 pc lv st h b = none := rfl
set_option maxRecDepth 20000 in
def p_X1_fact (nf ns : Nat) (a1 : Int32) (a2 : Int32) (s : KS) : KR := kbv (p_X1_checkProcess nf ns a1 s) (fun s1 => kbv (p_X1_checkRange nf ns a2 (0 : Int32) (4 : Int32) s1) (fun s2 => cond (!decide (a2 = (0 : Int32))) (cond (!decide (a2 = (2 : Int32))) (cond (am_in a1 6) (cond (decide ((s2.1 1 a1.toNatClampNeg) = (1 : Int32))) (cond (decide ((1 : Int) = a2.toInt)) (cond (am_in a1 6) (some (.inl (some (s2.1 2 a1.toNatClampNeg)), s2)) none) (cond (decide ((3 : Int) = a2.toInt)) (cond (am_in a1 6) (some (.inl (some (s2.1 5 a1.toNatClampNeg)), s2)) none) (cond (am_in a1 6) (some (.inl (some (s2.1 6 a1.toNatClampNeg)), s2)) none))) (some (.inl (some (-1 : Int32)), s2))) none) (cond (am_in a1 6) (some (.inl (some (s2.1 3 a1.toNatClampNeg)), s2)) none)) (cond (am_in a1 6) (some (.inl (some (s2.1 1 a1.toNatClampNeg)), s2)) none)))
set_option maxRecDepth 20000 in
theorem e_X1_fact {nf ns : Nat} {rest : am_H} (a1 : Int32) (a2 : Int32) (s : KS) : F_X1_fact [.inl (.ref 0), .inl (.int a1), .inl (.int a2)] (kH nf ns rest s) = am_lf (kH nf ns rest) (p_X1_fact nf ns a1 a2 s) := by
  rw [p_X1_fact]
  refine (show _ = g_X1_fact 399 1000 0 [(0, .inl (.ref 0)), (1, .inl (.int a1)), (2, .inl (.int a2))] [] (kH nf ns rest s) (2, 12) from am_fn_g (Nat.le_of_ble_eq_true rfl)).trans ?_
  refine ((show ∀ f n : Nat, g_X1_fact n (f + 2) 0 [(0, .inl (.ref 0)), (1, .inl (.int a1)), (2, .inl (.int a2))] [] (kH nf ns rest s) (2, 12) = am_rv (F_X1_checkProcess [.inl (.int a1)] (kH nf ns rest s)) (fun h => g_X1_fact n f 4 [(0, .inl (.ref 0)), (1, .inl (.int a1)), (2, .inl (.int a2))] [] h (1, 6)) (fun x h => some (.inr x, h)) from fun f n => rfl) 998 399).trans ?_
  rw [e_X1_checkProcess a1 s]
  refine am_lbv (fun s1 => ?_) (fun _ _ => rfl)
  refine ((show ∀ f n : Nat, g_X1_fact n (f + 4) 4 [(0, .inl (.ref 0)), (1, .inl (.int a1)), (2, .inl (.int a2))] [] (kH nf ns rest s1) (1, 6) = am_rv (F_X1_checkRange [.inl (.int a2), .inl (.int (0 : Int32)), .inl (.int (4 : Int32))] (kH nf ns rest s1)) (fun h => g_X1_fact n f 10 [(0, .inl (.ref 0)), (1, .inl (.int a1)), (2, .inl (.int a2))] [] h (0, 0)) (fun x h => some (.inr x, h)) from fun f n => rfl) 994 399).trans ?_
  rw [e_X1_checkRange a2 (0 : Int32) (4 : Int32) s1]
  refine am_lbv (fun s2 => ?_) (fun _ _ => rfl)
  refine ((show ∀ f n : Nat, g_X1_fact n (f + 2) 10 [(0, .inl (.ref 0)), (1, .inl (.int a1)), (2, .inl (.int a2))] [] (kH nf ns rest s2) (0, 0) = cond (!decide (a2 = (0 : Int32))) (g_X1_fact n f 21 [(0, .inl (.ref 0)), (1, .inl (.int a1)), (2, .inl (.int a2))] [] (kH nf ns rest s2) (0, 0)) (g_X1_fact n f 14 [(0, .inl (.ref 0)), (1, .inl (.int a1)), (2, .inl (.int a2))] [] (kH nf ns rest s2) (0, 0)) from fun f n => rfl) 992 399).trans ?_
  refine am_lcd ?_ ?_
  · refine ((show ∀ f n : Nat, g_X1_fact n (f + 3) 21 [(0, .inl (.ref 0)), (1, .inl (.int a1)), (2, .inl (.int a2))] [] (kH nf ns rest s2) (0, 0) = cond (!decide (a2 = (2 : Int32))) (g_X1_fact n f 33 [(0, .inl (.ref 0)), (1, .inl (.int a1)), (2, .inl (.int a2))] [] (kH nf ns rest s2) (0, 0)) (g_X1_fact n f 26 [(0, .inl (.ref 0)), (1, .inl (.int a1)), (2, .inl (.int a2))] [] (kH nf ns rest s2) (0, 0)) from fun f n => rfl) 989 399).trans ?_
    refine am_lcd ?_ ?_
    · refine ((show ∀ f n : Nat, g_X1_fact n (f + 6) 33 [(0, .inl (.ref 0)), (1, .inl (.int a1)), (2, .inl (.int a2))] [] (kH nf ns rest s2) (0, 0) = cond (am_in a1 6) (cond (decide ((s2.1 1 a1.toNatClampNeg) = (1 : Int32))) (g_X1_fact n f 45 [(0, .inl (.ref 0)), (1, .inl (.int a1)), (2, .inl (.int a2))] [] (kH nf ns rest s2) (0, 0)) (g_X1_fact n f 43 [(0, .inl (.ref 0)), (1, .inl (.int a1)), (2, .inl (.int a2))] [] (kH nf ns rest s2) (0, 0))) none from fun f n => rfl) 983 399).trans ?_
      refine am_lcd (B := none) ?_ rfl
      refine am_lcd ?_ ?_
      · refine ((show ∀ f n : Nat, g_X1_fact n (f + 2) 45 [(0, .inl (.ref 0)), (1, .inl (.int a1)), (2, .inl (.int a2))] [] (kH nf ns rest s2) (0, 0) = cond (decide ((1 : Int) = a2.toInt)) (g_X1_fact n f 72 [(0, .inl (.ref 0)), (1, .inl (.int a1)), (2, .inl (.int a2))] [] (kH nf ns rest s2) (0, 0)) (cond (decide ((3 : Int) = a2.toInt)) (g_X1_fact n f 79 [(0, .inl (.ref 0)), (1, .inl (.int a1)), (2, .inl (.int a2))] [] (kH nf ns rest s2) (0, 0)) (g_X1_fact n f 86 [(0, .inl (.ref 0)), (1, .inl (.int a1)), (2, .inl (.int a2))] [] (kH nf ns rest s2) (0, 0))) from fun f n => rfl) 981 399).trans ?_
        refine am_lcd ?_ ?_
        · refine ((show ∀ f n : Nat, g_X1_fact n (f + 5) 72 [(0, .inl (.ref 0)), (1, .inl (.int a1)), (2, .inl (.int a2))] [] (kH nf ns rest s2) (0, 0) = cond (am_in a1 6) (some (.inl (some (.inl (.int (s2.1 2 a1.toNatClampNeg)))), kH nf ns rest s2)) none from fun f n => rfl) 976 399).trans ?_
          refine am_lcd (B := none) ?_ rfl
          rfl
        · refine am_lcd ?_ ?_
          · refine ((show ∀ f n : Nat, g_X1_fact n (f + 5) 79 [(0, .inl (.ref 0)), (1, .inl (.int a1)), (2, .inl (.int a2))] [] (kH nf ns rest s2) (0, 0) = cond (am_in a1 6) (some (.inl (some (.inl (.int (s2.1 5 a1.toNatClampNeg)))), kH nf ns rest s2)) none from fun f n => rfl) 976 399).trans ?_
            refine am_lcd (B := none) ?_ rfl
            rfl
          · refine ((show ∀ f n : Nat, g_X1_fact n (f + 5) 86 [(0, .inl (.ref 0)), (1, .inl (.int a1)), (2, .inl (.int a2))] [] (kH nf ns rest s2) (0, 0) = cond (am_in a1 6) (some (.inl (some (.inl (.int (s2.1 6 a1.toNatClampNeg)))), kH nf ns rest s2)) none from fun f n => rfl) 976 399).trans ?_
            refine am_lcd (B := none) ?_ rfl
            rfl
      · refine ((show ∀ f n : Nat, g_X1_fact n (f + 2) 43 [(0, .inl (.ref 0)), (1, .inl (.int a1)), (2, .inl (.int a2))] [] (kH nf ns rest s2) (0, 0) = some (.inl (some (.inl (.int (-1 : Int32)))), kH nf ns rest s2) from fun f n => rfl) 981 399).trans ?_
        rfl
    · refine ((show ∀ f n : Nat, g_X1_fact n (f + 5) 26 [(0, .inl (.ref 0)), (1, .inl (.int a1)), (2, .inl (.int a2))] [] (kH nf ns rest s2) (0, 0) = cond (am_in a1 6) (some (.inl (some (.inl (.int (s2.1 3 a1.toNatClampNeg)))), kH nf ns rest s2)) none from fun f n => rfl) 984 399).trans ?_
      refine am_lcd (B := none) ?_ rfl
      rfl
  · refine ((show ∀ f n : Nat, g_X1_fact n (f + 5) 14 [(0, .inl (.ref 0)), (1, .inl (.int a1)), (2, .inl (.int a2))] [] (kH nf ns rest s2) (0, 0) = cond (am_in a1 6) (some (.inl (some (.inl (.int (s2.1 1 a1.toNatClampNeg)))), kH nf ns rest s2)) none from fun f n => rfl) 987 399).trans ?_
    refine am_lcd (B := none) ?_ rfl
    rfl
set_option maxRecDepth 20000 in
def g_X1_count (n f pc : Nat) (lv : am_Lv) (st : List am_V) (h : am_H) (b : Nat × Nat) : Option am_O := am_go X_X1_count 2 (some .int) am_rs0 [] [] (am_lp T_X1_count X_X1_count 2 (some .int) am_rs0 [] [] n) f (am_from pc T_X1_count) lv st h b
set_option maxRecDepth 20000 in
def j_X1_count (n pc : Nat) (lv : am_Lv) (st : List am_V) (h : am_H) (b : Nat × Nat) : Option am_O := am_lp T_X1_count X_X1_count 2 (some .int) am_rs0 [] [] n pc lv st h b
set_option maxRecDepth 20000 in
theorem j_X1_count_g (n pc : Nat) (lv : am_Lv) (st : List am_V) (h : am_H) (b : Nat × Nat) : j_X1_count (n + 1) pc lv st h b = g_X1_count n 1000 pc lv st h b := rfl
set_option maxRecDepth 20000 in
theorem j_X1_count_0 (pc : Nat) (lv : am_Lv) (st : List am_V) (h : am_H) (b : Nat × Nat) : j_X1_count 0 pc lv st h b = none := rfl
set_option maxRecDepth 20000 in
def p_X1_count (nf ns : Nat) (a1 : Int32) (s : KS) : KR := kbv (p_X1_checkRange nf ns a1 (0 : Int32) (15 : Int32) s) (fun s1 => cond (decide (a1.toInt = 0)) (kbi (p_X0_freeFrames nf ns  s1) (fun x7 s6 => some (.inl (some x7), s6))) (cond (decide (a1.toInt = 1)) (kbi (p_X0_freeSlots nf ns  s1) (fun x5 s4 => some (.inl (some x5), s4))) (cond (decide (a1.toInt = 2)) (some (.inl (some (s1.1 8 7)), s1)) (cond (decide (a1.toInt = 3)) (some (.inl (some (s1.1 8 8)), s1)) (cond (decide (a1.toInt = 4)) (some (.inl (some (s1.1 8 6)), s1)) (cond (decide (a1.toInt = 5)) (some (.inl (some (s1.1 8 9)), s1)) (kbi (p_X0_markOf nf ns (a1 - (6 : Int32)) s1) (fun x3 s2 => some (.inl (some x3), s2)))))))))
set_option maxRecDepth 20000 in
theorem e_X1_count {nf ns : Nat} {rest : am_H} (a1 : Int32) (s : KS) : F_X1_count [.inl (.ref 0), .inl (.int a1)] (kH nf ns rest s) = am_lf (kH nf ns rest) (p_X1_count nf ns a1 s) := by
  rw [p_X1_count]
  refine (show _ = g_X1_count 399 1000 0 [(0, .inl (.ref 0)), (1, .inl (.int a1))] [] (kH nf ns rest s) (1, 6) from am_fn_g (Nat.le_of_ble_eq_true rfl)).trans ?_
  refine ((show ∀ f n : Nat, g_X1_count n (f + 4) 0 [(0, .inl (.ref 0)), (1, .inl (.int a1))] [] (kH nf ns rest s) (1, 6) = am_rv (F_X1_checkRange [.inl (.int a1), .inl (.int (0 : Int32)), .inl (.int (15 : Int32))] (kH nf ns rest s)) (fun h => g_X1_count n f 7 [(0, .inl (.ref 0)), (1, .inl (.int a1))] [] h (0, 0)) (fun x h => some (.inr x, h)) from fun f n => rfl) 996 399).trans ?_
  rw [e_X1_checkRange a1 (0 : Int32) (15 : Int32) s]
  refine am_lbv (fun s1 => ?_) (fun _ _ => rfl)
  refine ((show ∀ f n : Nat, g_X1_count n (f + 2) 7 [(0, .inl (.ref 0)), (1, .inl (.int a1))] [] (kH nf ns rest s1) (0, 0) = cond (decide (a1.toInt = 0)) (g_X1_count n f 48 [(0, .inl (.ref 0)), (1, .inl (.int a1))] [] (kH nf ns rest s1) (0, 0)) (cond (decide (a1.toInt = 1)) (g_X1_count n f 56 [(0, .inl (.ref 0)), (1, .inl (.int a1))] [] (kH nf ns rest s1) (0, 0)) (cond (decide (a1.toInt = 2)) (g_X1_count n f 64 [(0, .inl (.ref 0)), (1, .inl (.int a1))] [] (kH nf ns rest s1) (0, 0)) (cond (decide (a1.toInt = 3)) (g_X1_count n f 72 [(0, .inl (.ref 0)), (1, .inl (.int a1))] [] (kH nf ns rest s1) (0, 0)) (cond (decide (a1.toInt = 4)) (g_X1_count n f 80 [(0, .inl (.ref 0)), (1, .inl (.int a1))] [] (kH nf ns rest s1) (0, 0)) (cond (decide (a1.toInt = 5)) (g_X1_count n f 88 [(0, .inl (.ref 0)), (1, .inl (.int a1))] [] (kH nf ns rest s1) (0, 0)) (g_X1_count n f 96 [(0, .inl (.ref 0)), (1, .inl (.int a1))] [] (kH nf ns rest s1) (0, 0))))))) from fun f n => rfl) 994 399).trans ?_
  refine am_lcd ?_ ?_
  · refine ((show ∀ f n : Nat, g_X1_count n (f + 3) 48 [(0, .inl (.ref 0)), (1, .inl (.int a1))] [] (kH nf ns rest s1) (0, 0) = am_ri (F_X0_freeFrames [.inl (.ref 8)] (kH nf ns rest s1)) (fun x7 h => g_X1_count n f 55 [(0, .inl (.ref 0)), (1, .inl (.int a1))] [.inl (.int x7)] h (0, 0)) (fun x h => some (.inr x, h)) from fun f n => rfl) 991 399).trans ?_
    rw [e_X0_freeFrames  s1]
    refine am_lbi (fun x7 s6 => ?_) (fun _ _ => rfl)
    refine ((show ∀ f n : Nat, g_X1_count n (f + 1) 55 [(0, .inl (.ref 0)), (1, .inl (.int a1))] [.inl (.int x7)] (kH nf ns rest s6) (0, 0) = some (.inl (some (.inl (.int x7))), kH nf ns rest s6) from fun f n => rfl) 990 399).trans ?_
    rfl
  · refine am_lcd ?_ ?_
    · refine ((show ∀ f n : Nat, g_X1_count n (f + 3) 56 [(0, .inl (.ref 0)), (1, .inl (.int a1))] [] (kH nf ns rest s1) (0, 0) = am_ri (F_X0_freeSlots [.inl (.ref 8)] (kH nf ns rest s1)) (fun x5 h => g_X1_count n f 63 [(0, .inl (.ref 0)), (1, .inl (.int a1))] [.inl (.int x5)] h (0, 0)) (fun x h => some (.inr x, h)) from fun f n => rfl) 991 399).trans ?_
      rw [e_X0_freeSlots  s1]
      refine am_lbi (fun x5 s4 => ?_) (fun _ _ => rfl)
      refine ((show ∀ f n : Nat, g_X1_count n (f + 1) 63 [(0, .inl (.ref 0)), (1, .inl (.int a1))] [.inl (.int x5)] (kH nf ns rest s4) (0, 0) = some (.inl (some (.inl (.int x5))), kH nf ns rest s4) from fun f n => rfl) 990 399).trans ?_
      rfl
    · refine am_lcd ?_ ?_
      · refine ((show ∀ f n : Nat, g_X1_count n (f + 4) 64 [(0, .inl (.ref 0)), (1, .inl (.int a1))] [] (kH nf ns rest s1) (0, 0) = some (.inl (some (.inl (.int (s1.1 8 7)))), kH nf ns rest s1) from fun f n => rfl) 990 399).trans ?_
        rfl
      · refine am_lcd ?_ ?_
        · refine ((show ∀ f n : Nat, g_X1_count n (f + 4) 72 [(0, .inl (.ref 0)), (1, .inl (.int a1))] [] (kH nf ns rest s1) (0, 0) = some (.inl (some (.inl (.int (s1.1 8 8)))), kH nf ns rest s1) from fun f n => rfl) 990 399).trans ?_
          rfl
        · refine am_lcd ?_ ?_
          · refine ((show ∀ f n : Nat, g_X1_count n (f + 4) 80 [(0, .inl (.ref 0)), (1, .inl (.int a1))] [] (kH nf ns rest s1) (0, 0) = some (.inl (some (.inl (.int (s1.1 8 6)))), kH nf ns rest s1) from fun f n => rfl) 990 399).trans ?_
            rfl
          · refine am_lcd ?_ ?_
            · refine ((show ∀ f n : Nat, g_X1_count n (f + 4) 88 [(0, .inl (.ref 0)), (1, .inl (.int a1))] [] (kH nf ns rest s1) (0, 0) = some (.inl (some (.inl (.int (s1.1 8 9)))), kH nf ns rest s1) from fun f n => rfl) 990 399).trans ?_
              rfl
            · refine ((show ∀ f n : Nat, g_X1_count n (f + 6) 96 [(0, .inl (.ref 0)), (1, .inl (.int a1))] [] (kH nf ns rest s1) (0, 0) = am_ri (F_X0_markOf [.inl (.ref 8), .inl (.int (a1 - (6 : Int32)))] (kH nf ns rest s1)) (fun x3 h => g_X1_count n f 107 [(0, .inl (.ref 0)), (1, .inl (.int a1))] [.inl (.int x3)] h (0, 0)) (fun x h => some (.inr x, h)) from fun f n => rfl) 988 399).trans ?_
              rw [e_X0_markOf (a1 - (6 : Int32)) s1]
              refine am_lbi (fun x3 s2 => ?_) (fun _ _ => rfl)
              refine ((show ∀ f n : Nat, g_X1_count n (f + 1) 107 [(0, .inl (.ref 0)), (1, .inl (.int a1))] [.inl (.int x3)] (kH nf ns rest s2) (0, 0) = some (.inl (some (.inl (.int x3))), kH nf ns rest s2) from fun f n => rfl) 987 399).trans ?_
              rfl
