set_option maxRecDepth 20000 in
def g_X0_textPage (n f pc : Nat) (lv : am_Lv) (st : List am_V) (h : am_H) (b : Nat × Nat) : Option am_O := am_go X_X0_textPage 2 (some .int) am_rs0 [] [] (am_lp T_X0_textPage X_X0_textPage 2 (some .int) am_rs0 [] [] n) f (am_from pc T_X0_textPage) lv st h b
set_option maxRecDepth 20000 in
def j_X0_textPage (n pc : Nat) (lv : am_Lv) (st : List am_V) (h : am_H) (b : Nat × Nat) : Option am_O := am_lp T_X0_textPage X_X0_textPage 2 (some .int) am_rs0 [] [] n pc lv st h b
set_option maxRecDepth 20000 in
theorem j_X0_textPage_g (n pc : Nat) (lv : am_Lv) (st : List am_V) (h : am_H) (b : Nat × Nat) : j_X0_textPage (n + 1) pc lv st h b = g_X0_textPage n 1000 pc lv st h b := rfl
set_option maxRecDepth 20000 in
theorem j_X0_textPage_0 (pc : Nat) (lv : am_Lv) (st : List am_V) (h : am_H) (b : Nat × Nat) : j_X0_textPage 0 pc lv st h b = none := rfl
set_option maxRecDepth 20000 in
def p_X0_textPage (nf ns : Nat) (a0 : Int32) (a1 : Int32) (s : KS) : KR := some (.inl (some ((a0 * (2 : Int32)) + a1)), s)
set_option maxRecDepth 20000 in
theorem e_X0_textPage {nf ns : Nat} {rest : am_H} (a0 : Int32) (a1 : Int32) (s : KS) : F_X0_textPage [.inl (.int a0), .inl (.int a1)] (kH nf ns rest s) = am_lf (kH nf ns rest) (p_X0_textPage nf ns a0 a1 s) := by
  rw [p_X0_textPage]
  refine (show _ = g_X0_textPage 399 1000 0 [(0, .inl (.int a0)), (1, .inl (.int a1))] [] (kH nf ns rest s) (0, 0) from am_fn_g (Nat.le_of_ble_eq_true rfl)).trans ?_
  refine ((show ∀ f n : Nat, g_X0_textPage n (f + 6) 0 [(0, .inl (.int a0)), (1, .inl (.int a1))] [] (kH nf ns rest s) (0, 0) = some (.inl (some (.inl (.int ((a0 * (2 : Int32)) + a1)))), kH nf ns rest s) from fun f n => rfl) 994 399).trans ?_
  rfl
set_option maxRecDepth 20000 in
def g_X0_join (n f pc : Nat) (lv : am_Lv) (st : List am_V) (h : am_H) (b : Nat × Nat) : Option am_O := am_go X_X0_join 2 none am_rs0 [] [] (am_lp T_X0_join X_X0_join 2 none am_rs0 [] [] n) f (am_from pc T_X0_join) lv st h b
set_option maxRecDepth 20000 in
def j_X0_join (n pc : Nat) (lv : am_Lv) (st : List am_V) (h : am_H) (b : Nat × Nat) : Option am_O := am_lp T_X0_join X_X0_join 2 none am_rs0 [] [] n pc lv st h b
set_option maxRecDepth 20000 in
theorem j_X0_join_g (n pc : Nat) (lv : am_Lv) (st : List am_V) (h : am_H) (b : Nat × Nat) : j_X0_join (n + 1) pc lv st h b = g_X0_join n 1000 pc lv st h b := rfl
set_option maxRecDepth 20000 in
theorem j_X0_join_0 (pc : Nat) (lv : am_Lv) (st : List am_V) (h : am_H) (b : Nat × Nat) : j_X0_join 0 pc lv st h b = none := rfl
set_option maxRecDepth 20000 in
def p_X0_join (nf ns : Nat) (a1 : Int32) (s : KS) : KR := cond (am_in a1 60) (cond (am_in a1 60) (some (.inl none, (kS s 10 a1.toNatClampNeg (((s.1 10 a1.toNatClampNeg) + (1 : Int32)))))) none) none
set_option maxRecDepth 20000 in
theorem e_X0_join {nf ns : Nat} {rest : am_H} (a1 : Int32) (s : KS) : F_X0_join [.inl (.ref 8), .inl (.int a1)] (kH nf ns rest s) = am_lf (kH nf ns rest) (p_X0_join nf ns a1 s) := by
  rw [p_X0_join]
  refine (show _ = g_X0_join 399 1000 0 [(0, .inl (.ref 8)), (1, .inl (.int a1))] [] (kH nf ns rest s) (0, 0) from am_fn_g (Nat.le_of_ble_eq_true rfl)).trans ?_
  refine ((show ∀ f n : Nat, g_X0_join n (f + 9) 0 [(0, .inl (.ref 8)), (1, .inl (.int a1))] [] (kH nf ns rest s) (0, 0) = cond (am_in a1 60) (cond (am_in a1 60) (some (.inl none, kH nf ns rest (kS s 10 a1.toNatClampNeg (((s.1 10 a1.toNatClampNeg) + (1 : Int32)))))) none) none from fun f n => rfl) 991 399).trans ?_
  refine am_lcd (B := none) ?_ rfl
  refine am_lcd (B := none) ?_ rfl
  rfl
set_option maxRecDepth 20000 in
def g_X0_vacate (n f pc : Nat) (lv : am_Lv) (st : List am_V) (h : am_H) (b : Nat × Nat) : Option am_O := am_go X_X0_vacate 3 none am_rs0 [] [] (am_lp T_X0_vacate X_X0_vacate 3 none am_rs0 [] [] n) f (am_from pc T_X0_vacate) lv st h b
set_option maxRecDepth 20000 in
def j_X0_vacate (n pc : Nat) (lv : am_Lv) (st : List am_V) (h : am_H) (b : Nat × Nat) : Option am_O := am_lp T_X0_vacate X_X0_vacate 3 none am_rs0 [] [] n pc lv st h b
set_option maxRecDepth 20000 in
theorem j_X0_vacate_g (n pc : Nat) (lv : am_Lv) (st : List am_V) (h : am_H) (b : Nat × Nat) : j_X0_vacate (n + 1) pc lv st h b = g_X0_vacate n 1000 pc lv st h b := rfl
set_option maxRecDepth 20000 in
theorem j_X0_vacate_0 (pc : Nat) (lv : am_Lv) (st : List am_V) (h : am_H) (b : Nat × Nat) : j_X0_vacate 0 pc lv st h b = none := rfl
set_option maxRecDepth 20000 in
def p_X0_vacate (nf ns : Nat) (a1 : Int32) (s : KS) : KR := cond (am_in a1 60) (cond (decide ((s.1 11 a1.toNatClampNeg) < (100 : Int32))) (cond (decide ((s.1 11 a1.toNatClampNeg) = (-1 : Int32))) (cond (am_in a1 60) (some (.inl none, (kS s 11 a1.toNatClampNeg ((-1 : Int32))))) none) (cond (am_in (s.1 11 a1.toNatClampNeg) nf) (cond (am_in a1 60) (some (.inl none, (kS (kS s 12 (s.1 11 a1.toNatClampNeg).toNatClampNeg ((-1 : Int32))) 11 a1.toNatClampNeg ((-1 : Int32))))) none) none)) (cond (am_in ((s.1 11 a1.toNatClampNeg) - (100 : Int32)) ns) (cond (am_in a1 60) (some (.inl none, (kS (kS s 14 ((s.1 11 a1.toNatClampNeg) - (100 : Int32)).toNatClampNeg ((-1 : Int32))) 11 a1.toNatClampNeg ((-1 : Int32))))) none) none)) none
set_option maxRecDepth 20000 in
theorem e_X0_vacate {nf ns : Nat} {rest : am_H} (a1 : Int32) (s : KS) : F_X0_vacate [.inl (.ref 8), .inl (.int a1)] (kH nf ns rest s) = am_lf (kH nf ns rest) (p_X0_vacate nf ns a1 s) := by
  rw [p_X0_vacate]
  refine (show _ = g_X0_vacate 399 1000 0 [(0, .inl (.ref 8)), (1, .inl (.int a1))] [] (kH nf ns rest s) (0, 0) from am_fn_g (Nat.le_of_ble_eq_true rfl)).trans ?_
  refine ((show ∀ f n : Nat, g_X0_vacate n (f + 8) 0 [(0, .inl (.ref 8)), (1, .inl (.int a1))] [] (kH nf ns rest s) (0, 0) = cond (am_in a1 60) (cond (decide ((s.1 11 a1.toNatClampNeg) < (100 : Int32))) (g_X0_vacate n f 26 [(0, .inl (.ref 8)), (1, .inl (.int a1)), (2, .inl (.int (s.1 11 a1.toNatClampNeg)))] [] (kH nf ns rest s) (0, 0)) (g_X0_vacate n f 13 [(0, .inl (.ref 8)), (1, .inl (.int a1)), (2, .inl (.int (s.1 11 a1.toNatClampNeg)))] [] (kH nf ns rest s) (0, 0))) none from fun f n => rfl) 992 399).trans ?_
  refine am_lcd (B := none) ?_ rfl
  refine am_lcd ?_ ?_
  · refine ((show ∀ f n : Nat, g_X0_vacate n (f + 3) 26 [(0, .inl (.ref 8)), (1, .inl (.int a1)), (2, .inl (.int (s.1 11 a1.toNatClampNeg)))] [] (kH nf ns rest s) (0, 0) = cond (decide ((s.1 11 a1.toNatClampNeg) = (-1 : Int32))) (g_X0_vacate n f 38 [(0, .inl (.ref 8)), (1, .inl (.int a1)), (2, .inl (.int (s.1 11 a1.toNatClampNeg)))] [] (kH nf ns rest s) (0, 0)) (g_X0_vacate n f 31 [(0, .inl (.ref 8)), (1, .inl (.int a1)), (2, .inl (.int (s.1 11 a1.toNatClampNeg)))] [] (kH nf ns rest s) (0, 0)) from fun f n => rfl) 989 399).trans ?_
    refine am_lcd ?_ ?_
    · refine ((show ∀ f n : Nat, g_X0_vacate n (f + 6) 38 [(0, .inl (.ref 8)), (1, .inl (.int a1)), (2, .inl (.int (s.1 11 a1.toNatClampNeg)))] [] (kH nf ns rest s) (0, 0) = cond (am_in a1 60) (some (.inl none, kH nf ns rest (kS s 11 a1.toNatClampNeg ((-1 : Int32))))) none from fun f n => rfl) 983 399).trans ?_
      refine am_lcd (B := none) ?_ rfl
      rfl
    · refine ((show ∀ f n : Nat, g_X0_vacate n (f + 11) 31 [(0, .inl (.ref 8)), (1, .inl (.int a1)), (2, .inl (.int (s.1 11 a1.toNatClampNeg)))] [] (kH nf ns rest s) (0, 0) = cond (am_in (s.1 11 a1.toNatClampNeg) nf) (cond (am_in a1 60) (some (.inl none, kH nf ns rest (kS (kS s 12 (s.1 11 a1.toNatClampNeg).toNatClampNeg ((-1 : Int32))) 11 a1.toNatClampNeg ((-1 : Int32))))) none) none from fun f n => rfl) 978 399).trans ?_
      refine am_lcd (B := none) ?_ rfl
      refine am_lcd (B := none) ?_ rfl
      rfl
  · refine ((show ∀ f n : Nat, g_X0_vacate n (f + 14) 13 [(0, .inl (.ref 8)), (1, .inl (.int a1)), (2, .inl (.int (s.1 11 a1.toNatClampNeg)))] [] (kH nf ns rest s) (0, 0) = cond (am_in ((s.1 11 a1.toNatClampNeg) - (100 : Int32)) ns) (cond (am_in a1 60) (some (.inl none, kH nf ns rest (kS (kS s 14 ((s.1 11 a1.toNatClampNeg) - (100 : Int32)).toNatClampNeg ((-1 : Int32))) 11 a1.toNatClampNeg ((-1 : Int32))))) none) none from fun f n => rfl) 978 399).trans ?_
    refine am_lcd (B := none) ?_ rfl
    refine am_lcd (B := none) ?_ rfl
    rfl
set_option maxRecDepth 20000 in
def g_X0_leave (n f pc : Nat) (lv : am_Lv) (st : List am_V) (h : am_H) (b : Nat × Nat) : Option am_O := am_go X_X0_leave 2 none am_rs0 [] [] (am_lp T_X0_leave X_X0_leave 2 none am_rs0 [] [] n) f (am_from pc T_X0_leave) lv st h b
set_option maxRecDepth 20000 in
def j_X0_leave (n pc : Nat) (lv : am_Lv) (st : List am_V) (h : am_H) (b : Nat × Nat) : Option am_O := am_lp T_X0_leave X_X0_leave 2 none am_rs0 [] [] n pc lv st h b
set_option maxRecDepth 20000 in
theorem j_X0_leave_g (n pc : Nat) (lv : am_Lv) (st : List am_V) (h : am_H) (b : Nat × Nat) : j_X0_leave (n + 1) pc lv st h b = g_X0_leave n 1000 pc lv st h b := rfl
set_option maxRecDepth 20000 in
theorem j_X0_leave_0 (pc : Nat) (lv : am_Lv) (st : List am_V) (h : am_H) (b : Nat × Nat) : j_X0_leave 0 pc lv st h b = none := rfl
set_option maxRecDepth 20000 in
def p_X0_leave (nf ns : Nat) (a1 : Int32) (s : KS) : KR := cond (am_in a1 60) (cond (am_in a1 60) (cond (am_in a1 60) (cond (!decide (((kS s 10 a1.toNatClampNeg (((s.1 10 a1.toNatClampNeg) - (1 : Int32)))).1 10 a1.toNatClampNeg) = (0 : Int32))) (some (.inl none, (kS s 10 a1.toNatClampNeg (((s.1 10 a1.toNatClampNeg) - (1 : Int32)))))) (kbv (p_X0_vacate nf ns a1 (kS s 10 a1.toNatClampNeg (((s.1 10 a1.toNatClampNeg) - (1 : Int32))))) (fun s1 => some (.inl none, s1)))) none) none) none
set_option maxRecDepth 20000 in
theorem e_X0_leave {nf ns : Nat} {rest : am_H} (a1 : Int32) (s : KS) : F_X0_leave [.inl (.ref 8), .inl (.int a1)] (kH nf ns rest s) = am_lf (kH nf ns rest) (p_X0_leave nf ns a1 s) := by
  rw [p_X0_leave]
  refine (show _ = g_X0_leave 399 1000 0 [(0, .inl (.ref 8)), (1, .inl (.int a1))] [] (kH nf ns rest s) (0, 0) from am_fn_g (Nat.le_of_ble_eq_true rfl)).trans ?_
  refine ((show ∀ f n : Nat, g_X0_leave n (f + 13) 0 [(0, .inl (.ref 8)), (1, .inl (.int a1))] [] (kH nf ns rest s) (0, 0) = cond (am_in a1 60) (cond (am_in a1 60) (cond (am_in a1 60) (cond (!decide (((kS s 10 a1.toNatClampNeg (((s.1 10 a1.toNatClampNeg) - (1 : Int32)))).1 10 a1.toNatClampNeg) = (0 : Int32))) (g_X0_leave n f 24 [(0, .inl (.ref 8)), (1, .inl (.int a1))] [] (kH nf ns rest (kS s 10 a1.toNatClampNeg (((s.1 10 a1.toNatClampNeg) - (1 : Int32))))) (0, 0)) (g_X0_leave n f 19 [(0, .inl (.ref 8)), (1, .inl (.int a1))] [] (kH nf ns rest (kS s 10 a1.toNatClampNeg (((s.1 10 a1.toNatClampNeg) - (1 : Int32))))) (0, 0))) none) none) none from fun f n => rfl) 987 399).trans ?_
  refine am_lcd (B := none) ?_ rfl
  refine am_lcd (B := none) ?_ rfl
  refine am_lcd (B := none) ?_ rfl
  refine am_lcd ?_ ?_
  · refine ((show ∀ (f n : Nat) (z : KS), g_X0_leave n (f + 1) 24 [(0, .inl (.ref 8)), (1, .inl (.int a1))] [] (kH nf ns rest z) (0, 0) = some (.inl none, kH nf ns rest z) from fun f n z => rfl) 986 399 (kS s 10 a1.toNatClampNeg (((s.1 10 a1.toNatClampNeg) - (1 : Int32))))).trans ?_
    rfl
  · refine ((show ∀ (f n : Nat) (z : KS), g_X0_leave n (f + 3) 19 [(0, .inl (.ref 8)), (1, .inl (.int a1))] [] (kH nf ns rest z) (0, 0) = am_rv (F_X0_vacate [.inl (.ref 8), .inl (.int a1)] (kH nf ns rest z)) (fun h => g_X0_leave n f 24 [(0, .inl (.ref 8)), (1, .inl (.int a1))] [] h (0, 0)) (fun x h => some (.inr x, h)) from fun f n z => rfl) 984 399 (kS s 10 a1.toNatClampNeg (((s.1 10 a1.toNatClampNeg) - (1 : Int32))))).trans ?_
    rw [e_X0_vacate a1 (kS s 10 a1.toNatClampNeg (((s.1 10 a1.toNatClampNeg) - (1 : Int32))))]
    refine am_lbv (fun s1 => ?_) (fun _ _ => rfl)
    refine ((show ∀ f n : Nat, g_X0_leave n (f + 1) 24 [(0, .inl (.ref 8)), (1, .inl (.int a1))] [] (kH nf ns rest s1) (0, 0) = some (.inl none, kH nf ns rest s1) from fun f n => rfl) 983 399).trans ?_
    rfl
set_option maxRecDepth 20000 in
def g_X0_newPage (n f pc : Nat) (lv : am_Lv) (st : List am_V) (h : am_H) (b : Nat × Nat) : Option am_O := am_go X_X0_newPage 3 (some .int) am_rs0 [] [(3, [0, 1]), (26, [0, 1, 2])] (am_lp T_X0_newPage X_X0_newPage 3 (some .int) am_rs0 [] [(3, [0, 1]), (26, [0, 1, 2])] n) f (am_from pc T_X0_newPage) lv st h b
set_option maxRecDepth 20000 in
def j_X0_newPage (n pc : Nat) (lv : am_Lv) (st : List am_V) (h : am_H) (b : Nat × Nat) : Option am_O := am_lp T_X0_newPage X_X0_newPage 3 (some .int) am_rs0 [] [(3, [0, 1]), (26, [0, 1, 2])] n pc lv st h b
set_option maxRecDepth 20000 in
theorem j_X0_newPage_g (n pc : Nat) (lv : am_Lv) (st : List am_V) (h : am_H) (b : Nat × Nat) : j_X0_newPage (n + 1) pc lv st h b = g_X0_newPage n 1000 pc lv st h b := rfl
set_option maxRecDepth 20000 in
theorem j_X0_newPage_0 (pc : Nat) (lv : am_Lv) (st : List am_V) (h : am_H) (b : Nat × Nat) : j_X0_newPage 0 pc lv st h b = none := rfl
set_option maxRecDepth 20000 in
def p_X0_newPage_L26 (nf ns : Nat) : Nat → Int32 → Int32 → KS → KR
  | 0, _, _, _ => none
  | n + 1, l1, l2, s => cond (decide ((4 : Int32) ≤ l2)) (cond (am_in l1 60) (some (.inl (some l1), (kS s 10 l1.toNatClampNeg ((1 : Int32))))) none) (cond (am_in ((l1 * (4 : Int32)) + l2) 240) (p_X0_newPage_L26 nf ns n l1 (l2 + (1 : Int32)) (kS s 9 ((l1 * (4 : Int32)) + l2).toNatClampNeg ((0 : Int32)))) none)
set_option maxRecDepth 20000 in
theorem b_X0_newPage_L26 {nf ns : Nat} {rest : am_H} (n : Nat) (ih : ∀ (l1 : Int32) (l2 : Int32) (s : KS), j_X0_newPage n 26 [(0, .inl (.ref 8)), (1, .inl (.int l1)), (2, .inl (.int l2))] [] (kH nf ns rest s) (0, 0) = am_lf (kH nf ns rest) (p_X0_newPage_L26 nf ns n l1 l2 s)) (f : Nat) (l1 : Int32) (l2 : Int32) (s : KS) : g_X0_newPage n (f + 17) 26 [(0, .inl (.ref 8)), (1, .inl (.int l1)), (2, .inl (.int l2))] [] (kH nf ns rest s) (0, 0) = am_lf (kH nf ns rest) (p_X0_newPage_L26 nf ns (n + 1) l1 l2 s) := by
  rw [p_X0_newPage_L26]
  refine ((show ∀ f n : Nat, g_X0_newPage n (f + 3) 26 [(0, .inl (.ref 8)), (1, .inl (.int l1)), (2, .inl (.int l2))] [] (kH nf ns rest s) (0, 0) = cond (decide ((4 : Int32) ≤ l2)) (g_X0_newPage n f 48 [(0, .inl (.ref 8)), (1, .inl (.int l1)), (2, .inl (.int l2))] [] (kH nf ns rest s) (0, 0)) (g_X0_newPage n f 31 [(0, .inl (.ref 8)), (1, .inl (.int l1)), (2, .inl (.int l2))] [] (kH nf ns rest s) (0, 0)) from fun f n => rfl) (f + 14) n).trans ?_
  refine am_lcd ?_ ?_
  · refine ((show ∀ f n : Nat, g_X0_newPage n (f + 7) 48 [(0, .inl (.ref 8)), (1, .inl (.int l1)), (2, .inl (.int l2))] [] (kH nf ns rest s) (0, 0) = cond (am_in l1 60) (some (.inl (some (.inl (.int l1))), kH nf ns rest (kS s 10 l1.toNatClampNeg ((1 : Int32))))) none from fun f n => rfl) (f + 7) n).trans ?_
    refine am_lcd (B := none) ?_ rfl
    rfl
  · refine ((show ∀ f n : Nat, g_X0_newPage n (f + 11) 31 [(0, .inl (.ref 8)), (1, .inl (.int l1)), (2, .inl (.int l2))] [] (kH nf ns rest s) (0, 0) = cond (am_in ((l1 * (4 : Int32)) + l2) 240) (j_X0_newPage n 26 [(0, .inl (.ref 8)), (1, .inl (.int l1)), (2, .inl (.int (l2 + (1 : Int32))))] [] (kH nf ns rest (kS s 9 ((l1 * (4 : Int32)) + l2).toNatClampNeg ((0 : Int32)))) (0, 0)) none from fun f n => rfl) (f + 3) n).trans ?_
    refine am_lcd (B := none) ?_ rfl
    exact ih l1 (l2 + (1 : Int32)) (kS s 9 ((l1 * (4 : Int32)) + l2).toNatClampNeg ((0 : Int32)))
set_option maxRecDepth 20000 in
theorem e_X0_newPage_L26 {nf ns : Nat} {rest : am_H} : ∀ (n : Nat) (l1 : Int32) (l2 : Int32) (s : KS), j_X0_newPage n 26 [(0, .inl (.ref 8)), (1, .inl (.int l1)), (2, .inl (.int l2))] [] (kH nf ns rest s) (0, 0) = am_lf (kH nf ns rest) (p_X0_newPage_L26 nf ns n l1 l2 s)
  | 0, _, _, _ => by rw [p_X0_newPage_L26]; rfl
  | n + 1, l1, l2, s => (j_X0_newPage_g n 26 _ _ _ _).trans (b_X0_newPage_L26 n (e_X0_newPage_L26 n) 983 l1 l2 s)
set_option maxRecDepth 20000 in
def p_X0_newPage_L3 (nf ns : Nat) : Nat → Int32 → KS → KR
  | 0, _, _ => none
  | n + 1, l1, s => cond (decide ((59 : Int32) ≤ l1)) (p_X0_newPage_L26 nf ns (n + 1) l1 (0 : Int32) s) (cond (am_in l1 60) (cond (decide ((s.1 10 l1.toNatClampNeg) ≤ (0 : Int32))) (p_X0_newPage_L26 nf ns (n + 1) l1 (0 : Int32) s) (p_X0_newPage_L3 nf ns n (l1 + (1 : Int32)) s)) none)
set_option maxRecDepth 20000 in
theorem b_X0_newPage_L3 {nf ns : Nat} {rest : am_H} (n : Nat) (ih : ∀ (l1 : Int32) (s : KS), j_X0_newPage n 3 [(0, .inl (.ref 8)), (1, .inl (.int l1))] [] (kH nf ns rest s) (0, 0) = am_lf (kH nf ns rest) (p_X0_newPage_L3 nf ns n l1 s)) (f : Nat) (l1 : Int32) (s : KS) : g_X0_newPage n (f + 30) 3 [(0, .inl (.ref 8)), (1, .inl (.int l1))] [] (kH nf ns rest s) (0, 0) = am_lf (kH nf ns rest) (p_X0_newPage_L3 nf ns (n + 1) l1 s) := by
  rw [p_X0_newPage_L3]
  refine ((show ∀ f n : Nat, g_X0_newPage n (f + 3) 3 [(0, .inl (.ref 8)), (1, .inl (.int l1))] [] (kH nf ns rest s) (0, 0) = cond (decide ((59 : Int32) ≤ l1)) (g_X0_newPage n f 24 [(0, .inl (.ref 8)), (1, .inl (.int l1))] [] (kH nf ns rest s) (0, 0)) (g_X0_newPage n f 9 [(0, .inl (.ref 8)), (1, .inl (.int l1))] [] (kH nf ns rest s) (0, 0)) from fun f n => rfl) (f + 27) n).trans ?_
  refine am_lcd ?_ ?_
  · refine ((show ∀ f n : Nat, g_X0_newPage n (f + 2) 24 [(0, .inl (.ref 8)), (1, .inl (.int l1))] [] (kH nf ns rest s) (0, 0) = g_X0_newPage n f 26 [(0, .inl (.ref 8)), (1, .inl (.int l1)), (2, .inl (.int (0 : Int32)))] [] (kH nf ns rest s) (0, 0) from fun f n => rfl) (f + 25) n).trans ?_
    exact b_X0_newPage_L26 n (e_X0_newPage_L26 n) (f + 8) l1 (0 : Int32) s
  · refine ((show ∀ f n : Nat, g_X0_newPage n (f + 5) 9 [(0, .inl (.ref 8)), (1, .inl (.int l1))] [] (kH nf ns rest s) (0, 0) = cond (am_in l1 60) (cond (decide ((s.1 10 l1.toNatClampNeg) ≤ (0 : Int32))) (g_X0_newPage n f 24 [(0, .inl (.ref 8)), (1, .inl (.int l1))] [] (kH nf ns rest s) (0, 0)) (g_X0_newPage n f 18 [(0, .inl (.ref 8)), (1, .inl (.int l1))] [] (kH nf ns rest s) (0, 0))) none from fun f n => rfl) (f + 22) n).trans ?_
    refine am_lcd (B := none) ?_ rfl
    refine am_lcd ?_ ?_
    · refine ((show ∀ f n : Nat, g_X0_newPage n (f + 2) 24 [(0, .inl (.ref 8)), (1, .inl (.int l1))] [] (kH nf ns rest s) (0, 0) = g_X0_newPage n f 26 [(0, .inl (.ref 8)), (1, .inl (.int l1)), (2, .inl (.int (0 : Int32)))] [] (kH nf ns rest s) (0, 0) from fun f n => rfl) (f + 20) n).trans ?_
      exact b_X0_newPage_L26 n (e_X0_newPage_L26 n) (f + 3) l1 (0 : Int32) s
    · refine ((show ∀ f n : Nat, g_X0_newPage n (f + 2) 18 [(0, .inl (.ref 8)), (1, .inl (.int l1))] [] (kH nf ns rest s) (0, 0) = j_X0_newPage n 3 [(0, .inl (.ref 8)), (1, .inl (.int (l1 + (1 : Int32))))] [] (kH nf ns rest s) (0, 0) from fun f n => rfl) (f + 20) n).trans ?_
      exact ih (l1 + (1 : Int32)) s
set_option maxRecDepth 20000 in
theorem e_X0_newPage_L3 {nf ns : Nat} {rest : am_H} : ∀ (n : Nat) (l1 : Int32) (s : KS), j_X0_newPage n 3 [(0, .inl (.ref 8)), (1, .inl (.int l1))] [] (kH nf ns rest s) (0, 0) = am_lf (kH nf ns rest) (p_X0_newPage_L3 nf ns n l1 s)
  | 0, _, _ => by rw [p_X0_newPage_L3]; rfl
  | n + 1, l1, s => (j_X0_newPage_g n 3 _ _ _ _).trans (b_X0_newPage_L3 n (e_X0_newPage_L3 n) 970 l1 s)
set_option maxRecDepth 20000 in
def p_X0_newPage (nf ns : Nat)  (s : KS) : KR := p_X0_newPage_L3 nf ns 400 (6 : Int32) s
set_option maxRecDepth 20000 in
theorem e_X0_newPage {nf ns : Nat} {rest : am_H}  (s : KS) : F_X0_newPage [.inl (.ref 8)] (kH nf ns rest s) = am_lf (kH nf ns rest) (p_X0_newPage nf ns  s) := by
  rw [p_X0_newPage]
  refine (show _ = g_X0_newPage 399 1000 0 [(0, .inl (.ref 8))] [] (kH nf ns rest s) (0, 0) from am_fn_g (Nat.le_of_ble_eq_true rfl)).trans ?_
  refine ((show ∀ f n : Nat, g_X0_newPage n (f + 2) 0 [(0, .inl (.ref 8))] [] (kH nf ns rest s) (0, 0) = g_X0_newPage n f 3 [(0, .inl (.ref 8)), (1, .inl (.int (6 : Int32)))] [] (kH nf ns rest s) (0, 0) from fun f n => rfl) 998 399).trans ?_
  exact b_X0_newPage_L3 399 (e_X0_newPage_L3 399) 968 (6 : Int32) s
set_option maxRecDepth 20000 in
def g_X0_isIn (n f pc : Nat) (lv : am_Lv) (st : List am_V) (h : am_H) (b : Nat × Nat) : Option am_O := am_go X_X0_isIn 2 (some .boolean) am_rs0 [] [] (am_lp T_X0_isIn X_X0_isIn 2 (some .boolean) am_rs0 [] [] n) f (am_from pc T_X0_isIn) lv st h b
set_option maxRecDepth 20000 in
def j_X0_isIn (n pc : Nat) (lv : am_Lv) (st : List am_V) (h : am_H) (b : Nat × Nat) : Option am_O := am_lp T_X0_isIn X_X0_isIn 2 (some .boolean) am_rs0 [] [] n pc lv st h b
set_option maxRecDepth 20000 in
theorem j_X0_isIn_g (n pc : Nat) (lv : am_Lv) (st : List am_V) (h : am_H) (b : Nat × Nat) : j_X0_isIn (n + 1) pc lv st h b = g_X0_isIn n 1000 pc lv st h b := rfl
set_option maxRecDepth 20000 in
theorem j_X0_isIn_0 (pc : Nat) (lv : am_Lv) (st : List am_V) (h : am_H) (b : Nat × Nat) : j_X0_isIn 0 pc lv st h b = none := rfl
set_option maxRecDepth 20000 in
def p_X0_isIn (nf ns : Nat) (a1 : Int32) (s : KS) : KR := cond (am_in a1 60) (cond (decide ((s.1 11 a1.toNatClampNeg) = (-1 : Int32))) (some (.inl (some (0 : Int32)), s)) (cond (am_in a1 60) (cond (decide ((100 : Int32) ≤ (s.1 11 a1.toNatClampNeg))) (some (.inl (some (0 : Int32)), s)) (some (.inl (some (1 : Int32)), s))) none)) none
set_option maxRecDepth 20000 in
theorem e_X0_isIn {nf ns : Nat} {rest : am_H} (a1 : Int32) (s : KS) : F_X0_isIn [.inl (.ref 8), .inl (.int a1)] (kH nf ns rest s) = am_lf (kH nf ns rest) (p_X0_isIn nf ns a1 s) := by
  rw [p_X0_isIn]
  refine (show _ = g_X0_isIn 399 1000 0 [(0, .inl (.ref 8)), (1, .inl (.int a1))] [] (kH nf ns rest s) (0, 0) from am_fn_g (Nat.le_of_ble_eq_true rfl)).trans ?_
  refine ((show ∀ f n : Nat, g_X0_isIn n (f + 6) 0 [(0, .inl (.ref 8)), (1, .inl (.int a1))] [] (kH nf ns rest s) (0, 0) = cond (am_in a1 60) (cond (decide ((s.1 11 a1.toNatClampNeg) = (-1 : Int32))) (g_X0_isIn n f 25 [(0, .inl (.ref 8)), (1, .inl (.int a1))] [] (kH nf ns rest s) (0, 0)) (g_X0_isIn n f 10 [(0, .inl (.ref 8)), (1, .inl (.int a1))] [] (kH nf ns rest s) (0, 0))) none from fun f n => rfl) 994 399).trans ?_
  refine am_lcd (B := none) ?_ rfl
  refine am_lcd ?_ ?_
  · refine ((show ∀ f n : Nat, g_X0_isIn n (f + 2) 25 [(0, .inl (.ref 8)), (1, .inl (.int a1))] [] (kH nf ns rest s) (0, 0) = some (.inl (some (.inl (.int (0 : Int32)))), kH nf ns rest s) from fun f n => rfl) 992 399).trans ?_
    rfl
  · refine ((show ∀ f n : Nat, g_X0_isIn n (f + 6) 10 [(0, .inl (.ref 8)), (1, .inl (.int a1))] [] (kH nf ns rest s) (0, 0) = cond (am_in a1 60) (cond (decide ((100 : Int32) ≤ (s.1 11 a1.toNatClampNeg))) (g_X0_isIn n f 25 [(0, .inl (.ref 8)), (1, .inl (.int a1))] [] (kH nf ns rest s) (0, 0)) (g_X0_isIn n f 21 [(0, .inl (.ref 8)), (1, .inl (.int a1))] [] (kH nf ns rest s) (0, 0))) none from fun f n => rfl) 988 399).trans ?_
    refine am_lcd (B := none) ?_ rfl
    refine am_lcd ?_ ?_
    · refine ((show ∀ f n : Nat, g_X0_isIn n (f + 2) 25 [(0, .inl (.ref 8)), (1, .inl (.int a1))] [] (kH nf ns rest s) (0, 0) = some (.inl (some (.inl (.int (0 : Int32)))), kH nf ns rest s) from fun f n => rfl) 986 399).trans ?_
      rfl
    · refine ((show ∀ f n : Nat, g_X0_isIn n (f + 3) 21 [(0, .inl (.ref 8)), (1, .inl (.int a1))] [] (kH nf ns rest s) (0, 0) = some (.inl (some (.inl (.int (1 : Int32)))), kH nf ns rest s) from fun f n => rfl) 985 399).trans ?_
      rfl
set_option maxRecDepth 20000 in
def g_X0_isText (n f pc : Nat) (lv : am_Lv) (st : List am_V) (h : am_H) (b : Nat × Nat) : Option am_O := am_go X_X0_isText 1 (some .boolean) am_rs0 [] [] (am_lp T_X0_isText X_X0_isText 1 (some .boolean) am_rs0 [] [] n) f (am_from pc T_X0_isText) lv st h b
set_option maxRecDepth 20000 in
def j_X0_isText (n pc : Nat) (lv : am_Lv) (st : List am_V) (h : am_H) (b : Nat × Nat) : Option am_O := am_lp T_X0_isText X_X0_isText 1 (some .boolean) am_rs0 [] [] n pc lv st h b
set_option maxRecDepth 20000 in
theorem j_X0_isText_g (n pc : Nat) (lv : am_Lv) (st : List am_V) (h : am_H) (b : Nat × Nat) : j_X0_isText (n + 1) pc lv st h b = g_X0_isText n 1000 pc lv st h b := rfl
set_option maxRecDepth 20000 in
theorem j_X0_isText_0 (pc : Nat) (lv : am_Lv) (st : List am_V) (h : am_H) (b : Nat × Nat) : j_X0_isText 0 pc lv st h b = none := rfl
set_option maxRecDepth 20000 in
def p_X0_isText (nf ns : Nat) (a0 : Int32) (s : KS) : KR := cond (decide ((6 : Int32) ≤ a0)) (some (.inl (some (0 : Int32)), s)) (some (.inl (some (1 : Int32)), s))
set_option maxRecDepth 20000 in
theorem e_X0_isText {nf ns : Nat} {rest : am_H} (a0 : Int32) (s : KS) : F_X0_isText [.inl (.int a0)] (kH nf ns rest s) = am_lf (kH nf ns rest) (p_X0_isText nf ns a0 s) := by
  rw [p_X0_isText]
  refine (show _ = g_X0_isText 399 1000 0 [(0, .inl (.int a0))] [] (kH nf ns rest s) (0, 0) from am_fn_g (Nat.le_of_ble_eq_true rfl)).trans ?_
  refine ((show ∀ f n : Nat, g_X0_isText n (f + 3) 0 [(0, .inl (.int a0))] [] (kH nf ns rest s) (0, 0) = cond (decide ((6 : Int32) ≤ a0)) (g_X0_isText n f 10 [(0, .inl (.int a0))] [] (kH nf ns rest s) (0, 0)) (g_X0_isText n f 6 [(0, .inl (.int a0))] [] (kH nf ns rest s) (0, 0)) from fun f n => rfl) 997 399).trans ?_
  refine am_lcd ?_ ?_
  · refine ((show ∀ f n : Nat, g_X0_isText n (f + 2) 10 [(0, .inl (.int a0))] [] (kH nf ns rest s) (0, 0) = some (.inl (some (.inl (.int (0 : Int32)))), kH nf ns rest s) from fun f n => rfl) 995 399).trans ?_
    rfl
  · refine ((show ∀ f n : Nat, g_X0_isText n (f + 3) 6 [(0, .inl (.int a0))] [] (kH nf ns rest s) (0, 0) = some (.inl (some (.inl (.int (1 : Int32)))), kH nf ns rest s) from fun f n => rfl) 994 399).trans ?_
    rfl
set_option maxRecDepth 20000 in
def g_X0_canGo (n f pc : Nat) (lv : am_Lv) (st : List am_V) (h : am_H) (b : Nat × Nat) : Option am_O := am_go X_X0_canGo 2 (some .boolean) am_rs0 [] [] (am_lp T_X0_canGo X_X0_canGo 2 (some .boolean) am_rs0 [] [] n) f (am_from pc T_X0_canGo) lv st h b
set_option maxRecDepth 20000 in
def j_X0_canGo (n pc : Nat) (lv : am_Lv) (st : List am_V) (h : am_H) (b : Nat × Nat) : Option am_O := am_lp T_X0_canGo X_X0_canGo 2 (some .boolean) am_rs0 [] [] n pc lv st h b
set_option maxRecDepth 20000 in
theorem j_X0_canGo_g (n pc : Nat) (lv : am_Lv) (st : List am_V) (h : am_H) (b : Nat × Nat) : j_X0_canGo (n + 1) pc lv st h b = g_X0_canGo n 1000 pc lv st h b := rfl
set_option maxRecDepth 20000 in
theorem j_X0_canGo_0 (pc : Nat) (lv : am_Lv) (st : List am_V) (h : am_H) (b : Nat × Nat) : j_X0_canGo 0 pc lv st h b = none := rfl
set_option maxRecDepth 20000 in
def g_X0_leastFree (n f pc : Nat) (lv : am_Lv) (st : List am_V) (h : am_H) (b : Nat × Nat) : Option am_O := am_go X_X0_leastFree 2 (some .int) am_rs0 [] [(2, [0, 1])] (am_lp T_X0_leastFree X_X0_leastFree 2 (some .int) am_rs0 [] [(2, [0, 1])] n) f (am_from pc T_X0_leastFree) lv st h b
set_option maxRecDepth 20000 in
def j_X0_leastFree (n pc : Nat) (lv : am_Lv) (st : List am_V) (h : am_H) (b : Nat × Nat) : Option am_O := am_lp T_X0_leastFree X_X0_leastFree 2 (some .int) am_rs0 [] [(2, [0, 1])] n pc lv st h b
set_option maxRecDepth 20000 in
theorem j_X0_leastFree_g (n pc : Nat) (lv : am_Lv) (st : List am_V) (h : am_H) (b : Nat × Nat) : j_X0_leastFree (n + 1) pc lv st h b = g_X0_leastFree n 1000 pc lv st h b := rfl
set_option maxRecDepth 20000 in
theorem j_X0_leastFree_0 (pc : Nat) (lv : am_Lv) (st : List am_V) (h : am_H) (b : Nat × Nat) : j_X0_leastFree 0 pc lv st h b = none := rfl
set_option maxRecDepth 20000 in
def p_X0_leastFree_14_L2 (nf ns : Nat) : Nat → Int32 → KS → KR
  | 0, _, _ => none
  | n + 1, l1, s => cond (decide ((Int32.ofNat ns) ≤ l1)) (some (.inl (some (-1 : Int32)), s)) (cond (am_in l1 ns) (cond (!decide ((s.1 14 l1.toNatClampNeg) = (-1 : Int32))) (p_X0_leastFree_14_L2 nf ns n (l1 + (1 : Int32)) s) (some (.inl (some l1), s))) none)
set_option maxRecDepth 20000 in
theorem b_X0_leastFree_14_L2 {nf ns : Nat} {rest : am_H} (n : Nat) (ih : ∀ (l1 : Int32) (s : KS), j_X0_leastFree n 2 [(0, .inl (.ref 14)), (1, .inl (.int l1))] [] (kH nf ns rest s) (0, 0) = am_lf (kH nf ns rest) (p_X0_leastFree_14_L2 nf ns n l1 s)) (f : Nat) (l1 : Int32) (s : KS) : g_X0_leastFree n (f + 14) 2 [(0, .inl (.ref 14)), (1, .inl (.int l1))] [] (kH nf ns rest s) (0, 0) = am_lf (kH nf ns rest) (p_X0_leastFree_14_L2 nf ns (n + 1) l1 s) := by
  rw [p_X0_leastFree_14_L2]
  refine ((show ∀ f n : Nat, g_X0_leastFree n (f + 4) 2 [(0, .inl (.ref 14)), (1, .inl (.int l1))] [] (kH nf ns rest s) (0, 0) = cond (decide ((Int32.ofNat ns) ≤ l1)) (g_X0_leastFree n f 23 [(0, .inl (.ref 14)), (1, .inl (.int l1))] [] (kH nf ns rest s) (0, 0)) (g_X0_leastFree n f 8 [(0, .inl (.ref 14)), (1, .inl (.int l1))] [] (kH nf ns rest s) (0, 0)) from fun f n => rfl) (f + 10) n).trans ?_
  refine am_lcd ?_ ?_
  · refine ((show ∀ f n : Nat, g_X0_leastFree n (f + 2) 23 [(0, .inl (.ref 14)), (1, .inl (.int l1))] [] (kH nf ns rest s) (0, 0) = some (.inl (some (.inl (.int (-1 : Int32)))), kH nf ns rest s) from fun f n => rfl) (f + 8) n).trans ?_
    rfl
  · refine ((show ∀ f n : Nat, g_X0_leastFree n (f + 5) 8 [(0, .inl (.ref 14)), (1, .inl (.int l1))] [] (kH nf ns rest s) (0, 0) = cond (am_in l1 ns) (cond (!decide ((s.1 14 l1.toNatClampNeg) = (-1 : Int32))) (g_X0_leastFree n f 17 [(0, .inl (.ref 14)), (1, .inl (.int l1))] [] (kH nf ns rest s) (0, 0)) (g_X0_leastFree n f 15 [(0, .inl (.ref 14)), (1, .inl (.int l1))] [] (kH nf ns rest s) (0, 0))) none from fun f n => rfl) (f + 5) n).trans ?_
    refine am_lcd (B := none) ?_ rfl
    refine am_lcd ?_ ?_
    · refine ((show ∀ f n : Nat, g_X0_leastFree n (f + 2) 17 [(0, .inl (.ref 14)), (1, .inl (.int l1))] [] (kH nf ns rest s) (0, 0) = j_X0_leastFree n 2 [(0, .inl (.ref 14)), (1, .inl (.int (l1 + (1 : Int32))))] [] (kH nf ns rest s) (0, 0) from fun f n => rfl) (f + 3) n).trans ?_
      exact ih (l1 + (1 : Int32)) s
    · refine ((show ∀ f n : Nat, g_X0_leastFree n (f + 2) 15 [(0, .inl (.ref 14)), (1, .inl (.int l1))] [] (kH nf ns rest s) (0, 0) = some (.inl (some (.inl (.int l1))), kH nf ns rest s) from fun f n => rfl) (f + 3) n).trans ?_
      rfl
set_option maxRecDepth 20000 in
theorem e_X0_leastFree_14_L2 {nf ns : Nat} {rest : am_H} : ∀ (n : Nat) (l1 : Int32) (s : KS), j_X0_leastFree n 2 [(0, .inl (.ref 14)), (1, .inl (.int l1))] [] (kH nf ns rest s) (0, 0) = am_lf (kH nf ns rest) (p_X0_leastFree_14_L2 nf ns n l1 s)
  | 0, _, _ => by rw [p_X0_leastFree_14_L2]; rfl
  | n + 1, l1, s => (j_X0_leastFree_g n 2 _ _ _ _).trans (b_X0_leastFree_14_L2 n (e_X0_leastFree_14_L2 n) 986 l1 s)
set_option maxRecDepth 20000 in
def p_X0_leastFree_14 (nf ns : Nat)  (s : KS) : KR := p_X0_leastFree_14_L2 nf ns 400 (0 : Int32) s
set_option maxRecDepth 20000 in
theorem e_X0_leastFree_14 {nf ns : Nat} {rest : am_H}  (s : KS) : F_X0_leastFree [.inl (.ref 14)] (kH nf ns rest s) = am_lf (kH nf ns rest) (p_X0_leastFree_14 nf ns  s) := by
  rw [p_X0_leastFree_14]
  refine (show _ = g_X0_leastFree 399 1000 0 [(0, .inl (.ref 14))] [] (kH nf ns rest s) (0, 0) from am_fn_g (Nat.le_of_ble_eq_true rfl)).trans ?_
  refine ((show ∀ f n : Nat, g_X0_leastFree n (f + 2) 0 [(0, .inl (.ref 14))] [] (kH nf ns rest s) (0, 0) = g_X0_leastFree n f 2 [(0, .inl (.ref 14)), (1, .inl (.int (0 : Int32)))] [] (kH nf ns rest s) (0, 0) from fun f n => rfl) 998 399).trans ?_
  exact b_X0_leastFree_14_L2 399 (e_X0_leastFree_14_L2 399) 984 (0 : Int32) s
set_option maxRecDepth 20000 in
def p_X0_canGo (nf ns : Nat) (a1 : Int32) (s : KS) : KR := kbi (p_X0_isText nf ns a1 s) (fun x2 s1 => cond (!decide (x2 = (0 : Int32))) (some (.inl (some (1 : Int32)), s1)) (kbi (p_X0_leastFree_14 nf ns  s1) (fun x4 s3 => cond (decide (x4 = (-1 : Int32))) (some (.inl (some (0 : Int32)), s3)) (some (.inl (some (1 : Int32)), s3)))))
set_option maxRecDepth 20000 in
theorem e_X0_canGo {nf ns : Nat} {rest : am_H} (a1 : Int32) (s : KS) : F_X0_canGo [.inl (.ref 8), .inl (.int a1)] (kH nf ns rest s) = am_lf (kH nf ns rest) (p_X0_canGo nf ns a1 s) := by
  rw [p_X0_canGo]
  refine (show _ = g_X0_canGo 399 1000 0 [(0, .inl (.ref 8)), (1, .inl (.int a1))] [] (kH nf ns rest s) (0, 0) from am_fn_g (Nat.le_of_ble_eq_true rfl)).trans ?_
  refine ((show ∀ f n : Nat, g_X0_canGo n (f + 2) 0 [(0, .inl (.ref 8)), (1, .inl (.int a1))] [] (kH nf ns rest s) (0, 0) = am_ri (F_X0_isText [.inl (.int a1)] (kH nf ns rest s)) (fun x2 h => g_X0_canGo n f 4 [(0, .inl (.ref 8)), (1, .inl (.int a1))] [.inl (.int x2)] h (0, 0)) (fun x h => some (.inr x, h)) from fun f n => rfl) 998 399).trans ?_
  rw [e_X0_isText a1 s]
  refine am_lbi (fun x2 s1 => ?_) (fun _ _ => rfl)
  refine ((show ∀ f n : Nat, g_X0_canGo n (f + 1) 4 [(0, .inl (.ref 8)), (1, .inl (.int a1))] [.inl (.int x2)] (kH nf ns rest s1) (0, 0) = cond (!decide (x2 = (0 : Int32))) (g_X0_canGo n f 18 [(0, .inl (.ref 8)), (1, .inl (.int a1))] [] (kH nf ns rest s1) (0, 0)) (g_X0_canGo n f 7 [(0, .inl (.ref 8)), (1, .inl (.int a1))] [] (kH nf ns rest s1) (0, 0)) from fun f n => rfl) 997 399).trans ?_
  refine am_lcd ?_ ?_
  · refine ((show ∀ f n : Nat, g_X0_canGo n (f + 3) 18 [(0, .inl (.ref 8)), (1, .inl (.int a1))] [] (kH nf ns rest s1) (0, 0) = some (.inl (some (.inl (.int (1 : Int32)))), kH nf ns rest s1) from fun f n => rfl) 994 399).trans ?_
    rfl
  · refine ((show ∀ f n : Nat, g_X0_canGo n (f + 3) 7 [(0, .inl (.ref 8)), (1, .inl (.int a1))] [] (kH nf ns rest s1) (0, 0) = am_ri (F_X0_leastFree [.inl (.ref 14)] (kH nf ns rest s1)) (fun x4 h => g_X0_canGo n f 14 [(0, .inl (.ref 8)), (1, .inl (.int a1))] [.inl (.int x4)] h (0, 0)) (fun x h => some (.inr x, h)) from fun f n => rfl) 994 399).trans ?_
    rw [e_X0_leastFree_14  s1]
    refine am_lbi (fun x4 s3 => ?_) (fun _ _ => rfl)
    refine ((show ∀ f n : Nat, g_X0_canGo n (f + 2) 14 [(0, .inl (.ref 8)), (1, .inl (.int a1))] [.inl (.int x4)] (kH nf ns rest s3) (0, 0) = cond (decide (x4 = (-1 : Int32))) (g_X0_canGo n f 22 [(0, .inl (.ref 8)), (1, .inl (.int a1))] [] (kH nf ns rest s3) (0, 0)) (g_X0_canGo n f 18 [(0, .inl (.ref 8)), (1, .inl (.int a1))] [] (kH nf ns rest s3) (0, 0)) from fun f n => rfl) 992 399).trans ?_
    refine am_lcd ?_ ?_
    · refine ((show ∀ f n : Nat, g_X0_canGo n (f + 2) 22 [(0, .inl (.ref 8)), (1, .inl (.int a1))] [] (kH nf ns rest s3) (0, 0) = some (.inl (some (.inl (.int (0 : Int32)))), kH nf ns rest s3) from fun f n => rfl) 990 399).trans ?_
      rfl
    · refine ((show ∀ f n : Nat, g_X0_canGo n (f + 3) 18 [(0, .inl (.ref 8)), (1, .inl (.int a1))] [] (kH nf ns rest s3) (0, 0) = some (.inl (some (.inl (.int (1 : Int32)))), kH nf ns rest s3) from fun f n => rfl) 989 399).trans ?_
      rfl
set_option maxRecDepth 20000 in
def g_X0_sendOut (n f pc : Nat) (lv : am_Lv) (st : List am_V) (h : am_H) (b : Nat × Nat) : Option am_O := am_go X_X0_sendOut 3 none am_rs0 [] [] (am_lp T_X0_sendOut X_X0_sendOut 3 none am_rs0 [] [] n) f (am_from pc T_X0_sendOut) lv st h b
set_option maxRecDepth 20000 in
def j_X0_sendOut (n pc : Nat) (lv : am_Lv) (st : List am_V) (h : am_H) (b : Nat × Nat) : Option am_O := am_lp T_X0_sendOut X_X0_sendOut 3 none am_rs0 [] [] n pc lv st h b
set_option maxRecDepth 20000 in
theorem j_X0_sendOut_g (n pc : Nat) (lv : am_Lv) (st : List am_V) (h : am_H) (b : Nat × Nat) : j_X0_sendOut (n + 1) pc lv st h b = g_X0_sendOut n 1000 pc lv st h b := rfl
set_option maxRecDepth 20000 in
theorem j_X0_sendOut_0 (pc : Nat) (lv : am_Lv) (st : List am_V) (h : am_H) (b : Nat × Nat) : j_X0_sendOut 0 pc lv st h b = none := rfl
set_option maxRecDepth 20000 in
def p_X0_sendOut (nf ns : Nat) (a1 : Int32) (s : KS) : KR := kbi (p_X0_isText nf ns a1 s) (fun x2 s1 => cond (decide (x2 = (0 : Int32))) (kbi (p_X0_leastFree_14 nf ns  s1) (fun x4 s3 => kbv (p_X0_vacate nf ns a1 s3) (fun s5 => cond (decide (x4 = (-1 : Int32))) (some (.inl none, (kS s5 8 9 ((s5.1 8 9) + (1 : Int32))))) (cond (am_in x4 ns) (cond (am_in a1 60) (some (.inl none, (kS (kS (kS s5 14 x4.toNatClampNeg (a1)) 11 a1.toNatClampNeg (((100 : Int32) + x4))) 8 9 (((kS (kS s5 14 x4.toNatClampNeg (a1)) 11 a1.toNatClampNeg (((100 : Int32) + x4))).1 8 9) + (1 : Int32))))) none) none)))) (kbv (p_X0_vacate nf ns a1 s1) (fun s6 => some (.inl none, (kS s6 8 9 ((s6.1 8 9) + (1 : Int32)))))))
set_option maxRecDepth 20000 in
theorem e_X0_sendOut {nf ns : Nat} {rest : am_H} (a1 : Int32) (s : KS) : F_X0_sendOut [.inl (.ref 8), .inl (.int a1)] (kH nf ns rest s) = am_lf (kH nf ns rest) (p_X0_sendOut nf ns a1 s) := by
  rw [p_X0_sendOut]
  refine (show _ = g_X0_sendOut 399 1000 0 [(0, .inl (.ref 8)), (1, .inl (.int a1))] [] (kH nf ns rest s) (0, 0) from am_fn_g (Nat.le_of_ble_eq_true rfl)).trans ?_
  refine ((show ∀ f n : Nat, g_X0_sendOut n (f + 2) 0 [(0, .inl (.ref 8)), (1, .inl (.int a1))] [] (kH nf ns rest s) (0, 0) = am_ri (F_X0_isText [.inl (.int a1)] (kH nf ns rest s)) (fun x2 h => g_X0_sendOut n f 4 [(0, .inl (.ref 8)), (1, .inl (.int a1))] [.inl (.int x2)] h (0, 0)) (fun x h => some (.inr x, h)) from fun f n => rfl) 998 399).trans ?_
  rw [e_X0_isText a1 s]
  refine am_lbi (fun x2 s1 => ?_) (fun _ _ => rfl)
  refine ((show ∀ f n : Nat, g_X0_sendOut n (f + 1) 4 [(0, .inl (.ref 8)), (1, .inl (.int a1))] [.inl (.int x2)] (kH nf ns rest s1) (0, 0) = cond (decide (x2 = (0 : Int32))) (g_X0_sendOut n f 11 [(0, .inl (.ref 8)), (1, .inl (.int a1))] [] (kH nf ns rest s1) (0, 0)) (g_X0_sendOut n f 7 [(0, .inl (.ref 8)), (1, .inl (.int a1))] [] (kH nf ns rest s1) (0, 0)) from fun f n => rfl) 997 399).trans ?_
  refine am_lcd ?_ ?_
  · refine ((show ∀ f n : Nat, g_X0_sendOut n (f + 3) 11 [(0, .inl (.ref 8)), (1, .inl (.int a1))] [] (kH nf ns rest s1) (0, 0) = am_ri (F_X0_leastFree [.inl (.ref 14)] (kH nf ns rest s1)) (fun x4 h => g_X0_sendOut n f 18 [(0, .inl (.ref 8)), (1, .inl (.int a1))] [.inl (.int x4)] h (0, 0)) (fun x h => some (.inr x, h)) from fun f n => rfl) 994 399).trans ?_
    rw [e_X0_leastFree_14  s1]
    refine am_lbi (fun x4 s3 => ?_) (fun _ _ => rfl)
    refine ((show ∀ f n : Nat, g_X0_sendOut n (f + 4) 18 [(0, .inl (.ref 8)), (1, .inl (.int a1))] [.inl (.int x4)] (kH nf ns rest s3) (0, 0) = am_rv (F_X0_vacate [.inl (.ref 8), .inl (.int a1)] (kH nf ns rest s3)) (fun h => g_X0_sendOut n f 24 [(0, .inl (.ref 8)), (1, .inl (.int a1)), (2, .inl (.int x4))] [] h (0, 0)) (fun x h => some (.inr x, h)) from fun f n => rfl) 990 399).trans ?_
    rw [e_X0_vacate a1 s3]
    refine am_lbv (fun s5 => ?_) (fun _ _ => rfl)
    refine ((show ∀ f n : Nat, g_X0_sendOut n (f + 3) 24 [(0, .inl (.ref 8)), (1, .inl (.int a1)), (2, .inl (.int x4))] [] (kH nf ns rest s5) (0, 0) = cond (decide (x4 = (-1 : Int32))) (g_X0_sendOut n f 46 [(0, .inl (.ref 8)), (1, .inl (.int a1)), (2, .inl (.int x4))] [] (kH nf ns rest s5) (0, 0)) (g_X0_sendOut n f 29 [(0, .inl (.ref 8)), (1, .inl (.int a1)), (2, .inl (.int x4))] [] (kH nf ns rest s5) (0, 0)) from fun f n => rfl) 987 399).trans ?_
    refine am_lcd ?_ ?_
    · refine ((show ∀ f n : Nat, g_X0_sendOut n (f + 7) 46 [(0, .inl (.ref 8)), (1, .inl (.int a1)), (2, .inl (.int x4))] [] (kH nf ns rest s5) (0, 0) = some (.inl none, kH nf ns rest (kS s5 8 9 ((s5.1 8 9) + (1 : Int32)))) from fun f n => rfl) 980 399).trans ?_
      rfl
    · refine ((show ∀ f n : Nat, g_X0_sendOut n (f + 19) 29 [(0, .inl (.ref 8)), (1, .inl (.int a1)), (2, .inl (.int x4))] [] (kH nf ns rest s5) (0, 0) = cond (am_in x4 ns) (cond (am_in a1 60) (some (.inl none, kH nf ns rest (kS (kS (kS s5 14 x4.toNatClampNeg (a1)) 11 a1.toNatClampNeg (((100 : Int32) + x4))) 8 9 (((kS (kS s5 14 x4.toNatClampNeg (a1)) 11 a1.toNatClampNeg (((100 : Int32) + x4))).1 8 9) + (1 : Int32))))) none) none from fun f n => rfl) 968 399).trans ?_
      refine am_lcd (B := none) ?_ rfl
      refine am_lcd (B := none) ?_ rfl
      rfl
  · refine ((show ∀ f n : Nat, g_X0_sendOut n (f + 6) 7 [(0, .inl (.ref 8)), (1, .inl (.int a1))] [] (kH nf ns rest s1) (0, 0) = am_rv (F_X0_vacate [.inl (.ref 8), .inl (.int a1)] (kH nf ns rest s1)) (fun h => g_X0_sendOut n f 24 [(0, .inl (.ref 8)), (1, .inl (.int a1)), (2, .inl (.int (-1 : Int32)))] [] h (0, 0)) (fun x h => some (.inr x, h)) from fun f n => rfl) 991 399).trans ?_
    rw [e_X0_vacate a1 s1]
    refine am_lbv (fun s6 => ?_) (fun _ _ => rfl)
    refine ((show ∀ f n : Nat, g_X0_sendOut n (f + 10) 24 [(0, .inl (.ref 8)), (1, .inl (.int a1)), (2, .inl (.int (-1 : Int32)))] [] (kH nf ns rest s6) (0, 0) = some (.inl none, kH nf ns rest (kS s6 8 9 ((s6.1 8 9) + (1 : Int32)))) from fun f n => rfl) 981 399).trans ?_
    rfl
set_option maxRecDepth 20000 in
def g_X0_lookAndMoveOn (n f pc : Nat) (lv : am_Lv) (st : List am_V) (h : am_H) (b : Nat × Nat) : Option am_O := am_go X_X0_lookAndMoveOn 3 (some .boolean) am_rs0 [] [] (am_lp T_X0_lookAndMoveOn X_X0_lookAndMoveOn 3 (some .boolean) am_rs0 [] [] n) f (am_from pc T_X0_lookAndMoveOn) lv st h b
set_option maxRecDepth 20000 in
def j_X0_lookAndMoveOn (n pc : Nat) (lv : am_Lv) (st : List am_V) (h : am_H) (b : Nat × Nat) : Option am_O := am_lp T_X0_lookAndMoveOn X_X0_lookAndMoveOn 3 (some .boolean) am_rs0 [] [] n pc lv st h b
set_option maxRecDepth 20000 in
theorem j_X0_lookAndMoveOn_g (n pc : Nat) (lv : am_Lv) (st : List am_V) (h : am_H) (b : Nat × Nat) : j_X0_lookAndMoveOn (n + 1) pc lv st h b = g_X0_lookAndMoveOn n 1000 pc lv st h b := rfl
set_option maxRecDepth 20000 in
theorem j_X0_lookAndMoveOn_0 (pc : Nat) (lv : am_Lv) (st : List am_V) (h : am_H) (b : Nat × Nat) : j_X0_lookAndMoveOn 0 pc lv st h b = none := rfl
set_option maxRecDepth 20000 in
def p_X0_lookAndMoveOn (nf ns : Nat)  (s : KS) : KR := cond (am_in (s.1 8 6) nf) (cond (decide ((s.1 12 (s.1 8 6).toNatClampNeg) = (-1 : Int32))) (cond (am_in (s.1 8 6) nf) (cond (decide ((Int32.ofNat nf) ≤ (((kS s 13 (s.1 8 6).toNatClampNeg (am_nar 1 (0 : Int32))).1 8 6) + (1 : Int32)))) (some (.inl (some (0 : Int32)), (kS (kS s 13 (s.1 8 6).toNatClampNeg (am_nar 1 (0 : Int32))) 8 6 (0 : Int32)))) (some (.inl (some (0 : Int32)), (kS (kS s 13 (s.1 8 6).toNatClampNeg (am_nar 1 (0 : Int32))) 8 6 (((kS s 13 (s.1 8 6).toNatClampNeg (am_nar 1 (0 : Int32))).1 8 6) + (1 : Int32)))))) none) (cond (am_in (s.1 8 6) nf) (cond (!decide ((s.1 13 (s.1 8 6).toNatClampNeg) = (0 : Int32))) (cond (am_in (s.1 8 6) nf) (cond (decide ((Int32.ofNat nf) ≤ (((kS s 13 (s.1 8 6).toNatClampNeg (am_nar 1 (0 : Int32))).1 8 6) + (1 : Int32)))) (some (.inl (some (0 : Int32)), (kS (kS s 13 (s.1 8 6).toNatClampNeg (am_nar 1 (0 : Int32))) 8 6 (0 : Int32)))) (some (.inl (some (0 : Int32)), (kS (kS s 13 (s.1 8 6).toNatClampNeg (am_nar 1 (0 : Int32))) 8 6 (((kS s 13 (s.1 8 6).toNatClampNeg (am_nar 1 (0 : Int32))).1 8 6) + (1 : Int32)))))) none) (kbi (p_X0_canGo nf ns (s.1 12 (s.1 8 6).toNatClampNeg) s) (fun x2 s1 => cond (decide (x2 = (0 : Int32))) (cond (am_in (s1.1 8 6) nf) (cond (decide ((Int32.ofNat nf) ≤ (((kS s1 13 (s1.1 8 6).toNatClampNeg (am_nar 1 (0 : Int32))).1 8 6) + (1 : Int32)))) (some (.inl (some (0 : Int32)), (kS (kS s1 13 (s1.1 8 6).toNatClampNeg (am_nar 1 (0 : Int32))) 8 6 (0 : Int32)))) (some (.inl (some (0 : Int32)), (kS (kS s1 13 (s1.1 8 6).toNatClampNeg (am_nar 1 (0 : Int32))) 8 6 (((kS s1 13 (s1.1 8 6).toNatClampNeg (am_nar 1 (0 : Int32))).1 8 6) + (1 : Int32)))))) none) (kbv (p_X0_sendOut nf ns (s.1 12 (s.1 8 6).toNatClampNeg) s1) (fun s3 => cond (am_in (s3.1 8 6) nf) (cond (decide ((Int32.ofNat nf) ≤ (((kS s3 13 (s3.1 8 6).toNatClampNeg (am_nar 1 (0 : Int32))).1 8 6) + (1 : Int32)))) (some (.inl (some (1 : Int32)), (kS (kS s3 13 (s3.1 8 6).toNatClampNeg (am_nar 1 (0 : Int32))) 8 6 (0 : Int32)))) (some (.inl (some (1 : Int32)), (kS (kS s3 13 (s3.1 8 6).toNatClampNeg (am_nar 1 (0 : Int32))) 8 6 (((kS s3 13 (s3.1 8 6).toNatClampNeg (am_nar 1 (0 : Int32))).1 8 6) + (1 : Int32)))))) none))))) none)) none
set_option maxRecDepth 20000 in
theorem e_X0_lookAndMoveOn {nf ns : Nat} {rest : am_H}  (s : KS) : F_X0_lookAndMoveOn [.inl (.ref 8)] (kH nf ns rest s) = am_lf (kH nf ns rest) (p_X0_lookAndMoveOn nf ns  s) := by
  rw [p_X0_lookAndMoveOn]
  refine (show _ = g_X0_lookAndMoveOn 399 1000 0 [(0, .inl (.ref 8))] [] (kH nf ns rest s) (0, 0) from am_fn_g (Nat.le_of_ble_eq_true rfl)).trans ?_
  refine ((show ∀ f n : Nat, g_X0_lookAndMoveOn n (f + 9) 0 [(0, .inl (.ref 8))] [] (kH nf ns rest s) (0, 0) = cond (am_in (s.1 8 6) nf) (cond (decide ((s.1 12 (s.1 8 6).toNatClampNeg) = (-1 : Int32))) (g_X0_lookAndMoveOn n f 39 [(0, .inl (.ref 8)), (1, .inl (.int (s.1 12 (s.1 8 6).toNatClampNeg)))] [] (kH nf ns rest s) (0, 0)) (g_X0_lookAndMoveOn n f 15 [(0, .inl (.ref 8)), (1, .inl (.int (s.1 12 (s.1 8 6).toNatClampNeg)))] [] (kH nf ns rest s) (0, 0))) none from fun f n => rfl) 991 399).trans ?_
  refine am_lcd (B := none) ?_ rfl
  refine am_lcd ?_ ?_
  · refine ((show ∀ f n : Nat, g_X0_lookAndMoveOn n (f + 19) 39 [(0, .inl (.ref 8)), (1, .inl (.int (s.1 12 (s.1 8 6).toNatClampNeg)))] [] (kH nf ns rest s) (0, 0) = cond (am_in (s.1 8 6) nf) (cond (decide ((Int32.ofNat nf) ≤ (((kS s 13 (s.1 8 6).toNatClampNeg (am_nar 1 (0 : Int32))).1 8 6) + (1 : Int32)))) (g_X0_lookAndMoveOn n f 84 [(0, .inl (.ref 8)), (1, .inl (.int (s.1 12 (s.1 8 6).toNatClampNeg))), (2, .inl (.int (0 : Int32)))] [.inl (.ref 8)] (kH nf ns rest (kS s 13 (s.1 8 6).toNatClampNeg (am_nar 1 (0 : Int32)))) (0, 0)) (g_X0_lookAndMoveOn n f 75 [(0, .inl (.ref 8)), (1, .inl (.int (s.1 12 (s.1 8 6).toNatClampNeg))), (2, .inl (.int (0 : Int32)))] [.inl (.ref 8)] (kH nf ns rest (kS s 13 (s.1 8 6).toNatClampNeg (am_nar 1 (0 : Int32)))) (0, 0))) none from fun f n => rfl) 972 399).trans ?_
    refine am_lcd (B := none) ?_ rfl
    refine am_lcd ?_ ?_
    · refine ((show ∀ (f n : Nat) (z : KS), g_X0_lookAndMoveOn n (f + 4) 84 [(0, .inl (.ref 8)), (1, .inl (.int (s.1 12 (s.1 8 6).toNatClampNeg))), (2, .inl (.int (0 : Int32)))] [.inl (.ref 8)] (kH nf ns rest z) (0, 0) = some (.inl (some (.inl (.int (0 : Int32)))), kH nf ns rest (kS z 8 6 (0 : Int32))) from fun f n z => rfl) 968 399 (kS s 13 (s.1 8 6).toNatClampNeg (am_nar 1 (0 : Int32)))).trans ?_
      rfl
    · refine ((show ∀ (f n : Nat) (z : KS), g_X0_lookAndMoveOn n (f + 8) 75 [(0, .inl (.ref 8)), (1, .inl (.int (s.1 12 (s.1 8 6).toNatClampNeg))), (2, .inl (.int (0 : Int32)))] [.inl (.ref 8)] (kH nf ns rest z) (0, 0) = some (.inl (some (.inl (.int (0 : Int32)))), kH nf ns rest (kS z 8 6 ((z.1 8 6) + (1 : Int32)))) from fun f n z => rfl) 964 399 (kS s 13 (s.1 8 6).toNatClampNeg (am_nar 1 (0 : Int32)))).trans ?_
      rfl
  · refine ((show ∀ f n : Nat, g_X0_lookAndMoveOn n (f + 6) 15 [(0, .inl (.ref 8)), (1, .inl (.int (s.1 12 (s.1 8 6).toNatClampNeg)))] [] (kH nf ns rest s) (0, 0) = cond (am_in (s.1 8 6) nf) (cond (!decide ((s.1 13 (s.1 8 6).toNatClampNeg) = (0 : Int32))) (g_X0_lookAndMoveOn n f 39 [(0, .inl (.ref 8)), (1, .inl (.int (s.1 12 (s.1 8 6).toNatClampNeg)))] [] (kH nf ns rest s) (0, 0)) (g_X0_lookAndMoveOn n f 27 [(0, .inl (.ref 8)), (1, .inl (.int (s.1 12 (s.1 8 6).toNatClampNeg)))] [] (kH nf ns rest s) (0, 0))) none from fun f n => rfl) 985 399).trans ?_
    refine am_lcd (B := none) ?_ rfl
    refine am_lcd ?_ ?_
    · refine ((show ∀ f n : Nat, g_X0_lookAndMoveOn n (f + 19) 39 [(0, .inl (.ref 8)), (1, .inl (.int (s.1 12 (s.1 8 6).toNatClampNeg)))] [] (kH nf ns rest s) (0, 0) = cond (am_in (s.1 8 6) nf) (cond (decide ((Int32.ofNat nf) ≤ (((kS s 13 (s.1 8 6).toNatClampNeg (am_nar 1 (0 : Int32))).1 8 6) + (1 : Int32)))) (g_X0_lookAndMoveOn n f 84 [(0, .inl (.ref 8)), (1, .inl (.int (s.1 12 (s.1 8 6).toNatClampNeg))), (2, .inl (.int (0 : Int32)))] [.inl (.ref 8)] (kH nf ns rest (kS s 13 (s.1 8 6).toNatClampNeg (am_nar 1 (0 : Int32)))) (0, 0)) (g_X0_lookAndMoveOn n f 75 [(0, .inl (.ref 8)), (1, .inl (.int (s.1 12 (s.1 8 6).toNatClampNeg))), (2, .inl (.int (0 : Int32)))] [.inl (.ref 8)] (kH nf ns rest (kS s 13 (s.1 8 6).toNatClampNeg (am_nar 1 (0 : Int32)))) (0, 0))) none from fun f n => rfl) 966 399).trans ?_
      refine am_lcd (B := none) ?_ rfl
      refine am_lcd ?_ ?_
      · refine ((show ∀ (f n : Nat) (z : KS), g_X0_lookAndMoveOn n (f + 4) 84 [(0, .inl (.ref 8)), (1, .inl (.int (s.1 12 (s.1 8 6).toNatClampNeg))), (2, .inl (.int (0 : Int32)))] [.inl (.ref 8)] (kH nf ns rest z) (0, 0) = some (.inl (some (.inl (.int (0 : Int32)))), kH nf ns rest (kS z 8 6 (0 : Int32))) from fun f n z => rfl) 962 399 (kS s 13 (s.1 8 6).toNatClampNeg (am_nar 1 (0 : Int32)))).trans ?_
        rfl
      · refine ((show ∀ (f n : Nat) (z : KS), g_X0_lookAndMoveOn n (f + 8) 75 [(0, .inl (.ref 8)), (1, .inl (.int (s.1 12 (s.1 8 6).toNatClampNeg))), (2, .inl (.int (0 : Int32)))] [.inl (.ref 8)] (kH nf ns rest z) (0, 0) = some (.inl (some (.inl (.int (0 : Int32)))), kH nf ns rest (kS z 8 6 ((z.1 8 6) + (1 : Int32)))) from fun f n z => rfl) 958 399 (kS s 13 (s.1 8 6).toNatClampNeg (am_nar 1 (0 : Int32)))).trans ?_
        rfl
    · refine ((show ∀ f n : Nat, g_X0_lookAndMoveOn n (f + 3) 27 [(0, .inl (.ref 8)), (1, .inl (.int (s.1 12 (s.1 8 6).toNatClampNeg)))] [] (kH nf ns rest s) (0, 0) = am_ri (F_X0_canGo [.inl (.ref 8), .inl (.int (s.1 12 (s.1 8 6).toNatClampNeg))] (kH nf ns rest s)) (fun x2 h => g_X0_lookAndMoveOn n f 32 [(0, .inl (.ref 8)), (1, .inl (.int (s.1 12 (s.1 8 6).toNatClampNeg)))] [.inl (.int x2)] h (0, 0)) (fun x h => some (.inr x, h)) from fun f n => rfl) 982 399).trans ?_
      rw [e_X0_canGo (s.1 12 (s.1 8 6).toNatClampNeg) s]
      refine am_lbi (fun x2 s1 => ?_) (fun _ _ => rfl)
      refine ((show ∀ f n : Nat, g_X0_lookAndMoveOn n (f + 1) 32 [(0, .inl (.ref 8)), (1, .inl (.int (s.1 12 (s.1 8 6).toNatClampNeg)))] [.inl (.int x2)] (kH nf ns rest s1) (0, 0) = cond (decide (x2 = (0 : Int32))) (g_X0_lookAndMoveOn n f 39 [(0, .inl (.ref 8)), (1, .inl (.int (s.1 12 (s.1 8 6).toNatClampNeg)))] [] (kH nf ns rest s1) (0, 0)) (g_X0_lookAndMoveOn n f 35 [(0, .inl (.ref 8)), (1, .inl (.int (s.1 12 (s.1 8 6).toNatClampNeg)))] [] (kH nf ns rest s1) (0, 0)) from fun f n => rfl) 981 399).trans ?_
      refine am_lcd ?_ ?_
      · refine ((show ∀ f n : Nat, g_X0_lookAndMoveOn n (f + 19) 39 [(0, .inl (.ref 8)), (1, .inl (.int (s.1 12 (s.1 8 6).toNatClampNeg)))] [] (kH nf ns rest s1) (0, 0) = cond (am_in (s1.1 8 6) nf) (cond (decide ((Int32.ofNat nf) ≤ (((kS s1 13 (s1.1 8 6).toNatClampNeg (am_nar 1 (0 : Int32))).1 8 6) + (1 : Int32)))) (g_X0_lookAndMoveOn n f 84 [(0, .inl (.ref 8)), (1, .inl (.int (s.1 12 (s.1 8 6).toNatClampNeg))), (2, .inl (.int (0 : Int32)))] [.inl (.ref 8)] (kH nf ns rest (kS s1 13 (s1.1 8 6).toNatClampNeg (am_nar 1 (0 : Int32)))) (0, 0)) (g_X0_lookAndMoveOn n f 75 [(0, .inl (.ref 8)), (1, .inl (.int (s.1 12 (s.1 8 6).toNatClampNeg))), (2, .inl (.int (0 : Int32)))] [.inl (.ref 8)] (kH nf ns rest (kS s1 13 (s1.1 8 6).toNatClampNeg (am_nar 1 (0 : Int32)))) (0, 0))) none from fun f n => rfl) 962 399).trans ?_
        refine am_lcd (B := none) ?_ rfl
        refine am_lcd ?_ ?_
        · refine ((show ∀ (f n : Nat) (z : KS), g_X0_lookAndMoveOn n (f + 4) 84 [(0, .inl (.ref 8)), (1, .inl (.int (s.1 12 (s.1 8 6).toNatClampNeg))), (2, .inl (.int (0 : Int32)))] [.inl (.ref 8)] (kH nf ns rest z) (0, 0) = some (.inl (some (.inl (.int (0 : Int32)))), kH nf ns rest (kS z 8 6 (0 : Int32))) from fun f n z => rfl) 958 399 (kS s1 13 (s1.1 8 6).toNatClampNeg (am_nar 1 (0 : Int32)))).trans ?_
          rfl
        · refine ((show ∀ (f n : Nat) (z : KS), g_X0_lookAndMoveOn n (f + 8) 75 [(0, .inl (.ref 8)), (1, .inl (.int (s.1 12 (s.1 8 6).toNatClampNeg))), (2, .inl (.int (0 : Int32)))] [.inl (.ref 8)] (kH nf ns rest z) (0, 0) = some (.inl (some (.inl (.int (0 : Int32)))), kH nf ns rest (kS z 8 6 ((z.1 8 6) + (1 : Int32)))) from fun f n z => rfl) 954 399 (kS s1 13 (s1.1 8 6).toNatClampNeg (am_nar 1 (0 : Int32)))).trans ?_
          rfl
      · refine ((show ∀ f n : Nat, g_X0_lookAndMoveOn n (f + 8) 35 [(0, .inl (.ref 8)), (1, .inl (.int (s.1 12 (s.1 8 6).toNatClampNeg)))] [] (kH nf ns rest s1) (0, 0) = am_rv (F_X0_sendOut [.inl (.ref 8), .inl (.int (s.1 12 (s.1 8 6).toNatClampNeg))] (kH nf ns rest s1)) (fun h => g_X0_lookAndMoveOn n f 50 [(0, .inl (.ref 8)), (1, .inl (.int (s.1 12 (s.1 8 6).toNatClampNeg))), (2, .inl (.int (1 : Int32)))] [] h (0, 0)) (fun x h => some (.inr x, h)) from fun f n => rfl) 973 399).trans ?_
        rw [e_X0_sendOut (s.1 12 (s.1 8 6).toNatClampNeg) s1]
        refine am_lbv (fun s3 => ?_) (fun _ _ => rfl)
        refine ((show ∀ f n : Nat, g_X0_lookAndMoveOn n (f + 15) 50 [(0, .inl (.ref 8)), (1, .inl (.int (s.1 12 (s.1 8 6).toNatClampNeg))), (2, .inl (.int (1 : Int32)))] [] (kH nf ns rest s3) (0, 0) = cond (am_in (s3.1 8 6) nf) (cond (decide ((Int32.ofNat nf) ≤ (((kS s3 13 (s3.1 8 6).toNatClampNeg (am_nar 1 (0 : Int32))).1 8 6) + (1 : Int32)))) (g_X0_lookAndMoveOn n f 84 [(0, .inl (.ref 8)), (1, .inl (.int (s.1 12 (s.1 8 6).toNatClampNeg))), (2, .inl (.int (1 : Int32)))] [.inl (.ref 8)] (kH nf ns rest (kS s3 13 (s3.1 8 6).toNatClampNeg (am_nar 1 (0 : Int32)))) (0, 0)) (g_X0_lookAndMoveOn n f 75 [(0, .inl (.ref 8)), (1, .inl (.int (s.1 12 (s.1 8 6).toNatClampNeg))), (2, .inl (.int (1 : Int32)))] [.inl (.ref 8)] (kH nf ns rest (kS s3 13 (s3.1 8 6).toNatClampNeg (am_nar 1 (0 : Int32)))) (0, 0))) none from fun f n => rfl) 958 399).trans ?_
        refine am_lcd (B := none) ?_ rfl
        refine am_lcd ?_ ?_
        · refine ((show ∀ (f n : Nat) (z : KS), g_X0_lookAndMoveOn n (f + 4) 84 [(0, .inl (.ref 8)), (1, .inl (.int (s.1 12 (s.1 8 6).toNatClampNeg))), (2, .inl (.int (1 : Int32)))] [.inl (.ref 8)] (kH nf ns rest z) (0, 0) = some (.inl (some (.inl (.int (1 : Int32)))), kH nf ns rest (kS z 8 6 (0 : Int32))) from fun f n z => rfl) 954 399 (kS s3 13 (s3.1 8 6).toNatClampNeg (am_nar 1 (0 : Int32)))).trans ?_
          rfl
        · refine ((show ∀ (f n : Nat) (z : KS), g_X0_lookAndMoveOn n (f + 8) 75 [(0, .inl (.ref 8)), (1, .inl (.int (s.1 12 (s.1 8 6).toNatClampNeg))), (2, .inl (.int (1 : Int32)))] [.inl (.ref 8)] (kH nf ns rest z) (0, 0) = some (.inl (some (.inl (.int (1 : Int32)))), kH nf ns rest (kS z 8 6 ((z.1 8 6) + (1 : Int32)))) from fun f n z => rfl) 950 399 (kS s3 13 (s3.1 8 6).toNatClampNeg (am_nar 1 (0 : Int32)))).trans ?_
          rfl
set_option maxRecDepth 20000 in
def g_X0_getFrame (n f pc : Nat) (lv : am_Lv) (st : List am_V) (h : am_H) (b : Nat × Nat) : Option am_O := am_go X_X0_getFrame 4 (some .int) am_rs0 [] [(17, [0, 2])] (am_lp T_X0_getFrame X_X0_getFrame 4 (some .int) am_rs0 [] [(17, [0, 2])] n) f (am_from pc T_X0_getFrame) lv st h b
set_option maxRecDepth 20000 in
def j_X0_getFrame (n pc : Nat) (lv : am_Lv) (st : List am_V) (h : am_H) (b : Nat × Nat) : Option am_O := am_lp T_X0_getFrame X_X0_getFrame 4 (some .int) am_rs0 [] [(17, [0, 2])] n pc lv st h b
set_option maxRecDepth 20000 in
theorem j_X0_getFrame_g (n pc : Nat) (lv : am_Lv) (st : List am_V) (h : am_H) (b : Nat × Nat) : j_X0_getFrame (n + 1) pc lv st h b = g_X0_getFrame n 1000 pc lv st h b := rfl
set_option maxRecDepth 20000 in
theorem j_X0_getFrame_0 (pc : Nat) (lv : am_Lv) (st : List am_V) (h : am_H) (b : Nat × Nat) : j_X0_getFrame 0 pc lv st h b = none := rfl
set_option maxRecDepth 20000 in
def p_X0_leastFree_12_L2 (nf ns : Nat) : Nat → Int32 → KS → KR
  | 0, _, _ => none
  | n + 1, l1, s => cond (decide ((Int32.ofNat nf) ≤ l1)) (some (.inl (some (-1 : Int32)), s)) (cond (am_in l1 nf) (cond (!decide ((s.1 12 l1.toNatClampNeg) = (-1 : Int32))) (p_X0_leastFree_12_L2 nf ns n (l1 + (1 : Int32)) s) (some (.inl (some l1), s))) none)
set_option maxRecDepth 20000 in
theorem b_X0_leastFree_12_L2 {nf ns : Nat} {rest : am_H} (n : Nat) (ih : ∀ (l1 : Int32) (s : KS), j_X0_leastFree n 2 [(0, .inl (.ref 12)), (1, .inl (.int l1))] [] (kH nf ns rest s) (0, 0) = am_lf (kH nf ns rest) (p_X0_leastFree_12_L2 nf ns n l1 s)) (f : Nat) (l1 : Int32) (s : KS) : g_X0_leastFree n (f + 14) 2 [(0, .inl (.ref 12)), (1, .inl (.int l1))] [] (kH nf ns rest s) (0, 0) = am_lf (kH nf ns rest) (p_X0_leastFree_12_L2 nf ns (n + 1) l1 s) := by
  rw [p_X0_leastFree_12_L2]
  refine ((show ∀ f n : Nat, g_X0_leastFree n (f + 4) 2 [(0, .inl (.ref 12)), (1, .inl (.int l1))] [] (kH nf ns rest s) (0, 0) = cond (decide ((Int32.ofNat nf) ≤ l1)) (g_X0_leastFree n f 23 [(0, .inl (.ref 12)), (1, .inl (.int l1))] [] (kH nf ns rest s) (0, 0)) (g_X0_leastFree n f 8 [(0, .inl (.ref 12)), (1, .inl (.int l1))] [] (kH nf ns rest s) (0, 0)) from fun f n => rfl) (f + 10) n).trans ?_
  refine am_lcd ?_ ?_
  · refine ((show ∀ f n : Nat, g_X0_leastFree n (f + 2) 23 [(0, .inl (.ref 12)), (1, .inl (.int l1))] [] (kH nf ns rest s) (0, 0) = some (.inl (some (.inl (.int (-1 : Int32)))), kH nf ns rest s) from fun f n => rfl) (f + 8) n).trans ?_
    rfl
  · refine ((show ∀ f n : Nat, g_X0_leastFree n (f + 5) 8 [(0, .inl (.ref 12)), (1, .inl (.int l1))] [] (kH nf ns rest s) (0, 0) = cond (am_in l1 nf) (cond (!decide ((s.1 12 l1.toNatClampNeg) = (-1 : Int32))) (g_X0_leastFree n f 17 [(0, .inl (.ref 12)), (1, .inl (.int l1))] [] (kH nf ns rest s) (0, 0)) (g_X0_leastFree n f 15 [(0, .inl (.ref 12)), (1, .inl (.int l1))] [] (kH nf ns rest s) (0, 0))) none from fun f n => rfl) (f + 5) n).trans ?_
    refine am_lcd (B := none) ?_ rfl
    refine am_lcd ?_ ?_
    · refine ((show ∀ f n : Nat, g_X0_leastFree n (f + 2) 17 [(0, .inl (.ref 12)), (1, .inl (.int l1))] [] (kH nf ns rest s) (0, 0) = j_X0_leastFree n 2 [(0, .inl (.ref 12)), (1, .inl (.int (l1 + (1 : Int32))))] [] (kH nf ns rest s) (0, 0) from fun f n => rfl) (f + 3) n).trans ?_
      exact ih (l1 + (1 : Int32)) s
    · refine ((show ∀ f n : Nat, g_X0_leastFree n (f + 2) 15 [(0, .inl (.ref 12)), (1, .inl (.int l1))] [] (kH nf ns rest s) (0, 0) = some (.inl (some (.inl (.int l1))), kH nf ns rest s) from fun f n => rfl) (f + 3) n).trans ?_
      rfl
set_option maxRecDepth 20000 in
theorem e_X0_leastFree_12_L2 {nf ns : Nat} {rest : am_H} : ∀ (n : Nat) (l1 : Int32) (s : KS), j_X0_leastFree n 2 [(0, .inl (.ref 12)), (1, .inl (.int l1))] [] (kH nf ns rest s) (0, 0) = am_lf (kH nf ns rest) (p_X0_leastFree_12_L2 nf ns n l1 s)
  | 0, _, _ => by rw [p_X0_leastFree_12_L2]; rfl
  | n + 1, l1, s => (j_X0_leastFree_g n 2 _ _ _ _).trans (b_X0_leastFree_12_L2 n (e_X0_leastFree_12_L2 n) 986 l1 s)
set_option maxRecDepth 20000 in
def p_X0_leastFree_12 (nf ns : Nat)  (s : KS) : KR := p_X0_leastFree_12_L2 nf ns 400 (0 : Int32) s
set_option maxRecDepth 20000 in
theorem e_X0_leastFree_12 {nf ns : Nat} {rest : am_H}  (s : KS) : F_X0_leastFree [.inl (.ref 12)] (kH nf ns rest s) = am_lf (kH nf ns rest) (p_X0_leastFree_12 nf ns  s) := by
  rw [p_X0_leastFree_12]
  refine (show _ = g_X0_leastFree 399 1000 0 [(0, .inl (.ref 12))] [] (kH nf ns rest s) (0, 0) from am_fn_g (Nat.le_of_ble_eq_true rfl)).trans ?_
  refine ((show ∀ f n : Nat, g_X0_leastFree n (f + 2) 0 [(0, .inl (.ref 12))] [] (kH nf ns rest s) (0, 0) = g_X0_leastFree n f 2 [(0, .inl (.ref 12)), (1, .inl (.int (0 : Int32)))] [] (kH nf ns rest s) (0, 0) from fun f n => rfl) 998 399).trans ?_
  exact b_X0_leastFree_12_L2 399 (e_X0_leastFree_12_L2 399) 984 (0 : Int32) s
set_option maxRecDepth 20000 in
def p_X0_getFrame_L17 (nf ns : Nat) : Nat → Int32 → KS → KR
  | 0, _, _ => none
  | n + 1, l2, s => cond (decide (((2 : Int32) * (Int32.ofNat nf)) ≤ l2)) (some (.inl (some (-1 : Int32)), s)) (kbi (p_X0_lookAndMoveOn nf ns  s) (fun x4 s3 => cond (decide (x4 = (0 : Int32))) (p_X0_getFrame_L17 nf ns n (l2 + (1 : Int32)) s3) (some (.inl (some (s.1 8 6)), s3))))
set_option maxRecDepth 20000 in
theorem b_X0_getFrame_L17 {nf ns : Nat} {rest : am_H} (n : Nat) (ih : ∀ (l2 : Int32) (s : KS), j_X0_getFrame n 17 [(0, .inl (.ref 8)), (2, .inl (.int l2))] [] (kH nf ns rest s) (0, 0) = am_lf (kH nf ns rest) (p_X0_getFrame_L17 nf ns n l2 s)) (f : Nat) (l2 : Int32) (s : KS) : g_X0_getFrame n (f + 18) 17 [(0, .inl (.ref 8)), (2, .inl (.int l2))] [] (kH nf ns rest s) (0, 0) = am_lf (kH nf ns rest) (p_X0_getFrame_L17 nf ns (n + 1) l2 s) := by
  rw [p_X0_getFrame_L17]
  refine ((show ∀ f n : Nat, g_X0_getFrame n (f + 7) 17 [(0, .inl (.ref 8)), (2, .inl (.int l2))] [] (kH nf ns rest s) (0, 0) = cond (decide (((2 : Int32) * (Int32.ofNat nf)) ≤ l2)) (g_X0_getFrame n f 48 [(0, .inl (.ref 8)), (2, .inl (.int l2))] [] (kH nf ns rest s) (0, 0)) (g_X0_getFrame n f 28 [(0, .inl (.ref 8)), (2, .inl (.int l2))] [] (kH nf ns rest s) (0, 0)) from fun f n => rfl) (f + 11) n).trans ?_
  refine am_lcd ?_ ?_
  · refine ((show ∀ f n : Nat, g_X0_getFrame n (f + 2) 48 [(0, .inl (.ref 8)), (2, .inl (.int l2))] [] (kH nf ns rest s) (0, 0) = some (.inl (some (.inl (.int (-1 : Int32)))), kH nf ns rest s) from fun f n => rfl) (f + 9) n).trans ?_
    rfl
  · refine ((show ∀ f n : Nat, g_X0_getFrame n (f + 5) 28 [(0, .inl (.ref 8)), (2, .inl (.int l2))] [] (kH nf ns rest s) (0, 0) = am_ri (F_X0_lookAndMoveOn [.inl (.ref 8)] (kH nf ns rest s)) (fun x4 h => g_X0_getFrame n f 37 [(0, .inl (.ref 8)), (2, .inl (.int l2)), (3, .inl (.int (s.1 8 6)))] [.inl (.int x4)] h (0, 0)) (fun x h => some (.inr x, h)) from fun f n => rfl) (f + 6) n).trans ?_
    rw [e_X0_lookAndMoveOn  s]
    refine am_lbi (fun x4 s3 => ?_) (fun _ _ => rfl)
    refine ((show ∀ f n : Nat, g_X0_getFrame n (f + 1) 37 [(0, .inl (.ref 8)), (2, .inl (.int l2)), (3, .inl (.int (s.1 8 6)))] [.inl (.int x4)] (kH nf ns rest s3) (0, 0) = cond (decide (x4 = (0 : Int32))) (g_X0_getFrame n f 42 [(0, .inl (.ref 8)), (2, .inl (.int l2)), (3, .inl (.int (s.1 8 6)))] [] (kH nf ns rest s3) (0, 0)) (g_X0_getFrame n f 40 [(0, .inl (.ref 8)), (2, .inl (.int l2)), (3, .inl (.int (s.1 8 6)))] [] (kH nf ns rest s3) (0, 0)) from fun f n => rfl) (f + 5) n).trans ?_
    refine am_lcd ?_ ?_
    · refine ((show ∀ f n : Nat, g_X0_getFrame n (f + 2) 42 [(0, .inl (.ref 8)), (2, .inl (.int l2)), (3, .inl (.int (s.1 8 6)))] [] (kH nf ns rest s3) (0, 0) = j_X0_getFrame n 17 [(0, .inl (.ref 8)), (2, .inl (.int (l2 + (1 : Int32))))] [] (kH nf ns rest s3) (0, 0) from fun f n => rfl) (f + 3) n).trans ?_
      exact ih (l2 + (1 : Int32)) s3
    · refine ((show ∀ f n : Nat, g_X0_getFrame n (f + 2) 40 [(0, .inl (.ref 8)), (2, .inl (.int l2)), (3, .inl (.int (s.1 8 6)))] [] (kH nf ns rest s3) (0, 0) = some (.inl (some (.inl (.int (s.1 8 6)))), kH nf ns rest s3) from fun f n => rfl) (f + 3) n).trans ?_
      rfl
set_option maxRecDepth 20000 in
theorem e_X0_getFrame_L17 {nf ns : Nat} {rest : am_H} : ∀ (n : Nat) (l2 : Int32) (s : KS), j_X0_getFrame n 17 [(0, .inl (.ref 8)), (2, .inl (.int l2))] [] (kH nf ns rest s) (0, 0) = am_lf (kH nf ns rest) (p_X0_getFrame_L17 nf ns n l2 s)
  | 0, _, _ => by rw [p_X0_getFrame_L17]; rfl
  | n + 1, l2, s => (j_X0_getFrame_g n 17 _ _ _ _).trans (b_X0_getFrame_L17 n (e_X0_getFrame_L17 n) 982 l2 s)
set_option maxRecDepth 20000 in
def p_X0_getFrame (nf ns : Nat)  (s : KS) : KR := kbi (p_X0_leastFree_12 nf ns  s) (fun x2 s1 => cond (decide (x2 = (-1 : Int32))) (p_X0_getFrame_L17 nf ns 400 (0 : Int32) s1) (some (.inl (some x2), s1)))
set_option maxRecDepth 20000 in
theorem e_X0_getFrame {nf ns : Nat} {rest : am_H}  (s : KS) : F_X0_getFrame [.inl (.ref 8)] (kH nf ns rest s) = am_lf (kH nf ns rest) (p_X0_getFrame nf ns  s) := by
  rw [p_X0_getFrame]
  refine (show _ = g_X0_getFrame 399 1000 0 [(0, .inl (.ref 8))] [] (kH nf ns rest s) (0, 0) from am_fn_g (Nat.le_of_ble_eq_true rfl)).trans ?_
  refine ((show ∀ f n : Nat, g_X0_getFrame n (f + 3) 0 [(0, .inl (.ref 8))] [] (kH nf ns rest s) (0, 0) = am_ri (F_X0_leastFree [.inl (.ref 12)] (kH nf ns rest s)) (fun x2 h => g_X0_getFrame n f 7 [(0, .inl (.ref 8))] [.inl (.int x2)] h (0, 0)) (fun x h => some (.inr x, h)) from fun f n => rfl) 997 399).trans ?_
  rw [e_X0_leastFree_12  s]
  refine am_lbi (fun x2 s1 => ?_) (fun _ _ => rfl)
  refine ((show ∀ f n : Nat, g_X0_getFrame n (f + 4) 7 [(0, .inl (.ref 8))] [.inl (.int x2)] (kH nf ns rest s1) (0, 0) = cond (decide (x2 = (-1 : Int32))) (g_X0_getFrame n f 15 [(0, .inl (.ref 8)), (1, .inl (.int x2))] [] (kH nf ns rest s1) (0, 0)) (g_X0_getFrame n f 13 [(0, .inl (.ref 8)), (1, .inl (.int x2))] [] (kH nf ns rest s1) (0, 0)) from fun f n => rfl) 993 399).trans ?_
  refine am_lcd ?_ ?_
  · refine ((show ∀ f n : Nat, g_X0_getFrame n (f + 2) 15 [(0, .inl (.ref 8)), (1, .inl (.int x2))] [] (kH nf ns rest s1) (0, 0) = g_X0_getFrame n f 17 [(0, .inl (.ref 8)), (1, .inl (.int x2)), (2, .inl (.int (0 : Int32)))] [] (kH nf ns rest s1) (0, 0) from fun f n => rfl) 991 399).trans ?_
    refine ((show ∀ f n : Nat, g_X0_getFrame n (f + 1) 17 [(0, .inl (.ref 8)), (1, .inl (.int x2)), (2, .inl (.int (0 : Int32)))] [] (kH nf ns rest s1) (0, 0) = g_X0_getFrame n (f + 1) 17 [(0, .inl (.ref 8)), (2, .inl (.int (0 : Int32)))] [] (kH nf ns rest s1) (0, 0) from fun f n => rfl) 990 399).trans ?_
    exact b_X0_getFrame_L17 399 (e_X0_getFrame_L17 399) 973 (0 : Int32) s1
  · refine ((show ∀ f n : Nat, g_X0_getFrame n (f + 2) 13 [(0, .inl (.ref 8)), (1, .inl (.int x2))] [] (kH nf ns rest s1) (0, 0) = some (.inl (some (.inl (.int x2))), kH nf ns rest s1) from fun f n => rfl) 991 399).trans ?_
    rfl
set_option maxRecDepth 20000 in
def g_X0_settle (n f pc : Nat) (lv : am_Lv) (st : List am_V) (h : am_H) (b : Nat × Nat) : Option am_O := am_go X_X0_settle 3 none am_rs0 [] [] (am_lp T_X0_settle X_X0_settle 3 none am_rs0 [] [] n) f (am_from pc T_X0_settle) lv st h b
set_option maxRecDepth 20000 in
def j_X0_settle (n pc : Nat) (lv : am_Lv) (st : List am_V) (h : am_H) (b : Nat × Nat) : Option am_O := am_lp T_X0_settle X_X0_settle 3 none am_rs0 [] [] n pc lv st h b
set_option maxRecDepth 20000 in
theorem j_X0_settle_g (n pc : Nat) (lv : am_Lv) (st : List am_V) (h : am_H) (b : Nat × Nat) : j_X0_settle (n + 1) pc lv st h b = g_X0_settle n 1000 pc lv st h b := rfl
set_option maxRecDepth 20000 in
theorem j_X0_settle_0 (pc : Nat) (lv : am_Lv) (st : List am_V) (h : am_H) (b : Nat × Nat) : j_X0_settle 0 pc lv st h b = none := rfl
set_option maxRecDepth 20000 in
def p_X0_settle (nf ns : Nat) (a1 : Int32) (a2 : Int32) (s : KS) : KR := cond (am_in a2 nf) (cond (am_in a1 60) (cond (am_in a2 nf) (some (.inl none, (kS (kS (kS s 12 a2.toNatClampNeg (a1)) 11 a1.toNatClampNeg (a2)) 13 a2.toNatClampNeg (am_nar 1 (1 : Int32))))) none) none) none
set_option maxRecDepth 20000 in
theorem e_X0_settle {nf ns : Nat} {rest : am_H} (a1 : Int32) (a2 : Int32) (s : KS) : F_X0_settle [.inl (.ref 8), .inl (.int a1), .inl (.int a2)] (kH nf ns rest s) = am_lf (kH nf ns rest) (p_X0_settle nf ns a1 a2 s) := by
  rw [p_X0_settle]
  refine (show _ = g_X0_settle 399 1000 0 [(0, .inl (.ref 8)), (1, .inl (.int a1)), (2, .inl (.int a2))] [] (kH nf ns rest s) (0, 0) from am_fn_g (Nat.le_of_ble_eq_true rfl)).trans ?_
  refine ((show ∀ f n : Nat, g_X0_settle n (f + 16) 0 [(0, .inl (.ref 8)), (1, .inl (.int a1)), (2, .inl (.int a2))] [] (kH nf ns rest s) (0, 0) = cond (am_in a2 nf) (cond (am_in a1 60) (cond (am_in a2 nf) (some (.inl none, kH nf ns rest (kS (kS (kS s 12 a2.toNatClampNeg (a1)) 11 a1.toNatClampNeg (a2)) 13 a2.toNatClampNeg (am_nar 1 (1 : Int32))))) none) none) none from fun f n => rfl) 984 399).trans ?_
  refine am_lcd (B := none) ?_ rfl
  refine am_lcd (B := none) ?_ rfl
  refine am_lcd (B := none) ?_ rfl
  rfl
set_option maxRecDepth 20000 in
def g_X0_touch (n f pc : Nat) (lv : am_Lv) (st : List am_V) (h : am_H) (b : Nat × Nat) : Option am_O := am_go X_X0_touch 3 (some .boolean) am_rs0 [] [] (am_lp T_X0_touch X_X0_touch 3 (some .boolean) am_rs0 [] [] n) f (am_from pc T_X0_touch) lv st h b
set_option maxRecDepth 20000 in
def j_X0_touch (n pc : Nat) (lv : am_Lv) (st : List am_V) (h : am_H) (b : Nat × Nat) : Option am_O := am_lp T_X0_touch X_X0_touch 3 (some .boolean) am_rs0 [] [] n pc lv st h b
set_option maxRecDepth 20000 in
theorem j_X0_touch_g (n pc : Nat) (lv : am_Lv) (st : List am_V) (h : am_H) (b : Nat × Nat) : j_X0_touch (n + 1) pc lv st h b = g_X0_touch n 1000 pc lv st h b := rfl
set_option maxRecDepth 20000 in
theorem j_X0_touch_0 (pc : Nat) (lv : am_Lv) (st : List am_V) (h : am_H) (b : Nat × Nat) : j_X0_touch 0 pc lv st h b = none := rfl
set_option maxRecDepth 20000 in
def p_X0_touch (nf ns : Nat) (a1 : Int32) (s : KS) : KR := kbi (p_X0_isIn nf ns a1 s) (fun x2 s1 => cond (decide (x2 = (0 : Int32))) (kbi (p_X0_getFrame nf ns  s1) (fun x4 s3 => cond (!decide (x4 = (-1 : Int32))) (kbv (p_X0_vacate nf ns a1 s3) (fun s5 => kbv (p_X0_settle nf ns a1 x4 s5) (fun s6 => some (.inl (some (1 : Int32)), (kS s6 8 7 ((s6.1 8 7) + (1 : Int32))))))) (some (.inl (some (0 : Int32)), s3)))) (cond (am_in a1 60) (cond (am_in (s1.1 11 a1.toNatClampNeg) nf) (some (.inl (some (1 : Int32)), (kS s1 13 (s1.1 11 a1.toNatClampNeg).toNatClampNeg (am_nar 1 (1 : Int32))))) none) none))
set_option maxRecDepth 20000 in
theorem e_X0_touch {nf ns : Nat} {rest : am_H} (a1 : Int32) (s : KS) : F_X0_touch [.inl (.ref 8), .inl (.int a1)] (kH nf ns rest s) = am_lf (kH nf ns rest) (p_X0_touch nf ns a1 s) := by
  rw [p_X0_touch]
  refine (show _ = g_X0_touch 399 1000 0 [(0, .inl (.ref 8)), (1, .inl (.int a1))] [] (kH nf ns rest s) (0, 0) from am_fn_g (Nat.le_of_ble_eq_true rfl)).trans ?_
  refine ((show ∀ f n : Nat, g_X0_touch n (f + 3) 0 [(0, .inl (.ref 8)), (1, .inl (.int a1))] [] (kH nf ns rest s) (0, 0) = am_ri (F_X0_isIn [.inl (.ref 8), .inl (.int a1)] (kH nf ns rest s)) (fun x2 h => g_X0_touch n f 5 [(0, .inl (.ref 8)), (1, .inl (.int a1))] [.inl (.int x2)] h (0, 0)) (fun x h => some (.inr x, h)) from fun f n => rfl) 997 399).trans ?_
  rw [e_X0_isIn a1 s]
  refine am_lbi (fun x2 s1 => ?_) (fun _ _ => rfl)
  refine ((show ∀ f n : Nat, g_X0_touch n (f + 1) 5 [(0, .inl (.ref 8)), (1, .inl (.int a1))] [.inl (.int x2)] (kH nf ns rest s1) (0, 0) = cond (decide (x2 = (0 : Int32))) (g_X0_touch n f 22 [(0, .inl (.ref 8)), (1, .inl (.int a1))] [] (kH nf ns rest s1) (0, 0)) (g_X0_touch n f 8 [(0, .inl (.ref 8)), (1, .inl (.int a1))] [] (kH nf ns rest s1) (0, 0)) from fun f n => rfl) 996 399).trans ?_
  refine am_lcd ?_ ?_
  · refine ((show ∀ f n : Nat, g_X0_touch n (f + 2) 22 [(0, .inl (.ref 8)), (1, .inl (.int a1))] [] (kH nf ns rest s1) (0, 0) = am_ri (F_X0_getFrame [.inl (.ref 8)] (kH nf ns rest s1)) (fun x4 h => g_X0_touch n f 26 [(0, .inl (.ref 8)), (1, .inl (.int a1))] [.inl (.int x4)] h (0, 0)) (fun x h => some (.inr x, h)) from fun f n => rfl) 994 399).trans ?_
    rw [e_X0_getFrame  s1]
    refine am_lbi (fun x4 s3 => ?_) (fun _ _ => rfl)
    refine ((show ∀ f n : Nat, g_X0_touch n (f + 4) 26 [(0, .inl (.ref 8)), (1, .inl (.int a1))] [.inl (.int x4)] (kH nf ns rest s3) (0, 0) = cond (!decide (x4 = (-1 : Int32))) (g_X0_touch n f 34 [(0, .inl (.ref 8)), (1, .inl (.int a1)), (2, .inl (.int x4))] [] (kH nf ns rest s3) (0, 0)) (g_X0_touch n f 32 [(0, .inl (.ref 8)), (1, .inl (.int a1)), (2, .inl (.int x4))] [] (kH nf ns rest s3) (0, 0)) from fun f n => rfl) 990 399).trans ?_
    refine am_lcd ?_ ?_
    · refine ((show ∀ f n : Nat, g_X0_touch n (f + 3) 34 [(0, .inl (.ref 8)), (1, .inl (.int a1)), (2, .inl (.int x4))] [] (kH nf ns rest s3) (0, 0) = am_rv (F_X0_vacate [.inl (.ref 8), .inl (.int a1)] (kH nf ns rest s3)) (fun h => g_X0_touch n f 39 [(0, .inl (.ref 8)), (1, .inl (.int a1)), (2, .inl (.int x4))] [] h (0, 0)) (fun x h => some (.inr x, h)) from fun f n => rfl) 987 399).trans ?_
      rw [e_X0_vacate a1 s3]
      refine am_lbv (fun s5 => ?_) (fun _ _ => rfl)
      refine ((show ∀ f n : Nat, g_X0_touch n (f + 4) 39 [(0, .inl (.ref 8)), (1, .inl (.int a1)), (2, .inl (.int x4))] [] (kH nf ns rest s5) (0, 0) = am_rv (F_X0_settle [.inl (.ref 8), .inl (.int a1), .inl (.int x4)] (kH nf ns rest s5)) (fun h => g_X0_touch n f 45 [(0, .inl (.ref 8)), (1, .inl (.int a1)), (2, .inl (.int x4))] [] h (0, 0)) (fun x h => some (.inr x, h)) from fun f n => rfl) 983 399).trans ?_
      rw [e_X0_settle a1 x4 s5]
      refine am_lbv (fun s6 => ?_) (fun _ _ => rfl)
      refine ((show ∀ f n : Nat, g_X0_touch n (f + 8) 45 [(0, .inl (.ref 8)), (1, .inl (.int a1)), (2, .inl (.int x4))] [] (kH nf ns rest s6) (0, 0) = some (.inl (some (.inl (.int (1 : Int32)))), kH nf ns rest (kS s6 8 7 ((s6.1 8 7) + (1 : Int32)))) from fun f n => rfl) 975 399).trans ?_
      rfl
    · refine ((show ∀ f n : Nat, g_X0_touch n (f + 2) 32 [(0, .inl (.ref 8)), (1, .inl (.int a1)), (2, .inl (.int x4))] [] (kH nf ns rest s3) (0, 0) = some (.inl (some (.inl (.int (0 : Int32)))), kH nf ns rest s3) from fun f n => rfl) 988 399).trans ?_
      rfl
  · refine ((show ∀ f n : Nat, g_X0_touch n (f + 10) 8 [(0, .inl (.ref 8)), (1, .inl (.int a1))] [] (kH nf ns rest s1) (0, 0) = cond (am_in a1 60) (cond (am_in (s1.1 11 a1.toNatClampNeg) nf) (some (.inl (some (.inl (.int (1 : Int32)))), kH nf ns rest (kS s1 13 (s1.1 11 a1.toNatClampNeg).toNatClampNeg (am_nar 1 (1 : Int32))))) none) none from fun f n => rfl) 986 399).trans ?_
    refine am_lcd (B := none) ?_ rfl
    refine am_lcd (B := none) ?_ rfl
    rfl
set_option maxRecDepth 20000 in
def g_X0_wordOf (n f pc : Nat) (lv : am_Lv) (st : List am_V) (h : am_H) (b : Nat × Nat) : Option am_O := am_go X_X0_wordOf 3 (some .int) am_rs0 [] [] (am_lp T_X0_wordOf X_X0_wordOf 3 (some .int) am_rs0 [] [] n) f (am_from pc T_X0_wordOf) lv st h b
set_option maxRecDepth 20000 in
def j_X0_wordOf (n pc : Nat) (lv : am_Lv) (st : List am_V) (h : am_H) (b : Nat × Nat) : Option am_O := am_lp T_X0_wordOf X_X0_wordOf 3 (some .int) am_rs0 [] [] n pc lv st h b
set_option maxRecDepth 20000 in
theorem j_X0_wordOf_g (n pc : Nat) (lv : am_Lv) (st : List am_V) (h : am_H) (b : Nat × Nat) : j_X0_wordOf (n + 1) pc lv st h b = g_X0_wordOf n 1000 pc lv st h b := rfl
set_option maxRecDepth 20000 in
theorem j_X0_wordOf_0 (pc : Nat) (lv : am_Lv) (st : List am_V) (h : am_H) (b : Nat × Nat) : j_X0_wordOf 0 pc lv st h b = none := rfl
set_option maxRecDepth 20000 in
def p_X0_wordOf (nf ns : Nat) (a1 : Int32) (a2 : Int32) (s : KS) : KR := cond (am_in ((a1 * (4 : Int32)) + a2) 240) (some (.inl (some (s.1 9 ((a1 * (4 : Int32)) + a2).toNatClampNeg)), s)) none
set_option maxRecDepth 20000 in
theorem e_X0_wordOf {nf ns : Nat} {rest : am_H} (a1 : Int32) (a2 : Int32) (s : KS) : F_X0_wordOf [.inl (.ref 8), .inl (.int a1), .inl (.int a2)] (kH nf ns rest s) = am_lf (kH nf ns rest) (p_X0_wordOf nf ns a1 a2 s) := by
  rw [p_X0_wordOf]
  refine (show _ = g_X0_wordOf 399 1000 0 [(0, .inl (.ref 8)), (1, .inl (.int a1)), (2, .inl (.int a2))] [] (kH nf ns rest s) (0, 0) from am_fn_g (Nat.le_of_ble_eq_true rfl)).trans ?_
  refine ((show ∀ f n : Nat, g_X0_wordOf n (f + 9) 0 [(0, .inl (.ref 8)), (1, .inl (.int a1)), (2, .inl (.int a2))] [] (kH nf ns rest s) (0, 0) = cond (am_in ((a1 * (4 : Int32)) + a2) 240) (some (.inl (some (.inl (.int (s.1 9 ((a1 * (4 : Int32)) + a2).toNatClampNeg)))), kH nf ns rest s)) none from fun f n => rfl) 991 399).trans ?_
  refine am_lcd (B := none) ?_ rfl
  rfl
set_option maxRecDepth 20000 in
def g_X0_touchOwn (n f pc : Nat) (lv : am_Lv) (st : List am_V) (h : am_H) (b : Nat × Nat) : Option am_O := am_go X_X0_touchOwn 4 (some .int) am_rs0 [] [] (am_lp T_X0_touchOwn X_X0_touchOwn 4 (some .int) am_rs0 [] [] n) f (am_from pc T_X0_touchOwn) lv st h b
set_option maxRecDepth 20000 in
def j_X0_touchOwn (n pc : Nat) (lv : am_Lv) (st : List am_V) (h : am_H) (b : Nat × Nat) : Option am_O := am_lp T_X0_touchOwn X_X0_touchOwn 4 (some .int) am_rs0 [] [] n pc lv st h b
set_option maxRecDepth 20000 in
theorem j_X0_touchOwn_g (n pc : Nat) (lv : am_Lv) (st : List am_V) (h : am_H) (b : Nat × Nat) : j_X0_touchOwn (n + 1) pc lv st h b = g_X0_touchOwn n 1000 pc lv st h b := rfl
set_option maxRecDepth 20000 in
theorem j_X0_touchOwn_0 (pc : Nat) (lv : am_Lv) (st : List am_V) (h : am_H) (b : Nat × Nat) : j_X0_touchOwn 0 pc lv st h b = none := rfl
set_option maxRecDepth 20000 in
def p_X0_touchOwn (nf ns : Nat) (a1 : Int32) (s : KS) : KR := kbi (p_X0_touch nf ns a1 s) (fun x2 s1 => cond (!decide (x2 = (0 : Int32))) (cond (am_in a1 60) (cond (!decide ((s1.1 10 a1.toNatClampNeg) = (1 : Int32))) (kbi (p_X0_getFrame nf ns  s1) (fun x4 s3 => cond (!decide (x4 = (-1 : Int32))) (kbi (p_X0_newPage nf ns  s3) (fun x6 s5 => cond (!decide ((a1 * (4 : Int32)) < 0) && (!decide ((x6 * (4 : Int32)) < 0) && (!decide ((4 : Int32) < 0) && (decide ((a1 * (4 : Int32)).toNatClampNeg + (4 : Int32).toNatClampNeg ≤ 240) && decide ((x6 * (4 : Int32)).toNatClampNeg + (4 : Int32).toNatClampNeg ≤ 240))))) (kbv (p_X0_settle nf ns x6 x4 (kC s5 9 (a1 * (4 : Int32)).toNatClampNeg (x6 * (4 : Int32)).toNatClampNeg (4 : Int32).toNatClampNeg)) (fun s7 => kbv (p_X0_leave nf ns a1 (kS s7 8 8 ((s7.1 8 8) + (1 : Int32)))) (fun s8 => some (.inl (some x6), s8)))) none)) (some (.inl (some (-1 : Int32)), s3)))) (some (.inl (some a1), s1))) none) (some (.inl (some (-1 : Int32)), s1)))
set_option maxRecDepth 20000 in
theorem e_X0_touchOwn {nf ns : Nat} {rest : am_H} (a1 : Int32) (s : KS) : F_X0_touchOwn [.inl (.ref 8), .inl (.int a1)] (kH nf ns rest s) = am_lf (kH nf ns rest) (p_X0_touchOwn nf ns a1 s) := by
  rw [p_X0_touchOwn]
  refine (show _ = g_X0_touchOwn 399 1000 0 [(0, .inl (.ref 8)), (1, .inl (.int a1))] [] (kH nf ns rest s) (0, 0) from am_fn_g (Nat.le_of_ble_eq_true rfl)).trans ?_
  refine ((show ∀ f n : Nat, g_X0_touchOwn n (f + 3) 0 [(0, .inl (.ref 8)), (1, .inl (.int a1))] [] (kH nf ns rest s) (0, 0) = am_ri (F_X0_touch [.inl (.ref 8), .inl (.int a1)] (kH nf ns rest s)) (fun x2 h => g_X0_touchOwn n f 5 [(0, .inl (.ref 8)), (1, .inl (.int a1))] [.inl (.int x2)] h (0, 0)) (fun x h => some (.inr x, h)) from fun f n => rfl) 997 399).trans ?_
  rw [e_X0_touch a1 s]
  refine am_lbi (fun x2 s1 => ?_) (fun _ _ => rfl)
  refine ((show ∀ f n : Nat, g_X0_touchOwn n (f + 1) 5 [(0, .inl (.ref 8)), (1, .inl (.int a1))] [.inl (.int x2)] (kH nf ns rest s1) (0, 0) = cond (!decide (x2 = (0 : Int32))) (g_X0_touchOwn n f 10 [(0, .inl (.ref 8)), (1, .inl (.int a1))] [] (kH nf ns rest s1) (0, 0)) (g_X0_touchOwn n f 8 [(0, .inl (.ref 8)), (1, .inl (.int a1))] [] (kH nf ns rest s1) (0, 0)) from fun f n => rfl) 996 399).trans ?_
  refine am_lcd ?_ ?_
  · refine ((show ∀ f n : Nat, g_X0_touchOwn n (f + 6) 10 [(0, .inl (.ref 8)), (1, .inl (.int a1))] [] (kH nf ns rest s1) (0, 0) = cond (am_in a1 60) (cond (!decide ((s1.1 10 a1.toNatClampNeg) = (1 : Int32))) (g_X0_touchOwn n f 22 [(0, .inl (.ref 8)), (1, .inl (.int a1))] [] (kH nf ns rest s1) (0, 0)) (g_X0_touchOwn n f 20 [(0, .inl (.ref 8)), (1, .inl (.int a1))] [] (kH nf ns rest s1) (0, 0))) none from fun f n => rfl) 990 399).trans ?_
    refine am_lcd (B := none) ?_ rfl
    refine am_lcd ?_ ?_
    · refine ((show ∀ f n : Nat, g_X0_touchOwn n (f + 2) 22 [(0, .inl (.ref 8)), (1, .inl (.int a1))] [] (kH nf ns rest s1) (0, 0) = am_ri (F_X0_getFrame [.inl (.ref 8)] (kH nf ns rest s1)) (fun x4 h => g_X0_touchOwn n f 26 [(0, .inl (.ref 8)), (1, .inl (.int a1))] [.inl (.int x4)] h (0, 0)) (fun x h => some (.inr x, h)) from fun f n => rfl) 988 399).trans ?_
      rw [e_X0_getFrame  s1]
      refine am_lbi (fun x4 s3 => ?_) (fun _ _ => rfl)
      refine ((show ∀ f n : Nat, g_X0_touchOwn n (f + 4) 26 [(0, .inl (.ref 8)), (1, .inl (.int a1))] [.inl (.int x4)] (kH nf ns rest s3) (0, 0) = cond (!decide (x4 = (-1 : Int32))) (g_X0_touchOwn n f 34 [(0, .inl (.ref 8)), (1, .inl (.int a1)), (2, .inl (.int x4))] [] (kH nf ns rest s3) (0, 0)) (g_X0_touchOwn n f 32 [(0, .inl (.ref 8)), (1, .inl (.int a1)), (2, .inl (.int x4))] [] (kH nf ns rest s3) (0, 0)) from fun f n => rfl) 984 399).trans ?_
      refine am_lcd ?_ ?_
      · refine ((show ∀ f n : Nat, g_X0_touchOwn n (f + 2) 34 [(0, .inl (.ref 8)), (1, .inl (.int a1)), (2, .inl (.int x4))] [] (kH nf ns rest s3) (0, 0) = am_ri (F_X0_newPage [.inl (.ref 8)] (kH nf ns rest s3)) (fun x6 h => g_X0_touchOwn n f 38 [(0, .inl (.ref 8)), (1, .inl (.int a1)), (2, .inl (.int x4))] [.inl (.int x6)] h (0, 0)) (fun x h => some (.inr x, h)) from fun f n => rfl) 982 399).trans ?_
        rw [e_X0_newPage  s3]
        refine am_lbi (fun x6 s5 => ?_) (fun _ _ => rfl)
        refine ((show ∀ f n : Nat, g_X0_touchOwn n (f + 17) 38 [(0, .inl (.ref 8)), (1, .inl (.int a1)), (2, .inl (.int x4))] [.inl (.int x6)] (kH nf ns rest s5) (0, 0) = cond (!decide ((a1 * (4 : Int32)) < 0) && (!decide ((x6 * (4 : Int32)) < 0) && (!decide ((4 : Int32) < 0) && (decide ((a1 * (4 : Int32)).toNatClampNeg + (4 : Int32).toNatClampNeg ≤ 240) && decide ((x6 * (4 : Int32)).toNatClampNeg + (4 : Int32).toNatClampNeg ≤ 240))))) (am_rv (F_X0_settle [.inl (.ref 8), .inl (.int x6), .inl (.int x4)] (kH nf ns rest (kC s5 9 (a1 * (4 : Int32)).toNatClampNeg (x6 * (4 : Int32)).toNatClampNeg (4 : Int32).toNatClampNeg))) (fun h => g_X0_touchOwn n f 63 [(0, .inl (.ref 8)), (1, .inl (.int a1)), (2, .inl (.int x4)), (3, .inl (.int x6))] [] h (0, 0)) (fun x h => some (.inr x, h))) none from fun f n => rfl) 965 399).trans ?_
        refine am_lcd (B := none) ?_ rfl
        rw [e_X0_settle x6 x4 (kC s5 9 (a1 * (4 : Int32)).toNatClampNeg (x6 * (4 : Int32)).toNatClampNeg (4 : Int32).toNatClampNeg)]
        refine am_lbv (fun s7 => ?_) (fun _ _ => rfl)
        refine ((show ∀ f n : Nat, g_X0_touchOwn n (f + 9) 63 [(0, .inl (.ref 8)), (1, .inl (.int a1)), (2, .inl (.int x4)), (3, .inl (.int x6))] [] (kH nf ns rest s7) (0, 0) = am_rv (F_X0_leave [.inl (.ref 8), .inl (.int a1)] (kH nf ns rest (kS s7 8 8 ((s7.1 8 8) + (1 : Int32))))) (fun h => g_X0_touchOwn n f 78 [(0, .inl (.ref 8)), (1, .inl (.int a1)), (2, .inl (.int x4)), (3, .inl (.int x6))] [] h (0, 0)) (fun x h => some (.inr x, h)) from fun f n => rfl) 956 399).trans ?_
        rw [e_X0_leave a1 (kS s7 8 8 ((s7.1 8 8) + (1 : Int32)))]
        refine am_lbv (fun s8 => ?_) (fun _ _ => rfl)
        refine ((show ∀ f n : Nat, g_X0_touchOwn n (f + 2) 78 [(0, .inl (.ref 8)), (1, .inl (.int a1)), (2, .inl (.int x4)), (3, .inl (.int x6))] [] (kH nf ns rest s8) (0, 0) = some (.inl (some (.inl (.int x6))), kH nf ns rest s8) from fun f n => rfl) 954 399).trans ?_
        rfl
      · refine ((show ∀ f n : Nat, g_X0_touchOwn n (f + 2) 32 [(0, .inl (.ref 8)), (1, .inl (.int a1)), (2, .inl (.int x4))] [] (kH nf ns rest s3) (0, 0) = some (.inl (some (.inl (.int (-1 : Int32)))), kH nf ns rest s3) from fun f n => rfl) 982 399).trans ?_
        rfl
    · refine ((show ∀ f n : Nat, g_X0_touchOwn n (f + 2) 20 [(0, .inl (.ref 8)), (1, .inl (.int a1))] [] (kH nf ns rest s1) (0, 0) = some (.inl (some (.inl (.int a1))), kH nf ns rest s1) from fun f n => rfl) 988 399).trans ?_
      rfl
  · refine ((show ∀ f n : Nat, g_X0_touchOwn n (f + 2) 8 [(0, .inl (.ref 8)), (1, .inl (.int a1))] [] (kH nf ns rest s1) (0, 0) = some (.inl (some (.inl (.int (-1 : Int32)))), kH nf ns rest s1) from fun f n => rfl) 994 399).trans ?_
    rfl
set_option maxRecDepth 20000 in
def g_X0_replaceWord (n f pc : Nat) (lv : am_Lv) (st : List am_V) (h : am_H) (b : Nat × Nat) : Option am_O := am_go X_X0_replaceWord 5 (some .int) am_rs0 [] [] (am_lp T_X0_replaceWord X_X0_replaceWord 5 (some .int) am_rs0 [] [] n) f (am_from pc T_X0_replaceWord) lv st h b
set_option maxRecDepth 20000 in
def j_X0_replaceWord (n pc : Nat) (lv : am_Lv) (st : List am_V) (h : am_H) (b : Nat × Nat) : Option am_O := am_lp T_X0_replaceWord X_X0_replaceWord 5 (some .int) am_rs0 [] [] n pc lv st h b
set_option maxRecDepth 20000 in
theorem j_X0_replaceWord_g (n pc : Nat) (lv : am_Lv) (st : List am_V) (h : am_H) (b : Nat × Nat) : j_X0_replaceWord (n + 1) pc lv st h b = g_X0_replaceWord n 1000 pc lv st h b := rfl
set_option maxRecDepth 20000 in
theorem j_X0_replaceWord_0 (pc : Nat) (lv : am_Lv) (st : List am_V) (h : am_H) (b : Nat × Nat) : j_X0_replaceWord 0 pc lv st h b = none := rfl
set_option maxRecDepth 20000 in
def p_X0_replaceWord (nf ns : Nat) (a1 : Int32) (a2 : Int32) (a3 : Int32) (s : KS) : KR := cond (am_in ((a1 * (4 : Int32)) + a2) 240) (cond (am_in ((a1 * (4 : Int32)) + a2) 240) (some (.inl (some (s.1 9 ((a1 * (4 : Int32)) + a2).toNatClampNeg)), (kS s 9 ((a1 * (4 : Int32)) + a2).toNatClampNeg (a3)))) none) none
set_option maxRecDepth 20000 in
theorem e_X0_replaceWord {nf ns : Nat} {rest : am_H} (a1 : Int32) (a2 : Int32) (a3 : Int32) (s : KS) : F_X0_replaceWord [.inl (.ref 8), .inl (.int a1), .inl (.int a2), .inl (.int a3)] (kH nf ns rest s) = am_lf (kH nf ns rest) (p_X0_replaceWord nf ns a1 a2 a3 s) := by
  rw [p_X0_replaceWord]
  refine (show _ = g_X0_replaceWord 399 1000 0 [(0, .inl (.ref 8)), (1, .inl (.int a1)), (2, .inl (.int a2)), (3, .inl (.int a3))] [] (kH nf ns rest s) (0, 0) from am_fn_g (Nat.le_of_ble_eq_true rfl)).trans ?_
  refine ((show ∀ f n : Nat, g_X0_replaceWord n (f + 20) 0 [(0, .inl (.ref 8)), (1, .inl (.int a1)), (2, .inl (.int a2)), (3, .inl (.int a3))] [] (kH nf ns rest s) (0, 0) = cond (am_in ((a1 * (4 : Int32)) + a2) 240) (cond (am_in ((a1 * (4 : Int32)) + a2) 240) (some (.inl (some (.inl (.int (s.1 9 ((a1 * (4 : Int32)) + a2).toNatClampNeg)))), kH nf ns rest (kS s 9 ((a1 * (4 : Int32)) + a2).toNatClampNeg (a3)))) none) none from fun f n => rfl) 980 399).trans ?_
  refine am_lcd (B := none) ?_ rfl
  refine am_lcd (B := none) ?_ rfl
  rfl
set_option maxRecDepth 20000 in
def g_X0_sendOutIfUnshared (n f pc : Nat) (lv : am_Lv) (st : List am_V) (h : am_H) (b : Nat × Nat) : Option am_O := am_go X_X0_sendOutIfUnshared 3 (some .boolean) am_rs0 [] [] (am_lp T_X0_sendOutIfUnshared X_X0_sendOutIfUnshared 3 (some .boolean) am_rs0 [] [] n) f (am_from pc T_X0_sendOutIfUnshared) lv st h b
set_option maxRecDepth 20000 in
def j_X0_sendOutIfUnshared (n pc : Nat) (lv : am_Lv) (st : List am_V) (h : am_H) (b : Nat × Nat) : Option am_O := am_lp T_X0_sendOutIfUnshared X_X0_sendOutIfUnshared 3 (some .boolean) am_rs0 [] [] n pc lv st h b
set_option maxRecDepth 20000 in
theorem j_X0_sendOutIfUnshared_g (n pc : Nat) (lv : am_Lv) (st : List am_V) (h : am_H) (b : Nat × Nat) : j_X0_sendOutIfUnshared (n + 1) pc lv st h b = g_X0_sendOutIfUnshared n 1000 pc lv st h b := rfl
set_option maxRecDepth 20000 in
theorem j_X0_sendOutIfUnshared_0 (pc : Nat) (lv : am_Lv) (st : List am_V) (h : am_H) (b : Nat × Nat) : j_X0_sendOutIfUnshared 0 pc lv st h b = none := rfl
set_option maxRecDepth 20000 in
def p_X0_sendOutIfUnshared (nf ns : Nat) (a1 : Int32) (s : KS) : KR := kbi (p_X0_isIn nf ns a1 s) (fun x2 s1 => cond (decide (x2 = (0 : Int32))) (some (.inl (some (0 : Int32)), s1)) (cond (am_in a1 60) (cond (!decide ((s1.1 10 a1.toNatClampNeg) = (1 : Int32))) (some (.inl (some (0 : Int32)), s1)) (kbi (p_X0_canGo nf ns a1 s1) (fun x4 s3 => cond (decide (x4 = (0 : Int32))) (some (.inl (some (0 : Int32)), s3)) (kbv (p_X0_sendOut nf ns a1 s3) (fun s5 => some (.inl (some (1 : Int32)), s5)))))) none))
set_option maxRecDepth 20000 in
theorem e_X0_sendOutIfUnshared {nf ns : Nat} {rest : am_H} (a1 : Int32) (s : KS) : F_X0_sendOutIfUnshared [.inl (.ref 8), .inl (.int a1)] (kH nf ns rest s) = am_lf (kH nf ns rest) (p_X0_sendOutIfUnshared nf ns a1 s) := by
  rw [p_X0_sendOutIfUnshared]
  refine (show _ = g_X0_sendOutIfUnshared 399 1000 0 [(0, .inl (.ref 8)), (1, .inl (.int a1))] [] (kH nf ns rest s) (0, 0) from am_fn_g (Nat.le_of_ble_eq_true rfl)).trans ?_
  refine ((show ∀ f n : Nat, g_X0_sendOutIfUnshared n (f + 3) 0 [(0, .inl (.ref 8)), (1, .inl (.int a1))] [] (kH nf ns rest s) (0, 0) = am_ri (F_X0_isIn [.inl (.ref 8), .inl (.int a1)] (kH nf ns rest s)) (fun x2 h => g_X0_sendOutIfUnshared n f 5 [(0, .inl (.ref 8)), (1, .inl (.int a1))] [.inl (.int x2)] h (0, 0)) (fun x h => some (.inr x, h)) from fun f n => rfl) 997 399).trans ?_
  rw [e_X0_isIn a1 s]
  refine am_lbi (fun x2 s1 => ?_) (fun _ _ => rfl)
  refine ((show ∀ f n : Nat, g_X0_sendOutIfUnshared n (f + 1) 5 [(0, .inl (.ref 8)), (1, .inl (.int a1))] [.inl (.int x2)] (kH nf ns rest s1) (0, 0) = cond (decide (x2 = (0 : Int32))) (g_X0_sendOutIfUnshared n f 30 [(0, .inl (.ref 8)), (1, .inl (.int a1))] [] (kH nf ns rest s1) (0, 0)) (g_X0_sendOutIfUnshared n f 8 [(0, .inl (.ref 8)), (1, .inl (.int a1))] [] (kH nf ns rest s1) (0, 0)) from fun f n => rfl) 996 399).trans ?_
  refine am_lcd ?_ ?_
  · refine ((show ∀ f n : Nat, g_X0_sendOutIfUnshared n (f + 6) 30 [(0, .inl (.ref 8)), (1, .inl (.int a1))] [] (kH nf ns rest s1) (0, 0) = some (.inl (some (.inl (.int (0 : Int32)))), kH nf ns rest s1) from fun f n => rfl) 990 399).trans ?_
    rfl
  · refine ((show ∀ f n : Nat, g_X0_sendOutIfUnshared n (f + 6) 8 [(0, .inl (.ref 8)), (1, .inl (.int a1))] [] (kH nf ns rest s1) (0, 0) = cond (am_in a1 60) (cond (!decide ((s1.1 10 a1.toNatClampNeg) = (1 : Int32))) (g_X0_sendOutIfUnshared n f 30 [(0, .inl (.ref 8)), (1, .inl (.int a1))] [] (kH nf ns rest s1) (0, 0)) (g_X0_sendOutIfUnshared n f 18 [(0, .inl (.ref 8)), (1, .inl (.int a1))] [] (kH nf ns rest s1) (0, 0))) none from fun f n => rfl) 990 399).trans ?_
    refine am_lcd (B := none) ?_ rfl
    refine am_lcd ?_ ?_
    · refine ((show ∀ f n : Nat, g_X0_sendOutIfUnshared n (f + 6) 30 [(0, .inl (.ref 8)), (1, .inl (.int a1))] [] (kH nf ns rest s1) (0, 0) = some (.inl (some (.inl (.int (0 : Int32)))), kH nf ns rest s1) from fun f n => rfl) 984 399).trans ?_
      rfl
    · refine ((show ∀ f n : Nat, g_X0_sendOutIfUnshared n (f + 3) 18 [(0, .inl (.ref 8)), (1, .inl (.int a1))] [] (kH nf ns rest s1) (0, 0) = am_ri (F_X0_canGo [.inl (.ref 8), .inl (.int a1)] (kH nf ns rest s1)) (fun x4 h => g_X0_sendOutIfUnshared n f 23 [(0, .inl (.ref 8)), (1, .inl (.int a1))] [.inl (.int x4)] h (0, 0)) (fun x h => some (.inr x, h)) from fun f n => rfl) 987 399).trans ?_
      rw [e_X0_canGo a1 s1]
      refine am_lbi (fun x4 s3 => ?_) (fun _ _ => rfl)
      refine ((show ∀ f n : Nat, g_X0_sendOutIfUnshared n (f + 1) 23 [(0, .inl (.ref 8)), (1, .inl (.int a1))] [.inl (.int x4)] (kH nf ns rest s3) (0, 0) = cond (decide (x4 = (0 : Int32))) (g_X0_sendOutIfUnshared n f 30 [(0, .inl (.ref 8)), (1, .inl (.int a1))] [] (kH nf ns rest s3) (0, 0)) (g_X0_sendOutIfUnshared n f 26 [(0, .inl (.ref 8)), (1, .inl (.int a1))] [] (kH nf ns rest s3) (0, 0)) from fun f n => rfl) 986 399).trans ?_
      refine am_lcd ?_ ?_
      · refine ((show ∀ f n : Nat, g_X0_sendOutIfUnshared n (f + 6) 30 [(0, .inl (.ref 8)), (1, .inl (.int a1))] [] (kH nf ns rest s3) (0, 0) = some (.inl (some (.inl (.int (0 : Int32)))), kH nf ns rest s3) from fun f n => rfl) 980 399).trans ?_
        rfl
      · refine ((show ∀ f n : Nat, g_X0_sendOutIfUnshared n (f + 8) 26 [(0, .inl (.ref 8)), (1, .inl (.int a1))] [] (kH nf ns rest s3) (0, 0) = am_rv (F_X0_sendOut [.inl (.ref 8), .inl (.int a1)] (kH nf ns rest s3)) (fun h => g_X0_sendOutIfUnshared n f 41 [(0, .inl (.ref 8)), (1, .inl (.int a1)), (2, .inl (.int (1 : Int32)))] [] h (0, 0)) (fun x h => some (.inr x, h)) from fun f n => rfl) 978 399).trans ?_
        rw [e_X0_sendOut a1 s3]
        refine am_lbv (fun s5 => ?_) (fun _ _ => rfl)
        refine ((show ∀ f n : Nat, g_X0_sendOutIfUnshared n (f + 2) 41 [(0, .inl (.ref 8)), (1, .inl (.int a1)), (2, .inl (.int (1 : Int32)))] [] (kH nf ns rest s5) (0, 0) = some (.inl (some (.inl (.int (1 : Int32)))), kH nf ns rest s5) from fun f n => rfl) 976 399).trans ?_
        rfl
set_option maxRecDepth 20000 in
def g_X0_homeOf (n f pc : Nat) (lv : am_Lv) (st : List am_V) (h : am_H) (b : Nat × Nat) : Option am_O := am_go X_X0_homeOf 2 (some .int) am_rs0 [] [] (am_lp T_X0_homeOf X_X0_homeOf 2 (some .int) am_rs0 [] [] n) f (am_from pc T_X0_homeOf) lv st h b
set_option maxRecDepth 20000 in
def j_X0_homeOf (n pc : Nat) (lv : am_Lv) (st : List am_V) (h : am_H) (b : Nat × Nat) : Option am_O := am_lp T_X0_homeOf X_X0_homeOf 2 (some .int) am_rs0 [] [] n pc lv st h b
set_option maxRecDepth 20000 in
theorem j_X0_homeOf_g (n pc : Nat) (lv : am_Lv) (st : List am_V) (h : am_H) (b : Nat × Nat) : j_X0_homeOf (n + 1) pc lv st h b = g_X0_homeOf n 1000 pc lv st h b := rfl
set_option maxRecDepth 20000 in
theorem j_X0_homeOf_0 (pc : Nat) (lv : am_Lv) (st : List am_V) (h : am_H) (b : Nat × Nat) : j_X0_homeOf 0 pc lv st h b = none := rfl
set_option maxRecDepth 20000 in
def p_X0_homeOf (nf ns : Nat) (a1 : Int32) (s : KS) : KR := cond (am_in a1 60) (some (.inl (some (s.1 11 a1.toNatClampNeg)), s)) none
set_option maxRecDepth 20000 in
theorem e_X0_homeOf {nf ns : Nat} {rest : am_H} (a1 : Int32) (s : KS) : F_X0_homeOf [.inl (.ref 8), .inl (.int a1)] (kH nf ns rest s) = am_lf (kH nf ns rest) (p_X0_homeOf nf ns a1 s) := by
  rw [p_X0_homeOf]
  refine (show _ = g_X0_homeOf 399 1000 0 [(0, .inl (.ref 8)), (1, .inl (.int a1))] [] (kH nf ns rest s) (0, 0) from am_fn_g (Nat.le_of_ble_eq_true rfl)).trans ?_
  refine ((show ∀ f n : Nat, g_X0_homeOf n (f + 5) 0 [(0, .inl (.ref 8)), (1, .inl (.int a1))] [] (kH nf ns rest s) (0, 0) = cond (am_in a1 60) (some (.inl (some (.inl (.int (s.1 11 a1.toNatClampNeg)))), kH nf ns rest s)) none from fun f n => rfl) 995 399).trans ?_
  refine am_lcd (B := none) ?_ rfl
  rfl
set_option maxRecDepth 20000 in
def g_X0_usersOf (n f pc : Nat) (lv : am_Lv) (st : List am_V) (h : am_H) (b : Nat × Nat) : Option am_O := am_go X_X0_usersOf 2 (some .int) am_rs0 [] [] (am_lp T_X0_usersOf X_X0_usersOf 2 (some .int) am_rs0 [] [] n) f (am_from pc T_X0_usersOf) lv st h b
set_option maxRecDepth 20000 in
def j_X0_usersOf (n pc : Nat) (lv : am_Lv) (st : List am_V) (h : am_H) (b : Nat × Nat) : Option am_O := am_lp T_X0_usersOf X_X0_usersOf 2 (some .int) am_rs0 [] [] n pc lv st h b
set_option maxRecDepth 20000 in
theorem j_X0_usersOf_g (n pc : Nat) (lv : am_Lv) (st : List am_V) (h : am_H) (b : Nat × Nat) : j_X0_usersOf (n + 1) pc lv st h b = g_X0_usersOf n 1000 pc lv st h b := rfl
set_option maxRecDepth 20000 in
theorem j_X0_usersOf_0 (pc : Nat) (lv : am_Lv) (st : List am_V) (h : am_H) (b : Nat × Nat) : j_X0_usersOf 0 pc lv st h b = none := rfl
set_option maxRecDepth 20000 in
def p_X0_usersOf (nf ns : Nat) (a1 : Int32) (s : KS) : KR := cond (am_in a1 60) (some (.inl (some (s.1 10 a1.toNatClampNeg)), s)) none
set_option maxRecDepth 20000 in
theorem e_X0_usersOf {nf ns : Nat} {rest : am_H} (a1 : Int32) (s : KS) : F_X0_usersOf [.inl (.ref 8), .inl (.int a1)] (kH nf ns rest s) = am_lf (kH nf ns rest) (p_X0_usersOf nf ns a1 s) := by
  rw [p_X0_usersOf]
  refine (show _ = g_X0_usersOf 399 1000 0 [(0, .inl (.ref 8)), (1, .inl (.int a1))] [] (kH nf ns rest s) (0, 0) from am_fn_g (Nat.le_of_ble_eq_true rfl)).trans ?_
  refine ((show ∀ f n : Nat, g_X0_usersOf n (f + 5) 0 [(0, .inl (.ref 8)), (1, .inl (.int a1))] [] (kH nf ns rest s) (0, 0) = cond (am_in a1 60) (some (.inl (some (.inl (.int (s.1 10 a1.toNatClampNeg)))), kH nf ns rest s)) none from fun f n => rfl) 995 399).trans ?_
  refine am_lcd (B := none) ?_ rfl
  rfl
set_option maxRecDepth 20000 in
def g_X0_freeFrames (n f pc : Nat) (lv : am_Lv) (st : List am_V) (h : am_H) (b : Nat × Nat) : Option am_O := am_go X_X0_freeFrames 1 (some .int) am_rs0 [] [] (am_lp T_X0_freeFrames X_X0_freeFrames 1 (some .int) am_rs0 [] [] n) f (am_from pc T_X0_freeFrames) lv st h b
set_option maxRecDepth 20000 in
def j_X0_freeFrames (n pc : Nat) (lv : am_Lv) (st : List am_V) (h : am_H) (b : Nat × Nat) : Option am_O := am_lp T_X0_freeFrames X_X0_freeFrames 1 (some .int) am_rs0 [] [] n pc lv st h b
set_option maxRecDepth 20000 in
theorem j_X0_freeFrames_g (n pc : Nat) (lv : am_Lv) (st : List am_V) (h : am_H) (b : Nat × Nat) : j_X0_freeFrames (n + 1) pc lv st h b = g_X0_freeFrames n 1000 pc lv st h b := rfl
set_option maxRecDepth 20000 in
theorem j_X0_freeFrames_0 (pc : Nat) (lv : am_Lv) (st : List am_V) (h : am_H) (b : Nat × Nat) : j_X0_freeFrames 0 pc lv st h b = none := rfl
set_option maxRecDepth 20000 in
def g_X0_howManyFree (n f pc : Nat) (lv : am_Lv) (st : List am_V) (h : am_H) (b : Nat × Nat) : Option am_O := am_go X_X0_howManyFree 3 (some .int) am_rs0 [] [(4, [0, 1, 2])] (am_lp T_X0_howManyFree X_X0_howManyFree 3 (some .int) am_rs0 [] [(4, [0, 1, 2])] n) f (am_from pc T_X0_howManyFree) lv st h b
set_option maxRecDepth 20000 in
def j_X0_howManyFree (n pc : Nat) (lv : am_Lv) (st : List am_V) (h : am_H) (b : Nat × Nat) : Option am_O := am_lp T_X0_howManyFree X_X0_howManyFree 3 (some .int) am_rs0 [] [(4, [0, 1, 2])] n pc lv st h b
set_option maxRecDepth 20000 in
theorem j_X0_howManyFree_g (n pc : Nat) (lv : am_Lv) (st : List am_V) (h : am_H) (b : Nat × Nat) : j_X0_howManyFree (n + 1) pc lv st h b = g_X0_howManyFree n 1000 pc lv st h b := rfl
set_option maxRecDepth 20000 in
theorem j_X0_howManyFree_0 (pc : Nat) (lv : am_Lv) (st : List am_V) (h : am_H) (b : Nat × Nat) : j_X0_howManyFree 0 pc lv st h b = none := rfl
set_option maxRecDepth 20000 in
def p_X0_howManyFree_12_L4 (nf ns : Nat) : Nat → Int32 → Int32 → KS → KR
  | 0, _, _, _ => none
  | n + 1, l1, l2, s => cond (decide ((Int32.ofNat nf) ≤ l2)) (some (.inl (some l1), s)) (cond (am_in l2 nf) (cond (!decide ((s.1 12 l2.toNatClampNeg) = (-1 : Int32))) (p_X0_howManyFree_12_L4 nf ns n l1 (l2 + (1 : Int32)) s) (p_X0_howManyFree_12_L4 nf ns n (l1 + (1 : Int32)) (l2 + (1 : Int32)) s)) none)
set_option maxRecDepth 20000 in
theorem b_X0_howManyFree_12_L4 {nf ns : Nat} {rest : am_H} (n : Nat) (ih : ∀ (l1 : Int32) (l2 : Int32) (s : KS), j_X0_howManyFree n 4 [(0, .inl (.ref 12)), (1, .inl (.int l1)), (2, .inl (.int l2))] [] (kH nf ns rest s) (0, 0) = am_lf (kH nf ns rest) (p_X0_howManyFree_12_L4 nf ns n l1 l2 s)) (f : Nat) (l1 : Int32) (l2 : Int32) (s : KS) : g_X0_howManyFree n (f + 15) 4 [(0, .inl (.ref 12)), (1, .inl (.int l1)), (2, .inl (.int l2))] [] (kH nf ns rest s) (0, 0) = am_lf (kH nf ns rest) (p_X0_howManyFree_12_L4 nf ns (n + 1) l1 l2 s) := by
  rw [p_X0_howManyFree_12_L4]
  refine ((show ∀ f n : Nat, g_X0_howManyFree n (f + 4) 4 [(0, .inl (.ref 12)), (1, .inl (.int l1)), (2, .inl (.int l2))] [] (kH nf ns rest s) (0, 0) = cond (decide ((Int32.ofNat nf) ≤ l2)) (g_X0_howManyFree n f 26 [(0, .inl (.ref 12)), (1, .inl (.int l1)), (2, .inl (.int l2))] [] (kH nf ns rest s) (0, 0)) (g_X0_howManyFree n f 10 [(0, .inl (.ref 12)), (1, .inl (.int l1)), (2, .inl (.int l2))] [] (kH nf ns rest s) (0, 0)) from fun f n => rfl) (f + 11) n).trans ?_
  refine am_lcd ?_ ?_
  · refine ((show ∀ f n : Nat, g_X0_howManyFree n (f + 2) 26 [(0, .inl (.ref 12)), (1, .inl (.int l1)), (2, .inl (.int l2))] [] (kH nf ns rest s) (0, 0) = some (.inl (some (.inl (.int l1))), kH nf ns rest s) from fun f n => rfl) (f + 9) n).trans ?_
    rfl
  · refine ((show ∀ f n : Nat, g_X0_howManyFree n (f + 5) 10 [(0, .inl (.ref 12)), (1, .inl (.int l1)), (2, .inl (.int l2))] [] (kH nf ns rest s) (0, 0) = cond (am_in l2 nf) (cond (!decide ((s.1 12 l2.toNatClampNeg) = (-1 : Int32))) (g_X0_howManyFree n f 20 [(0, .inl (.ref 12)), (1, .inl (.int l1)), (2, .inl (.int l2))] [] (kH nf ns rest s) (0, 0)) (g_X0_howManyFree n f 17 [(0, .inl (.ref 12)), (1, .inl (.int l1)), (2, .inl (.int l2))] [] (kH nf ns rest s) (0, 0))) none from fun f n => rfl) (f + 6) n).trans ?_
    refine am_lcd (B := none) ?_ rfl
    refine am_lcd ?_ ?_
    · refine ((show ∀ f n : Nat, g_X0_howManyFree n (f + 2) 20 [(0, .inl (.ref 12)), (1, .inl (.int l1)), (2, .inl (.int l2))] [] (kH nf ns rest s) (0, 0) = j_X0_howManyFree n 4 [(0, .inl (.ref 12)), (1, .inl (.int l1)), (2, .inl (.int (l2 + (1 : Int32))))] [] (kH nf ns rest s) (0, 0) from fun f n => rfl) (f + 4) n).trans ?_
      exact ih l1 (l2 + (1 : Int32)) s
    · refine ((show ∀ f n : Nat, g_X0_howManyFree n (f + 3) 17 [(0, .inl (.ref 12)), (1, .inl (.int l1)), (2, .inl (.int l2))] [] (kH nf ns rest s) (0, 0) = j_X0_howManyFree n 4 [(0, .inl (.ref 12)), (1, .inl (.int (l1 + (1 : Int32)))), (2, .inl (.int (l2 + (1 : Int32))))] [] (kH nf ns rest s) (0, 0) from fun f n => rfl) (f + 3) n).trans ?_
      exact ih (l1 + (1 : Int32)) (l2 + (1 : Int32)) s
set_option maxRecDepth 20000 in
theorem e_X0_howManyFree_12_L4 {nf ns : Nat} {rest : am_H} : ∀ (n : Nat) (l1 : Int32) (l2 : Int32) (s : KS), j_X0_howManyFree n 4 [(0, .inl (.ref 12)), (1, .inl (.int l1)), (2, .inl (.int l2))] [] (kH nf ns rest s) (0, 0) = am_lf (kH nf ns rest) (p_X0_howManyFree_12_L4 nf ns n l1 l2 s)
  | 0, _, _, _ => by rw [p_X0_howManyFree_12_L4]; rfl
  | n + 1, l1, l2, s => (j_X0_howManyFree_g n 4 _ _ _ _).trans (b_X0_howManyFree_12_L4 n (e_X0_howManyFree_12_L4 n) 985 l1 l2 s)
set_option maxRecDepth 20000 in
def p_X0_howManyFree_12 (nf ns : Nat)  (s : KS) : KR := p_X0_howManyFree_12_L4 nf ns 400 (0 : Int32) (0 : Int32) s
set_option maxRecDepth 20000 in
theorem e_X0_howManyFree_12 {nf ns : Nat} {rest : am_H}  (s : KS) : F_X0_howManyFree [.inl (.ref 12)] (kH nf ns rest s) = am_lf (kH nf ns rest) (p_X0_howManyFree_12 nf ns  s) := by
  rw [p_X0_howManyFree_12]
  refine (show _ = g_X0_howManyFree 399 1000 0 [(0, .inl (.ref 12))] [] (kH nf ns rest s) (0, 0) from am_fn_g (Nat.le_of_ble_eq_true rfl)).trans ?_
  refine ((show ∀ f n : Nat, g_X0_howManyFree n (f + 4) 0 [(0, .inl (.ref 12))] [] (kH nf ns rest s) (0, 0) = g_X0_howManyFree n f 4 [(0, .inl (.ref 12)), (1, .inl (.int (0 : Int32))), (2, .inl (.int (0 : Int32)))] [] (kH nf ns rest s) (0, 0) from fun f n => rfl) 996 399).trans ?_
  exact b_X0_howManyFree_12_L4 399 (e_X0_howManyFree_12_L4 399) 981 (0 : Int32) (0 : Int32) s
set_option maxRecDepth 20000 in
def p_X0_freeFrames (nf ns : Nat)  (s : KS) : KR := kbi (p_X0_howManyFree_12 nf ns  s) (fun x2 s1 => some (.inl (some x2), s1))
set_option maxRecDepth 20000 in
theorem e_X0_freeFrames {nf ns : Nat} {rest : am_H}  (s : KS) : F_X0_freeFrames [.inl (.ref 8)] (kH nf ns rest s) = am_lf (kH nf ns rest) (p_X0_freeFrames nf ns  s) := by
  rw [p_X0_freeFrames]
  refine (show _ = g_X0_freeFrames 399 1000 0 [(0, .inl (.ref 8))] [] (kH nf ns rest s) (0, 0) from am_fn_g (Nat.le_of_ble_eq_true rfl)).trans ?_
  refine ((show ∀ f n : Nat, g_X0_freeFrames n (f + 3) 0 [(0, .inl (.ref 8))] [] (kH nf ns rest s) (0, 0) = am_ri (F_X0_howManyFree [.inl (.ref 12)] (kH nf ns rest s)) (fun x2 h => g_X0_freeFrames n f 7 [(0, .inl (.ref 8))] [.inl (.int x2)] h (0, 0)) (fun x h => some (.inr x, h)) from fun f n => rfl) 997 399).trans ?_
  rw [e_X0_howManyFree_12  s]
  refine am_lbi (fun x2 s1 => ?_) (fun _ _ => rfl)
  refine ((show ∀ f n : Nat, g_X0_freeFrames n (f + 1) 7 [(0, .inl (.ref 8))] [.inl (.int x2)] (kH nf ns rest s1) (0, 0) = some (.inl (some (.inl (.int x2))), kH nf ns rest s1) from fun f n => rfl) 996 399).trans ?_
  rfl
set_option maxRecDepth 20000 in
def g_X0_freeSlots (n f pc : Nat) (lv : am_Lv) (st : List am_V) (h : am_H) (b : Nat × Nat) : Option am_O := am_go X_X0_freeSlots 1 (some .int) am_rs0 [] [] (am_lp T_X0_freeSlots X_X0_freeSlots 1 (some .int) am_rs0 [] [] n) f (am_from pc T_X0_freeSlots) lv st h b
set_option maxRecDepth 20000 in
def j_X0_freeSlots (n pc : Nat) (lv : am_Lv) (st : List am_V) (h : am_H) (b : Nat × Nat) : Option am_O := am_lp T_X0_freeSlots X_X0_freeSlots 1 (some .int) am_rs0 [] [] n pc lv st h b
set_option maxRecDepth 20000 in
theorem j_X0_freeSlots_g (n pc : Nat) (lv : am_Lv) (st : List am_V) (h : am_H) (b : Nat × Nat) : j_X0_freeSlots (n + 1) pc lv st h b = g_X0_freeSlots n 1000 pc lv st h b := rfl
set_option maxRecDepth 20000 in
theorem j_X0_freeSlots_0 (pc : Nat) (lv : am_Lv) (st : List am_V) (h : am_H) (b : Nat × Nat) : j_X0_freeSlots 0 pc lv st h b = none := rfl
set_option maxRecDepth 20000 in
def p_X0_howManyFree_14_L4 (nf ns : Nat) : Nat → Int32 → Int32 → KS → KR
  | 0, _, _, _ => none
  | n + 1, l1, l2, s => cond (decide ((Int32.ofNat ns) ≤ l2)) (some (.inl (some l1), s)) (cond (am_in l2 ns) (cond (!decide ((s.1 14 l2.toNatClampNeg) = (-1 : Int32))) (p_X0_howManyFree_14_L4 nf ns n l1 (l2 + (1 : Int32)) s) (p_X0_howManyFree_14_L4 nf ns n (l1 + (1 : Int32)) (l2 + (1 : Int32)) s)) none)
set_option maxRecDepth 20000 in
theorem b_X0_howManyFree_14_L4 {nf ns : Nat} {rest : am_H} (n : Nat) (ih : ∀ (l1 : Int32) (l2 : Int32) (s : KS), j_X0_howManyFree n 4 [(0, .inl (.ref 14)), (1, .inl (.int l1)), (2, .inl (.int l2))] [] (kH nf ns rest s) (0, 0) = am_lf (kH nf ns rest) (p_X0_howManyFree_14_L4 nf ns n l1 l2 s)) (f : Nat) (l1 : Int32) (l2 : Int32) (s : KS) : g_X0_howManyFree n (f + 15) 4 [(0, .inl (.ref 14)), (1, .inl (.int l1)), (2, .inl (.int l2))] [] (kH nf ns rest s) (0, 0) = am_lf (kH nf ns rest) (p_X0_howManyFree_14_L4 nf ns (n + 1) l1 l2 s) := by
  rw [p_X0_howManyFree_14_L4]
  refine ((show ∀ f n : Nat, g_X0_howManyFree n (f + 4) 4 [(0, .inl (.ref 14)), (1, .inl (.int l1)), (2, .inl (.int l2))] [] (kH nf ns rest s) (0, 0) = cond (decide ((Int32.ofNat ns) ≤ l2)) (g_X0_howManyFree n f 26 [(0, .inl (.ref 14)), (1, .inl (.int l1)), (2, .inl (.int l2))] [] (kH nf ns rest s) (0, 0)) (g_X0_howManyFree n f 10 [(0, .inl (.ref 14)), (1, .inl (.int l1)), (2, .inl (.int l2))] [] (kH nf ns rest s) (0, 0)) from fun f n => rfl) (f + 11) n).trans ?_
  refine am_lcd ?_ ?_
  · refine ((show ∀ f n : Nat, g_X0_howManyFree n (f + 2) 26 [(0, .inl (.ref 14)), (1, .inl (.int l1)), (2, .inl (.int l2))] [] (kH nf ns rest s) (0, 0) = some (.inl (some (.inl (.int l1))), kH nf ns rest s) from fun f n => rfl) (f + 9) n).trans ?_
    rfl
  · refine ((show ∀ f n : Nat, g_X0_howManyFree n (f + 5) 10 [(0, .inl (.ref 14)), (1, .inl (.int l1)), (2, .inl (.int l2))] [] (kH nf ns rest s) (0, 0) = cond (am_in l2 ns) (cond (!decide ((s.1 14 l2.toNatClampNeg) = (-1 : Int32))) (g_X0_howManyFree n f 20 [(0, .inl (.ref 14)), (1, .inl (.int l1)), (2, .inl (.int l2))] [] (kH nf ns rest s) (0, 0)) (g_X0_howManyFree n f 17 [(0, .inl (.ref 14)), (1, .inl (.int l1)), (2, .inl (.int l2))] [] (kH nf ns rest s) (0, 0))) none from fun f n => rfl) (f + 6) n).trans ?_
    refine am_lcd (B := none) ?_ rfl
    refine am_lcd ?_ ?_
    · refine ((show ∀ f n : Nat, g_X0_howManyFree n (f + 2) 20 [(0, .inl (.ref 14)), (1, .inl (.int l1)), (2, .inl (.int l2))] [] (kH nf ns rest s) (0, 0) = j_X0_howManyFree n 4 [(0, .inl (.ref 14)), (1, .inl (.int l1)), (2, .inl (.int (l2 + (1 : Int32))))] [] (kH nf ns rest s) (0, 0) from fun f n => rfl) (f + 4) n).trans ?_
      exact ih l1 (l2 + (1 : Int32)) s
    · refine ((show ∀ f n : Nat, g_X0_howManyFree n (f + 3) 17 [(0, .inl (.ref 14)), (1, .inl (.int l1)), (2, .inl (.int l2))] [] (kH nf ns rest s) (0, 0) = j_X0_howManyFree n 4 [(0, .inl (.ref 14)), (1, .inl (.int (l1 + (1 : Int32)))), (2, .inl (.int (l2 + (1 : Int32))))] [] (kH nf ns rest s) (0, 0) from fun f n => rfl) (f + 3) n).trans ?_
      exact ih (l1 + (1 : Int32)) (l2 + (1 : Int32)) s
set_option maxRecDepth 20000 in
theorem e_X0_howManyFree_14_L4 {nf ns : Nat} {rest : am_H} : ∀ (n : Nat) (l1 : Int32) (l2 : Int32) (s : KS), j_X0_howManyFree n 4 [(0, .inl (.ref 14)), (1, .inl (.int l1)), (2, .inl (.int l2))] [] (kH nf ns rest s) (0, 0) = am_lf (kH nf ns rest) (p_X0_howManyFree_14_L4 nf ns n l1 l2 s)
  | 0, _, _, _ => by rw [p_X0_howManyFree_14_L4]; rfl
  | n + 1, l1, l2, s => (j_X0_howManyFree_g n 4 _ _ _ _).trans (b_X0_howManyFree_14_L4 n (e_X0_howManyFree_14_L4 n) 985 l1 l2 s)
set_option maxRecDepth 20000 in
def p_X0_howManyFree_14 (nf ns : Nat)  (s : KS) : KR := p_X0_howManyFree_14_L4 nf ns 400 (0 : Int32) (0 : Int32) s
set_option maxRecDepth 20000 in
theorem e_X0_howManyFree_14 {nf ns : Nat} {rest : am_H}  (s : KS) : F_X0_howManyFree [.inl (.ref 14)] (kH nf ns rest s) = am_lf (kH nf ns rest) (p_X0_howManyFree_14 nf ns  s) := by
  rw [p_X0_howManyFree_14]
  refine (show _ = g_X0_howManyFree 399 1000 0 [(0, .inl (.ref 14))] [] (kH nf ns rest s) (0, 0) from am_fn_g (Nat.le_of_ble_eq_true rfl)).trans ?_
  refine ((show ∀ f n : Nat, g_X0_howManyFree n (f + 4) 0 [(0, .inl (.ref 14))] [] (kH nf ns rest s) (0, 0) = g_X0_howManyFree n f 4 [(0, .inl (.ref 14)), (1, .inl (.int (0 : Int32))), (2, .inl (.int (0 : Int32)))] [] (kH nf ns rest s) (0, 0) from fun f n => rfl) 996 399).trans ?_
  exact b_X0_howManyFree_14_L4 399 (e_X0_howManyFree_14_L4 399) 981 (0 : Int32) (0 : Int32) s
set_option maxRecDepth 20000 in
def p_X0_freeSlots (nf ns : Nat)  (s : KS) : KR := kbi (p_X0_howManyFree_14 nf ns  s) (fun x2 s1 => some (.inl (some x2), s1))
set_option maxRecDepth 20000 in
theorem e_X0_freeSlots {nf ns : Nat} {rest : am_H}  (s : KS) : F_X0_freeSlots [.inl (.ref 8)] (kH nf ns rest s) = am_lf (kH nf ns rest) (p_X0_freeSlots nf ns  s) := by
  rw [p_X0_freeSlots]
  refine (show _ = g_X0_freeSlots 399 1000 0 [(0, .inl (.ref 8))] [] (kH nf ns rest s) (0, 0) from am_fn_g (Nat.le_of_ble_eq_true rfl)).trans ?_
  refine ((show ∀ f n : Nat, g_X0_freeSlots n (f + 3) 0 [(0, .inl (.ref 8))] [] (kH nf ns rest s) (0, 0) = am_ri (F_X0_howManyFree [.inl (.ref 14)] (kH nf ns rest s)) (fun x2 h => g_X0_freeSlots n f 7 [(0, .inl (.ref 8))] [.inl (.int x2)] h (0, 0)) (fun x h => some (.inr x, h)) from fun f n => rfl) 997 399).trans ?_
  rw [e_X0_howManyFree_14  s]
  refine am_lbi (fun x2 s1 => ?_) (fun _ _ => rfl)
  refine ((show ∀ f n : Nat, g_X0_freeSlots n (f + 1) 7 [(0, .inl (.ref 8))] [.inl (.int x2)] (kH nf ns rest s1) (0, 0) = some (.inl (some (.inl (.int x2))), kH nf ns rest s1) from fun f n => rfl) 996 399).trans ?_
  rfl
set_option maxRecDepth 20000 in
def g_X0_markOf (n f pc : Nat) (lv : am_Lv) (st : List am_V) (h : am_H) (b : Nat × Nat) : Option am_O := am_go X_X0_markOf 2 (some .int) am_rs0 [] [] (am_lp T_X0_markOf X_X0_markOf 2 (some .int) am_rs0 [] [] n) f (am_from pc T_X0_markOf) lv st h b
set_option maxRecDepth 20000 in
def j_X0_markOf (n pc : Nat) (lv : am_Lv) (st : List am_V) (h : am_H) (b : Nat × Nat) : Option am_O := am_lp T_X0_markOf X_X0_markOf 2 (some .int) am_rs0 [] [] n pc lv st h b
set_option maxRecDepth 20000 in
theorem j_X0_markOf_g (n pc : Nat) (lv : am_Lv) (st : List am_V) (h : am_H) (b : Nat × Nat) : j_X0_markOf (n + 1) pc lv st h b = g_X0_markOf n 1000 pc lv st h b := rfl
set_option maxRecDepth 20000 in
theorem j_X0_markOf_0 (pc : Nat) (lv : am_Lv) (st : List am_V) (h : am_H) (b : Nat × Nat) : j_X0_markOf 0 pc lv st h b = none := rfl
set_option maxRecDepth 20000 in
def p_X0_markOf (nf ns : Nat) (a1 : Int32) (s : KS) : KR := cond (decide ((Int32.ofNat nf) ≤ a1)) (some (.inl (some (-1 : Int32)), s)) (cond (am_in a1 nf) (cond (!decide ((s.1 12 a1.toNatClampNeg) = (-1 : Int32))) (cond (am_in a1 nf) (cond (decide ((s.1 13 a1.toNatClampNeg) = (0 : Int32))) (some (.inl (some (0 : Int32)), s)) (some (.inl (some (1 : Int32)), s))) none) (some (.inl (some (-1 : Int32)), s))) none)
set_option maxRecDepth 20000 in
theorem e_X0_markOf {nf ns : Nat} {rest : am_H} (a1 : Int32) (s : KS) : F_X0_markOf [.inl (.ref 8), .inl (.int a1)] (kH nf ns rest s) = am_lf (kH nf ns rest) (p_X0_markOf nf ns a1 s) := by
  rw [p_X0_markOf]
  refine (show _ = g_X0_markOf 399 1000 0 [(0, .inl (.ref 8)), (1, .inl (.int a1))] [] (kH nf ns rest s) (0, 0) from am_fn_g (Nat.le_of_ble_eq_true rfl)).trans ?_
  refine ((show ∀ f n : Nat, g_X0_markOf n (f + 5) 0 [(0, .inl (.ref 8)), (1, .inl (.int a1))] [] (kH nf ns rest s) (0, 0) = cond (decide ((Int32.ofNat nf) ≤ a1)) (g_X0_markOf n f 19 [(0, .inl (.ref 8)), (1, .inl (.int a1))] [] (kH nf ns rest s) (0, 0)) (g_X0_markOf n f 9 [(0, .inl (.ref 8)), (1, .inl (.int a1))] [] (kH nf ns rest s) (0, 0)) from fun f n => rfl) 995 399).trans ?_
  refine am_lcd ?_ ?_
  · refine ((show ∀ f n : Nat, g_X0_markOf n (f + 2) 19 [(0, .inl (.ref 8)), (1, .inl (.int a1))] [] (kH nf ns rest s) (0, 0) = some (.inl (some (.inl (.int (-1 : Int32)))), kH nf ns rest s) from fun f n => rfl) 993 399).trans ?_
    rfl
  · refine ((show ∀ f n : Nat, g_X0_markOf n (f + 6) 9 [(0, .inl (.ref 8)), (1, .inl (.int a1))] [] (kH nf ns rest s) (0, 0) = cond (am_in a1 nf) (cond (!decide ((s.1 12 a1.toNatClampNeg) = (-1 : Int32))) (g_X0_markOf n f 21 [(0, .inl (.ref 8)), (1, .inl (.int a1))] [] (kH nf ns rest s) (0, 0)) (g_X0_markOf n f 19 [(0, .inl (.ref 8)), (1, .inl (.int a1))] [] (kH nf ns rest s) (0, 0))) none from fun f n => rfl) 989 399).trans ?_
    refine am_lcd (B := none) ?_ rfl
    refine am_lcd ?_ ?_
    · refine ((show ∀ f n : Nat, g_X0_markOf n (f + 5) 21 [(0, .inl (.ref 8)), (1, .inl (.int a1))] [] (kH nf ns rest s) (0, 0) = cond (am_in a1 nf) (cond (decide ((s.1 13 a1.toNatClampNeg) = (0 : Int32))) (g_X0_markOf n f 34 [(0, .inl (.ref 8)), (1, .inl (.int a1))] [] (kH nf ns rest s) (0, 0)) (g_X0_markOf n f 30 [(0, .inl (.ref 8)), (1, .inl (.int a1))] [] (kH nf ns rest s) (0, 0))) none from fun f n => rfl) 984 399).trans ?_
      refine am_lcd (B := none) ?_ rfl
      refine am_lcd ?_ ?_
      · refine ((show ∀ f n : Nat, g_X0_markOf n (f + 2) 34 [(0, .inl (.ref 8)), (1, .inl (.int a1))] [] (kH nf ns rest s) (0, 0) = some (.inl (some (.inl (.int (0 : Int32)))), kH nf ns rest s) from fun f n => rfl) 982 399).trans ?_
        rfl
      · refine ((show ∀ f n : Nat, g_X0_markOf n (f + 3) 30 [(0, .inl (.ref 8)), (1, .inl (.int a1))] [] (kH nf ns rest s) (0, 0) = some (.inl (some (.inl (.int (1 : Int32)))), kH nf ns rest s) from fun f n => rfl) 981 399).trans ?_
        rfl
    · refine ((show ∀ f n : Nat, g_X0_markOf n (f + 2) 19 [(0, .inl (.ref 8)), (1, .inl (.int a1))] [] (kH nf ns rest s) (0, 0) = some (.inl (some (.inl (.int (-1 : Int32)))), kH nf ns rest s) from fun f n => rfl) 987 399).trans ?_
      rfl
