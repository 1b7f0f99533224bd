set_option maxRecDepth 20000 in
def g_X2_newPage (n f pc : Nat) (lv : am_Lv) (st : List am_V) (h : am_H) (b : Nat × Nat) : Option am_O := am_go X_X2_newPage 3 (some .int) am_rs0 [] [(2, [0, 1]), (33, [0, 1, 2])] (am_lp T_X2_newPage X_X2_newPage 3 (some .int) am_rs0 [] [(2, [0, 1]), (33, [0, 1, 2])] n) f (am_from pc T_X2_newPage) lv st h b
set_option maxRecDepth 20000 in
def j_X2_newPage (n pc : Nat) (lv : am_Lv) (st : List am_V) (h : am_H) (b : Nat × Nat) : Option am_O := am_lp T_X2_newPage X_X2_newPage 3 (some .int) am_rs0 [] [(2, [0, 1]), (33, [0, 1, 2])] n pc lv st h b
set_option maxRecDepth 20000 in
theorem j_X2_newPage_g (n pc : Nat) (lv : am_Lv) (st : List am_V) (h : am_H) (b : Nat × Nat) : j_X2_newPage (n + 1) pc lv st h b = g_X2_newPage n 1000 pc lv st h b := rfl
set_option maxRecDepth 20000 in
theorem j_X2_newPage_0 (pc : Nat) (lv : am_Lv) (st : List am_V) (h : am_H) (b : Nat × Nat) : j_X2_newPage 0 pc lv st h b = none := rfl
set_option maxRecDepth 20000 in
def p_X2_newPage_L33 : Nat → Int32 → Int32 → KS → KR
  | 0, _, _, _ => none
  | n + 1, l1, l2, s => cond (decide ((4 : Int32) ≤ l2)) (some (.inl (some l1), s)) (cond (am_in (((4 : Int32) * l1) + l2) 256) (p_X2_newPage_L33 n l1 (l2 + (1 : Int32)) (kS s 23 (((4 : Int32) * l1) + l2).toNatClampNeg ((0 : Int32)))) none)
set_option maxRecDepth 20000 in
theorem b_X2_newPage_L33 {nf ns : Nat} {rest : am_H} {s0 : KS} (n : Nat) (ih : ∀ (l1 : Int32) (l2 : Int32) (s : KS), j_X2_newPage n 33 [(0, .inl (.ref 15)), (1, .inl (.int l1)), (2, .inl (.int l2))] [] (hM nf ns rest s0 s) (0, 0) = am_lf (hM nf ns rest s0) (p_X2_newPage_L33 n l1 l2 s)) (f : Nat) (l1 : Int32) (l2 : Int32) (s : KS) : g_X2_newPage n (f + 17) 33 [(0, .inl (.ref 15)), (1, .inl (.int l1)), (2, .inl (.int l2))] [] (hM nf ns rest s0 s) (0, 0) = am_lf (hM nf ns rest s0) (p_X2_newPage_L33 (n + 1) l1 l2 s) := by
  rw [p_X2_newPage_L33]
  refine ((show ∀ f n : Nat, g_X2_newPage n (f + 3) 33 [(0, .inl (.ref 15)), (1, .inl (.int l1)), (2, .inl (.int l2))] [] (hM nf ns rest s0 s) (0, 0) = cond (decide ((4 : Int32) ≤ l2)) (g_X2_newPage n f 55 [(0, .inl (.ref 15)), (1, .inl (.int l1)), (2, .inl (.int l2))] [] (hM nf ns rest s0 s) (0, 0)) (g_X2_newPage n f 38 [(0, .inl (.ref 15)), (1, .inl (.int l1)), (2, .inl (.int l2))] [] (hM nf ns rest s0 s) (0, 0)) from fun f n => rfl) (f + 14) n).trans ?_
  refine am_lcd ?_ ?_
  · refine ((show ∀ f n : Nat, g_X2_newPage n (f + 2) 55 [(0, .inl (.ref 15)), (1, .inl (.int l1)), (2, .inl (.int l2))] [] (hM nf ns rest s0 s) (0, 0) = some (.inl (some (.inl (.int l1))), hM nf ns rest s0 s) from fun f n => rfl) (f + 12) n).trans ?_
    rfl
  · refine ((show ∀ f n : Nat, g_X2_newPage n (f + 11) 38 [(0, .inl (.ref 15)), (1, .inl (.int l1)), (2, .inl (.int l2))] [] (hM nf ns rest s0 s) (0, 0) = cond (am_in (((4 : Int32) * l1) + l2) 256) (j_X2_newPage n 33 [(0, .inl (.ref 15)), (1, .inl (.int l1)), (2, .inl (.int (l2 + (1 : Int32))))] [] (hM nf ns rest s0 (kS s 23 (((4 : Int32) * l1) + l2).toNatClampNeg ((0 : Int32)))) (0, 0)) none from fun f n => rfl) (f + 3) n).trans ?_
    refine am_lcd (B := none) ?_ rfl
    exact ih l1 (l2 + (1 : Int32)) (kS s 23 (((4 : Int32) * l1) + l2).toNatClampNeg ((0 : Int32)))
set_option maxRecDepth 20000 in
theorem e_X2_newPage_L33 {nf ns : Nat} {rest : am_H} {s0 : KS} : ∀ (n : Nat) (l1 : Int32) (l2 : Int32) (s : KS), j_X2_newPage n 33 [(0, .inl (.ref 15)), (1, .inl (.int l1)), (2, .inl (.int l2))] [] (hM nf ns rest s0 s) (0, 0) = am_lf (hM nf ns rest s0) (p_X2_newPage_L33 n l1 l2 s)
  | 0, _, _, _ => by rw [p_X2_newPage_L33]; rfl
  | n + 1, l1, l2, s => (j_X2_newPage_g n 33 _ _ _ _).trans (b_X2_newPage_L33 n (e_X2_newPage_L33 n) 983 l1 l2 s)
set_option maxRecDepth 20000 in
def p_X2_newPage_L2 : Nat → Int32 → KS → KR
  | 0, _, _ => none
  | n + 1, l1, s => cond (am_in l1 64) (cond (decide ((s.1 24 l1.toNatClampNeg) = (0 : Int32))) (cond (am_in l1 64) (cond (am_in l1 70) (p_X2_newPage_L33 (n + 1) l1 (0 : Int32) (kS (kS s 24 l1.toNatClampNeg (am_nar 1 (1 : Int32))) 25 l1.toNatClampNeg ((-1 : Int32)))) none) none) (p_X2_newPage_L2 n (l1 + (1 : Int32)) s)) none
set_option maxRecDepth 20000 in
theorem b_X2_newPage_L2 {nf ns : Nat} {rest : am_H} {s0 : KS} (n : Nat) (ih : ∀ (l1 : Int32) (s : KS), j_X2_newPage n 2 [(0, .inl (.ref 15)), (1, .inl (.int l1))] [] (hM nf ns rest s0 s) (0, 0) = am_lf (hM nf ns rest s0) (p_X2_newPage_L2 n l1 s)) (f : Nat) (l1 : Int32) (s : KS) : g_X2_newPage n (f + 37) 2 [(0, .inl (.ref 15)), (1, .inl (.int l1))] [] (hM nf ns rest s0 s) (0, 0) = am_lf (hM nf ns rest s0) (p_X2_newPage_L2 (n + 1) l1 s) := by
  rw [p_X2_newPage_L2]
  refine ((show ∀ f n : Nat, g_X2_newPage n (f + 5) 2 [(0, .inl (.ref 15)), (1, .inl (.int l1))] [] (hM nf ns rest s0 s) (0, 0) = cond (am_in l1 64) (cond (decide ((s.1 24 l1.toNatClampNeg) = (0 : Int32))) (g_X2_newPage n f 17 [(0, .inl (.ref 15)), (1, .inl (.int l1))] [] (hM nf ns rest s0 s) (0, 0)) (g_X2_newPage n f 11 [(0, .inl (.ref 15)), (1, .inl (.int l1))] [] (hM nf ns rest s0 s) (0, 0))) none from fun f n => rfl) (f + 32) n).trans ?_
  refine am_lcd (B := none) ?_ rfl
  refine am_lcd ?_ ?_
  · refine ((show ∀ f n : Nat, g_X2_newPage n (f + 12) 17 [(0, .inl (.ref 15)), (1, .inl (.int l1))] [] (hM nf ns rest s0 s) (0, 0) = cond (am_in l1 64) (cond (am_in l1 70) (g_X2_newPage n f 33 [(0, .inl (.ref 15)), (1, .inl (.int l1)), (2, .inl (.int (0 : Int32)))] [] (hM nf ns rest s0 (kS (kS s 24 l1.toNatClampNeg (am_nar 1 (1 : Int32))) 25 l1.toNatClampNeg ((-1 : Int32)))) (0, 0)) none) none from fun f n => rfl) (f + 20) n).trans ?_
    refine am_lcd (B := none) ?_ rfl
    refine am_lcd (B := none) ?_ rfl
    exact b_X2_newPage_L33 n (e_X2_newPage_L33 n) (f + 3) l1 (0 : Int32) (kS (kS s 24 l1.toNatClampNeg (am_nar 1 (1 : Int32))) 25 l1.toNatClampNeg ((-1 : Int32)))
  · refine ((show ∀ f n : Nat, g_X2_newPage n (f + 2) 11 [(0, .inl (.ref 15)), (1, .inl (.int l1))] [] (hM nf ns rest s0 s) (0, 0) = j_X2_newPage n 2 [(0, .inl (.ref 15)), (1, .inl (.int (l1 + (1 : Int32))))] [] (hM nf ns rest s0 s) (0, 0) from fun f n => rfl) (f + 30) n).trans ?_
    exact ih (l1 + (1 : Int32)) s
set_option maxRecDepth 20000 in
theorem e_X2_newPage_L2 {nf ns : Nat} {rest : am_H} {s0 : KS} : ∀ (n : Nat) (l1 : Int32) (s : KS), j_X2_newPage n 2 [(0, .inl (.ref 15)), (1, .inl (.int l1))] [] (hM nf ns rest s0 s) (0, 0) = am_lf (hM nf ns rest s0) (p_X2_newPage_L2 n l1 s)
  | 0, _, _ => by rw [p_X2_newPage_L2]; rfl
  | n + 1, l1, s => (j_X2_newPage_g n 2 _ _ _ _).trans (b_X2_newPage_L2 n (e_X2_newPage_L2 n) 963 l1 s)
set_option maxRecDepth 20000 in
def p_X2_newPage  (s : KS) : KR := p_X2_newPage_L2 400 (0 : Int32) s
set_option maxRecDepth 20000 in
theorem e_X2_newPage {nf ns : Nat} {rest : am_H} {s0 : KS}  (s : KS) : F_X2_newPage [.inl (.ref 15)] (hM nf ns rest s0 s) = am_lf (hM nf ns rest s0) (p_X2_newPage  s) := by
  rw [p_X2_newPage]
  refine (show _ = g_X2_newPage 399 1000 0 [(0, .inl (.ref 15))] [] (hM nf ns rest s0 s) (0, 0) from am_fn_g (Nat.le_of_ble_eq_true rfl)).trans ?_
  refine ((show ∀ f n : Nat, g_X2_newPage n (f + 2) 0 [(0, .inl (.ref 15))] [] (hM nf ns rest s0 s) (0, 0) = g_X2_newPage n f 2 [(0, .inl (.ref 15)), (1, .inl (.int (0 : Int32)))] [] (hM nf ns rest s0 s) (0, 0) from fun f n => rfl) 998 399).trans ?_
  exact b_X2_newPage_L2 399 (e_X2_newPage_L2 399) 961 (0 : Int32) s
set_option maxRecDepth 20000 in
def g_X2_begin (n f pc : Nat) (lv : am_Lv) (st : List am_V) (h : am_H) (b : Nat × Nat) : Option am_O := am_go X_X2_begin 4 none am_rs0 [] [(33, [0, 1, 3])] (am_lp T_X2_begin X_X2_begin 4 none am_rs0 [] [(33, [0, 1, 3])] n) f (am_from pc T_X2_begin) lv st h b
set_option maxRecDepth 20000 in
def j_X2_begin (n pc : Nat) (lv : am_Lv) (st : List am_V) (h : am_H) (b : Nat × Nat) : Option am_O := am_lp T_X2_begin X_X2_begin 4 none am_rs0 [] [(33, [0, 1, 3])] n pc lv st h b
set_option maxRecDepth 20000 in
theorem j_X2_begin_g (n pc : Nat) (lv : am_Lv) (st : List am_V) (h : am_H) (b : Nat × Nat) : j_X2_begin (n + 1) pc lv st h b = g_X2_begin n 1000 pc lv st h b := rfl
set_option maxRecDepth 20000 in
theorem j_X2_begin_0 (pc : Nat) (lv : am_Lv) (st : List am_V) (h : am_H) (b : Nat × Nat) : j_X2_begin 0 pc lv st h b = none := rfl
set_option maxRecDepth 20000 in
def p_X2_begin_L33 : Nat → Int32 → Int32 → KS → KR
  | 0, _, _, _ => none
  | n + 1, l1, l3, s => cond (decide ((9 : Int32) ≤ l3)) (some (.inl none, s)) (cond (am_in l1 6) (cond (decide (l3 < (s.1 20 l1.toNatClampNeg))) (kbi (p_X2_newPage  s) (fun x2 s1 => cond (am_in (((9 : Int32) * l1) + l3) 54) (p_X2_begin_L33 n l1 (l3 + (1 : Int32)) (kS s1 22 (((9 : Int32) * l1) + l3).toNatClampNeg (x2))) none)) (cond (!decide (l3 = (8 : Int32))) (cond (am_in (((9 : Int32) * l1) + l3) 54) (p_X2_begin_L33 n l1 (l3 + (1 : Int32)) (kS s 22 (((9 : Int32) * l1) + l3).toNatClampNeg ((-1 : Int32)))) none) (kbi (p_X2_newPage  s) (fun x4 s3 => cond (am_in (((9 : Int32) * l1) + l3) 54) (p_X2_begin_L33 n l1 (l3 + (1 : Int32)) (kS s3 22 (((9 : Int32) * l1) + l3).toNatClampNeg (x4))) none)))) none)
set_option maxRecDepth 20000 in
theorem b_X2_begin_L33 {nf ns : Nat} {rest : am_H} {s0 : KS} (n : Nat) (ih : ∀ (l1 : Int32) (l3 : Int32) (s : KS), j_X2_begin n 33 [(0, .inl (.ref 15)), (1, .inl (.int l1)), (3, .inl (.int l3))] [] (hM nf ns rest s0 s) (0, 0) = am_lf (hM nf ns rest s0) (p_X2_begin_L33 n l1 l3 s)) (f : Nat) (l1 : Int32) (l3 : Int32) (s : KS) : g_X2_begin n (f + 28) 33 [(0, .inl (.ref 15)), (1, .inl (.int l1)), (3, .inl (.int l3))] [] (hM nf ns rest s0 s) (0, 0) = am_lf (hM nf ns rest s0) (p_X2_begin_L33 (n + 1) l1 l3 s) := by
  rw [p_X2_begin_L33]
  refine ((show ∀ f n : Nat, g_X2_begin n (f + 3) 33 [(0, .inl (.ref 15)), (1, .inl (.int l1)), (3, .inl (.int l3))] [] (hM nf ns rest s0 s) (0, 0) = cond (decide ((9 : Int32) ≤ l3)) (g_X2_begin n f 80 [(0, .inl (.ref 15)), (1, .inl (.int l1)), (3, .inl (.int l3))] [] (hM nf ns rest s0 s) (0, 0)) (g_X2_begin n f 39 [(0, .inl (.ref 15)), (1, .inl (.int l1)), (3, .inl (.int l3))] [] (hM nf ns rest s0 s) (0, 0)) from fun f n => rfl) (f + 25) n).trans ?_
  refine am_lcd ?_ ?_
  · refine ((show ∀ f n : Nat, g_X2_begin n (f + 1) 80 [(0, .inl (.ref 15)), (1, .inl (.int l1)), (3, .inl (.int l3))] [] (hM nf ns rest s0 s) (0, 0) = some (.inl none, hM nf ns rest s0 s) from fun f n => rfl) (f + 24) n).trans ?_
    rfl
  · refine ((show ∀ f n : Nat, g_X2_begin n (f + 13) 39 [(0, .inl (.ref 15)), (1, .inl (.int l1)), (3, .inl (.int l3))] [] (hM nf ns rest s0 s) (0, 0) = cond (am_in l1 6) (cond (decide (l3 < (s.1 20 l1.toNatClampNeg))) (g_X2_begin n f 65 [(0, .inl (.ref 15)), (1, .inl (.int l1)), (3, .inl (.int l3))] [.inl (.int (((9 : Int32) * l1) + l3)), .inl (.ref 22)] (hM nf ns rest s0 s) (0, 0)) (g_X2_begin n f 59 [(0, .inl (.ref 15)), (1, .inl (.int l1)), (3, .inl (.int l3))] [.inl (.int (((9 : Int32) * l1) + l3)), .inl (.ref 22)] (hM nf ns rest s0 s) (0, 0))) none from fun f n => rfl) (f + 12) n).trans ?_
    refine am_lcd (B := none) ?_ rfl
    refine am_lcd ?_ ?_
    · refine ((show ∀ f n : Nat, g_X2_begin n (f + 2) 65 [(0, .inl (.ref 15)), (1, .inl (.int l1)), (3, .inl (.int l3))] [.inl (.int (((9 : Int32) * l1) + l3)), .inl (.ref 22)] (hM nf ns rest s0 s) (0, 0) = am_ri (F_X2_newPage [.inl (.ref 15)] (hM nf ns rest s0 s)) (fun x2 h => g_X2_begin n f 69 [(0, .inl (.ref 15)), (1, .inl (.int l1)), (3, .inl (.int l3))] [.inl (.int x2), .inl (.int (((9 : Int32) * l1) + l3)), .inl (.ref 22)] h (0, 0)) (fun x h => some (.inr x, h)) from fun f n => rfl) (f + 10) n).trans ?_
      rw [e_X2_newPage  s]
      refine am_lbi (fun x2 s1 => ?_) (fun _ _ => rfl)
      refine ((show ∀ f n : Nat, g_X2_begin n (f + 4) 69 [(0, .inl (.ref 15)), (1, .inl (.int l1)), (3, .inl (.int l3))] [.inl (.int x2), .inl (.int (((9 : Int32) * l1) + l3)), .inl (.ref 22)] (hM nf ns rest s0 s1) (0, 0) = cond (am_in (((9 : Int32) * l1) + l3) 54) (j_X2_begin n 33 [(0, .inl (.ref 15)), (1, .inl (.int l1)), (3, .inl (.int (l3 + (1 : Int32))))] [] (hM nf ns rest s0 (kS s1 22 (((9 : Int32) * l1) + l3).toNatClampNeg (x2))) (0, 0)) none from fun f n => rfl) (f + 6) n).trans ?_
      refine am_lcd (B := none) ?_ rfl
      exact ih l1 (l3 + (1 : Int32)) (kS s1 22 (((9 : Int32) * l1) + l3).toNatClampNeg (x2))
    · refine ((show ∀ f n : Nat, g_X2_begin n (f + 3) 59 [(0, .inl (.ref 15)), (1, .inl (.int l1)), (3, .inl (.int l3))] [.inl (.int (((9 : Int32) * l1) + l3)), .inl (.ref 22)] (hM nf ns rest s0 s) (0, 0) = cond (!decide (l3 = (8 : Int32))) (g_X2_begin n f 72 [(0, .inl (.ref 15)), (1, .inl (.int l1)), (3, .inl (.int l3))] [.inl (.int (((9 : Int32) * l1) + l3)), .inl (.ref 22)] (hM nf ns rest s0 s) (0, 0)) (g_X2_begin n f 65 [(0, .inl (.ref 15)), (1, .inl (.int l1)), (3, .inl (.int l3))] [.inl (.int (((9 : Int32) * l1) + l3)), .inl (.ref 22)] (hM nf ns rest s0 s) (0, 0)) from fun f n => rfl) (f + 9) n).trans ?_
      refine am_lcd ?_ ?_
      · refine ((show ∀ f n : Nat, g_X2_begin n (f + 4) 72 [(0, .inl (.ref 15)), (1, .inl (.int l1)), (3, .inl (.int l3))] [.inl (.int (((9 : Int32) * l1) + l3)), .inl (.ref 22)] (hM nf ns rest s0 s) (0, 0) = cond (am_in (((9 : Int32) * l1) + l3) 54) (j_X2_begin n 33 [(0, .inl (.ref 15)), (1, .inl (.int l1)), (3, .inl (.int (l3 + (1 : Int32))))] [] (hM nf ns rest s0 (kS s 22 (((9 : Int32) * l1) + l3).toNatClampNeg ((-1 : Int32)))) (0, 0)) none from fun f n => rfl) (f + 5) n).trans ?_
        refine am_lcd (B := none) ?_ rfl
        exact ih l1 (l3 + (1 : Int32)) (kS s 22 (((9 : Int32) * l1) + l3).toNatClampNeg ((-1 : Int32)))
      · refine ((show ∀ f n : Nat, g_X2_begin n (f + 2) 65 [(0, .inl (.ref 15)), (1, .inl (.int l1)), (3, .inl (.int l3))] [.inl (.int (((9 : Int32) * l1) + l3)), .inl (.ref 22)] (hM nf ns rest s0 s) (0, 0) = am_ri (F_X2_newPage [.inl (.ref 15)] (hM nf ns rest s0 s)) (fun x4 h => g_X2_begin n f 69 [(0, .inl (.ref 15)), (1, .inl (.int l1)), (3, .inl (.int l3))] [.inl (.int x4), .inl (.int (((9 : Int32) * l1) + l3)), .inl (.ref 22)] h (0, 0)) (fun x h => some (.inr x, h)) from fun f n => rfl) (f + 7) n).trans ?_
        rw [e_X2_newPage  s]
        refine am_lbi (fun x4 s3 => ?_) (fun _ _ => rfl)
        refine ((show ∀ f n : Nat, g_X2_begin n (f + 4) 69 [(0, .inl (.ref 15)), (1, .inl (.int l1)), (3, .inl (.int l3))] [.inl (.int x4), .inl (.int (((9 : Int32) * l1) + l3)), .inl (.ref 22)] (hM nf ns rest s0 s3) (0, 0) = cond (am_in (((9 : Int32) * l1) + l3) 54) (j_X2_begin n 33 [(0, .inl (.ref 15)), (1, .inl (.int l1)), (3, .inl (.int (l3 + (1 : Int32))))] [] (hM nf ns rest s0 (kS s3 22 (((9 : Int32) * l1) + l3).toNatClampNeg (x4))) (0, 0)) none from fun f n => rfl) (f + 3) n).trans ?_
        refine am_lcd (B := none) ?_ rfl
        exact ih l1 (l3 + (1 : Int32)) (kS s3 22 (((9 : Int32) * l1) + l3).toNatClampNeg (x4))
set_option maxRecDepth 20000 in
theorem e_X2_begin_L33 {nf ns : Nat} {rest : am_H} {s0 : KS} : ∀ (n : Nat) (l1 : Int32) (l3 : Int32) (s : KS), j_X2_begin n 33 [(0, .inl (.ref 15)), (1, .inl (.int l1)), (3, .inl (.int l3))] [] (hM nf ns rest s0 s) (0, 0) = am_lf (hM nf ns rest s0) (p_X2_begin_L33 n l1 l3 s)
  | 0, _, _, _ => by rw [p_X2_begin_L33]; rfl
  | n + 1, l1, l3, s => (j_X2_begin_g n 33 _ _ _ _).trans (b_X2_begin_L33 n (e_X2_begin_L33 n) 972 l1 l3 s)
set_option maxRecDepth 20000 in
def p_X2_begin (a1 : Int32) (a2 : Int32) (s : KS) : KR := cond (am_in a1 6) (cond (!decide (a2 = (0 : Int32))) (cond (am_in a1 6) (cond (am_in a1 6) (p_X2_begin_L33 400 a1 (0 : Int32) (kS (kS (kS s 17 a1.toNatClampNeg (a2)) 20 a1.toNatClampNeg (((2 : Int32) * a2))) 21 a1.toNatClampNeg ((1 : Int32)))) none) none) (cond (am_in a1 6) (cond (am_in a1 6) (p_X2_begin_L33 400 a1 (0 : Int32) (kS (kS (kS s 17 a1.toNatClampNeg (a2)) 20 a1.toNatClampNeg ((1 : Int32))) 21 a1.toNatClampNeg ((1 : Int32)))) none) none)) none
set_option maxRecDepth 20000 in
theorem e_X2_begin {nf ns : Nat} {rest : am_H} {s0 : KS} (a1 : Int32) (a2 : Int32) (s : KS) : F_X2_begin [.inl (.ref 15), .inl (.int a1), .inl (.int a2)] (hM nf ns rest s0 s) = am_lf (hM nf ns rest s0) (p_X2_begin a1 a2 s) := by
  rw [p_X2_begin]
  refine (show _ = g_X2_begin 399 1000 0 [(0, .inl (.ref 15)), (1, .inl (.int a1)), (2, .inl (.int a2))] [] (hM nf ns rest s0 s) (0, 0) from am_fn_g (Nat.le_of_ble_eq_true rfl)).trans ?_
  refine ((show ∀ f n : Nat, g_X2_begin n (f + 10) 0 [(0, .inl (.ref 15)), (1, .inl (.int a1)), (2, .inl (.int a2))] [] (hM nf ns rest s0 s) (0, 0) = cond (am_in a1 6) (cond (!decide (a2 = (0 : Int32))) (g_X2_begin n f 20 [(0, .inl (.ref 15)), (1, .inl (.int a1)), (2, .inl (.int a2))] [.inl (.int a1), .inl (.ref 20)] (hM nf ns rest s0 (kS s 17 a1.toNatClampNeg (a2))) (0, 0)) (g_X2_begin n f 16 [(0, .inl (.ref 15)), (1, .inl (.int a1)), (2, .inl (.int a2))] [.inl (.int a1), .inl (.ref 20)] (hM nf ns rest s0 (kS s 17 a1.toNatClampNeg (a2))) (0, 0))) none from fun f n => rfl) 990 399).trans ?_
  refine am_lcd (B := none) ?_ rfl
  refine am_lcd ?_ ?_
  · refine ((show ∀ (f n : Nat) (z : KS), g_X2_begin n (f + 11) 20 [(0, .inl (.ref 15)), (1, .inl (.int a1)), (2, .inl (.int a2))] [.inl (.int a1), .inl (.ref 20)] (hM nf ns rest s0 z) (0, 0) = cond (am_in a1 6) (cond (am_in a1 6) (g_X2_begin n f 33 [(0, .inl (.ref 15)), (1, .inl (.int a1)), (2, .inl (.int a2)), (3, .inl (.int (0 : Int32)))] [] (hM nf ns rest s0 (kS (kS z 20 a1.toNatClampNeg (((2 : Int32) * a2))) 21 a1.toNatClampNeg ((1 : Int32)))) (0, 0)) none) none from fun f n z => rfl) 979 399 (kS s 17 a1.toNatClampNeg (a2))).trans ?_
    refine am_lcd (B := none) ?_ rfl
    refine am_lcd (B := none) ?_ rfl
    refine ((show ∀ f n : Nat, g_X2_begin n (f + 1) 33 [(0, .inl (.ref 15)), (1, .inl (.int a1)), (2, .inl (.int a2)), (3, .inl (.int (0 : Int32)))] [] (hM nf ns rest s0 (kS (kS (kS s 17 a1.toNatClampNeg (a2)) 20 a1.toNatClampNeg (((2 : Int32) * a2))) 21 a1.toNatClampNeg ((1 : Int32)))) (0, 0) = g_X2_begin n (f + 1) 33 [(0, .inl (.ref 15)), (1, .inl (.int a1)), (3, .inl (.int (0 : Int32)))] [] (hM nf ns rest s0 (kS (kS (kS s 17 a1.toNatClampNeg (a2)) 20 a1.toNatClampNeg (((2 : Int32) * a2))) 21 a1.toNatClampNeg ((1 : Int32)))) (0, 0) from fun f n => rfl) 978 399).trans ?_
    exact b_X2_begin_L33 399 (e_X2_begin_L33 399) 951 a1 (0 : Int32) (kS (kS (kS s 17 a1.toNatClampNeg (a2)) 20 a1.toNatClampNeg (((2 : Int32) * a2))) 21 a1.toNatClampNeg ((1 : Int32)))
  · refine ((show ∀ (f n : Nat) (z : KS), g_X2_begin n (f + 10) 16 [(0, .inl (.ref 15)), (1, .inl (.int a1)), (2, .inl (.int a2))] [.inl (.int a1), .inl (.ref 20)] (hM nf ns rest s0 z) (0, 0) = cond (am_in a1 6) (cond (am_in a1 6) (g_X2_begin n f 33 [(0, .inl (.ref 15)), (1, .inl (.int a1)), (2, .inl (.int a2)), (3, .inl (.int (0 : Int32)))] [] (hM nf ns rest s0 (kS (kS z 20 a1.toNatClampNeg ((1 : Int32))) 21 a1.toNatClampNeg ((1 : Int32)))) (0, 0)) none) none from fun f n z => rfl) 980 399 (kS s 17 a1.toNatClampNeg (a2))).trans ?_
    refine am_lcd (B := none) ?_ rfl
    refine am_lcd (B := none) ?_ rfl
    refine ((show ∀ f n : Nat, g_X2_begin n (f + 1) 33 [(0, .inl (.ref 15)), (1, .inl (.int a1)), (2, .inl (.int a2)), (3, .inl (.int (0 : Int32)))] [] (hM nf ns rest s0 (kS (kS (kS s 17 a1.toNatClampNeg (a2)) 20 a1.toNatClampNeg ((1 : Int32))) 21 a1.toNatClampNeg ((1 : Int32)))) (0, 0) = g_X2_begin n (f + 1) 33 [(0, .inl (.ref 15)), (1, .inl (.int a1)), (3, .inl (.int (0 : Int32)))] [] (hM nf ns rest s0 (kS (kS (kS s 17 a1.toNatClampNeg (a2)) 20 a1.toNatClampNeg ((1 : Int32))) 21 a1.toNatClampNeg ((1 : Int32)))) (0, 0) from fun f n => rfl) 979 399).trans ?_
    exact b_X2_begin_L33 399 (e_X2_begin_L33 399) 952 a1 (0 : Int32) (kS (kS (kS s 17 a1.toNatClampNeg (a2)) 20 a1.toNatClampNeg ((1 : Int32))) 21 a1.toNatClampNeg ((1 : Int32)))
set_option maxRecDepth 20000 in
def g_X2_thrown (n f pc : Nat) (lv : am_Lv) (st : List am_V) (h : am_H) (b : Nat × Nat) : Option am_O := am_go X_X2_thrown 1 (some .int) am_rs0 [] [] (am_lp T_X2_thrown X_X2_thrown 1 (some .int) am_rs0 [] [] n) f (am_from pc T_X2_thrown) lv st h b
set_option maxRecDepth 20000 in
def j_X2_thrown (n pc : Nat) (lv : am_Lv) (st : List am_V) (h : am_H) (b : Nat × Nat) : Option am_O := am_lp T_X2_thrown X_X2_thrown 1 (some .int) am_rs0 [] [] n pc lv st h b
set_option maxRecDepth 20000 in
theorem j_X2_thrown_g (n pc : Nat) (lv : am_Lv) (st : List am_V) (h : am_H) (b : Nat × Nat) : j_X2_thrown (n + 1) pc lv st h b = g_X2_thrown n 1000 pc lv st h b := rfl
set_option maxRecDepth 20000 in
theorem j_X2_thrown_0 (pc : Nat) (lv : am_Lv) (st : List am_V) (h : am_H) (b : Nat × Nat) : j_X2_thrown 0 pc lv st h b = none := rfl
set_option maxRecDepth 20000 in
def p_X2_thrown  (s : KS) : KR := some (.inl (some (s.1 15 0)), s)
set_option maxRecDepth 20000 in
theorem e_X2_thrown {nf ns : Nat} {rest : am_H} {s0 : KS}  (s : KS) : F_X2_thrown [.inl (.ref 15)] (hM nf ns rest s0 s) = am_lf (hM nf ns rest s0) (p_X2_thrown  s) := by
  rw [p_X2_thrown]
  refine (show _ = g_X2_thrown 399 1000 0 [(0, .inl (.ref 15))] [] (hM nf ns rest s0 s) (0, 0) from am_fn_g (Nat.le_of_ble_eq_true rfl)).trans ?_
  refine ((show ∀ f n : Nat, g_X2_thrown n (f + 3) 0 [(0, .inl (.ref 15))] [] (hM nf ns rest s0 s) (0, 0) = some (.inl (some (.inl (.int (s.1 15 0)))), hM nf ns rest s0 s) from fun f n => rfl) 997 399).trans ?_
  rfl
set_option maxRecDepth 20000 in
def g_X2_out (n f pc : Nat) (lv : am_Lv) (st : List am_V) (h : am_H) (b : Nat × Nat) : Option am_O := am_go X_X2_out 3 (some .boolean) am_rs0 [] [] (am_lp T_X2_out X_X2_out 3 (some .boolean) am_rs0 [] [] n) f (am_from pc T_X2_out) lv st h b
set_option maxRecDepth 20000 in
def j_X2_out (n pc : Nat) (lv : am_Lv) (st : List am_V) (h : am_H) (b : Nat × Nat) : Option am_O := am_lp T_X2_out X_X2_out 3 (some .boolean) am_rs0 [] [] n pc lv st h b
set_option maxRecDepth 20000 in
theorem j_X2_out_g (n pc : Nat) (lv : am_Lv) (st : List am_V) (h : am_H) (b : Nat × Nat) : j_X2_out (n + 1) pc lv st h b = g_X2_out n 1000 pc lv st h b := rfl
set_option maxRecDepth 20000 in
theorem j_X2_out_0 (pc : Nat) (lv : am_Lv) (st : List am_V) (h : am_H) (b : Nat × Nat) : j_X2_out 0 pc lv st h b = none := rfl
set_option maxRecDepth 20000 in
def p_X2_out (a1 : Int32) (a2 : Int32) (s : KS) : KR := cond (decide (a1 < (0 : Int32))) (some (.inl (some (1 : Int32)), s)) (cond (decide (a1 < a2)) (some (.inl (some (0 : Int32)), s)) (some (.inl (some (1 : Int32)), s)))
set_option maxRecDepth 20000 in
theorem e_X2_out {nf ns : Nat} {rest : am_H} {s0 : KS} (a1 : Int32) (a2 : Int32) (s : KS) : F_X2_out [.inl (.ref 15), .inl (.int a1), .inl (.int a2)] (hM nf ns rest s0 s) = am_lf (hM nf ns rest s0) (p_X2_out a1 a2 s) := by
  rw [p_X2_out]
  refine (show _ = g_X2_out 399 1000 0 [(0, .inl (.ref 15)), (1, .inl (.int a1)), (2, .inl (.int a2))] [] (hM nf ns rest s0 s) (0, 0) from am_fn_g (Nat.le_of_ble_eq_true rfl)).trans ?_
  refine ((show ∀ f n : Nat, g_X2_out n (f + 2) 0 [(0, .inl (.ref 15)), (1, .inl (.int a1)), (2, .inl (.int a2))] [] (hM nf ns rest s0 s) (0, 0) = cond (decide (a1 < (0 : Int32))) (g_X2_out n f 9 [(0, .inl (.ref 15)), (1, .inl (.int a1)), (2, .inl (.int a2))] [] (hM nf ns rest s0 s) (0, 0)) (g_X2_out n f 4 [(0, .inl (.ref 15)), (1, .inl (.int a1)), (2, .inl (.int a2))] [] (hM nf ns rest s0 s) (0, 0)) from fun f n => rfl) 998 399).trans ?_
  refine am_lcd ?_ ?_
  · refine ((show ∀ f n : Nat, g_X2_out n (f + 3) 9 [(0, .inl (.ref 15)), (1, .inl (.int a1)), (2, .inl (.int a2))] [] (hM nf ns rest s0 s) (0, 0) = some (.inl (some (.inl (.int (1 : Int32)))), hM nf ns rest s0 s) from fun f n => rfl) 995 399).trans ?_
    rfl
  · refine ((show ∀ f n : Nat, g_X2_out n (f + 3) 4 [(0, .inl (.ref 15)), (1, .inl (.int a1)), (2, .inl (.int a2))] [] (hM nf ns rest s0 s) (0, 0) = cond (decide (a1 < a2)) (g_X2_out n f 13 [(0, .inl (.ref 15)), (1, .inl (.int a1)), (2, .inl (.int a2))] [] (hM nf ns rest s0 s) (0, 0)) (g_X2_out n f 9 [(0, .inl (.ref 15)), (1, .inl (.int a1)), (2, .inl (.int a2))] [] (hM nf ns rest s0 s) (0, 0)) from fun f n => rfl) 995 399).trans ?_
    refine am_lcd ?_ ?_
    · refine ((show ∀ f n : Nat, g_X2_out n (f + 2) 13 [(0, .inl (.ref 15)), (1, .inl (.int a1)), (2, .inl (.int a2))] [] (hM nf ns rest s0 s) (0, 0) = some (.inl (some (.inl (.int (0 : Int32)))), hM nf ns rest s0 s) from fun f n => rfl) 993 399).trans ?_
      rfl
    · refine ((show ∀ f n : Nat, g_X2_out n (f + 3) 9 [(0, .inl (.ref 15)), (1, .inl (.int a1)), (2, .inl (.int a2))] [] (hM nf ns rest s0 s) (0, 0) = some (.inl (some (.inl (.int (1 : Int32)))), hM nf ns rest s0 s) from fun f n => rfl) 992 399).trans ?_
      rfl
set_option maxRecDepth 20000 in
def g_X2_fail (n f pc : Nat) (lv : am_Lv) (st : List am_V) (h : am_H) (b : Nat × Nat) : Option am_O := am_go X_X2_fail 2 (some .int) am_rs0 [] [] (am_lp T_X2_fail X_X2_fail 2 (some .int) am_rs0 [] [] n) f (am_from pc T_X2_fail) lv st h b
set_option maxRecDepth 20000 in
def j_X2_fail (n pc : Nat) (lv : am_Lv) (st : List am_V) (h : am_H) (b : Nat × Nat) : Option am_O := am_lp T_X2_fail X_X2_fail 2 (some .int) am_rs0 [] [] n pc lv st h b
set_option maxRecDepth 20000 in
theorem j_X2_fail_g (n pc : Nat) (lv : am_Lv) (st : List am_V) (h : am_H) (b : Nat × Nat) : j_X2_fail (n + 1) pc lv st h b = g_X2_fail n 1000 pc lv st h b := rfl
set_option maxRecDepth 20000 in
theorem j_X2_fail_0 (pc : Nat) (lv : am_Lv) (st : List am_V) (h : am_H) (b : Nat × Nat) : j_X2_fail 0 pc lv st h b = none := rfl
set_option maxRecDepth 20000 in
def p_X2_fail (a1 : Int32) (s : KS) : KR := some (.inl (some (0 : Int32)), (kS s 15 0 a1))
set_option maxRecDepth 20000 in
theorem e_X2_fail {nf ns : Nat} {rest : am_H} {s0 : KS} (a1 : Int32) (s : KS) : F_X2_fail [.inl (.ref 15), .inl (.int a1)] (hM nf ns rest s0 s) = am_lf (hM nf ns rest s0) (p_X2_fail a1 s) := by
  rw [p_X2_fail]
  refine (show _ = g_X2_fail 399 1000 0 [(0, .inl (.ref 15)), (1, .inl (.int a1))] [] (hM nf ns rest s0 s) (0, 0) from am_fn_g (Nat.le_of_ble_eq_true rfl)).trans ?_
  refine ((show ∀ f n : Nat, g_X2_fail n (f + 5) 0 [(0, .inl (.ref 15)), (1, .inl (.int a1))] [] (hM nf ns rest s0 s) (0, 0) = some (.inl (some (.inl (.int (0 : Int32)))), hM nf ns rest s0 (kS s 15 0 a1)) from fun f n => rfl) 995 399).trans ?_
  rfl
set_option maxRecDepth 20000 in
def g_X2_notRunning (n f pc : Nat) (lv : am_Lv) (st : List am_V) (h : am_H) (b : Nat × Nat) : Option am_O := am_go X_X2_notRunning 2 (some .boolean) am_rs0 [] [] (am_lp T_X2_notRunning X_X2_notRunning 2 (some .boolean) am_rs0 [] [] n) f (am_from pc T_X2_notRunning) lv st h b
set_option maxRecDepth 20000 in
def j_X2_notRunning (n pc : Nat) (lv : am_Lv) (st : List am_V) (h : am_H) (b : Nat × Nat) : Option am_O := am_lp T_X2_notRunning X_X2_notRunning 2 (some .boolean) am_rs0 [] [] n pc lv st h b
set_option maxRecDepth 20000 in
theorem j_X2_notRunning_g (n pc : Nat) (lv : am_Lv) (st : List am_V) (h : am_H) (b : Nat × Nat) : j_X2_notRunning (n + 1) pc lv st h b = g_X2_notRunning n 1000 pc lv st h b := rfl
set_option maxRecDepth 20000 in
theorem j_X2_notRunning_0 (pc : Nat) (lv : am_Lv) (st : List am_V) (h : am_H) (b : Nat × Nat) : j_X2_notRunning 0 pc lv st h b = none := rfl
set_option maxRecDepth 20000 in
def p_X2_notRunning (a1 : Int32) (s : KS) : KR := cond (am_in a1 6) (cond (decide ((s.1 16 a1.toNatClampNeg) = (1 : Int32))) (some (.inl (some (0 : Int32)), s)) (some (.inl (some (1 : Int32)), s))) none
set_option maxRecDepth 20000 in
theorem e_X2_notRunning {nf ns : Nat} {rest : am_H} {s0 : KS} (a1 : Int32) (s : KS) : F_X2_notRunning [.inl (.ref 15), .inl (.int a1)] (hM nf ns rest s0 s) = am_lf (hM nf ns rest s0) (p_X2_notRunning a1 s) := by
  rw [p_X2_notRunning]
  refine (show _ = g_X2_notRunning 399 1000 0 [(0, .inl (.ref 15)), (1, .inl (.int a1))] [] (hM nf ns rest s0 s) (0, 0) from am_fn_g (Nat.le_of_ble_eq_true rfl)).trans ?_
  refine ((show ∀ f n : Nat, g_X2_notRunning n (f + 6) 0 [(0, .inl (.ref 15)), (1, .inl (.int a1))] [] (hM nf ns rest s0 s) (0, 0) = cond (am_in a1 6) (cond (decide ((s.1 16 a1.toNatClampNeg) = (1 : Int32))) (g_X2_notRunning n f 14 [(0, .inl (.ref 15)), (1, .inl (.int a1))] [] (hM nf ns rest s0 s) (0, 0)) (g_X2_notRunning n f 10 [(0, .inl (.ref 15)), (1, .inl (.int a1))] [] (hM nf ns rest s0 s) (0, 0))) none from fun f n => rfl) 994 399).trans ?_
  refine am_lcd (B := none) ?_ rfl
  refine am_lcd ?_ ?_
  · refine ((show ∀ f n : Nat, g_X2_notRunning n (f + 2) 14 [(0, .inl (.ref 15)), (1, .inl (.int a1))] [] (hM nf ns rest s0 s) (0, 0) = some (.inl (some (.inl (.int (0 : Int32)))), hM nf ns rest s0 s) from fun f n => rfl) 992 399).trans ?_
    rfl
  · refine ((show ∀ f n : Nat, g_X2_notRunning n (f + 3) 10 [(0, .inl (.ref 15)), (1, .inl (.int a1))] [] (hM nf ns rest s0 s) (0, 0) = some (.inl (some (.inl (.int (1 : Int32)))), hM nf ns rest s0 s) from fun f n => rfl) 991 399).trans ?_
    rfl
set_option maxRecDepth 20000 in
def g_X2_fork (n f pc : Nat) (lv : am_Lv) (st : List am_V) (h : am_H) (b : Nat × Nat) : Option am_O := am_go X_X2_fork 4 (some .int) am_rs0 [] [(37, [0, 1, 2]), (122, [0, 1, 2, 3])] (am_lp T_X2_fork X_X2_fork 4 (some .int) am_rs0 [] [(37, [0, 1, 2]), (122, [0, 1, 2, 3])] n) f (am_from pc T_X2_fork) lv st h b
set_option maxRecDepth 20000 in
def j_X2_fork (n pc : Nat) (lv : am_Lv) (st : List am_V) (h : am_H) (b : Nat × Nat) : Option am_O := am_lp T_X2_fork X_X2_fork 4 (some .int) am_rs0 [] [(37, [0, 1, 2]), (122, [0, 1, 2, 3])] n pc lv st h b
set_option maxRecDepth 20000 in
theorem j_X2_fork_g (n pc : Nat) (lv : am_Lv) (st : List am_V) (h : am_H) (b : Nat × Nat) : j_X2_fork (n + 1) pc lv st h b = g_X2_fork n 1000 pc lv st h b := rfl
set_option maxRecDepth 20000 in
theorem j_X2_fork_0 (pc : Nat) (lv : am_Lv) (st : List am_V) (h : am_H) (b : Nat × Nat) : j_X2_fork 0 pc lv st h b = none := rfl
set_option maxRecDepth 20000 in
def p_X2_fork_L122 : Nat → Int32 → Int32 → Int32 → KS → KR
  | 0, _, _, _, _ => none
  | n + 1, l1, l2, l3, s => cond (decide ((9 : Int32) ≤ l3)) (some (.inl (some l2), s)) (cond (am_in (((9 : Int32) * l1) + l3) 54) (cond (am_in (((9 : Int32) * l2) + l3) 54) (p_X2_fork_L122 n l1 l2 (l3 + (1 : Int32)) (kS s 22 (((9 : Int32) * l2) + l3).toNatClampNeg ((s.1 22 (((9 : Int32) * l1) + l3).toNatClampNeg)))) none) none)
set_option maxRecDepth 20000 in
theorem b_X2_fork_L122 {nf ns : Nat} {rest : am_H} {s0 : KS} (n : Nat) (ih : ∀ (l1 : Int32) (l2 : Int32) (l3 : Int32) (s : KS), j_X2_fork n 122 [(0, .inl (.ref 15)), (1, .inl (.int l1)), (2, .inl (.int l2)), (3, .inl (.int l3))] [] (hM nf ns rest s0 s) (0, 0) = am_lf (hM nf ns rest s0) (p_X2_fork_L122 n l1 l2 l3 s)) (f : Nat) (l1 : Int32) (l2 : Int32) (l3 : Int32) (s : KS) : g_X2_fork n (f + 24) 122 [(0, .inl (.ref 15)), (1, .inl (.int l1)), (2, .inl (.int l2)), (3, .inl (.int l3))] [] (hM nf ns rest s0 s) (0, 0) = am_lf (hM nf ns rest s0) (p_X2_fork_L122 (n + 1) l1 l2 l3 s) := by
  rw [p_X2_fork_L122]
  refine ((show ∀ f n : Nat, g_X2_fork n (f + 3) 122 [(0, .inl (.ref 15)), (1, .inl (.int l1)), (2, .inl (.int l2)), (3, .inl (.int l3))] [] (hM nf ns rest s0 s) (0, 0) = cond (decide ((9 : Int32) ≤ l3)) (g_X2_fork n f 156 [(0, .inl (.ref 15)), (1, .inl (.int l1)), (2, .inl (.int l2)), (3, .inl (.int l3))] [] (hM nf ns rest s0 s) (0, 0)) (g_X2_fork n f 128 [(0, .inl (.ref 15)), (1, .inl (.int l1)), (2, .inl (.int l2)), (3, .inl (.int l3))] [] (hM nf ns rest s0 s) (0, 0)) from fun f n => rfl) (f + 21) n).trans ?_
  refine am_lcd ?_ ?_
  · refine ((show ∀ f n : Nat, g_X2_fork n (f + 2) 156 [(0, .inl (.ref 15)), (1, .inl (.int l1)), (2, .inl (.int l2)), (3, .inl (.int l3))] [] (hM nf ns rest s0 s) (0, 0) = some (.inl (some (.inl (.int l2))), hM nf ns rest s0 s) from fun f n => rfl) (f + 19) n).trans ?_
    rfl
  · refine ((show ∀ f n : Nat, g_X2_fork n (f + 18) 128 [(0, .inl (.ref 15)), (1, .inl (.int l1)), (2, .inl (.int l2)), (3, .inl (.int l3))] [] (hM nf ns rest s0 s) (0, 0) = cond (am_in (((9 : Int32) * l1) + l3) 54) (cond (am_in (((9 : Int32) * l2) + l3) 54) (j_X2_fork n 122 [(0, .inl (.ref 15)), (1, .inl (.int l1)), (2, .inl (.int l2)), (3, .inl (.int (l3 + (1 : Int32))))] [] (hM nf ns rest s0 (kS s 22 (((9 : Int32) * l2) + l3).toNatClampNeg ((s.1 22 (((9 : Int32) * l1) + l3).toNatClampNeg)))) (0, 0)) none) none from fun f n => rfl) (f + 3) n).trans ?_
    refine am_lcd (B := none) ?_ rfl
    refine am_lcd (B := none) ?_ rfl
    exact ih l1 l2 (l3 + (1 : Int32)) (kS s 22 (((9 : Int32) * l2) + l3).toNatClampNeg ((s.1 22 (((9 : Int32) * l1) + l3).toNatClampNeg)))
set_option maxRecDepth 20000 in
theorem e_X2_fork_L122 {nf ns : Nat} {rest : am_H} {s0 : KS} : ∀ (n : Nat) (l1 : Int32) (l2 : Int32) (l3 : Int32) (s : KS), j_X2_fork n 122 [(0, .inl (.ref 15)), (1, .inl (.int l1)), (2, .inl (.int l2)), (3, .inl (.int l3))] [] (hM nf ns rest s0 s) (0, 0) = am_lf (hM nf ns rest s0) (p_X2_fork_L122 n l1 l2 l3 s)
  | 0, _, _, _, _ => by rw [p_X2_fork_L122]; rfl
  | n + 1, l1, l2, l3, s => (j_X2_fork_g n 122 _ _ _ _).trans (b_X2_fork_L122 n (e_X2_fork_L122 n) 976 l1 l2 l3 s)
set_option maxRecDepth 20000 in
def p_X2_fork_L37 : Nat → Int32 → Int32 → KS → KR
  | 0, _, _, _ => none
  | n + 1, l1, l2, s => cond (decide ((6 : Int32) ≤ l2)) (cond (!decide (l2 = (6 : Int32))) (cond (am_in l2 6) (cond (am_in l2 6) (cond (am_in l1 6) (cond (am_in l2 6) (cond (am_in l1 6) (cond (am_in l2 6) (cond (am_in l1 6) (cond (am_in l2 6) (p_X2_fork_L122 (n + 1) l1 l2 (0 : Int32) (kS (kS (kS (kS (kS s 16 l2.toNatClampNeg ((1 : Int32))) 18 l2.toNatClampNeg (l1)) 17 l2.toNatClampNeg (((kS (kS s 16 l2.toNatClampNeg ((1 : Int32))) 18 l2.toNatClampNeg (l1)).1 17 l1.toNatClampNeg))) 20 l2.toNatClampNeg (((kS (kS (kS s 16 l2.toNatClampNeg ((1 : Int32))) 18 l2.toNatClampNeg (l1)) 17 l2.toNatClampNeg (((kS (kS s 16 l2.toNatClampNeg ((1 : Int32))) 18 l2.toNatClampNeg (l1)).1 17 l1.toNatClampNeg))).1 20 l1.toNatClampNeg))) 21 l2.toNatClampNeg (((kS (kS (kS (kS s 16 l2.toNatClampNeg ((1 : Int32))) 18 l2.toNatClampNeg (l1)) 17 l2.toNatClampNeg (((kS (kS s 16 l2.toNatClampNeg ((1 : Int32))) 18 l2.toNatClampNeg (l1)).1 17 l1.toNatClampNeg))) 20 l2.toNatClampNeg (((kS (kS (kS s 16 l2.toNatClampNeg ((1 : Int32))) 18 l2.toNatClampNeg (l1)) 17 l2.toNatClampNeg (((kS (kS s 16 l2.toNatClampNeg ((1 : Int32))) 18 l2.toNatClampNeg (l1)).1 17 l1.toNatClampNeg))).1 20 l1.toNatClampNeg))).1 21 l1.toNatClampNeg)))) none) none) none) none) none) none) none) none) (kbi (p_X2_fail (3 : Int32) s) (fun x6 s5 => some (.inl (some x6), s5)))) (cond (am_in l2 6) (cond (decide ((s.1 16 l2.toNatClampNeg) = (0 : Int32))) (cond (!decide (l2 = (6 : Int32))) (cond (am_in l2 6) (cond (am_in l2 6) (cond (am_in l1 6) (cond (am_in l2 6) (cond (am_in l1 6) (cond (am_in l2 6) (cond (am_in l1 6) (cond (am_in l2 6) (p_X2_fork_L122 (n + 1) l1 l2 (0 : Int32) (kS (kS (kS (kS (kS s 16 l2.toNatClampNeg ((1 : Int32))) 18 l2.toNatClampNeg (l1)) 17 l2.toNatClampNeg (((kS (kS s 16 l2.toNatClampNeg ((1 : Int32))) 18 l2.toNatClampNeg (l1)).1 17 l1.toNatClampNeg))) 20 l2.toNatClampNeg (((kS (kS (kS s 16 l2.toNatClampNeg ((1 : Int32))) 18 l2.toNatClampNeg (l1)) 17 l2.toNatClampNeg (((kS (kS s 16 l2.toNatClampNeg ((1 : Int32))) 18 l2.toNatClampNeg (l1)).1 17 l1.toNatClampNeg))).1 20 l1.toNatClampNeg))) 21 l2.toNatClampNeg (((kS (kS (kS (kS s 16 l2.toNatClampNeg ((1 : Int32))) 18 l2.toNatClampNeg (l1)) 17 l2.toNatClampNeg (((kS (kS s 16 l2.toNatClampNeg ((1 : Int32))) 18 l2.toNatClampNeg (l1)).1 17 l1.toNatClampNeg))) 20 l2.toNatClampNeg (((kS (kS (kS s 16 l2.toNatClampNeg ((1 : Int32))) 18 l2.toNatClampNeg (l1)) 17 l2.toNatClampNeg (((kS (kS s 16 l2.toNatClampNeg ((1 : Int32))) 18 l2.toNatClampNeg (l1)).1 17 l1.toNatClampNeg))).1 20 l1.toNatClampNeg))).1 21 l1.toNatClampNeg)))) none) none) none) none) none) none) none) none) (kbi (p_X2_fail (3 : Int32) s) (fun x8 s7 => some (.inl (some x8), s7)))) (p_X2_fork_L37 n l1 (l2 + (1 : Int32)) s)) none)
set_option maxRecDepth 20000 in
theorem b_X2_fork_L37 {nf ns : Nat} {rest : am_H} {s0 : KS} (n : Nat) (ih : ∀ (l1 : Int32) (l2 : Int32) (s : KS), j_X2_fork n 37 [(0, .inl (.ref 15)), (1, .inl (.int l1)), (2, .inl (.int l2))] [] (hM nf ns rest s0 s) (0, 0) = am_lf (hM nf ns rest s0) (p_X2_fork_L37 n l1 l2 s)) (f : Nat) (l1 : Int32) (l2 : Int32) (s : KS) : g_X2_fork n (f + 74) 37 [(0, .inl (.ref 15)), (1, .inl (.int l1)), (2, .inl (.int l2))] [] (hM nf ns rest s0 s) (0, 0) = am_lf (hM nf ns rest s0) (p_X2_fork_L37 (n + 1) l1 l2 s) := by
  rw [p_X2_fork_L37]
  refine ((show ∀ f n : Nat, g_X2_fork n (f + 3) 37 [(0, .inl (.ref 15)), (1, .inl (.int l1)), (2, .inl (.int l2))] [] (hM nf ns rest s0 s) (0, 0) = cond (decide ((6 : Int32) ≤ l2)) (g_X2_fork n f 58 [(0, .inl (.ref 15)), (1, .inl (.int l1)), (2, .inl (.int l2))] [] (hM nf ns rest s0 s) (0, 0)) (g_X2_fork n f 43 [(0, .inl (.ref 15)), (1, .inl (.int l1)), (2, .inl (.int l2))] [] (hM nf ns rest s0 s) (0, 0)) from fun f n => rfl) (f + 71) n).trans ?_
  refine am_lcd ?_ ?_
  · refine ((show ∀ f n : Nat, g_X2_fork n (f + 3) 58 [(0, .inl (.ref 15)), (1, .inl (.int l1)), (2, .inl (.int l2))] [] (hM nf ns rest s0 s) (0, 0) = cond (!decide (l2 = (6 : Int32))) (g_X2_fork n f 70 [(0, .inl (.ref 15)), (1, .inl (.int l1)), (2, .inl (.int l2))] [] (hM nf ns rest s0 s) (0, 0)) (g_X2_fork n f 64 [(0, .inl (.ref 15)), (1, .inl (.int l1)), (2, .inl (.int l2))] [] (hM nf ns rest s0 s) (0, 0)) from fun f n => rfl) (f + 68) n).trans ?_
    refine am_lcd ?_ ?_
    · refine ((show ∀ f n : Nat, g_X2_fork n (f + 36) 70 [(0, .inl (.ref 15)), (1, .inl (.int l1)), (2, .inl (.int l2))] [] (hM nf ns rest s0 s) (0, 0) = cond (am_in l2 6) (cond (am_in l2 6) (cond (am_in l1 6) (cond (am_in l2 6) (cond (am_in l1 6) (cond (am_in l2 6) (cond (am_in l1 6) (cond (am_in l2 6) (g_X2_fork n f 122 [(0, .inl (.ref 15)), (1, .inl (.int l1)), (2, .inl (.int l2)), (3, .inl (.int (0 : Int32)))] [] (hM nf ns rest s0 (kS (kS (kS (kS (kS s 16 l2.toNatClampNeg ((1 : Int32))) 18 l2.toNatClampNeg (l1)) 17 l2.toNatClampNeg (((kS (kS s 16 l2.toNatClampNeg ((1 : Int32))) 18 l2.toNatClampNeg (l1)).1 17 l1.toNatClampNeg))) 20 l2.toNatClampNeg (((kS (kS (kS s 16 l2.toNatClampNeg ((1 : Int32))) 18 l2.toNatClampNeg (l1)) 17 l2.toNatClampNeg (((kS (kS s 16 l2.toNatClampNeg ((1 : Int32))) 18 l2.toNatClampNeg (l1)).1 17 l1.toNatClampNeg))).1 20 l1.toNatClampNeg))) 21 l2.toNatClampNeg (((kS (kS (kS (kS s 16 l2.toNatClampNeg ((1 : Int32))) 18 l2.toNatClampNeg (l1)) 17 l2.toNatClampNeg (((kS (kS s 16 l2.toNatClampNeg ((1 : Int32))) 18 l2.toNatClampNeg (l1)).1 17 l1.toNatClampNeg))) 20 l2.toNatClampNeg (((kS (kS (kS s 16 l2.toNatClampNeg ((1 : Int32))) 18 l2.toNatClampNeg (l1)) 17 l2.toNatClampNeg (((kS (kS s 16 l2.toNatClampNeg ((1 : Int32))) 18 l2.toNatClampNeg (l1)).1 17 l1.toNatClampNeg))).1 20 l1.toNatClampNeg))).1 21 l1.toNatClampNeg)))) (0, 0)) none) none) none) none) none) none) none) none from fun f n => rfl) (f + 32) n).trans ?_
      refine am_lcd (B := none) ?_ rfl
      refine am_lcd (B := none) ?_ rfl
      refine am_lcd (B := none) ?_ rfl
      refine am_lcd (B := none) ?_ rfl
      refine am_lcd (B := none) ?_ rfl
      refine am_lcd (B := none) ?_ rfl
      refine am_lcd (B := none) ?_ rfl
      refine am_lcd (B := none) ?_ rfl
      exact b_X2_fork_L122 n (e_X2_fork_L122 n) (f + 8) l1 l2 (0 : Int32) (kS (kS (kS (kS (kS s 16 l2.toNatClampNeg ((1 : Int32))) 18 l2.toNatClampNeg (l1)) 17 l2.toNatClampNeg (((kS (kS s 16 l2.toNatClampNeg ((1 : Int32))) 18 l2.toNatClampNeg (l1)).1 17 l1.toNatClampNeg))) 20 l2.toNatClampNeg (((kS (kS (kS s 16 l2.toNatClampNeg ((1 : Int32))) 18 l2.toNatClampNeg (l1)) 17 l2.toNatClampNeg (((kS (kS s 16 l2.toNatClampNeg ((1 : Int32))) 18 l2.toNatClampNeg (l1)).1 17 l1.toNatClampNeg))).1 20 l1.toNatClampNeg))) 21 l2.toNatClampNeg (((kS (kS (kS (kS s 16 l2.toNatClampNeg ((1 : Int32))) 18 l2.toNatClampNeg (l1)) 17 l2.toNatClampNeg (((kS (kS s 16 l2.toNatClampNeg ((1 : Int32))) 18 l2.toNatClampNeg (l1)).1 17 l1.toNatClampNeg))) 20 l2.toNatClampNeg (((kS (kS (kS s 16 l2.toNatClampNeg ((1 : Int32))) 18 l2.toNatClampNeg (l1)) 17 l2.toNatClampNeg (((kS (kS s 16 l2.toNatClampNeg ((1 : Int32))) 18 l2.toNatClampNeg (l1)).1 17 l1.toNatClampNeg))).1 20 l1.toNatClampNeg))).1 21 l1.toNatClampNeg)))
    · refine ((show ∀ f n : Nat, g_X2_fork n (f + 3) 64 [(0, .inl (.ref 15)), (1, .inl (.int l1)), (2, .inl (.int l2))] [] (hM nf ns rest s0 s) (0, 0) = am_ri (F_X2_fail [.inl (.ref 15), .inl (.int (3 : Int32))] (hM nf ns rest s0 s)) (fun x6 h => g_X2_fork n f 69 [(0, .inl (.ref 15)), (1, .inl (.int l1)), (2, .inl (.int l2))] [.inl (.int x6)] h (0, 0)) (fun x h => some (.inr x, h)) from fun f n => rfl) (f + 65) n).trans ?_
      rw [e_X2_fail (3 : Int32) s]
      refine am_lbi (fun x6 s5 => ?_) (fun _ _ => rfl)
      refine ((show ∀ f n : Nat, g_X2_fork n (f + 1) 69 [(0, .inl (.ref 15)), (1, .inl (.int l1)), (2, .inl (.int l2))] [.inl (.int x6)] (hM nf ns rest s0 s5) (0, 0) = some (.inl (some (.inl (.int x6))), hM nf ns rest s0 s5) from fun f n => rfl) (f + 64) n).trans ?_
      rfl
  · refine ((show ∀ f n : Nat, g_X2_fork n (f + 5) 43 [(0, .inl (.ref 15)), (1, .inl (.int l1)), (2, .inl (.int l2))] [] (hM nf ns rest s0 s) (0, 0) = cond (am_in l2 6) (cond (decide ((s.1 16 l2.toNatClampNeg) = (0 : Int32))) (g_X2_fork n f 58 [(0, .inl (.ref 15)), (1, .inl (.int l1)), (2, .inl (.int l2))] [] (hM nf ns rest s0 s) (0, 0)) (g_X2_fork n f 52 [(0, .inl (.ref 15)), (1, .inl (.int l1)), (2, .inl (.int l2))] [] (hM nf ns rest s0 s) (0, 0))) none from fun f n => rfl) (f + 66) n).trans ?_
    refine am_lcd (B := none) ?_ rfl
    refine am_lcd ?_ ?_
    · refine ((show ∀ f n : Nat, g_X2_fork n (f + 3) 58 [(0, .inl (.ref 15)), (1, .inl (.int l1)), (2, .inl (.int l2))] [] (hM nf ns rest s0 s) (0, 0) = cond (!decide (l2 = (6 : Int32))) (g_X2_fork n f 70 [(0, .inl (.ref 15)), (1, .inl (.int l1)), (2, .inl (.int l2))] [] (hM nf ns rest s0 s) (0, 0)) (g_X2_fork n f 64 [(0, .inl (.ref 15)), (1, .inl (.int l1)), (2, .inl (.int l2))] [] (hM nf ns rest s0 s) (0, 0)) from fun f n => rfl) (f + 63) n).trans ?_
      refine am_lcd ?_ ?_
      · refine ((show ∀ f n : Nat, g_X2_fork n (f + 36) 70 [(0, .inl (.ref 15)), (1, .inl (.int l1)), (2, .inl (.int l2))] [] (hM nf ns rest s0 s) (0, 0) = cond (am_in l2 6) (cond (am_in l2 6) (cond (am_in l1 6) (cond (am_in l2 6) (cond (am_in l1 6) (cond (am_in l2 6) (cond (am_in l1 6) (cond (am_in l2 6) (g_X2_fork n f 122 [(0, .inl (.ref 15)), (1, .inl (.int l1)), (2, .inl (.int l2)), (3, .inl (.int (0 : Int32)))] [] (hM nf ns rest s0 (kS (kS (kS (kS (kS s 16 l2.toNatClampNeg ((1 : Int32))) 18 l2.toNatClampNeg (l1)) 17 l2.toNatClampNeg (((kS (kS s 16 l2.toNatClampNeg ((1 : Int32))) 18 l2.toNatClampNeg (l1)).1 17 l1.toNatClampNeg))) 20 l2.toNatClampNeg (((kS (kS (kS s 16 l2.toNatClampNeg ((1 : Int32))) 18 l2.toNatClampNeg (l1)) 17 l2.toNatClampNeg (((kS (kS s 16 l2.toNatClampNeg ((1 : Int32))) 18 l2.toNatClampNeg (l1)).1 17 l1.toNatClampNeg))).1 20 l1.toNatClampNeg))) 21 l2.toNatClampNeg (((kS (kS (kS (kS s 16 l2.toNatClampNeg ((1 : Int32))) 18 l2.toNatClampNeg (l1)) 17 l2.toNatClampNeg (((kS (kS s 16 l2.toNatClampNeg ((1 : Int32))) 18 l2.toNatClampNeg (l1)).1 17 l1.toNatClampNeg))) 20 l2.toNatClampNeg (((kS (kS (kS s 16 l2.toNatClampNeg ((1 : Int32))) 18 l2.toNatClampNeg (l1)) 17 l2.toNatClampNeg (((kS (kS s 16 l2.toNatClampNeg ((1 : Int32))) 18 l2.toNatClampNeg (l1)).1 17 l1.toNatClampNeg))).1 20 l1.toNatClampNeg))).1 21 l1.toNatClampNeg)))) (0, 0)) none) none) none) none) none) none) none) none from fun f n => rfl) (f + 27) n).trans ?_
        refine am_lcd (B := none) ?_ rfl
        refine am_lcd (B := none) ?_ rfl
        refine am_lcd (B := none) ?_ rfl
        refine am_lcd (B := none) ?_ rfl
        refine am_lcd (B := none) ?_ rfl
        refine am_lcd (B := none) ?_ rfl
        refine am_lcd (B := none) ?_ rfl
        refine am_lcd (B := none) ?_ rfl
        exact b_X2_fork_L122 n (e_X2_fork_L122 n) (f + 3) l1 l2 (0 : Int32) (kS (kS (kS (kS (kS s 16 l2.toNatClampNeg ((1 : Int32))) 18 l2.toNatClampNeg (l1)) 17 l2.toNatClampNeg (((kS (kS s 16 l2.toNatClampNeg ((1 : Int32))) 18 l2.toNatClampNeg (l1)).1 17 l1.toNatClampNeg))) 20 l2.toNatClampNeg (((kS (kS (kS s 16 l2.toNatClampNeg ((1 : Int32))) 18 l2.toNatClampNeg (l1)) 17 l2.toNatClampNeg (((kS (kS s 16 l2.toNatClampNeg ((1 : Int32))) 18 l2.toNatClampNeg (l1)).1 17 l1.toNatClampNeg))).1 20 l1.toNatClampNeg))) 21 l2.toNatClampNeg (((kS (kS (kS (kS s 16 l2.toNatClampNeg ((1 : Int32))) 18 l2.toNatClampNeg (l1)) 17 l2.toNatClampNeg (((kS (kS s 16 l2.toNatClampNeg ((1 : Int32))) 18 l2.toNatClampNeg (l1)).1 17 l1.toNatClampNeg))) 20 l2.toNatClampNeg (((kS (kS (kS s 16 l2.toNatClampNeg ((1 : Int32))) 18 l2.toNatClampNeg (l1)) 17 l2.toNatClampNeg (((kS (kS s 16 l2.toNatClampNeg ((1 : Int32))) 18 l2.toNatClampNeg (l1)).1 17 l1.toNatClampNeg))).1 20 l1.toNatClampNeg))).1 21 l1.toNatClampNeg)))
      · refine ((show ∀ f n : Nat, g_X2_fork n (f + 3) 64 [(0, .inl (.ref 15)), (1, .inl (.int l1)), (2, .inl (.int l2))] [] (hM nf ns rest s0 s) (0, 0) = am_ri (F_X2_fail [.inl (.ref 15), .inl (.int (3 : Int32))] (hM nf ns rest s0 s)) (fun x8 h => g_X2_fork n f 69 [(0, .inl (.ref 15)), (1, .inl (.int l1)), (2, .inl (.int l2))] [.inl (.int x8)] h (0, 0)) (fun x h => some (.inr x, h)) from fun f n => rfl) (f + 60) n).trans ?_
        rw [e_X2_fail (3 : Int32) s]
        refine am_lbi (fun x8 s7 => ?_) (fun _ _ => rfl)
        refine ((show ∀ f n : Nat, g_X2_fork n (f + 1) 69 [(0, .inl (.ref 15)), (1, .inl (.int l1)), (2, .inl (.int l2))] [.inl (.int x8)] (hM nf ns rest s0 s7) (0, 0) = some (.inl (some (.inl (.int x8))), hM nf ns rest s0 s7) from fun f n => rfl) (f + 59) n).trans ?_
        rfl
    · refine ((show ∀ f n : Nat, g_X2_fork n (f + 2) 52 [(0, .inl (.ref 15)), (1, .inl (.int l1)), (2, .inl (.int l2))] [] (hM nf ns rest s0 s) (0, 0) = j_X2_fork n 37 [(0, .inl (.ref 15)), (1, .inl (.int l1)), (2, .inl (.int (l2 + (1 : Int32))))] [] (hM nf ns rest s0 s) (0, 0) from fun f n => rfl) (f + 64) n).trans ?_
      exact ih l1 (l2 + (1 : Int32)) s
set_option maxRecDepth 20000 in
theorem e_X2_fork_L37 {nf ns : Nat} {rest : am_H} {s0 : KS} : ∀ (n : Nat) (l1 : Int32) (l2 : Int32) (s : KS), j_X2_fork n 37 [(0, .inl (.ref 15)), (1, .inl (.int l1)), (2, .inl (.int l2))] [] (hM nf ns rest s0 s) (0, 0) = am_lf (hM nf ns rest s0) (p_X2_fork_L37 n l1 l2 s)
  | 0, _, _, _ => by rw [p_X2_fork_L37]; rfl
  | n + 1, l1, l2, s => (j_X2_fork_g n 37 _ _ _ _).trans (b_X2_fork_L37 n (e_X2_fork_L37 n) 926 l1 l2 s)
set_option maxRecDepth 20000 in
def p_X2_fork (a1 : Int32) (s : KS) : KR := kbi (p_X2_out a1 (6 : Int32) (kS s 15 0 (0 : Int32))) (fun x2 s1 => cond (decide (x2 = (0 : Int32))) (kbi (p_X2_notRunning a1 s1) (fun x4 s3 => cond (decide (x4 = (0 : Int32))) (p_X2_fork_L37 400 a1 (0 : Int32) s3) (kbi (p_X2_fail (2 : Int32) s3) (fun x10 s9 => some (.inl (some x10), s9))))) (kbi (p_X2_fail (1 : Int32) s1) (fun x12 s11 => some (.inl (some x12), s11))))
set_option maxRecDepth 20000 in
theorem e_X2_fork {nf ns : Nat} {rest : am_H} {s0 : KS} (a1 : Int32) (s : KS) : F_X2_fork [.inl (.ref 15), .inl (.int a1)] (hM nf ns rest s0 s) = am_lf (hM nf ns rest s0) (p_X2_fork a1 s) := by
  rw [p_X2_fork]
  refine (show _ = g_X2_fork 399 1000 0 [(0, .inl (.ref 15)), (1, .inl (.int a1))] [] (hM nf ns rest s0 s) (0, 0) from am_fn_g (Nat.le_of_ble_eq_true rfl)).trans ?_
  refine ((show ∀ f n : Nat, g_X2_fork n (f + 7) 0 [(0, .inl (.ref 15)), (1, .inl (.int a1))] [] (hM nf ns rest s0 s) (0, 0) = am_ri (F_X2_out [.inl (.ref 15), .inl (.int a1), .inl (.int (6 : Int32))] (hM nf ns rest s0 (kS s 15 0 (0 : Int32)))) (fun x2 h => g_X2_fork n f 12 [(0, .inl (.ref 15)), (1, .inl (.int a1))] [.inl (.int x2)] h (0, 0)) (fun x h => some (.inr x, h)) from fun f n => rfl) 993 399).trans ?_
  rw [e_X2_out a1 (6 : Int32) (kS s 15 0 (0 : Int32))]
  refine am_lbi (fun x2 s1 => ?_) (fun _ _ => rfl)
  refine ((show ∀ f n : Nat, g_X2_fork n (f + 1) 12 [(0, .inl (.ref 15)), (1, .inl (.int a1))] [.inl (.int x2)] (hM nf ns rest s0 s1) (0, 0) = cond (decide (x2 = (0 : Int32))) (g_X2_fork n f 21 [(0, .inl (.ref 15)), (1, .inl (.int a1))] [] (hM nf ns rest s0 s1) (0, 0)) (g_X2_fork n f 15 [(0, .inl (.ref 15)), (1, .inl (.int a1))] [] (hM nf ns rest s0 s1) (0, 0)) from fun f n => rfl) 992 399).trans ?_
  refine am_lcd ?_ ?_
  · refine ((show ∀ f n : Nat, g_X2_fork n (f + 3) 21 [(0, .inl (.ref 15)), (1, .inl (.int a1))] [] (hM nf ns rest s0 s1) (0, 0) = am_ri (F_X2_notRunning [.inl (.ref 15), .inl (.int a1)] (hM nf ns rest s0 s1)) (fun x4 h => g_X2_fork n f 26 [(0, .inl (.ref 15)), (1, .inl (.int a1))] [.inl (.int x4)] h (0, 0)) (fun x h => some (.inr x, h)) from fun f n => rfl) 989 399).trans ?_
    rw [e_X2_notRunning a1 s1]
    refine am_lbi (fun x4 s3 => ?_) (fun _ _ => rfl)
    refine ((show ∀ f n : Nat, g_X2_fork n (f + 1) 26 [(0, .inl (.ref 15)), (1, .inl (.int a1))] [.inl (.int x4)] (hM nf ns rest s0 s3) (0, 0) = cond (decide (x4 = (0 : Int32))) (g_X2_fork n f 35 [(0, .inl (.ref 15)), (1, .inl (.int a1))] [] (hM nf ns rest s0 s3) (0, 0)) (g_X2_fork n f 29 [(0, .inl (.ref 15)), (1, .inl (.int a1))] [] (hM nf ns rest s0 s3) (0, 0)) from fun f n => rfl) 988 399).trans ?_
    refine am_lcd ?_ ?_
    · refine ((show ∀ f n : Nat, g_X2_fork n (f + 2) 35 [(0, .inl (.ref 15)), (1, .inl (.int a1))] [] (hM nf ns rest s0 s3) (0, 0) = g_X2_fork n f 37 [(0, .inl (.ref 15)), (1, .inl (.int a1)), (2, .inl (.int (0 : Int32)))] [] (hM nf ns rest s0 s3) (0, 0) from fun f n => rfl) 986 399).trans ?_
      exact b_X2_fork_L37 399 (e_X2_fork_L37 399) 912 a1 (0 : Int32) s3
    · refine ((show ∀ f n : Nat, g_X2_fork n (f + 3) 29 [(0, .inl (.ref 15)), (1, .inl (.int a1))] [] (hM nf ns rest s0 s3) (0, 0) = am_ri (F_X2_fail [.inl (.ref 15), .inl (.int (2 : Int32))] (hM nf ns rest s0 s3)) (fun x10 h => g_X2_fork n f 34 [(0, .inl (.ref 15)), (1, .inl (.int a1))] [.inl (.int x10)] h (0, 0)) (fun x h => some (.inr x, h)) from fun f n => rfl) 985 399).trans ?_
      rw [e_X2_fail (2 : Int32) s3]
      refine am_lbi (fun x10 s9 => ?_) (fun _ _ => rfl)
      refine ((show ∀ f n : Nat, g_X2_fork n (f + 1) 34 [(0, .inl (.ref 15)), (1, .inl (.int a1))] [.inl (.int x10)] (hM nf ns rest s0 s9) (0, 0) = some (.inl (some (.inl (.int x10))), hM nf ns rest s0 s9) from fun f n => rfl) 984 399).trans ?_
      rfl
  · refine ((show ∀ f n : Nat, g_X2_fork n (f + 3) 15 [(0, .inl (.ref 15)), (1, .inl (.int a1))] [] (hM nf ns rest s0 s1) (0, 0) = am_ri (F_X2_fail [.inl (.ref 15), .inl (.int (1 : Int32))] (hM nf ns rest s0 s1)) (fun x12 h => g_X2_fork n f 20 [(0, .inl (.ref 15)), (1, .inl (.int a1))] [.inl (.int x12)] h (0, 0)) (fun x h => some (.inr x, h)) from fun f n => rfl) 989 399).trans ?_
    rw [e_X2_fail (1 : Int32) s1]
    refine am_lbi (fun x12 s11 => ?_) (fun _ _ => rfl)
    refine ((show ∀ f n : Nat, g_X2_fork n (f + 1) 20 [(0, .inl (.ref 15)), (1, .inl (.int a1))] [.inl (.int x12)] (hM nf ns rest s0 s11) (0, 0) = some (.inl (some (.inl (.int x12))), hM nf ns rest s0 s11) from fun f n => rfl) 988 399).trans ?_
    rfl
set_option maxRecDepth 20000 in
def g_X2_drop (n f pc : Nat) (lv : am_Lv) (st : List am_V) (h : am_H) (b : Nat × Nat) : Option am_O := am_go X_X2_drop 3 none am_rs0 [] [(2, [0, 1, 2])] (am_lp T_X2_drop X_X2_drop 3 none am_rs0 [] [(2, [0, 1, 2])] n) f (am_from pc T_X2_drop) lv st h b
set_option maxRecDepth 20000 in
def j_X2_drop (n pc : Nat) (lv : am_Lv) (st : List am_V) (h : am_H) (b : Nat × Nat) : Option am_O := am_lp T_X2_drop X_X2_drop 3 none am_rs0 [] [(2, [0, 1, 2])] n pc lv st h b
set_option maxRecDepth 20000 in
theorem j_X2_drop_g (n pc : Nat) (lv : am_Lv) (st : List am_V) (h : am_H) (b : Nat × Nat) : j_X2_drop (n + 1) pc lv st h b = g_X2_drop n 1000 pc lv st h b := rfl
set_option maxRecDepth 20000 in
theorem j_X2_drop_0 (pc : Nat) (lv : am_Lv) (st : List am_V) (h : am_H) (b : Nat × Nat) : j_X2_drop 0 pc lv st h b = none := rfl
set_option maxRecDepth 20000 in
def p_X2_drop_L2 : Nat → Int32 → Int32 → KS → KR
  | 0, _, _, _ => none
  | n + 1, l1, l2, s => cond (decide ((9 : Int32) ≤ l2)) (some (.inl none, s)) (cond (am_in (((9 : Int32) * l1) + l2) 54) (p_X2_drop_L2 n l1 (l2 + (1 : Int32)) (kS s 22 (((9 : Int32) * l1) + l2).toNatClampNeg ((-1 : Int32)))) none)
set_option maxRecDepth 20000 in
theorem b_X2_drop_L2 {nf ns : Nat} {rest : am_H} {s0 : KS} (n : Nat) (ih : ∀ (l1 : Int32) (l2 : Int32) (s : KS), j_X2_drop n 2 [(0, .inl (.ref 15)), (1, .inl (.int l1)), (2, .inl (.int l2))] [] (hM nf ns rest s0 s) (0, 0) = am_lf (hM nf ns rest s0) (p_X2_drop_L2 n l1 l2 s)) (f : Nat) (l1 : Int32) (l2 : Int32) (s : KS) : g_X2_drop n (f + 17) 2 [(0, .inl (.ref 15)), (1, .inl (.int l1)), (2, .inl (.int l2))] [] (hM nf ns rest s0 s) (0, 0) = am_lf (hM nf ns rest s0) (p_X2_drop_L2 (n + 1) l1 l2 s) := by
  rw [p_X2_drop_L2]
  refine ((show ∀ f n : Nat, g_X2_drop n (f + 3) 2 [(0, .inl (.ref 15)), (1, .inl (.int l1)), (2, .inl (.int l2))] [] (hM nf ns rest s0 s) (0, 0) = cond (decide ((9 : Int32) ≤ l2)) (g_X2_drop n f 26 [(0, .inl (.ref 15)), (1, .inl (.int l1)), (2, .inl (.int l2))] [] (hM nf ns rest s0 s) (0, 0)) (g_X2_drop n f 8 [(0, .inl (.ref 15)), (1, .inl (.int l1)), (2, .inl (.int l2))] [] (hM nf ns rest s0 s) (0, 0)) from fun f n => rfl) (f + 14) n).trans ?_
  refine am_lcd ?_ ?_
  · refine ((show ∀ f n : Nat, g_X2_drop n (f + 1) 26 [(0, .inl (.ref 15)), (1, .inl (.int l1)), (2, .inl (.int l2))] [] (hM nf ns rest s0 s) (0, 0) = some (.inl none, hM nf ns rest s0 s) from fun f n => rfl) (f + 13) n).trans ?_
    rfl
  · refine ((show ∀ f n : Nat, g_X2_drop n (f + 11) 8 [(0, .inl (.ref 15)), (1, .inl (.int l1)), (2, .inl (.int l2))] [] (hM nf ns rest s0 s) (0, 0) = cond (am_in (((9 : Int32) * l1) + l2) 54) (j_X2_drop n 2 [(0, .inl (.ref 15)), (1, .inl (.int l1)), (2, .inl (.int (l2 + (1 : Int32))))] [] (hM nf ns rest s0 (kS s 22 (((9 : Int32) * l1) + l2).toNatClampNeg ((-1 : Int32)))) (0, 0)) none from fun f n => rfl) (f + 3) n).trans ?_
    refine am_lcd (B := none) ?_ rfl
    exact ih l1 (l2 + (1 : Int32)) (kS s 22 (((9 : Int32) * l1) + l2).toNatClampNeg ((-1 : Int32)))
set_option maxRecDepth 20000 in
theorem e_X2_drop_L2 {nf ns : Nat} {rest : am_H} {s0 : KS} : ∀ (n : Nat) (l1 : Int32) (l2 : Int32) (s : KS), j_X2_drop n 2 [(0, .inl (.ref 15)), (1, .inl (.int l1)), (2, .inl (.int l2))] [] (hM nf ns rest s0 s) (0, 0) = am_lf (hM nf ns rest s0) (p_X2_drop_L2 n l1 l2 s)
  | 0, _, _, _ => by rw [p_X2_drop_L2]; rfl
  | n + 1, l1, l2, s => (j_X2_drop_g n 2 _ _ _ _).trans (b_X2_drop_L2 n (e_X2_drop_L2 n) 983 l1 l2 s)
set_option maxRecDepth 20000 in
def p_X2_drop (a1 : Int32) (s : KS) : KR := p_X2_drop_L2 400 a1 (0 : Int32) s
set_option maxRecDepth 20000 in
theorem e_X2_drop {nf ns : Nat} {rest : am_H} {s0 : KS} (a1 : Int32) (s : KS) : F_X2_drop [.inl (.ref 15), .inl (.int a1)] (hM nf ns rest s0 s) = am_lf (hM nf ns rest s0) (p_X2_drop a1 s) := by
  rw [p_X2_drop]
  refine (show _ = g_X2_drop 399 1000 0 [(0, .inl (.ref 15)), (1, .inl (.int a1))] [] (hM nf ns rest s0 s) (0, 0) from am_fn_g (Nat.le_of_ble_eq_true rfl)).trans ?_
  refine ((show ∀ f n : Nat, g_X2_drop n (f + 2) 0 [(0, .inl (.ref 15)), (1, .inl (.int a1))] [] (hM nf ns rest s0 s) (0, 0) = g_X2_drop n f 2 [(0, .inl (.ref 15)), (1, .inl (.int a1)), (2, .inl (.int (0 : Int32)))] [] (hM nf ns rest s0 s) (0, 0) from fun f n => rfl) 998 399).trans ?_
  exact b_X2_drop_L2 399 (e_X2_drop_L2 399) 981 a1 (0 : Int32) s
set_option maxRecDepth 20000 in
def g_X2_owners (n f pc : Nat) (lv : am_Lv) (st : List am_V) (h : am_H) (b : Nat × Nat) : Option am_O := am_go X_X2_owners 4 (some .int) am_rs0 [] [(10, [0, 1, 2, 3]), (59, [0, 1, 2, 3])] (am_lp T_X2_owners X_X2_owners 4 (some .int) am_rs0 [] [(10, [0, 1, 2, 3]), (59, [0, 1, 2, 3])] n) f (am_from pc T_X2_owners) lv st h b
set_option maxRecDepth 20000 in
def j_X2_owners (n pc : Nat) (lv : am_Lv) (st : List am_V) (h : am_H) (b : Nat × Nat) : Option am_O := am_lp T_X2_owners X_X2_owners 4 (some .int) am_rs0 [] [(10, [0, 1, 2, 3]), (59, [0, 1, 2, 3])] n pc lv st h b
set_option maxRecDepth 20000 in
theorem j_X2_owners_g (n pc : Nat) (lv : am_Lv) (st : List am_V) (h : am_H) (b : Nat × Nat) : j_X2_owners (n + 1) pc lv st h b = g_X2_owners n 1000 pc lv st h b := rfl
set_option maxRecDepth 20000 in
theorem j_X2_owners_0 (pc : Nat) (lv : am_Lv) (st : List am_V) (h : am_H) (b : Nat × Nat) : j_X2_owners 0 pc lv st h b = none := rfl
set_option maxRecDepth 20000 in
def p_X2_owners_L59 : Nat → Int32 → Int32 → Int32 → KS → KR
  | 0, _, _, _, _ => none
  | n + 1, l1, l2, l3, s => cond (decide ((54 : Int32) ≤ l3)) (some (.inl (some l2), s)) (cond (am_in l3 54) (cond (!decide ((s.1 22 l3.toNatClampNeg) = l1)) (p_X2_owners_L59 n l1 (l2 + (0 : Int32)) (l3 + (1 : Int32)) s) (p_X2_owners_L59 n l1 (l2 + (1 : Int32)) (l3 + (1 : Int32)) s)) none)
set_option maxRecDepth 20000 in
theorem b_X2_owners_L59 {nf ns : Nat} {rest : am_H} {s0 : KS} (n : Nat) (ih : ∀ (l1 : Int32) (l2 : Int32) (l3 : Int32) (s : KS), j_X2_owners n 59 [(0, .inl (.ref 15)), (1, .inl (.int l1)), (2, .inl (.int l2)), (3, .inl (.int l3))] [] (hM nf ns rest s0 s) (0, 0) = am_lf (hM nf ns rest s0) (p_X2_owners_L59 n l1 l2 l3 s)) (f : Nat) (l1 : Int32) (l2 : Int32) (l3 : Int32) (s : KS) : g_X2_owners n (f + 19) 59 [(0, .inl (.ref 15)), (1, .inl (.int l1)), (2, .inl (.int l2)), (3, .inl (.int l3))] [] (hM nf ns rest s0 s) (0, 0) = am_lf (hM nf ns rest s0) (p_X2_owners_L59 (n + 1) l1 l2 l3 s) := by
  rw [p_X2_owners_L59]
  refine ((show ∀ f n : Nat, g_X2_owners n (f + 3) 59 [(0, .inl (.ref 15)), (1, .inl (.int l1)), (2, .inl (.int l2)), (3, .inl (.int l3))] [] (hM nf ns rest s0 s) (0, 0) = cond (decide ((54 : Int32) ≤ l3)) (g_X2_owners n f 89 [(0, .inl (.ref 15)), (1, .inl (.int l1)), (2, .inl (.int l2)), (3, .inl (.int l3))] [] (hM nf ns rest s0 s) (0, 0)) (g_X2_owners n f 65 [(0, .inl (.ref 15)), (1, .inl (.int l1)), (2, .inl (.int l2)), (3, .inl (.int l3))] [] (hM nf ns rest s0 s) (0, 0)) from fun f n => rfl) (f + 16) n).trans ?_
  refine am_lcd ?_ ?_
  · refine ((show ∀ f n : Nat, g_X2_owners n (f + 2) 89 [(0, .inl (.ref 15)), (1, .inl (.int l1)), (2, .inl (.int l2)), (3, .inl (.int l3))] [] (hM nf ns rest s0 s) (0, 0) = some (.inl (some (.inl (.int l2))), hM nf ns rest s0 s) from fun f n => rfl) (f + 14) n).trans ?_
    rfl
  · refine ((show ∀ f n : Nat, g_X2_owners n (f + 7) 65 [(0, .inl (.ref 15)), (1, .inl (.int l1)), (2, .inl (.int l2)), (3, .inl (.int l3))] [] (hM nf ns rest s0 s) (0, 0) = cond (am_in l3 54) (cond (!decide ((s.1 22 l3.toNatClampNeg) = l1)) (g_X2_owners n f 80 [(0, .inl (.ref 15)), (1, .inl (.int l1)), (2, .inl (.int l2)), (3, .inl (.int l3))] [.inl (.int l2)] (hM nf ns rest s0 s) (0, 0)) (g_X2_owners n f 76 [(0, .inl (.ref 15)), (1, .inl (.int l1)), (2, .inl (.int l2)), (3, .inl (.int l3))] [.inl (.int l2)] (hM nf ns rest s0 s) (0, 0))) none from fun f n => rfl) (f + 9) n).trans ?_
    refine am_lcd (B := none) ?_ rfl
    refine am_lcd ?_ ?_
    · refine ((show ∀ f n : Nat, g_X2_owners n (f + 5) 80 [(0, .inl (.ref 15)), (1, .inl (.int l1)), (2, .inl (.int l2)), (3, .inl (.int l3))] [.inl (.int l2)] (hM nf ns rest s0 s) (0, 0) = j_X2_owners n 59 [(0, .inl (.ref 15)), (1, .inl (.int l1)), (2, .inl (.int (l2 + (0 : Int32)))), (3, .inl (.int (l3 + (1 : Int32))))] [] (hM nf ns rest s0 s) (0, 0) from fun f n => rfl) (f + 4) n).trans ?_
      exact ih l1 (l2 + (0 : Int32)) (l3 + (1 : Int32)) s
    · refine ((show ∀ f n : Nat, g_X2_owners n (f + 6) 76 [(0, .inl (.ref 15)), (1, .inl (.int l1)), (2, .inl (.int l2)), (3, .inl (.int l3))] [.inl (.int l2)] (hM nf ns rest s0 s) (0, 0) = j_X2_owners n 59 [(0, .inl (.ref 15)), (1, .inl (.int l1)), (2, .inl (.int (l2 + (1 : Int32)))), (3, .inl (.int (l3 + (1 : Int32))))] [] (hM nf ns rest s0 s) (0, 0) from fun f n => rfl) (f + 3) n).trans ?_
      exact ih l1 (l2 + (1 : Int32)) (l3 + (1 : Int32)) s
set_option maxRecDepth 20000 in
theorem e_X2_owners_L59 {nf ns : Nat} {rest : am_H} {s0 : KS} : ∀ (n : Nat) (l1 : Int32) (l2 : Int32) (l3 : Int32) (s : KS), j_X2_owners n 59 [(0, .inl (.ref 15)), (1, .inl (.int l1)), (2, .inl (.int l2)), (3, .inl (.int l3))] [] (hM nf ns rest s0 s) (0, 0) = am_lf (hM nf ns rest s0) (p_X2_owners_L59 n l1 l2 l3 s)
  | 0, _, _, _, _ => by rw [p_X2_owners_L59]; rfl
  | n + 1, l1, l2, l3, s => (j_X2_owners_g n 59 _ _ _ _).trans (b_X2_owners_L59 n (e_X2_owners_L59 n) 981 l1 l2 l3 s)
set_option maxRecDepth 20000 in
def p_X2_owners_L10 : Nat → Int32 → Int32 → Int32 → KS → KR
  | 0, _, _, _, _ => none
  | n + 1, l1, l2, l3, s => cond (decide ((6 : Int32) ≤ l3)) (some (.inl (some l2), s)) (cond (am_in l3 6) (cond (!decide ((s.1 16 l3.toNatClampNeg) = (1 : Int32))) (p_X2_owners_L10 n l1 (l2 + (0 : Int32)) (l3 + (1 : Int32)) s) (cond (am_in l3 6) (cond (!decide ((s.1 17 l3.toNatClampNeg) = ((l1 - (64 : Int32)) / (2 : Int32)))) (p_X2_owners_L10 n l1 (l2 + (0 : Int32)) (l3 + (1 : Int32)) s) (p_X2_owners_L10 n l1 (l2 + (1 : Int32)) (l3 + (1 : Int32)) s)) none)) none)
set_option maxRecDepth 20000 in
theorem b_X2_owners_L10 {nf ns : Nat} {rest : am_H} {s0 : KS} (n : Nat) (ih : ∀ (l1 : Int32) (l2 : Int32) (l3 : Int32) (s : KS), j_X2_owners n 10 [(0, .inl (.ref 15)), (1, .inl (.int l1)), (2, .inl (.int l2)), (3, .inl (.int l3))] [] (hM nf ns rest s0 s) (0, 0) = am_lf (hM nf ns rest s0) (p_X2_owners_L10 n l1 l2 l3 s)) (f : Nat) (l1 : Int32) (l2 : Int32) (l3 : Int32) (s : KS) : g_X2_owners n (f + 29) 10 [(0, .inl (.ref 15)), (1, .inl (.int l1)), (2, .inl (.int l2)), (3, .inl (.int l3))] [] (hM nf ns rest s0 s) (0, 0) = am_lf (hM nf ns rest s0) (p_X2_owners_L10 (n + 1) l1 l2 l3 s) := by
  rw [p_X2_owners_L10]
  refine ((show ∀ f n : Nat, g_X2_owners n (f + 3) 10 [(0, .inl (.ref 15)), (1, .inl (.int l1)), (2, .inl (.int l2)), (3, .inl (.int l3))] [] (hM nf ns rest s0 s) (0, 0) = cond (decide ((6 : Int32) ≤ l3)) (g_X2_owners n f 55 [(0, .inl (.ref 15)), (1, .inl (.int l1)), (2, .inl (.int l2)), (3, .inl (.int l3))] [] (hM nf ns rest s0 s) (0, 0)) (g_X2_owners n f 16 [(0, .inl (.ref 15)), (1, .inl (.int l1)), (2, .inl (.int l2)), (3, .inl (.int l3))] [] (hM nf ns rest s0 s) (0, 0)) from fun f n => rfl) (f + 26) n).trans ?_
  refine am_lcd ?_ ?_
  · refine ((show ∀ f n : Nat, g_X2_owners n (f + 2) 55 [(0, .inl (.ref 15)), (1, .inl (.int l1)), (2, .inl (.int l2)), (3, .inl (.int l3))] [] (hM nf ns rest s0 s) (0, 0) = some (.inl (some (.inl (.int l2))), hM nf ns rest s0 s) from fun f n => rfl) (f + 24) n).trans ?_
    rfl
  · refine ((show ∀ f n : Nat, g_X2_owners n (f + 7) 16 [(0, .inl (.ref 15)), (1, .inl (.int l1)), (2, .inl (.int l2)), (3, .inl (.int l3))] [] (hM nf ns rest s0 s) (0, 0) = cond (am_in l3 6) (cond (!decide ((s.1 16 l3.toNatClampNeg) = (1 : Int32))) (g_X2_owners n f 46 [(0, .inl (.ref 15)), (1, .inl (.int l1)), (2, .inl (.int l2)), (3, .inl (.int l3))] [.inl (.int l2)] (hM nf ns rest s0 s) (0, 0)) (g_X2_owners n f 27 [(0, .inl (.ref 15)), (1, .inl (.int l1)), (2, .inl (.int l2)), (3, .inl (.int l3))] [.inl (.int l2)] (hM nf ns rest s0 s) (0, 0))) none from fun f n => rfl) (f + 19) n).trans ?_
    refine am_lcd (B := none) ?_ rfl
    refine am_lcd ?_ ?_
    · refine ((show ∀ f n : Nat, g_X2_owners n (f + 5) 46 [(0, .inl (.ref 15)), (1, .inl (.int l1)), (2, .inl (.int l2)), (3, .inl (.int l3))] [.inl (.int l2)] (hM nf ns rest s0 s) (0, 0) = j_X2_owners n 10 [(0, .inl (.ref 15)), (1, .inl (.int l1)), (2, .inl (.int (l2 + (0 : Int32)))), (3, .inl (.int (l3 + (1 : Int32))))] [] (hM nf ns rest s0 s) (0, 0) from fun f n => rfl) (f + 14) n).trans ?_
      exact ih l1 (l2 + (0 : Int32)) (l3 + (1 : Int32)) s
    · refine ((show ∀ f n : Nat, g_X2_owners n (f + 10) 27 [(0, .inl (.ref 15)), (1, .inl (.int l1)), (2, .inl (.int l2)), (3, .inl (.int l3))] [.inl (.int l2)] (hM nf ns rest s0 s) (0, 0) = cond (am_in l3 6) (cond (!decide ((s.1 17 l3.toNatClampNeg) = ((l1 - (64 : Int32)) / (2 : Int32)))) (g_X2_owners n f 46 [(0, .inl (.ref 15)), (1, .inl (.int l1)), (2, .inl (.int l2)), (3, .inl (.int l3))] [.inl (.int l2)] (hM nf ns rest s0 s) (0, 0)) (g_X2_owners n f 42 [(0, .inl (.ref 15)), (1, .inl (.int l1)), (2, .inl (.int l2)), (3, .inl (.int l3))] [.inl (.int l2)] (hM nf ns rest s0 s) (0, 0))) none from fun f n => rfl) (f + 9) n).trans ?_
      refine am_lcd (B := none) ?_ rfl
      refine am_lcd ?_ ?_
      · refine ((show ∀ f n : Nat, g_X2_owners n (f + 5) 46 [(0, .inl (.ref 15)), (1, .inl (.int l1)), (2, .inl (.int l2)), (3, .inl (.int l3))] [.inl (.int l2)] (hM nf ns rest s0 s) (0, 0) = j_X2_owners n 10 [(0, .inl (.ref 15)), (1, .inl (.int l1)), (2, .inl (.int (l2 + (0 : Int32)))), (3, .inl (.int (l3 + (1 : Int32))))] [] (hM nf ns rest s0 s) (0, 0) from fun f n => rfl) (f + 4) n).trans ?_
        exact ih l1 (l2 + (0 : Int32)) (l3 + (1 : Int32)) s
      · refine ((show ∀ f n : Nat, g_X2_owners n (f + 6) 42 [(0, .inl (.ref 15)), (1, .inl (.int l1)), (2, .inl (.int l2)), (3, .inl (.int l3))] [.inl (.int l2)] (hM nf ns rest s0 s) (0, 0) = j_X2_owners n 10 [(0, .inl (.ref 15)), (1, .inl (.int l1)), (2, .inl (.int (l2 + (1 : Int32)))), (3, .inl (.int (l3 + (1 : Int32))))] [] (hM nf ns rest s0 s) (0, 0) from fun f n => rfl) (f + 3) n).trans ?_
        exact ih l1 (l2 + (1 : Int32)) (l3 + (1 : Int32)) s
set_option maxRecDepth 20000 in
theorem e_X2_owners_L10 {nf ns : Nat} {rest : am_H} {s0 : KS} : ∀ (n : Nat) (l1 : Int32) (l2 : Int32) (l3 : Int32) (s : KS), j_X2_owners n 10 [(0, .inl (.ref 15)), (1, .inl (.int l1)), (2, .inl (.int l2)), (3, .inl (.int l3))] [] (hM nf ns rest s0 s) (0, 0) = am_lf (hM nf ns rest s0) (p_X2_owners_L10 n l1 l2 l3 s)
  | 0, _, _, _, _ => by rw [p_X2_owners_L10]; rfl
  | n + 1, l1, l2, l3, s => (j_X2_owners_g n 10 _ _ _ _).trans (b_X2_owners_L10 n (e_X2_owners_L10 n) 971 l1 l2 l3 s)
set_option maxRecDepth 20000 in
def p_X2_owners (a1 : Int32) (s : KS) : KR := cond (decide (a1 < (64 : Int32))) (p_X2_owners_L59 400 a1 (0 : Int32) (0 : Int32) s) (p_X2_owners_L10 400 a1 (0 : Int32) (0 : Int32) s)
set_option maxRecDepth 20000 in
theorem e_X2_owners {nf ns : Nat} {rest : am_H} {s0 : KS} (a1 : Int32) (s : KS) : F_X2_owners [.inl (.ref 15), .inl (.int a1)] (hM nf ns rest s0 s) = am_lf (hM nf ns rest s0) (p_X2_owners a1 s) := by
  rw [p_X2_owners]
  refine (show _ = g_X2_owners 399 1000 0 [(0, .inl (.ref 15)), (1, .inl (.int a1))] [] (hM nf ns rest s0 s) (0, 0) from am_fn_g (Nat.le_of_ble_eq_true rfl)).trans ?_
  refine ((show ∀ f n : Nat, g_X2_owners n (f + 5) 0 [(0, .inl (.ref 15)), (1, .inl (.int a1))] [] (hM nf ns rest s0 s) (0, 0) = cond (decide (a1 < (64 : Int32))) (g_X2_owners n f 57 [(0, .inl (.ref 15)), (1, .inl (.int a1)), (2, .inl (.int (0 : Int32)))] [] (hM nf ns rest s0 s) (0, 0)) (g_X2_owners n f 8 [(0, .inl (.ref 15)), (1, .inl (.int a1)), (2, .inl (.int (0 : Int32)))] [] (hM nf ns rest s0 s) (0, 0)) from fun f n => rfl) 995 399).trans ?_
  refine am_lcd ?_ ?_
  · refine ((show ∀ f n : Nat, g_X2_owners n (f + 2) 57 [(0, .inl (.ref 15)), (1, .inl (.int a1)), (2, .inl (.int (0 : Int32)))] [] (hM nf ns rest s0 s) (0, 0) = g_X2_owners n f 59 [(0, .inl (.ref 15)), (1, .inl (.int a1)), (2, .inl (.int (0 : Int32))), (3, .inl (.int (0 : Int32)))] [] (hM nf ns rest s0 s) (0, 0) from fun f n => rfl) 993 399).trans ?_
    exact b_X2_owners_L59 399 (e_X2_owners_L59 399) 974 a1 (0 : Int32) (0 : Int32) s
  · refine ((show ∀ f n : Nat, g_X2_owners n (f + 2) 8 [(0, .inl (.ref 15)), (1, .inl (.int a1)), (2, .inl (.int (0 : Int32)))] [] (hM nf ns rest s0 s) (0, 0) = g_X2_owners n f 10 [(0, .inl (.ref 15)), (1, .inl (.int a1)), (2, .inl (.int (0 : Int32))), (3, .inl (.int (0 : Int32)))] [] (hM nf ns rest s0 s) (0, 0) from fun f n => rfl) 993 399).trans ?_
    exact b_X2_owners_L10 399 (e_X2_owners_L10 399) 964 a1 (0 : Int32) (0 : Int32) s
set_option maxRecDepth 20000 in
def g_X2_leave (n f pc : Nat) (lv : am_Lv) (st : List am_V) (h : am_H) (b : Nat × Nat) : Option am_O := am_go X_X2_leave 2 none am_rs0 [] [] (am_lp T_X2_leave X_X2_leave 2 none am_rs0 [] [] n) f (am_from pc T_X2_leave) lv st h b
set_option maxRecDepth 20000 in
def j_X2_leave (n pc : Nat) (lv : am_Lv) (st : List am_V) (h : am_H) (b : Nat × Nat) : Option am_O := am_lp T_X2_leave X_X2_leave 2 none am_rs0 [] [] n pc lv st h b
set_option maxRecDepth 20000 in
theorem j_X2_leave_g (n pc : Nat) (lv : am_Lv) (st : List am_V) (h : am_H) (b : Nat × Nat) : j_X2_leave (n + 1) pc lv st h b = g_X2_leave n 1000 pc lv st h b := rfl
set_option maxRecDepth 20000 in
theorem j_X2_leave_0 (pc : Nat) (lv : am_Lv) (st : List am_V) (h : am_H) (b : Nat × Nat) : j_X2_leave 0 pc lv st h b = none := rfl
set_option maxRecDepth 20000 in
def p_X2_leave (a1 : Int32) (s : KS) : KR := cond (am_in a1 70) (cond (decide ((s.1 25 a1.toNatClampNeg) < (100 : Int32))) (cond (am_in a1 70) (cond (decide ((s.1 25 a1.toNatClampNeg) < (0 : Int32))) (cond (am_in a1 70) (cond (decide ((64 : Int32) ≤ a1)) (some (.inl none, (kS s 25 a1.toNatClampNeg ((-1 : Int32))))) (cond (am_in a1 64) (some (.inl none, (kS (kS s 25 a1.toNatClampNeg ((-1 : Int32))) 24 a1.toNatClampNeg (am_nar 1 (0 : Int32))))) none)) none) (cond (am_in a1 70) (cond (am_in (s.1 25 a1.toNatClampNeg) 10) (cond (am_in a1 70) (cond (decide ((64 : Int32) ≤ a1)) (some (.inl none, (kS (kS s 26 (s.1 25 a1.toNatClampNeg).toNatClampNeg ((-1 : Int32))) 25 a1.toNatClampNeg ((-1 : Int32))))) (cond (am_in a1 64) (some (.inl none, (kS (kS (kS s 26 (s.1 25 a1.toNatClampNeg).toNatClampNeg ((-1 : Int32))) 25 a1.toNatClampNeg ((-1 : Int32))) 24 a1.toNatClampNeg (am_nar 1 (0 : Int32))))) none)) none) none) none)) none) (cond (am_in a1 70) (cond (am_in ((s.1 25 a1.toNatClampNeg) - (100 : Int32)) 20) (cond (am_in a1 70) (cond (decide ((64 : Int32) ≤ a1)) (some (.inl none, (kS (kS s 28 ((s.1 25 a1.toNatClampNeg) - (100 : Int32)).toNatClampNeg (am_nar 1 (0 : Int32))) 25 a1.toNatClampNeg ((-1 : Int32))))) (cond (am_in a1 64) (some (.inl none, (kS (kS (kS s 28 ((s.1 25 a1.toNatClampNeg) - (100 : Int32)).toNatClampNeg (am_nar 1 (0 : Int32))) 25 a1.toNatClampNeg ((-1 : Int32))) 24 a1.toNatClampNeg (am_nar 1 (0 : Int32))))) none)) none) none) none)) none
set_option maxRecDepth 20000 in
theorem e_X2_leave {nf ns : Nat} {rest : am_H} {s0 : KS} (a1 : Int32) (s : KS) : F_X2_leave [.inl (.ref 15), .inl (.int a1)] (hM nf ns rest s0 s) = am_lf (hM nf ns rest s0) (p_X2_leave a1 s) := by
  rw [p_X2_leave]
  refine (show _ = g_X2_leave 399 1000 0 [(0, .inl (.ref 15)), (1, .inl (.int a1))] [] (hM nf ns rest s0 s) (0, 0) from am_fn_g (Nat.le_of_ble_eq_true rfl)).trans ?_
  refine ((show ∀ f n : Nat, g_X2_leave n (f + 6) 0 [(0, .inl (.ref 15)), (1, .inl (.int a1))] [] (hM nf ns rest s0 s) (0, 0) = cond (am_in a1 70) (cond (decide ((s.1 25 a1.toNatClampNeg) < (100 : Int32))) (g_X2_leave n f 29 [(0, .inl (.ref 15)), (1, .inl (.int a1))] [] (hM nf ns rest s0 s) (0, 0)) (g_X2_leave n f 11 [(0, .inl (.ref 15)), (1, .inl (.int a1))] [] (hM nf ns rest s0 s) (0, 0))) none from fun f n => rfl) 994 399).trans ?_
  refine am_lcd (B := none) ?_ rfl
  refine am_lcd ?_ ?_
  · refine ((show ∀ f n : Nat, g_X2_leave n (f + 5) 29 [(0, .inl (.ref 15)), (1, .inl (.int a1))] [] (hM nf ns rest s0 s) (0, 0) = cond (am_in a1 70) (cond (decide ((s.1 25 a1.toNatClampNeg) < (0 : Int32))) (g_X2_leave n f 50 [(0, .inl (.ref 15)), (1, .inl (.int a1))] [] (hM nf ns rest s0 s) (0, 0)) (g_X2_leave n f 38 [(0, .inl (.ref 15)), (1, .inl (.int a1))] [] (hM nf ns rest s0 s) (0, 0))) none from fun f n => rfl) 989 399).trans ?_
    refine am_lcd (B := none) ?_ rfl
    refine am_lcd ?_ ?_
    · refine ((show ∀ f n : Nat, g_X2_leave n (f + 8) 50 [(0, .inl (.ref 15)), (1, .inl (.int a1))] [] (hM nf ns rest s0 s) (0, 0) = cond (am_in a1 70) (cond (decide ((64 : Int32) ≤ a1)) (g_X2_leave n f 70 [(0, .inl (.ref 15)), (1, .inl (.int a1))] [] (hM nf ns rest s0 (kS s 25 a1.toNatClampNeg ((-1 : Int32)))) (0, 0)) (g_X2_leave n f 63 [(0, .inl (.ref 15)), (1, .inl (.int a1))] [] (hM nf ns rest s0 (kS s 25 a1.toNatClampNeg ((-1 : Int32)))) (0, 0))) none from fun f n => rfl) 981 399).trans ?_
      refine am_lcd (B := none) ?_ rfl
      refine am_lcd ?_ ?_
      · refine ((show ∀ (f n : Nat) (z : KS), g_X2_leave n (f + 1) 70 [(0, .inl (.ref 15)), (1, .inl (.int a1))] [] (hM nf ns rest s0 z) (0, 0) = some (.inl none, hM nf ns rest s0 z) from fun f n z => rfl) 980 399 (kS s 25 a1.toNatClampNeg ((-1 : Int32)))).trans ?_
        rfl
      · refine ((show ∀ (f n : Nat) (z : KS), g_X2_leave n (f + 6) 63 [(0, .inl (.ref 15)), (1, .inl (.int a1))] [] (hM nf ns rest s0 z) (0, 0) = cond (am_in a1 64) (some (.inl none, hM nf ns rest s0 (kS z 24 a1.toNatClampNeg (am_nar 1 (0 : Int32))))) none from fun f n z => rfl) 975 399 (kS s 25 a1.toNatClampNeg ((-1 : Int32)))).trans ?_
        refine am_lcd (B := none) ?_ rfl
        rfl
    · refine ((show ∀ f n : Nat, g_X2_leave n (f + 16) 38 [(0, .inl (.ref 15)), (1, .inl (.int a1))] [] (hM nf ns rest s0 s) (0, 0) = cond (am_in a1 70) (cond (am_in (s.1 25 a1.toNatClampNeg) 10) (cond (am_in a1 70) (cond (decide ((64 : Int32) ≤ a1)) (g_X2_leave n f 70 [(0, .inl (.ref 15)), (1, .inl (.int a1))] [] (hM nf ns rest s0 (kS (kS s 26 (s.1 25 a1.toNatClampNeg).toNatClampNeg ((-1 : Int32))) 25 a1.toNatClampNeg ((-1 : Int32)))) (0, 0)) (g_X2_leave n f 63 [(0, .inl (.ref 15)), (1, .inl (.int a1))] [] (hM nf ns rest s0 (kS (kS s 26 (s.1 25 a1.toNatClampNeg).toNatClampNeg ((-1 : Int32))) 25 a1.toNatClampNeg ((-1 : Int32)))) (0, 0))) none) none) none from fun f n => rfl) 973 399).trans ?_
      refine am_lcd (B := none) ?_ rfl
      refine am_lcd (B := none) ?_ rfl
      refine am_lcd (B := none) ?_ rfl
      refine am_lcd ?_ ?_
      · refine ((show ∀ (f n : Nat) (z : KS), g_X2_leave n (f + 1) 70 [(0, .inl (.ref 15)), (1, .inl (.int a1))] [] (hM nf ns rest s0 z) (0, 0) = some (.inl none, hM nf ns rest s0 z) from fun f n z => rfl) 972 399 (kS (kS s 26 (s.1 25 a1.toNatClampNeg).toNatClampNeg ((-1 : Int32))) 25 a1.toNatClampNeg ((-1 : Int32)))).trans ?_
        rfl
      · refine ((show ∀ (f n : Nat) (z : KS), g_X2_leave n (f + 6) 63 [(0, .inl (.ref 15)), (1, .inl (.int a1))] [] (hM nf ns rest s0 z) (0, 0) = cond (am_in a1 64) (some (.inl none, hM nf ns rest s0 (kS z 24 a1.toNatClampNeg (am_nar 1 (0 : Int32))))) none from fun f n z => rfl) 967 399 (kS (kS s 26 (s.1 25 a1.toNatClampNeg).toNatClampNeg ((-1 : Int32))) 25 a1.toNatClampNeg ((-1 : Int32)))).trans ?_
        refine am_lcd (B := none) ?_ rfl
        rfl
  · refine ((show ∀ f n : Nat, g_X2_leave n (f + 19) 11 [(0, .inl (.ref 15)), (1, .inl (.int a1))] [] (hM nf ns rest s0 s) (0, 0) = cond (am_in a1 70) (cond (am_in ((s.1 25 a1.toNatClampNeg) - (100 : Int32)) 20) (cond (am_in a1 70) (cond (decide ((64 : Int32) ≤ a1)) (g_X2_leave n f 70 [(0, .inl (.ref 15)), (1, .inl (.int a1))] [] (hM nf ns rest s0 (kS (kS s 28 ((s.1 25 a1.toNatClampNeg) - (100 : Int32)).toNatClampNeg (am_nar 1 (0 : Int32))) 25 a1.toNatClampNeg ((-1 : Int32)))) (0, 0)) (g_X2_leave n f 63 [(0, .inl (.ref 15)), (1, .inl (.int a1))] [] (hM nf ns rest s0 (kS (kS s 28 ((s.1 25 a1.toNatClampNeg) - (100 : Int32)).toNatClampNeg (am_nar 1 (0 : Int32))) 25 a1.toNatClampNeg ((-1 : Int32)))) (0, 0))) none) none) none from fun f n => rfl) 975 399).trans ?_
    refine am_lcd (B := none) ?_ rfl
    refine am_lcd (B := none) ?_ rfl
    refine am_lcd (B := none) ?_ rfl
    refine am_lcd ?_ ?_
    · refine ((show ∀ (f n : Nat) (z : KS), g_X2_leave n (f + 1) 70 [(0, .inl (.ref 15)), (1, .inl (.int a1))] [] (hM nf ns rest s0 z) (0, 0) = some (.inl none, hM nf ns rest s0 z) from fun f n z => rfl) 974 399 (kS (kS s 28 ((s.1 25 a1.toNatClampNeg) - (100 : Int32)).toNatClampNeg (am_nar 1 (0 : Int32))) 25 a1.toNatClampNeg ((-1 : Int32)))).trans ?_
      rfl
    · refine ((show ∀ (f n : Nat) (z : KS), g_X2_leave n (f + 6) 63 [(0, .inl (.ref 15)), (1, .inl (.int a1))] [] (hM nf ns rest s0 z) (0, 0) = cond (am_in a1 64) (some (.inl none, hM nf ns rest s0 (kS z 24 a1.toNatClampNeg (am_nar 1 (0 : Int32))))) none from fun f n z => rfl) 969 399 (kS (kS s 28 ((s.1 25 a1.toNatClampNeg) - (100 : Int32)).toNatClampNeg (am_nar 1 (0 : Int32))) 25 a1.toNatClampNeg ((-1 : Int32)))).trans ?_
      refine am_lcd (B := none) ?_ rfl
      rfl
set_option maxRecDepth 20000 in
def g_X2_clean (n f pc : Nat) (lv : am_Lv) (st : List am_V) (h : am_H) (b : Nat × Nat) : Option am_O := am_go X_X2_clean 2 none am_rs0 [] [(2, [0, 1])] (am_lp T_X2_clean X_X2_clean 2 none am_rs0 [] [(2, [0, 1])] n) f (am_from pc T_X2_clean) lv st h b
set_option maxRecDepth 20000 in
def j_X2_clean (n pc : Nat) (lv : am_Lv) (st : List am_V) (h : am_H) (b : Nat × Nat) : Option am_O := am_lp T_X2_clean X_X2_clean 2 none am_rs0 [] [(2, [0, 1])] n pc lv st h b
set_option maxRecDepth 20000 in
theorem j_X2_clean_g (n pc : Nat) (lv : am_Lv) (st : List am_V) (h : am_H) (b : Nat × Nat) : j_X2_clean (n + 1) pc lv st h b = g_X2_clean n 1000 pc lv st h b := rfl
set_option maxRecDepth 20000 in
theorem j_X2_clean_0 (pc : Nat) (lv : am_Lv) (st : List am_V) (h : am_H) (b : Nat × Nat) : j_X2_clean 0 pc lv st h b = none := rfl
set_option maxRecDepth 20000 in
def p_X2_clean_L2 : Nat → Int32 → KS → KR
  | 0, _, _ => none
  | n + 1, l1, s => cond (decide ((70 : Int32) ≤ l1)) (some (.inl none, s)) (cond (decide ((64 : Int32) ≤ l1)) (kbi (p_X2_owners l1 s) (fun x2 s1 => cond (!decide (x2 = (0 : Int32))) (p_X2_clean_L2 n (l1 + (1 : Int32)) s1) (kbv (p_X2_leave l1 s1) (fun s3 => p_X2_clean_L2 n (l1 + (1 : Int32)) s3)))) (cond (am_in l1 64) (cond (decide ((s.1 24 l1.toNatClampNeg) = (0 : Int32))) (p_X2_clean_L2 n (l1 + (1 : Int32)) s) (kbi (p_X2_owners l1 s) (fun x5 s4 => cond (!decide (x5 = (0 : Int32))) (p_X2_clean_L2 n (l1 + (1 : Int32)) s4) (kbv (p_X2_leave l1 s4) (fun s6 => p_X2_clean_L2 n (l1 + (1 : Int32)) s6))))) none))
set_option maxRecDepth 20000 in
theorem b_X2_clean_L2 {nf ns : Nat} {rest : am_H} {s0 : KS} (n : Nat) (ih : ∀ (l1 : Int32) (s : KS), j_X2_clean n 2 [(0, .inl (.ref 15)), (1, .inl (.int l1))] [] (hM nf ns rest s0 s) (0, 0) = am_lf (hM nf ns rest s0) (p_X2_clean_L2 n l1 s)) (f : Nat) (l1 : Int32) (s : KS) : g_X2_clean n (f + 23) 2 [(0, .inl (.ref 15)), (1, .inl (.int l1))] [] (hM nf ns rest s0 s) (0, 0) = am_lf (hM nf ns rest s0) (p_X2_clean_L2 (n + 1) l1 s) := by
  rw [p_X2_clean_L2]
  refine ((show ∀ f n : Nat, g_X2_clean n (f + 3) 2 [(0, .inl (.ref 15)), (1, .inl (.int l1))] [] (hM nf ns rest s0 s) (0, 0) = cond (decide ((70 : Int32) ≤ l1)) (g_X2_clean n f 42 [(0, .inl (.ref 15)), (1, .inl (.int l1))] [] (hM nf ns rest s0 s) (0, 0)) (g_X2_clean n f 8 [(0, .inl (.ref 15)), (1, .inl (.int l1))] [] (hM nf ns rest s0 s) (0, 0)) from fun f n => rfl) (f + 20) n).trans ?_
  refine am_lcd ?_ ?_
  · refine ((show ∀ f n : Nat, g_X2_clean n (f + 1) 42 [(0, .inl (.ref 15)), (1, .inl (.int l1))] [] (hM nf ns rest s0 s) (0, 0) = some (.inl none, hM nf ns rest s0 s) from fun f n => rfl) (f + 19) n).trans ?_
    rfl
  · refine ((show ∀ f n : Nat, g_X2_clean n (f + 3) 8 [(0, .inl (.ref 15)), (1, .inl (.int l1))] [] (hM nf ns rest s0 s) (0, 0) = cond (decide ((64 : Int32) ≤ l1)) (g_X2_clean n f 23 [(0, .inl (.ref 15)), (1, .inl (.int l1))] [] (hM nf ns rest s0 s) (0, 0)) (g_X2_clean n f 14 [(0, .inl (.ref 15)), (1, .inl (.int l1))] [] (hM nf ns rest s0 s) (0, 0)) from fun f n => rfl) (f + 17) n).trans ?_
    refine am_lcd ?_ ?_
    · refine ((show ∀ f n : Nat, g_X2_clean n (f + 3) 23 [(0, .inl (.ref 15)), (1, .inl (.int l1))] [] (hM nf ns rest s0 s) (0, 0) = am_ri (F_X2_owners [.inl (.ref 15), .inl (.int l1)] (hM nf ns rest s0 s)) (fun x2 h => g_X2_clean n f 28 [(0, .inl (.ref 15)), (1, .inl (.int l1))] [.inl (.int x2)] h (0, 0)) (fun x h => some (.inr x, h)) from fun f n => rfl) (f + 14) n).trans ?_
      rw [e_X2_owners l1 s]
      refine am_lbi (fun x2 s1 => ?_) (fun _ _ => rfl)
      refine ((show ∀ f n : Nat, g_X2_clean n (f + 1) 28 [(0, .inl (.ref 15)), (1, .inl (.int l1))] [.inl (.int x2)] (hM nf ns rest s0 s1) (0, 0) = cond (!decide (x2 = (0 : Int32))) (g_X2_clean n f 36 [(0, .inl (.ref 15)), (1, .inl (.int l1))] [] (hM nf ns rest s0 s1) (0, 0)) (g_X2_clean n f 31 [(0, .inl (.ref 15)), (1, .inl (.int l1))] [] (hM nf ns rest s0 s1) (0, 0)) from fun f n => rfl) (f + 13) n).trans ?_
      refine am_lcd ?_ ?_
      · refine ((show ∀ f n : Nat, g_X2_clean n (f + 2) 36 [(0, .inl (.ref 15)), (1, .inl (.int l1))] [] (hM nf ns rest s0 s1) (0, 0) = j_X2_clean n 2 [(0, .inl (.ref 15)), (1, .inl (.int (l1 + (1 : Int32))))] [] (hM nf ns rest s0 s1) (0, 0) from fun f n => rfl) (f + 11) n).trans ?_
        exact ih (l1 + (1 : Int32)) s1
      · refine ((show ∀ f n : Nat, g_X2_clean n (f + 3) 31 [(0, .inl (.ref 15)), (1, .inl (.int l1))] [] (hM nf ns rest s0 s1) (0, 0) = am_rv (F_X2_leave [.inl (.ref 15), .inl (.int l1)] (hM nf ns rest s0 s1)) (fun h => g_X2_clean n f 36 [(0, .inl (.ref 15)), (1, .inl (.int l1))] [] h (0, 0)) (fun x h => some (.inr x, h)) from fun f n => rfl) (f + 10) n).trans ?_
        rw [e_X2_leave l1 s1]
        refine am_lbv (fun s3 => ?_) (fun _ _ => rfl)
        refine ((show ∀ f n : Nat, g_X2_clean n (f + 2) 36 [(0, .inl (.ref 15)), (1, .inl (.int l1))] [] (hM nf ns rest s0 s3) (0, 0) = j_X2_clean n 2 [(0, .inl (.ref 15)), (1, .inl (.int (l1 + (1 : Int32))))] [] (hM nf ns rest s0 s3) (0, 0) from fun f n => rfl) (f + 8) n).trans ?_
        exact ih (l1 + (1 : Int32)) s3
    · refine ((show ∀ f n : Nat, g_X2_clean n (f + 5) 14 [(0, .inl (.ref 15)), (1, .inl (.int l1))] [] (hM nf ns rest s0 s) (0, 0) = cond (am_in l1 64) (cond (decide ((s.1 24 l1.toNatClampNeg) = (0 : Int32))) (g_X2_clean n f 36 [(0, .inl (.ref 15)), (1, .inl (.int l1))] [] (hM nf ns rest s0 s) (0, 0)) (g_X2_clean n f 23 [(0, .inl (.ref 15)), (1, .inl (.int l1))] [] (hM nf ns rest s0 s) (0, 0))) none from fun f n => rfl) (f + 12) n).trans ?_
      refine am_lcd (B := none) ?_ rfl
      refine am_lcd ?_ ?_
      · refine ((show ∀ f n : Nat, g_X2_clean n (f + 2) 36 [(0, .inl (.ref 15)), (1, .inl (.int l1))] [] (hM nf ns rest s0 s) (0, 0) = j_X2_clean n 2 [(0, .inl (.ref 15)), (1, .inl (.int (l1 + (1 : Int32))))] [] (hM nf ns rest s0 s) (0, 0) from fun f n => rfl) (f + 10) n).trans ?_
        exact ih (l1 + (1 : Int32)) s
      · refine ((show ∀ f n : Nat, g_X2_clean n (f + 3) 23 [(0, .inl (.ref 15)), (1, .inl (.int l1))] [] (hM nf ns rest s0 s) (0, 0) = am_ri (F_X2_owners [.inl (.ref 15), .inl (.int l1)] (hM nf ns rest s0 s)) (fun x5 h => g_X2_clean n f 28 [(0, .inl (.ref 15)), (1, .inl (.int l1))] [.inl (.int x5)] h (0, 0)) (fun x h => some (.inr x, h)) from fun f n => rfl) (f + 9) n).trans ?_
        rw [e_X2_owners l1 s]
        refine am_lbi (fun x5 s4 => ?_) (fun _ _ => rfl)
        refine ((show ∀ f n : Nat, g_X2_clean n (f + 1) 28 [(0, .inl (.ref 15)), (1, .inl (.int l1))] [.inl (.int x5)] (hM nf ns rest s0 s4) (0, 0) = cond (!decide (x5 = (0 : Int32))) (g_X2_clean n f 36 [(0, .inl (.ref 15)), (1, .inl (.int l1))] [] (hM nf ns rest s0 s4) (0, 0)) (g_X2_clean n f 31 [(0, .inl (.ref 15)), (1, .inl (.int l1))] [] (hM nf ns rest s0 s4) (0, 0)) from fun f n => rfl) (f + 8) n).trans ?_
        refine am_lcd ?_ ?_
        · refine ((show ∀ f n : Nat, g_X2_clean n (f + 2) 36 [(0, .inl (.ref 15)), (1, .inl (.int l1))] [] (hM nf ns rest s0 s4) (0, 0) = j_X2_clean n 2 [(0, .inl (.ref 15)), (1, .inl (.int (l1 + (1 : Int32))))] [] (hM nf ns rest s0 s4) (0, 0) from fun f n => rfl) (f + 6) n).trans ?_
          exact ih (l1 + (1 : Int32)) s4
        · refine ((show ∀ f n : Nat, g_X2_clean n (f + 3) 31 [(0, .inl (.ref 15)), (1, .inl (.int l1))] [] (hM nf ns rest s0 s4) (0, 0) = am_rv (F_X2_leave [.inl (.ref 15), .inl (.int l1)] (hM nf ns rest s0 s4)) (fun h => g_X2_clean n f 36 [(0, .inl (.ref 15)), (1, .inl (.int l1))] [] h (0, 0)) (fun x h => some (.inr x, h)) from fun f n => rfl) (f + 5) n).trans ?_
          rw [e_X2_leave l1 s4]
          refine am_lbv (fun s6 => ?_) (fun _ _ => rfl)
          refine ((show ∀ f n : Nat, g_X2_clean n (f + 2) 36 [(0, .inl (.ref 15)), (1, .inl (.int l1))] [] (hM nf ns rest s0 s6) (0, 0) = j_X2_clean n 2 [(0, .inl (.ref 15)), (1, .inl (.int (l1 + (1 : Int32))))] [] (hM nf ns rest s0 s6) (0, 0) from fun f n => rfl) (f + 3) n).trans ?_
          exact ih (l1 + (1 : Int32)) s6
set_option maxRecDepth 20000 in
theorem e_X2_clean_L2 {nf ns : Nat} {rest : am_H} {s0 : KS} : ∀ (n : Nat) (l1 : Int32) (s : KS), j_X2_clean n 2 [(0, .inl (.ref 15)), (1, .inl (.int l1))] [] (hM nf ns rest s0 s) (0, 0) = am_lf (hM nf ns rest s0) (p_X2_clean_L2 n l1 s)
  | 0, _, _ => by rw [p_X2_clean_L2]; rfl
  | n + 1, l1, s => (j_X2_clean_g n 2 _ _ _ _).trans (b_X2_clean_L2 n (e_X2_clean_L2 n) 977 l1 s)
set_option maxRecDepth 20000 in
def p_X2_clean  (s : KS) : KR := p_X2_clean_L2 400 (0 : Int32) s
set_option maxRecDepth 20000 in
theorem e_X2_clean {nf ns : Nat} {rest : am_H} {s0 : KS}  (s : KS) : F_X2_clean [.inl (.ref 15)] (hM nf ns rest s0 s) = am_lf (hM nf ns rest s0) (p_X2_clean  s) := by
  rw [p_X2_clean]
  refine (show _ = g_X2_clean 399 1000 0 [(0, .inl (.ref 15))] [] (hM nf ns rest s0 s) (0, 0) from am_fn_g (Nat.le_of_ble_eq_true rfl)).trans ?_
  refine ((show ∀ f n : Nat, g_X2_clean n (f + 2) 0 [(0, .inl (.ref 15))] [] (hM nf ns rest s0 s) (0, 0) = g_X2_clean n f 2 [(0, .inl (.ref 15)), (1, .inl (.int (0 : Int32)))] [] (hM nf ns rest s0 s) (0, 0) from fun f n => rfl) 998 399).trans ?_
  exact b_X2_clean_L2 399 (e_X2_clean_L2 399) 975 (0 : Int32) s
set_option maxRecDepth 20000 in
def g_X2_exec (n f pc : Nat) (lv : am_Lv) (st : List am_V) (h : am_H) (b : Nat × Nat) : Option am_O := am_go X_X2_exec 3 (some .int) am_rs0 [] [] (am_lp T_X2_exec X_X2_exec 3 (some .int) am_rs0 [] [] n) f (am_from pc T_X2_exec) lv st h b
set_option maxRecDepth 20000 in
def j_X2_exec (n pc : Nat) (lv : am_Lv) (st : List am_V) (h : am_H) (b : Nat × Nat) : Option am_O := am_lp T_X2_exec X_X2_exec 3 (some .int) am_rs0 [] [] n pc lv st h b
set_option maxRecDepth 20000 in
theorem j_X2_exec_g (n pc : Nat) (lv : am_Lv) (st : List am_V) (h : am_H) (b : Nat × Nat) : j_X2_exec (n + 1) pc lv st h b = g_X2_exec n 1000 pc lv st h b := rfl
set_option maxRecDepth 20000 in
theorem j_X2_exec_0 (pc : Nat) (lv : am_Lv) (st : List am_V) (h : am_H) (b : Nat × Nat) : j_X2_exec 0 pc lv st h b = none := rfl
set_option maxRecDepth 20000 in
def p_X2_exec (a1 : Int32) (a2 : Int32) (s : KS) : KR := kbi (p_X2_out a1 (6 : Int32) (kS s 15 0 (0 : Int32))) (fun x2 s1 => cond (!decide (x2 = (0 : Int32))) (kbi (p_X2_fail (1 : Int32) s1) (fun x4 s3 => some (.inl (some x4), s3))) (kbi (p_X2_out a2 (3 : Int32) s1) (fun x6 s5 => cond (decide (x6 = (0 : Int32))) (kbi (p_X2_notRunning a1 s5) (fun x8 s7 => cond (decide (x8 = (0 : Int32))) (kbv (p_X2_drop a1 s7) (fun s9 => cond (am_in a1 6) (kbv (p_X2_clean  (kS s9 17 a1.toNatClampNeg (a2))) (fun s10 => kbv (p_X2_begin a1 a2 s10) (fun s11 => cond (am_in a1 6) (some (.inl (some ((4 : Int32) * (s11.1 20 a1.toNatClampNeg))), s11)) none))) none)) (kbi (p_X2_fail (2 : Int32) s7) (fun x13 s12 => some (.inl (some x13), s12))))) (kbi (p_X2_fail (1 : Int32) s5) (fun x15 s14 => some (.inl (some x15), s14))))))
set_option maxRecDepth 20000 in
theorem e_X2_exec {nf ns : Nat} {rest : am_H} {s0 : KS} (a1 : Int32) (a2 : Int32) (s : KS) : F_X2_exec [.inl (.ref 15), .inl (.int a1), .inl (.int a2)] (hM nf ns rest s0 s) = am_lf (hM nf ns rest s0) (p_X2_exec a1 a2 s) := by
  rw [p_X2_exec]
  refine (show _ = g_X2_exec 399 1000 0 [(0, .inl (.ref 15)), (1, .inl (.int a1)), (2, .inl (.int a2))] [] (hM nf ns rest s0 s) (0, 0) from am_fn_g (Nat.le_of_ble_eq_true rfl)).trans ?_
  refine ((show ∀ f n : Nat, g_X2_exec n (f + 7) 0 [(0, .inl (.ref 15)), (1, .inl (.int a1)), (2, .inl (.int a2))] [] (hM nf ns rest s0 s) (0, 0) = am_ri (F_X2_out [.inl (.ref 15), .inl (.int a1), .inl (.int (6 : Int32))] (hM nf ns rest s0 (kS s 15 0 (0 : Int32)))) (fun x2 h => g_X2_exec n f 12 [(0, .inl (.ref 15)), (1, .inl (.int a1)), (2, .inl (.int a2))] [.inl (.int x2)] h (0, 0)) (fun x h => some (.inr x, h)) from fun f n => rfl) 993 399).trans ?_
  rw [e_X2_out a1 (6 : Int32) (kS s 15 0 (0 : Int32))]
  refine am_lbi (fun x2 s1 => ?_) (fun _ _ => rfl)
  refine ((show ∀ f n : Nat, g_X2_exec n (f + 1) 12 [(0, .inl (.ref 15)), (1, .inl (.int a1)), (2, .inl (.int a2))] [.inl (.int x2)] (hM nf ns rest s0 s1) (0, 0) = cond (!decide (x2 = (0 : Int32))) (g_X2_exec n f 24 [(0, .inl (.ref 15)), (1, .inl (.int a1)), (2, .inl (.int a2))] [] (hM nf ns rest s0 s1) (0, 0)) (g_X2_exec n f 15 [(0, .inl (.ref 15)), (1, .inl (.int a1)), (2, .inl (.int a2))] [] (hM nf ns rest s0 s1) (0, 0)) from fun f n => rfl) 992 399).trans ?_
  refine am_lcd ?_ ?_
  · refine ((show ∀ f n : Nat, g_X2_exec n (f + 3) 24 [(0, .inl (.ref 15)), (1, .inl (.int a1)), (2, .inl (.int a2))] [] (hM nf ns rest s0 s1) (0, 0) = am_ri (F_X2_fail [.inl (.ref 15), .inl (.int (1 : Int32))] (hM nf ns rest s0 s1)) (fun x4 h => g_X2_exec n f 29 [(0, .inl (.ref 15)), (1, .inl (.int a1)), (2, .inl (.int a2))] [.inl (.int x4)] h (0, 0)) (fun x h => some (.inr x, h)) from fun f n => rfl) 989 399).trans ?_
    rw [e_X2_fail (1 : Int32) s1]
    refine am_lbi (fun x4 s3 => ?_) (fun _ _ => rfl)
    refine ((show ∀ f n : Nat, g_X2_exec n (f + 1) 29 [(0, .inl (.ref 15)), (1, .inl (.int a1)), (2, .inl (.int a2))] [.inl (.int x4)] (hM nf ns rest s0 s3) (0, 0) = some (.inl (some (.inl (.int x4))), hM nf ns rest s0 s3) from fun f n => rfl) 988 399).trans ?_
    rfl
  · refine ((show ∀ f n : Nat, g_X2_exec n (f + 4) 15 [(0, .inl (.ref 15)), (1, .inl (.int a1)), (2, .inl (.int a2))] [] (hM nf ns rest s0 s1) (0, 0) = am_ri (F_X2_out [.inl (.ref 15), .inl (.int a2), .inl (.int (3 : Int32))] (hM nf ns rest s0 s1)) (fun x6 h => g_X2_exec n f 21 [(0, .inl (.ref 15)), (1, .inl (.int a1)), (2, .inl (.int a2))] [.inl (.int x6)] h (0, 0)) (fun x h => some (.inr x, h)) from fun f n => rfl) 988 399).trans ?_
    rw [e_X2_out a2 (3 : Int32) s1]
    refine am_lbi (fun x6 s5 => ?_) (fun _ _ => rfl)
    refine ((show ∀ f n : Nat, g_X2_exec n (f + 1) 21 [(0, .inl (.ref 15)), (1, .inl (.int a1)), (2, .inl (.int a2))] [.inl (.int x6)] (hM nf ns rest s0 s5) (0, 0) = cond (decide (x6 = (0 : Int32))) (g_X2_exec n f 30 [(0, .inl (.ref 15)), (1, .inl (.int a1)), (2, .inl (.int a2))] [] (hM nf ns rest s0 s5) (0, 0)) (g_X2_exec n f 24 [(0, .inl (.ref 15)), (1, .inl (.int a1)), (2, .inl (.int a2))] [] (hM nf ns rest s0 s5) (0, 0)) from fun f n => rfl) 987 399).trans ?_
    refine am_lcd ?_ ?_
    · refine ((show ∀ f n : Nat, g_X2_exec n (f + 3) 30 [(0, .inl (.ref 15)), (1, .inl (.int a1)), (2, .inl (.int a2))] [] (hM nf ns rest s0 s5) (0, 0) = am_ri (F_X2_notRunning [.inl (.ref 15), .inl (.int a1)] (hM nf ns rest s0 s5)) (fun x8 h => g_X2_exec n f 35 [(0, .inl (.ref 15)), (1, .inl (.int a1)), (2, .inl (.int a2))] [.inl (.int x8)] h (0, 0)) (fun x h => some (.inr x, h)) from fun f n => rfl) 984 399).trans ?_
      rw [e_X2_notRunning a1 s5]
      refine am_lbi (fun x8 s7 => ?_) (fun _ _ => rfl)
      refine ((show ∀ f n : Nat, g_X2_exec n (f + 1) 35 [(0, .inl (.ref 15)), (1, .inl (.int a1)), (2, .inl (.int a2))] [.inl (.int x8)] (hM nf ns rest s0 s7) (0, 0) = cond (decide (x8 = (0 : Int32))) (g_X2_exec n f 44 [(0, .inl (.ref 15)), (1, .inl (.int a1)), (2, .inl (.int a2))] [] (hM nf ns rest s0 s7) (0, 0)) (g_X2_exec n f 38 [(0, .inl (.ref 15)), (1, .inl (.int a1)), (2, .inl (.int a2))] [] (hM nf ns rest s0 s7) (0, 0)) from fun f n => rfl) 983 399).trans ?_
      refine am_lcd ?_ ?_
      · refine ((show ∀ f n : Nat, g_X2_exec n (f + 3) 44 [(0, .inl (.ref 15)), (1, .inl (.int a1)), (2, .inl (.int a2))] [] (hM nf ns rest s0 s7) (0, 0) = am_rv (F_X2_drop [.inl (.ref 15), .inl (.int a1)] (hM nf ns rest s0 s7)) (fun h => g_X2_exec n f 49 [(0, .inl (.ref 15)), (1, .inl (.int a1)), (2, .inl (.int a2))] [] h (0, 0)) (fun x h => some (.inr x, h)) from fun f n => rfl) 980 399).trans ?_
        rw [e_X2_drop a1 s7]
        refine am_lbv (fun s9 => ?_) (fun _ _ => rfl)
        refine ((show ∀ f n : Nat, g_X2_exec n (f + 7) 49 [(0, .inl (.ref 15)), (1, .inl (.int a1)), (2, .inl (.int a2))] [] (hM nf ns rest s0 s9) (0, 0) = cond (am_in a1 6) (am_rv (F_X2_clean [.inl (.ref 15)] (hM nf ns rest s0 (kS s9 17 a1.toNatClampNeg (a2)))) (fun h => g_X2_exec n f 60 [(0, .inl (.ref 15)), (1, .inl (.int a1)), (2, .inl (.int a2))] [] h (0, 0)) (fun x h => some (.inr x, h))) none from fun f n => rfl) 973 399).trans ?_
        refine am_lcd (B := none) ?_ rfl
        rw [e_X2_clean  (kS s9 17 a1.toNatClampNeg (a2))]
        refine am_lbv (fun s10 => ?_) (fun _ _ => rfl)
        refine ((show ∀ f n : Nat, g_X2_exec n (f + 4) 60 [(0, .inl (.ref 15)), (1, .inl (.int a1)), (2, .inl (.int a2))] [] (hM nf ns rest s0 s10) (0, 0) = am_rv (F_X2_begin [.inl (.ref 15), .inl (.int a1), .inl (.int a2)] (hM nf ns rest s0 s10)) (fun h => g_X2_exec n f 66 [(0, .inl (.ref 15)), (1, .inl (.int a1)), (2, .inl (.int a2))] [] h (0, 0)) (fun x h => some (.inr x, h)) from fun f n => rfl) 969 399).trans ?_
        rw [e_X2_begin a1 a2 s10]
        refine am_lbv (fun s11 => ?_) (fun _ _ => rfl)
        refine ((show ∀ f n : Nat, g_X2_exec n (f + 7) 66 [(0, .inl (.ref 15)), (1, .inl (.int a1)), (2, .inl (.int a2))] [] (hM nf ns rest s0 s11) (0, 0) = cond (am_in a1 6) (some (.inl (some (.inl (.int ((4 : Int32) * (s11.1 20 a1.toNatClampNeg))))), hM nf ns rest s0 s11)) none from fun f n => rfl) 962 399).trans ?_
        refine am_lcd (B := none) ?_ rfl
        rfl
      · refine ((show ∀ f n : Nat, g_X2_exec n (f + 3) 38 [(0, .inl (.ref 15)), (1, .inl (.int a1)), (2, .inl (.int a2))] [] (hM nf ns rest s0 s7) (0, 0) = am_ri (F_X2_fail [.inl (.ref 15), .inl (.int (2 : Int32))] (hM nf ns rest s0 s7)) (fun x13 h => g_X2_exec n f 43 [(0, .inl (.ref 15)), (1, .inl (.int a1)), (2, .inl (.int a2))] [.inl (.int x13)] h (0, 0)) (fun x h => some (.inr x, h)) from fun f n => rfl) 980 399).trans ?_
        rw [e_X2_fail (2 : Int32) s7]
        refine am_lbi (fun x13 s12 => ?_) (fun _ _ => rfl)
        refine ((show ∀ f n : Nat, g_X2_exec n (f + 1) 43 [(0, .inl (.ref 15)), (1, .inl (.int a1)), (2, .inl (.int a2))] [.inl (.int x13)] (hM nf ns rest s0 s12) (0, 0) = some (.inl (some (.inl (.int x13))), hM nf ns rest s0 s12) from fun f n => rfl) 979 399).trans ?_
        rfl
    · refine ((show ∀ f n : Nat, g_X2_exec n (f + 3) 24 [(0, .inl (.ref 15)), (1, .inl (.int a1)), (2, .inl (.int a2))] [] (hM nf ns rest s0 s5) (0, 0) = am_ri (F_X2_fail [.inl (.ref 15), .inl (.int (1 : Int32))] (hM nf ns rest s0 s5)) (fun x15 h => g_X2_exec n f 29 [(0, .inl (.ref 15)), (1, .inl (.int a1)), (2, .inl (.int a2))] [.inl (.int x15)] h (0, 0)) (fun x h => some (.inr x, h)) from fun f n => rfl) 984 399).trans ?_
      rw [e_X2_fail (1 : Int32) s5]
      refine am_lbi (fun x15 s14 => ?_) (fun _ _ => rfl)
      refine ((show ∀ f n : Nat, g_X2_exec n (f + 1) 29 [(0, .inl (.ref 15)), (1, .inl (.int a1)), (2, .inl (.int a2))] [.inl (.int x15)] (hM nf ns rest s0 s14) (0, 0) = some (.inl (some (.inl (.int x15))), hM nf ns rest s0 s14) from fun f n => rfl) 983 399).trans ?_
      rfl
set_option maxRecDepth 20000 in
def g_X2_exit (n f pc : Nat) (lv : am_Lv) (st : List am_V) (h : am_H) (b : Nat × Nat) : Option am_O := am_go X_X2_exit 5 (some .int) am_rs0 [] [(74, [0, 1, 3, 4])] (am_lp T_X2_exit X_X2_exit 5 (some .int) am_rs0 [] [(74, [0, 1, 3, 4])] n) f (am_from pc T_X2_exit) lv st h b
set_option maxRecDepth 20000 in
def j_X2_exit (n pc : Nat) (lv : am_Lv) (st : List am_V) (h : am_H) (b : Nat × Nat) : Option am_O := am_lp T_X2_exit X_X2_exit 5 (some .int) am_rs0 [] [(74, [0, 1, 3, 4])] n pc lv st h b
set_option maxRecDepth 20000 in
theorem j_X2_exit_g (n pc : Nat) (lv : am_Lv) (st : List am_V) (h : am_H) (b : Nat × Nat) : j_X2_exit (n + 1) pc lv st h b = g_X2_exit n 1000 pc lv st h b := rfl
set_option maxRecDepth 20000 in
theorem j_X2_exit_0 (pc : Nat) (lv : am_Lv) (st : List am_V) (h : am_H) (b : Nat × Nat) : j_X2_exit 0 pc lv st h b = none := rfl
set_option maxRecDepth 20000 in
def p_X2_exit_L74 : Nat → Int32 → Int32 → Int32 → KS → KR
  | 0, _, _, _, _ => none
  | n + 1, l1, l3, l4, s => cond (decide ((6 : Int32) ≤ l4)) (some (.inl (some l3), s)) (cond (am_in l4 6) (cond (decide ((s.1 16 l4.toNatClampNeg) = (0 : Int32))) (p_X2_exit_L74 n l1 l3 (l4 + (1 : Int32)) s) (cond (am_in l4 6) (cond (!decide ((s.1 18 l4.toNatClampNeg) = l1)) (p_X2_exit_L74 n l1 l3 (l4 + (1 : Int32)) s) (cond (am_in l4 6) (p_X2_exit_L74 n l1 (l3 + (1 : Int32)) (l4 + (1 : Int32)) (kS s 18 l4.toNatClampNeg ((0 : Int32)))) none)) none)) none)
set_option maxRecDepth 20000 in
theorem b_X2_exit_L74 {nf ns : Nat} {rest : am_H} {s0 : KS} (n : Nat) (ih : ∀ (l1 : Int32) (l3 : Int32) (l4 : Int32) (s : KS), j_X2_exit n 74 [(0, .inl (.ref 15)), (1, .inl (.int l1)), (3, .inl (.int l3)), (4, .inl (.int l4))] [] (hM nf ns rest s0 s) (0, 0) = am_lf (hM nf ns rest s0) (p_X2_exit_L74 n l1 l3 l4 s)) (f : Nat) (l1 : Int32) (l3 : Int32) (l4 : Int32) (s : KS) : g_X2_exit n (f + 25) 74 [(0, .inl (.ref 15)), (1, .inl (.int l1)), (3, .inl (.int l3)), (4, .inl (.int l4))] [] (hM nf ns rest s0 s) (0, 0) = am_lf (hM nf ns rest s0) (p_X2_exit_L74 (n + 1) l1 l3 l4 s) := by
  rw [p_X2_exit_L74]
  refine ((show ∀ f n : Nat, g_X2_exit n (f + 3) 74 [(0, .inl (.ref 15)), (1, .inl (.int l1)), (3, .inl (.int l3)), (4, .inl (.int l4))] [] (hM nf ns rest s0 s) (0, 0) = cond (decide ((6 : Int32) ≤ l4)) (g_X2_exit n f 119 [(0, .inl (.ref 15)), (1, .inl (.int l1)), (3, .inl (.int l3)), (4, .inl (.int l4))] [] (hM nf ns rest s0 s) (0, 0)) (g_X2_exit n f 81 [(0, .inl (.ref 15)), (1, .inl (.int l1)), (3, .inl (.int l3)), (4, .inl (.int l4))] [] (hM nf ns rest s0 s) (0, 0)) from fun f n => rfl) (f + 22) n).trans ?_
  refine am_lcd ?_ ?_
  · refine ((show ∀ f n : Nat, g_X2_exit n (f + 2) 119 [(0, .inl (.ref 15)), (1, .inl (.int l1)), (3, .inl (.int l3)), (4, .inl (.int l4))] [] (hM nf ns rest s0 s) (0, 0) = some (.inl (some (.inl (.int l3))), hM nf ns rest s0 s) from fun f n => rfl) (f + 20) n).trans ?_
    rfl
  · refine ((show ∀ f n : Nat, g_X2_exit n (f + 5) 81 [(0, .inl (.ref 15)), (1, .inl (.int l1)), (3, .inl (.int l3)), (4, .inl (.int l4))] [] (hM nf ns rest s0 s) (0, 0) = cond (am_in l4 6) (cond (decide ((s.1 16 l4.toNatClampNeg) = (0 : Int32))) (g_X2_exit n f 113 [(0, .inl (.ref 15)), (1, .inl (.int l1)), (3, .inl (.int l3)), (4, .inl (.int l4))] [] (hM nf ns rest s0 s) (0, 0)) (g_X2_exit n f 91 [(0, .inl (.ref 15)), (1, .inl (.int l1)), (3, .inl (.int l3)), (4, .inl (.int l4))] [] (hM nf ns rest s0 s) (0, 0))) none from fun f n => rfl) (f + 17) n).trans ?_
    refine am_lcd (B := none) ?_ rfl
    refine am_lcd ?_ ?_
    · refine ((show ∀ f n : Nat, g_X2_exit n (f + 2) 113 [(0, .inl (.ref 15)), (1, .inl (.int l1)), (3, .inl (.int l3)), (4, .inl (.int l4))] [] (hM nf ns rest s0 s) (0, 0) = j_X2_exit n 74 [(0, .inl (.ref 15)), (1, .inl (.int l1)), (3, .inl (.int l3)), (4, .inl (.int (l4 + (1 : Int32))))] [] (hM nf ns rest s0 s) (0, 0) from fun f n => rfl) (f + 15) n).trans ?_
      exact ih l1 l3 (l4 + (1 : Int32)) s
    · refine ((show ∀ f n : Nat, g_X2_exit n (f + 6) 91 [(0, .inl (.ref 15)), (1, .inl (.int l1)), (3, .inl (.int l3)), (4, .inl (.int l4))] [] (hM nf ns rest s0 s) (0, 0) = cond (am_in l4 6) (cond (!decide ((s.1 18 l4.toNatClampNeg) = l1)) (g_X2_exit n f 113 [(0, .inl (.ref 15)), (1, .inl (.int l1)), (3, .inl (.int l3)), (4, .inl (.int l4))] [] (hM nf ns rest s0 s) (0, 0)) (g_X2_exit n f 102 [(0, .inl (.ref 15)), (1, .inl (.int l1)), (3, .inl (.int l3)), (4, .inl (.int l4))] [] (hM nf ns rest s0 s) (0, 0))) none from fun f n => rfl) (f + 11) n).trans ?_
      refine am_lcd (B := none) ?_ rfl
      refine am_lcd ?_ ?_
      · refine ((show ∀ f n : Nat, g_X2_exit n (f + 2) 113 [(0, .inl (.ref 15)), (1, .inl (.int l1)), (3, .inl (.int l3)), (4, .inl (.int l4))] [] (hM nf ns rest s0 s) (0, 0) = j_X2_exit n 74 [(0, .inl (.ref 15)), (1, .inl (.int l1)), (3, .inl (.int l3)), (4, .inl (.int (l4 + (1 : Int32))))] [] (hM nf ns rest s0 s) (0, 0) from fun f n => rfl) (f + 9) n).trans ?_
        exact ih l1 l3 (l4 + (1 : Int32)) s
      · refine ((show ∀ f n : Nat, g_X2_exit n (f + 8) 102 [(0, .inl (.ref 15)), (1, .inl (.int l1)), (3, .inl (.int l3)), (4, .inl (.int l4))] [] (hM nf ns rest s0 s) (0, 0) = cond (am_in l4 6) (j_X2_exit n 74 [(0, .inl (.ref 15)), (1, .inl (.int l1)), (3, .inl (.int (l3 + (1 : Int32)))), (4, .inl (.int (l4 + (1 : Int32))))] [] (hM nf ns rest s0 (kS s 18 l4.toNatClampNeg ((0 : Int32)))) (0, 0)) none from fun f n => rfl) (f + 3) n).trans ?_
        refine am_lcd (B := none) ?_ rfl
        exact ih l1 (l3 + (1 : Int32)) (l4 + (1 : Int32)) (kS s 18 l4.toNatClampNeg ((0 : Int32)))
set_option maxRecDepth 20000 in
theorem e_X2_exit_L74 {nf ns : Nat} {rest : am_H} {s0 : KS} : ∀ (n : Nat) (l1 : Int32) (l3 : Int32) (l4 : Int32) (s : KS), j_X2_exit n 74 [(0, .inl (.ref 15)), (1, .inl (.int l1)), (3, .inl (.int l3)), (4, .inl (.int l4))] [] (hM nf ns rest s0 s) (0, 0) = am_lf (hM nf ns rest s0) (p_X2_exit_L74 n l1 l3 l4 s)
  | 0, _, _, _, _ => by rw [p_X2_exit_L74]; rfl
  | n + 1, l1, l3, l4, s => (j_X2_exit_g n 74 _ _ _ _).trans (b_X2_exit_L74 n (e_X2_exit_L74 n) 975 l1 l3 l4 s)
set_option maxRecDepth 20000 in
def p_X2_exit (a1 : Int32) (a2 : Int32) (s : KS) : KR := cond (decide (a1 < (1 : Int32))) (kbi (p_X2_fail (1 : Int32) (kS s 15 0 (0 : Int32))) (fun x2 s1 => some (.inl (some x2), s1))) (cond (decide ((5 : Int32) < a1)) (kbi (p_X2_fail (1 : Int32) (kS s 15 0 (0 : Int32))) (fun x4 s3 => some (.inl (some x4), s3))) (kbi (p_X2_out a2 (256 : Int32) (kS s 15 0 (0 : Int32))) (fun x6 s5 => cond (decide (x6 = (0 : Int32))) (kbi (p_X2_notRunning a1 s5) (fun x8 s7 => cond (decide (x8 = (0 : Int32))) (cond (am_in a1 6) (cond (am_in a1 6) (kbv (p_X2_drop a1 (kS (kS s7 16 a1.toNatClampNeg ((2 : Int32))) 19 a1.toNatClampNeg (a2))) (fun s9 => kbv (p_X2_clean  s9) (fun s10 => p_X2_exit_L74 400 a1 (0 : Int32) (1 : Int32) s10))) none) none) (kbi (p_X2_fail (2 : Int32) s7) (fun x12 s11 => some (.inl (some x12), s11))))) (kbi (p_X2_fail (1 : Int32) s5) (fun x14 s13 => some (.inl (some x14), s13))))))
set_option maxRecDepth 20000 in
theorem e_X2_exit {nf ns : Nat} {rest : am_H} {s0 : KS} (a1 : Int32) (a2 : Int32) (s : KS) : F_X2_exit [.inl (.ref 15), .inl (.int a1), .inl (.int a2)] (hM nf ns rest s0 s) = am_lf (hM nf ns rest s0) (p_X2_exit a1 a2 s) := by
  rw [p_X2_exit]
  refine (show _ = g_X2_exit 399 1000 0 [(0, .inl (.ref 15)), (1, .inl (.int a1)), (2, .inl (.int a2))] [] (hM nf ns rest s0 s) (0, 0) from am_fn_g (Nat.le_of_ble_eq_true rfl)).trans ?_
  refine ((show ∀ f n : Nat, g_X2_exit n (f + 6) 0 [(0, .inl (.ref 15)), (1, .inl (.int a1)), (2, .inl (.int a2))] [] (hM nf ns rest s0 s) (0, 0) = cond (decide (a1 < (1 : Int32))) (g_X2_exit n f 26 [(0, .inl (.ref 15)), (1, .inl (.int a1)), (2, .inl (.int a2))] [] (hM nf ns rest s0 (kS s 15 0 (0 : Int32))) (0, 0)) (g_X2_exit n f 10 [(0, .inl (.ref 15)), (1, .inl (.int a1)), (2, .inl (.int a2))] [] (hM nf ns rest s0 (kS s 15 0 (0 : Int32))) (0, 0)) from fun f n => rfl) 994 399).trans ?_
  refine am_lcd ?_ ?_
  · refine ((show ∀ (f n : Nat) (z : KS), g_X2_exit n (f + 3) 26 [(0, .inl (.ref 15)), (1, .inl (.int a1)), (2, .inl (.int a2))] [] (hM nf ns rest s0 z) (0, 0) = am_ri (F_X2_fail [.inl (.ref 15), .inl (.int (1 : Int32))] (hM nf ns rest s0 z)) (fun x2 h => g_X2_exit n f 31 [(0, .inl (.ref 15)), (1, .inl (.int a1)), (2, .inl (.int a2))] [.inl (.int x2)] h (0, 0)) (fun x h => some (.inr x, h)) from fun f n z => rfl) 991 399 (kS s 15 0 (0 : Int32))).trans ?_
    rw [e_X2_fail (1 : Int32) (kS s 15 0 (0 : Int32))]
    refine am_lbi (fun x2 s1 => ?_) (fun _ _ => rfl)
    refine ((show ∀ f n : Nat, g_X2_exit n (f + 1) 31 [(0, .inl (.ref 15)), (1, .inl (.int a1)), (2, .inl (.int a2))] [.inl (.int x2)] (hM nf ns rest s0 s1) (0, 0) = some (.inl (some (.inl (.int x2))), hM nf ns rest s0 s1) from fun f n => rfl) 990 399).trans ?_
    rfl
  · refine ((show ∀ (f n : Nat) (z : KS), g_X2_exit n (f + 3) 10 [(0, .inl (.ref 15)), (1, .inl (.int a1)), (2, .inl (.int a2))] [] (hM nf ns rest s0 z) (0, 0) = cond (decide ((5 : Int32) < a1)) (g_X2_exit n f 26 [(0, .inl (.ref 15)), (1, .inl (.int a1)), (2, .inl (.int a2))] [] (hM nf ns rest s0 z) (0, 0)) (g_X2_exit n f 15 [(0, .inl (.ref 15)), (1, .inl (.int a1)), (2, .inl (.int a2))] [] (hM nf ns rest s0 z) (0, 0)) from fun f n z => rfl) 991 399 (kS s 15 0 (0 : Int32))).trans ?_
    refine am_lcd ?_ ?_
    · refine ((show ∀ (f n : Nat) (z : KS), g_X2_exit n (f + 3) 26 [(0, .inl (.ref 15)), (1, .inl (.int a1)), (2, .inl (.int a2))] [] (hM nf ns rest s0 z) (0, 0) = am_ri (F_X2_fail [.inl (.ref 15), .inl (.int (1 : Int32))] (hM nf ns rest s0 z)) (fun x4 h => g_X2_exit n f 31 [(0, .inl (.ref 15)), (1, .inl (.int a1)), (2, .inl (.int a2))] [.inl (.int x4)] h (0, 0)) (fun x h => some (.inr x, h)) from fun f n z => rfl) 988 399 (kS s 15 0 (0 : Int32))).trans ?_
      rw [e_X2_fail (1 : Int32) (kS s 15 0 (0 : Int32))]
      refine am_lbi (fun x4 s3 => ?_) (fun _ _ => rfl)
      refine ((show ∀ f n : Nat, g_X2_exit n (f + 1) 31 [(0, .inl (.ref 15)), (1, .inl (.int a1)), (2, .inl (.int a2))] [.inl (.int x4)] (hM nf ns rest s0 s3) (0, 0) = some (.inl (some (.inl (.int x4))), hM nf ns rest s0 s3) from fun f n => rfl) 987 399).trans ?_
      rfl
    · refine ((show ∀ (f n : Nat) (z : KS), g_X2_exit n (f + 4) 15 [(0, .inl (.ref 15)), (1, .inl (.int a1)), (2, .inl (.int a2))] [] (hM nf ns rest s0 z) (0, 0) = am_ri (F_X2_out [.inl (.ref 15), .inl (.int a2), .inl (.int (256 : Int32))] (hM nf ns rest s0 z)) (fun x6 h => g_X2_exit n f 23 [(0, .inl (.ref 15)), (1, .inl (.int a1)), (2, .inl (.int a2))] [.inl (.int x6)] h (0, 0)) (fun x h => some (.inr x, h)) from fun f n z => rfl) 987 399 (kS s 15 0 (0 : Int32))).trans ?_
      rw [e_X2_out a2 (256 : Int32) (kS s 15 0 (0 : Int32))]
      refine am_lbi (fun x6 s5 => ?_) (fun _ _ => rfl)
      refine ((show ∀ f n : Nat, g_X2_exit n (f + 1) 23 [(0, .inl (.ref 15)), (1, .inl (.int a1)), (2, .inl (.int a2))] [.inl (.int x6)] (hM nf ns rest s0 s5) (0, 0) = cond (decide (x6 = (0 : Int32))) (g_X2_exit n f 32 [(0, .inl (.ref 15)), (1, .inl (.int a1)), (2, .inl (.int a2))] [] (hM nf ns rest s0 s5) (0, 0)) (g_X2_exit n f 26 [(0, .inl (.ref 15)), (1, .inl (.int a1)), (2, .inl (.int a2))] [] (hM nf ns rest s0 s5) (0, 0)) from fun f n => rfl) 986 399).trans ?_
      refine am_lcd ?_ ?_
      · refine ((show ∀ f n : Nat, g_X2_exit n (f + 3) 32 [(0, .inl (.ref 15)), (1, .inl (.int a1)), (2, .inl (.int a2))] [] (hM nf ns rest s0 s5) (0, 0) = am_ri (F_X2_notRunning [.inl (.ref 15), .inl (.int a1)] (hM nf ns rest s0 s5)) (fun x8 h => g_X2_exit n f 37 [(0, .inl (.ref 15)), (1, .inl (.int a1)), (2, .inl (.int a2))] [.inl (.int x8)] h (0, 0)) (fun x h => some (.inr x, h)) from fun f n => rfl) 983 399).trans ?_
        rw [e_X2_notRunning a1 s5]
        refine am_lbi (fun x8 s7 => ?_) (fun _ _ => rfl)
        refine ((show ∀ f n : Nat, g_X2_exit n (f + 1) 37 [(0, .inl (.ref 15)), (1, .inl (.int a1)), (2, .inl (.int a2))] [.inl (.int x8)] (hM nf ns rest s0 s7) (0, 0) = cond (decide (x8 = (0 : Int32))) (g_X2_exit n f 46 [(0, .inl (.ref 15)), (1, .inl (.int a1)), (2, .inl (.int a2))] [] (hM nf ns rest s0 s7) (0, 0)) (g_X2_exit n f 40 [(0, .inl (.ref 15)), (1, .inl (.int a1)), (2, .inl (.int a2))] [] (hM nf ns rest s0 s7) (0, 0)) from fun f n => rfl) 982 399).trans ?_
        refine am_lcd ?_ ?_
        · refine ((show ∀ f n : Nat, g_X2_exit n (f + 13) 46 [(0, .inl (.ref 15)), (1, .inl (.int a1)), (2, .inl (.int a2))] [] (hM nf ns rest s0 s7) (0, 0) = cond (am_in a1 6) (cond (am_in a1 6) (am_rv (F_X2_drop [.inl (.ref 15), .inl (.int a1)] (hM nf ns rest s0 (kS (kS s7 16 a1.toNatClampNeg ((2 : Int32))) 19 a1.toNatClampNeg (a2)))) (fun h => g_X2_exit n f 65 [(0, .inl (.ref 15)), (1, .inl (.int a1)), (2, .inl (.int a2))] [] h (0, 0)) (fun x h => some (.inr x, h))) none) none from fun f n => rfl) 969 399).trans ?_
          refine am_lcd (B := none) ?_ rfl
          refine am_lcd (B := none) ?_ rfl
          rw [e_X2_drop a1 (kS (kS s7 16 a1.toNatClampNeg ((2 : Int32))) 19 a1.toNatClampNeg (a2))]
          refine am_lbv (fun s9 => ?_) (fun _ _ => rfl)
          refine ((show ∀ f n : Nat, g_X2_exit n (f + 2) 65 [(0, .inl (.ref 15)), (1, .inl (.int a1)), (2, .inl (.int a2))] [] (hM nf ns rest s0 s9) (0, 0) = am_rv (F_X2_clean [.inl (.ref 15)] (hM nf ns rest s0 s9)) (fun h => g_X2_exit n f 69 [(0, .inl (.ref 15)), (1, .inl (.int a1)), (2, .inl (.int a2))] [] h (0, 0)) (fun x h => some (.inr x, h)) from fun f n => rfl) 967 399).trans ?_
          rw [e_X2_clean  s9]
          refine am_lbv (fun s10 => ?_) (fun _ _ => rfl)
          refine ((show ∀ f n : Nat, g_X2_exit n (f + 4) 69 [(0, .inl (.ref 15)), (1, .inl (.int a1)), (2, .inl (.int a2))] [] (hM nf ns rest s0 s10) (0, 0) = g_X2_exit n f 74 [(0, .inl (.ref 15)), (1, .inl (.int a1)), (2, .inl (.int a2)), (3, .inl (.int (0 : Int32))), (4, .inl (.int (1 : Int32)))] [] (hM nf ns rest s0 s10) (0, 0) from fun f n => rfl) 963 399).trans ?_
          refine ((show ∀ f n : Nat, g_X2_exit n (f + 1) 74 [(0, .inl (.ref 15)), (1, .inl (.int a1)), (2, .inl (.int a2)), (3, .inl (.int (0 : Int32))), (4, .inl (.int (1 : Int32)))] [] (hM nf ns rest s0 s10) (0, 0) = g_X2_exit n (f + 1) 74 [(0, .inl (.ref 15)), (1, .inl (.int a1)), (3, .inl (.int (0 : Int32))), (4, .inl (.int (1 : Int32)))] [] (hM nf ns rest s0 s10) (0, 0) from fun f n => rfl) 962 399).trans ?_
          exact b_X2_exit_L74 399 (e_X2_exit_L74 399) 938 a1 (0 : Int32) (1 : Int32) s10
        · refine ((show ∀ f n : Nat, g_X2_exit n (f + 3) 40 [(0, .inl (.ref 15)), (1, .inl (.int a1)), (2, .inl (.int a2))] [] (hM nf ns rest s0 s7) (0, 0) = am_ri (F_X2_fail [.inl (.ref 15), .inl (.int (2 : Int32))] (hM nf ns rest s0 s7)) (fun x12 h => g_X2_exit n f 45 [(0, .inl (.ref 15)), (1, .inl (.int a1)), (2, .inl (.int a2))] [.inl (.int x12)] h (0, 0)) (fun x h => some (.inr x, h)) from fun f n => rfl) 979 399).trans ?_
          rw [e_X2_fail (2 : Int32) s7]
          refine am_lbi (fun x12 s11 => ?_) (fun _ _ => rfl)
          refine ((show ∀ f n : Nat, g_X2_exit n (f + 1) 45 [(0, .inl (.ref 15)), (1, .inl (.int a1)), (2, .inl (.int a2))] [.inl (.int x12)] (hM nf ns rest s0 s11) (0, 0) = some (.inl (some (.inl (.int x12))), hM nf ns rest s0 s11) from fun f n => rfl) 978 399).trans ?_
          rfl
      · refine ((show ∀ f n : Nat, g_X2_exit n (f + 3) 26 [(0, .inl (.ref 15)), (1, .inl (.int a1)), (2, .inl (.int a2))] [] (hM nf ns rest s0 s5) (0, 0) = am_ri (F_X2_fail [.inl (.ref 15), .inl (.int (1 : Int32))] (hM nf ns rest s0 s5)) (fun x14 h => g_X2_exit n f 31 [(0, .inl (.ref 15)), (1, .inl (.int a1)), (2, .inl (.int a2))] [.inl (.int x14)] h (0, 0)) (fun x h => some (.inr x, h)) from fun f n => rfl) 983 399).trans ?_
        rw [e_X2_fail (1 : Int32) s5]
        refine am_lbi (fun x14 s13 => ?_) (fun _ _ => rfl)
        refine ((show ∀ f n : Nat, g_X2_exit n (f + 1) 31 [(0, .inl (.ref 15)), (1, .inl (.int a1)), (2, .inl (.int a2))] [.inl (.int x14)] (hM nf ns rest s0 s13) (0, 0) = some (.inl (some (.inl (.int x14))), hM nf ns rest s0 s13) from fun f n => rfl) 982 399).trans ?_
        rfl
set_option maxRecDepth 20000 in
def g_X2_await (n f pc : Nat) (lv : am_Lv) (st : List am_V) (h : am_H) (b : Nat × Nat) : Option am_O := am_go X_X2_await 5 (some .int) am_rs0 [] [(42, [0, 1, 2, 3, 4])] (am_lp T_X2_await X_X2_await 5 (some .int) am_rs0 [] [(42, [0, 1, 2, 3, 4])] n) f (am_from pc T_X2_await) lv st h b
set_option maxRecDepth 20000 in
def j_X2_await (n pc : Nat) (lv : am_Lv) (st : List am_V) (h : am_H) (b : Nat × Nat) : Option am_O := am_lp T_X2_await X_X2_await 5 (some .int) am_rs0 [] [(42, [0, 1, 2, 3, 4])] n pc lv st h b
set_option maxRecDepth 20000 in
theorem j_X2_await_g (n pc : Nat) (lv : am_Lv) (st : List am_V) (h : am_H) (b : Nat × Nat) : j_X2_await (n + 1) pc lv st h b = g_X2_await n 1000 pc lv st h b := rfl
set_option maxRecDepth 20000 in
theorem j_X2_await_0 (pc : Nat) (lv : am_Lv) (st : List am_V) (h : am_H) (b : Nat × Nat) : j_X2_await 0 pc lv st h b = none := rfl
set_option maxRecDepth 20000 in
def p_X2_await_L42 : Nat → Int32 → Int32 → Int32 → Int32 → KS → KR
  | 0, _, _, _, _, _ => none
  | n + 1, l1, l2, l3, l4, s => cond (decide ((6 : Int32) ≤ l4)) (cond (!decide (l2 = (0 : Int32))) (cond (decide ((0 : Int32) ≤ l3)) (cond (am_in l3 6) (cond (am_in l3 6) (some (.inl (some (((256 : Int32) * l3) + ((kS s 16 l3.toNatClampNeg ((0 : Int32))).1 19 l3.toNatClampNeg))), (kS s 16 l3.toNatClampNeg ((0 : Int32))))) none) none) (kbi (p_X2_fail (4 : Int32) s) (fun x6 s5 => some (.inl (some x6), s5)))) (kbi (p_X2_fail (3 : Int32) s) (fun x8 s7 => some (.inl (some x8), s7)))) (cond (am_in l4 6) (cond (decide ((s.1 16 l4.toNatClampNeg) = (0 : Int32))) (p_X2_await_L42 n l1 l2 l3 (l4 + (1 : Int32)) s) (cond (am_in l4 6) (cond (decide ((s.1 18 l4.toNatClampNeg) = l1)) (cond (am_in l4 6) (cond (!decide ((s.1 16 l4.toNatClampNeg) = (2 : Int32))) (p_X2_await_L42 n l1 (l2 + (1 : Int32)) l3 (l4 + (1 : Int32)) s) (cond (decide ((0 : Int32) ≤ l3)) (p_X2_await_L42 n l1 (l2 + (1 : Int32)) l3 (l4 + (1 : Int32)) s) (p_X2_await_L42 n l1 (l2 + (1 : Int32)) l4 (l4 + (1 : Int32)) s))) none) (p_X2_await_L42 n l1 l2 l3 (l4 + (1 : Int32)) s)) none)) none)
set_option maxRecDepth 20000 in
theorem b_X2_await_L42 {nf ns : Nat} {rest : am_H} {s0 : KS} (n : Nat) (ih : ∀ (l1 : Int32) (l2 : Int32) (l3 : Int32) (l4 : Int32) (s : KS), j_X2_await n 42 [(0, .inl (.ref 15)), (1, .inl (.int l1)), (2, .inl (.int l2)), (3, .inl (.int l3)), (4, .inl (.int l4))] [] (hM nf ns rest s0 s) (0, 0) = am_lf (hM nf ns rest s0) (p_X2_await_L42 n l1 l2 l3 l4 s)) (f : Nat) (l1 : Int32) (l2 : Int32) (l3 : Int32) (l4 : Int32) (s : KS) : g_X2_await n (f + 30) 42 [(0, .inl (.ref 15)), (1, .inl (.int l1)), (2, .inl (.int l2)), (3, .inl (.int l3)), (4, .inl (.int l4))] [] (hM nf ns rest s0 s) (0, 0) = am_lf (hM nf ns rest s0) (p_X2_await_L42 (n + 1) l1 l2 l3 l4 s) := by
  rw [p_X2_await_L42]
  refine ((show ∀ f n : Nat, g_X2_await n (f + 3) 42 [(0, .inl (.ref 15)), (1, .inl (.int l1)), (2, .inl (.int l2)), (3, .inl (.int l3)), (4, .inl (.int l4))] [] (hM nf ns rest s0 s) (0, 0) = cond (decide ((6 : Int32) ≤ l4)) (g_X2_await n f 100 [(0, .inl (.ref 15)), (1, .inl (.int l1)), (2, .inl (.int l2)), (3, .inl (.int l3)), (4, .inl (.int l4))] [] (hM nf ns rest s0 s) (0, 0)) (g_X2_await n f 49 [(0, .inl (.ref 15)), (1, .inl (.int l1)), (2, .inl (.int l2)), (3, .inl (.int l3)), (4, .inl (.int l4))] [] (hM nf ns rest s0 s) (0, 0)) from fun f n => rfl) (f + 27) n).trans ?_
  refine am_lcd ?_ ?_
  · refine ((show ∀ f n : Nat, g_X2_await n (f + 2) 100 [(0, .inl (.ref 15)), (1, .inl (.int l1)), (2, .inl (.int l2)), (3, .inl (.int l3)), (4, .inl (.int l4))] [] (hM nf ns rest s0 s) (0, 0) = cond (!decide (l2 = (0 : Int32))) (g_X2_await n f 110 [(0, .inl (.ref 15)), (1, .inl (.int l1)), (2, .inl (.int l2)), (3, .inl (.int l3)), (4, .inl (.int l4))] [] (hM nf ns rest s0 s) (0, 0)) (g_X2_await n f 104 [(0, .inl (.ref 15)), (1, .inl (.int l1)), (2, .inl (.int l2)), (3, .inl (.int l3)), (4, .inl (.int l4))] [] (hM nf ns rest s0 s) (0, 0)) from fun f n => rfl) (f + 25) n).trans ?_
    refine am_lcd ?_ ?_
    · refine ((show ∀ f n : Nat, g_X2_await n (f + 2) 110 [(0, .inl (.ref 15)), (1, .inl (.int l1)), (2, .inl (.int l2)), (3, .inl (.int l3)), (4, .inl (.int l4))] [] (hM nf ns rest s0 s) (0, 0) = cond (decide ((0 : Int32) ≤ l3)) (g_X2_await n f 120 [(0, .inl (.ref 15)), (1, .inl (.int l1)), (2, .inl (.int l2)), (3, .inl (.int l3)), (4, .inl (.int l4))] [] (hM nf ns rest s0 s) (0, 0)) (g_X2_await n f 114 [(0, .inl (.ref 15)), (1, .inl (.int l1)), (2, .inl (.int l2)), (3, .inl (.int l3)), (4, .inl (.int l4))] [] (hM nf ns rest s0 s) (0, 0)) from fun f n => rfl) (f + 23) n).trans ?_
      refine am_lcd ?_ ?_
      · refine ((show ∀ f n : Nat, g_X2_await n (f + 14) 120 [(0, .inl (.ref 15)), (1, .inl (.int l1)), (2, .inl (.int l2)), (3, .inl (.int l3)), (4, .inl (.int l4))] [] (hM nf ns rest s0 s) (0, 0) = cond (am_in l3 6) (cond (am_in l3 6) (some (.inl (some (.inl (.int (((256 : Int32) * l3) + ((kS s 16 l3.toNatClampNeg ((0 : Int32))).1 19 l3.toNatClampNeg))))), hM nf ns rest s0 (kS s 16 l3.toNatClampNeg ((0 : Int32))))) none) none from fun f n => rfl) (f + 9) n).trans ?_
        refine am_lcd (B := none) ?_ rfl
        refine am_lcd (B := none) ?_ rfl
        rfl
      · refine ((show ∀ f n : Nat, g_X2_await n (f + 3) 114 [(0, .inl (.ref 15)), (1, .inl (.int l1)), (2, .inl (.int l2)), (3, .inl (.int l3)), (4, .inl (.int l4))] [] (hM nf ns rest s0 s) (0, 0) = am_ri (F_X2_fail [.inl (.ref 15), .inl (.int (4 : Int32))] (hM nf ns rest s0 s)) (fun x6 h => g_X2_await n f 119 [(0, .inl (.ref 15)), (1, .inl (.int l1)), (2, .inl (.int l2)), (3, .inl (.int l3)), (4, .inl (.int l4))] [.inl (.int x6)] h (0, 0)) (fun x h => some (.inr x, h)) from fun f n => rfl) (f + 20) n).trans ?_
        rw [e_X2_fail (4 : Int32) s]
        refine am_lbi (fun x6 s5 => ?_) (fun _ _ => rfl)
        refine ((show ∀ f n : Nat, g_X2_await n (f + 1) 119 [(0, .inl (.ref 15)), (1, .inl (.int l1)), (2, .inl (.int l2)), (3, .inl (.int l3)), (4, .inl (.int l4))] [.inl (.int x6)] (hM nf ns rest s0 s5) (0, 0) = some (.inl (some (.inl (.int x6))), hM nf ns rest s0 s5) from fun f n => rfl) (f + 19) n).trans ?_
        rfl
    · refine ((show ∀ f n : Nat, g_X2_await n (f + 3) 104 [(0, .inl (.ref 15)), (1, .inl (.int l1)), (2, .inl (.int l2)), (3, .inl (.int l3)), (4, .inl (.int l4))] [] (hM nf ns rest s0 s) (0, 0) = am_ri (F_X2_fail [.inl (.ref 15), .inl (.int (3 : Int32))] (hM nf ns rest s0 s)) (fun x8 h => g_X2_await n f 109 [(0, .inl (.ref 15)), (1, .inl (.int l1)), (2, .inl (.int l2)), (3, .inl (.int l3)), (4, .inl (.int l4))] [.inl (.int x8)] h (0, 0)) (fun x h => some (.inr x, h)) from fun f n => rfl) (f + 22) n).trans ?_
      rw [e_X2_fail (3 : Int32) s]
      refine am_lbi (fun x8 s7 => ?_) (fun _ _ => rfl)
      refine ((show ∀ f n : Nat, g_X2_await n (f + 1) 109 [(0, .inl (.ref 15)), (1, .inl (.int l1)), (2, .inl (.int l2)), (3, .inl (.int l3)), (4, .inl (.int l4))] [.inl (.int x8)] (hM nf ns rest s0 s7) (0, 0) = some (.inl (some (.inl (.int x8))), hM nf ns rest s0 s7) from fun f n => rfl) (f + 21) n).trans ?_
      rfl
  · refine ((show ∀ f n : Nat, g_X2_await n (f + 5) 49 [(0, .inl (.ref 15)), (1, .inl (.int l1)), (2, .inl (.int l2)), (3, .inl (.int l3)), (4, .inl (.int l4))] [] (hM nf ns rest s0 s) (0, 0) = cond (am_in l4 6) (cond (decide ((s.1 16 l4.toNatClampNeg) = (0 : Int32))) (g_X2_await n f 94 [(0, .inl (.ref 15)), (1, .inl (.int l1)), (2, .inl (.int l2)), (3, .inl (.int l3)), (4, .inl (.int l4))] [] (hM nf ns rest s0 s) (0, 0)) (g_X2_await n f 59 [(0, .inl (.ref 15)), (1, .inl (.int l1)), (2, .inl (.int l2)), (3, .inl (.int l3)), (4, .inl (.int l4))] [] (hM nf ns rest s0 s) (0, 0))) none from fun f n => rfl) (f + 22) n).trans ?_
    refine am_lcd (B := none) ?_ rfl
    refine am_lcd ?_ ?_
    · refine ((show ∀ f n : Nat, g_X2_await n (f + 2) 94 [(0, .inl (.ref 15)), (1, .inl (.int l1)), (2, .inl (.int l2)), (3, .inl (.int l3)), (4, .inl (.int l4))] [] (hM nf ns rest s0 s) (0, 0) = j_X2_await n 42 [(0, .inl (.ref 15)), (1, .inl (.int l1)), (2, .inl (.int l2)), (3, .inl (.int l3)), (4, .inl (.int (l4 + (1 : Int32))))] [] (hM nf ns rest s0 s) (0, 0) from fun f n => rfl) (f + 20) n).trans ?_
      exact ih l1 l2 l3 (l4 + (1 : Int32)) s
    · refine ((show ∀ f n : Nat, g_X2_await n (f + 6) 59 [(0, .inl (.ref 15)), (1, .inl (.int l1)), (2, .inl (.int l2)), (3, .inl (.int l3)), (4, .inl (.int l4))] [] (hM nf ns rest s0 s) (0, 0) = cond (am_in l4 6) (cond (decide ((s.1 18 l4.toNatClampNeg) = l1)) (g_X2_await n f 73 [(0, .inl (.ref 15)), (1, .inl (.int l1)), (2, .inl (.int l2)), (3, .inl (.int l3)), (4, .inl (.int l4))] [] (hM nf ns rest s0 s) (0, 0)) (g_X2_await n f 70 [(0, .inl (.ref 15)), (1, .inl (.int l1)), (2, .inl (.int l2)), (3, .inl (.int l3)), (4, .inl (.int l4))] [] (hM nf ns rest s0 s) (0, 0))) none from fun f n => rfl) (f + 16) n).trans ?_
      refine am_lcd (B := none) ?_ rfl
      refine am_lcd ?_ ?_
      · refine ((show ∀ f n : Nat, g_X2_await n (f + 7) 73 [(0, .inl (.ref 15)), (1, .inl (.int l1)), (2, .inl (.int l2)), (3, .inl (.int l3)), (4, .inl (.int l4))] [] (hM nf ns rest s0 s) (0, 0) = cond (am_in l4 6) (cond (!decide ((s.1 16 l4.toNatClampNeg) = (2 : Int32))) (g_X2_await n f 94 [(0, .inl (.ref 15)), (1, .inl (.int l1)), (2, .inl (.int (l2 + (1 : Int32)))), (3, .inl (.int l3)), (4, .inl (.int l4))] [] (hM nf ns rest s0 s) (0, 0)) (g_X2_await n f 87 [(0, .inl (.ref 15)), (1, .inl (.int l1)), (2, .inl (.int (l2 + (1 : Int32)))), (3, .inl (.int l3)), (4, .inl (.int l4))] [] (hM nf ns rest s0 s) (0, 0))) none from fun f n => rfl) (f + 9) n).trans ?_
        refine am_lcd (B := none) ?_ rfl
        refine am_lcd ?_ ?_
        · refine ((show ∀ f n : Nat, g_X2_await n (f + 2) 94 [(0, .inl (.ref 15)), (1, .inl (.int l1)), (2, .inl (.int (l2 + (1 : Int32)))), (3, .inl (.int l3)), (4, .inl (.int l4))] [] (hM nf ns rest s0 s) (0, 0) = j_X2_await n 42 [(0, .inl (.ref 15)), (1, .inl (.int l1)), (2, .inl (.int (l2 + (1 : Int32)))), (3, .inl (.int l3)), (4, .inl (.int (l4 + (1 : Int32))))] [] (hM nf ns rest s0 s) (0, 0) from fun f n => rfl) (f + 7) n).trans ?_
          exact ih l1 (l2 + (1 : Int32)) l3 (l4 + (1 : Int32)) s
        · refine ((show ∀ f n : Nat, g_X2_await n (f + 2) 87 [(0, .inl (.ref 15)), (1, .inl (.int l1)), (2, .inl (.int (l2 + (1 : Int32)))), (3, .inl (.int l3)), (4, .inl (.int l4))] [] (hM nf ns rest s0 s) (0, 0) = cond (decide ((0 : Int32) ≤ l3)) (g_X2_await n f 94 [(0, .inl (.ref 15)), (1, .inl (.int l1)), (2, .inl (.int (l2 + (1 : Int32)))), (3, .inl (.int l3)), (4, .inl (.int l4))] [] (hM nf ns rest s0 s) (0, 0)) (g_X2_await n f 91 [(0, .inl (.ref 15)), (1, .inl (.int l1)), (2, .inl (.int (l2 + (1 : Int32)))), (3, .inl (.int l3)), (4, .inl (.int l4))] [] (hM nf ns rest s0 s) (0, 0)) from fun f n => rfl) (f + 7) n).trans ?_
          refine am_lcd ?_ ?_
          · refine ((show ∀ f n : Nat, g_X2_await n (f + 2) 94 [(0, .inl (.ref 15)), (1, .inl (.int l1)), (2, .inl (.int (l2 + (1 : Int32)))), (3, .inl (.int l3)), (4, .inl (.int l4))] [] (hM nf ns rest s0 s) (0, 0) = j_X2_await n 42 [(0, .inl (.ref 15)), (1, .inl (.int l1)), (2, .inl (.int (l2 + (1 : Int32)))), (3, .inl (.int l3)), (4, .inl (.int (l4 + (1 : Int32))))] [] (hM nf ns rest s0 s) (0, 0) from fun f n => rfl) (f + 5) n).trans ?_
            exact ih l1 (l2 + (1 : Int32)) l3 (l4 + (1 : Int32)) s
          · refine ((show ∀ f n : Nat, g_X2_await n (f + 4) 91 [(0, .inl (.ref 15)), (1, .inl (.int l1)), (2, .inl (.int (l2 + (1 : Int32)))), (3, .inl (.int l3)), (4, .inl (.int l4))] [] (hM nf ns rest s0 s) (0, 0) = j_X2_await n 42 [(0, .inl (.ref 15)), (1, .inl (.int l1)), (2, .inl (.int (l2 + (1 : Int32)))), (3, .inl (.int l4)), (4, .inl (.int (l4 + (1 : Int32))))] [] (hM nf ns rest s0 s) (0, 0) from fun f n => rfl) (f + 3) n).trans ?_
            exact ih l1 (l2 + (1 : Int32)) l4 (l4 + (1 : Int32)) s
      · refine ((show ∀ f n : Nat, g_X2_await n (f + 3) 70 [(0, .inl (.ref 15)), (1, .inl (.int l1)), (2, .inl (.int l2)), (3, .inl (.int l3)), (4, .inl (.int l4))] [] (hM nf ns rest s0 s) (0, 0) = j_X2_await n 42 [(0, .inl (.ref 15)), (1, .inl (.int l1)), (2, .inl (.int l2)), (3, .inl (.int l3)), (4, .inl (.int (l4 + (1 : Int32))))] [] (hM nf ns rest s0 s) (0, 0) from fun f n => rfl) (f + 13) n).trans ?_
        exact ih l1 l2 l3 (l4 + (1 : Int32)) s
set_option maxRecDepth 20000 in
theorem e_X2_await_L42 {nf ns : Nat} {rest : am_H} {s0 : KS} : ∀ (n : Nat) (l1 : Int32) (l2 : Int32) (l3 : Int32) (l4 : Int32) (s : KS), j_X2_await n 42 [(0, .inl (.ref 15)), (1, .inl (.int l1)), (2, .inl (.int l2)), (3, .inl (.int l3)), (4, .inl (.int l4))] [] (hM nf ns rest s0 s) (0, 0) = am_lf (hM nf ns rest s0) (p_X2_await_L42 n l1 l2 l3 l4 s)
  | 0, _, _, _, _, _ => by rw [p_X2_await_L42]; rfl
  | n + 1, l1, l2, l3, l4, s => (j_X2_await_g n 42 _ _ _ _).trans (b_X2_await_L42 n (e_X2_await_L42 n) 970 l1 l2 l3 l4 s)
set_option maxRecDepth 20000 in
def p_X2_await (a1 : Int32) (s : KS) : KR := kbi (p_X2_out a1 (6 : Int32) (kS s 15 0 (0 : Int32))) (fun x2 s1 => cond (decide (x2 = (0 : Int32))) (kbi (p_X2_notRunning a1 s1) (fun x4 s3 => cond (decide (x4 = (0 : Int32))) (p_X2_await_L42 400 a1 (0 : Int32) (-1 : Int32) (1 : Int32) s3) (kbi (p_X2_fail (2 : Int32) s3) (fun x10 s9 => some (.inl (some x10), s9))))) (kbi (p_X2_fail (1 : Int32) s1) (fun x12 s11 => some (.inl (some x12), s11))))
set_option maxRecDepth 20000 in
theorem e_X2_await {nf ns : Nat} {rest : am_H} {s0 : KS} (a1 : Int32) (s : KS) : F_X2_await [.inl (.ref 15), .inl (.int a1)] (hM nf ns rest s0 s) = am_lf (hM nf ns rest s0) (p_X2_await a1 s) := by
  rw [p_X2_await]
  refine (show _ = g_X2_await 399 1000 0 [(0, .inl (.ref 15)), (1, .inl (.int a1))] [] (hM nf ns rest s0 s) (0, 0) from am_fn_g (Nat.le_of_ble_eq_true rfl)).trans ?_
  refine ((show ∀ f n : Nat, g_X2_await n (f + 7) 0 [(0, .inl (.ref 15)), (1, .inl (.int a1))] [] (hM nf ns rest s0 s) (0, 0) = am_ri (F_X2_out [.inl (.ref 15), .inl (.int a1), .inl (.int (6 : Int32))] (hM nf ns rest s0 (kS s 15 0 (0 : Int32)))) (fun x2 h => g_X2_await n f 12 [(0, .inl (.ref 15)), (1, .inl (.int a1))] [.inl (.int x2)] h (0, 0)) (fun x h => some (.inr x, h)) from fun f n => rfl) 993 399).trans ?_
  rw [e_X2_out a1 (6 : Int32) (kS s 15 0 (0 : Int32))]
  refine am_lbi (fun x2 s1 => ?_) (fun _ _ => rfl)
  refine ((show ∀ f n : Nat, g_X2_await n (f + 1) 12 [(0, .inl (.ref 15)), (1, .inl (.int a1))] [.inl (.int x2)] (hM nf ns rest s0 s1) (0, 0) = cond (decide (x2 = (0 : Int32))) (g_X2_await n f 21 [(0, .inl (.ref 15)), (1, .inl (.int a1))] [] (hM nf ns rest s0 s1) (0, 0)) (g_X2_await n f 15 [(0, .inl (.ref 15)), (1, .inl (.int a1))] [] (hM nf ns rest s0 s1) (0, 0)) from fun f n => rfl) 992 399).trans ?_
  refine am_lcd ?_ ?_
  · refine ((show ∀ f n : Nat, g_X2_await n (f + 3) 21 [(0, .inl (.ref 15)), (1, .inl (.int a1))] [] (hM nf ns rest s0 s1) (0, 0) = am_ri (F_X2_notRunning [.inl (.ref 15), .inl (.int a1)] (hM nf ns rest s0 s1)) (fun x4 h => g_X2_await n f 26 [(0, .inl (.ref 15)), (1, .inl (.int a1))] [.inl (.int x4)] h (0, 0)) (fun x h => some (.inr x, h)) from fun f n => rfl) 989 399).trans ?_
    rw [e_X2_notRunning a1 s1]
    refine am_lbi (fun x4 s3 => ?_) (fun _ _ => rfl)
    refine ((show ∀ f n : Nat, g_X2_await n (f + 1) 26 [(0, .inl (.ref 15)), (1, .inl (.int a1))] [.inl (.int x4)] (hM nf ns rest s0 s3) (0, 0) = cond (decide (x4 = (0 : Int32))) (g_X2_await n f 35 [(0, .inl (.ref 15)), (1, .inl (.int a1))] [] (hM nf ns rest s0 s3) (0, 0)) (g_X2_await n f 29 [(0, .inl (.ref 15)), (1, .inl (.int a1))] [] (hM nf ns rest s0 s3) (0, 0)) from fun f n => rfl) 988 399).trans ?_
    refine am_lcd ?_ ?_
    · refine ((show ∀ f n : Nat, g_X2_await n (f + 6) 35 [(0, .inl (.ref 15)), (1, .inl (.int a1))] [] (hM nf ns rest s0 s3) (0, 0) = g_X2_await n f 42 [(0, .inl (.ref 15)), (1, .inl (.int a1)), (2, .inl (.int (0 : Int32))), (3, .inl (.int (-1 : Int32))), (4, .inl (.int (1 : Int32)))] [] (hM nf ns rest s0 s3) (0, 0) from fun f n => rfl) 982 399).trans ?_
      exact b_X2_await_L42 399 (e_X2_await_L42 399) 952 a1 (0 : Int32) (-1 : Int32) (1 : Int32) s3
    · refine ((show ∀ f n : Nat, g_X2_await n (f + 3) 29 [(0, .inl (.ref 15)), (1, .inl (.int a1))] [] (hM nf ns rest s0 s3) (0, 0) = am_ri (F_X2_fail [.inl (.ref 15), .inl (.int (2 : Int32))] (hM nf ns rest s0 s3)) (fun x10 h => g_X2_await n f 34 [(0, .inl (.ref 15)), (1, .inl (.int a1))] [.inl (.int x10)] h (0, 0)) (fun x h => some (.inr x, h)) from fun f n => rfl) 985 399).trans ?_
      rw [e_X2_fail (2 : Int32) s3]
      refine am_lbi (fun x10 s9 => ?_) (fun _ _ => rfl)
      refine ((show ∀ f n : Nat, g_X2_await n (f + 1) 34 [(0, .inl (.ref 15)), (1, .inl (.int a1))] [.inl (.int x10)] (hM nf ns rest s0 s9) (0, 0) = some (.inl (some (.inl (.int x10))), hM nf ns rest s0 s9) from fun f n => rfl) 984 399).trans ?_
      rfl
  · refine ((show ∀ f n : Nat, g_X2_await n (f + 3) 15 [(0, .inl (.ref 15)), (1, .inl (.int a1))] [] (hM nf ns rest s0 s1) (0, 0) = am_ri (F_X2_fail [.inl (.ref 15), .inl (.int (1 : Int32))] (hM nf ns rest s0 s1)) (fun x12 h => g_X2_await n f 20 [(0, .inl (.ref 15)), (1, .inl (.int a1))] [.inl (.int x12)] h (0, 0)) (fun x h => some (.inr x, h)) from fun f n => rfl) 989 399).trans ?_
    rw [e_X2_fail (1 : Int32) s1]
    refine am_lbi (fun x12 s11 => ?_) (fun _ _ => rfl)
    refine ((show ∀ f n : Nat, g_X2_await n (f + 1) 20 [(0, .inl (.ref 15)), (1, .inl (.int a1))] [.inl (.int x12)] (hM nf ns rest s0 s11) (0, 0) = some (.inl (some (.inl (.int x12))), hM nf ns rest s0 s11) from fun f n => rfl) 988 399).trans ?_
    rfl
set_option maxRecDepth 20000 in
def g_X2_grow (n f pc : Nat) (lv : am_Lv) (st : List am_V) (h : am_H) (b : Nat × Nat) : Option am_O := am_go X_X2_grow 5 (some .int) am_rs0 [] [(75, [0, 1, 3, 4])] (am_lp T_X2_grow X_X2_grow 5 (some .int) am_rs0 [] [(75, [0, 1, 3, 4])] n) f (am_from pc T_X2_grow) lv st h b
set_option maxRecDepth 20000 in
def j_X2_grow (n pc : Nat) (lv : am_Lv) (st : List am_V) (h : am_H) (b : Nat × Nat) : Option am_O := am_lp T_X2_grow X_X2_grow 5 (some .int) am_rs0 [] [(75, [0, 1, 3, 4])] n pc lv st h b
set_option maxRecDepth 20000 in
theorem j_X2_grow_g (n pc : Nat) (lv : am_Lv) (st : List am_V) (h : am_H) (b : Nat × Nat) : j_X2_grow (n + 1) pc lv st h b = g_X2_grow n 1000 pc lv st h b := rfl
set_option maxRecDepth 20000 in
theorem j_X2_grow_0 (pc : Nat) (lv : am_Lv) (st : List am_V) (h : am_H) (b : Nat × Nat) : j_X2_grow 0 pc lv st h b = none := rfl
set_option maxRecDepth 20000 in
def p_X2_grow_L75 : Nat → Int32 → Int32 → Int32 → KS → KR
  | 0, _, _, _, _ => none
  | n + 1, l1, l3, l4, s => cond (decide ((6 : Int32) ≤ l4)) (cond (am_in l1 6) (kbv (p_X2_clean  (kS s 20 l1.toNatClampNeg (l3))) (fun s11 => some (.inl (some l3), s11))) none) (cond (decide (l4 < l3)) (cond (am_in l1 6) (cond (decide (l4 < (s.1 20 l1.toNatClampNeg))) (p_X2_grow_L75 n l1 l3 (l4 + (1 : Int32)) s) (kbi (p_X2_newPage  s) (fun x13 s12 => cond (am_in (((9 : Int32) * l1) + l4) 54) (p_X2_grow_L75 n l1 l3 (l4 + (1 : Int32)) (kS s12 22 (((9 : Int32) * l1) + l4).toNatClampNeg (x13))) none))) none) (cond (am_in (((9 : Int32) * l1) + l4) 54) (p_X2_grow_L75 n l1 l3 (l4 + (1 : Int32)) (kS s 22 (((9 : Int32) * l1) + l4).toNatClampNeg ((-1 : Int32)))) none))
set_option maxRecDepth 20000 in
theorem b_X2_grow_L75 {nf ns : Nat} {rest : am_H} {s0 : KS} (n : Nat) (ih : ∀ (l1 : Int32) (l3 : Int32) (l4 : Int32) (s : KS), j_X2_grow n 75 [(0, .inl (.ref 15)), (1, .inl (.int l1)), (3, .inl (.int l3)), (4, .inl (.int l4))] [] (hM nf ns rest s0 s) (0, 0) = am_lf (hM nf ns rest s0) (p_X2_grow_L75 n l1 l3 l4 s)) (f : Nat) (l1 : Int32) (l3 : Int32) (l4 : Int32) (s : KS) : g_X2_grow n (f + 27) 75 [(0, .inl (.ref 15)), (1, .inl (.int l1)), (3, .inl (.int l3)), (4, .inl (.int l4))] [] (hM nf ns rest s0 s) (0, 0) = am_lf (hM nf ns rest s0) (p_X2_grow_L75 (n + 1) l1 l3 l4 s) := by
  rw [p_X2_grow_L75]
  refine ((show ∀ f n : Nat, g_X2_grow n (f + 3) 75 [(0, .inl (.ref 15)), (1, .inl (.int l1)), (3, .inl (.int l3)), (4, .inl (.int l4))] [] (hM nf ns rest s0 s) (0, 0) = cond (decide ((6 : Int32) ≤ l4)) (g_X2_grow n f 137 [(0, .inl (.ref 15)), (1, .inl (.int l1)), (3, .inl (.int l3)), (4, .inl (.int l4))] [] (hM nf ns rest s0 s) (0, 0)) (g_X2_grow n f 82 [(0, .inl (.ref 15)), (1, .inl (.int l1)), (3, .inl (.int l3)), (4, .inl (.int l4))] [] (hM nf ns rest s0 s) (0, 0)) from fun f n => rfl) (f + 24) n).trans ?_
  refine am_lcd ?_ ?_
  · refine ((show ∀ f n : Nat, g_X2_grow n (f + 7) 137 [(0, .inl (.ref 15)), (1, .inl (.int l1)), (3, .inl (.int l3)), (4, .inl (.int l4))] [] (hM nf ns rest s0 s) (0, 0) = cond (am_in l1 6) (am_rv (F_X2_clean [.inl (.ref 15)] (hM nf ns rest s0 (kS s 20 l1.toNatClampNeg (l3)))) (fun h => g_X2_grow n f 148 [(0, .inl (.ref 15)), (1, .inl (.int l1)), (3, .inl (.int l3)), (4, .inl (.int l4))] [] h (0, 0)) (fun x h => some (.inr x, h))) none from fun f n => rfl) (f + 17) n).trans ?_
    refine am_lcd (B := none) ?_ rfl
    rw [e_X2_clean  (kS s 20 l1.toNatClampNeg (l3))]
    refine am_lbv (fun s11 => ?_) (fun _ _ => rfl)
    refine ((show ∀ f n : Nat, g_X2_grow n (f + 2) 148 [(0, .inl (.ref 15)), (1, .inl (.int l1)), (3, .inl (.int l3)), (4, .inl (.int l4))] [] (hM nf ns rest s0 s11) (0, 0) = some (.inl (some (.inl (.int l3))), hM nf ns rest s0 s11) from fun f n => rfl) (f + 15) n).trans ?_
    rfl
  · refine ((show ∀ f n : Nat, g_X2_grow n (f + 3) 82 [(0, .inl (.ref 15)), (1, .inl (.int l1)), (3, .inl (.int l3)), (4, .inl (.int l4))] [] (hM nf ns rest s0 s) (0, 0) = cond (decide (l4 < l3)) (g_X2_grow n f 104 [(0, .inl (.ref 15)), (1, .inl (.int l1)), (3, .inl (.int l3)), (4, .inl (.int l4))] [] (hM nf ns rest s0 s) (0, 0)) (g_X2_grow n f 88 [(0, .inl (.ref 15)), (1, .inl (.int l1)), (3, .inl (.int l3)), (4, .inl (.int l4))] [] (hM nf ns rest s0 s) (0, 0)) from fun f n => rfl) (f + 21) n).trans ?_
    refine am_lcd ?_ ?_
    · refine ((show ∀ f n : Nat, g_X2_grow n (f + 6) 104 [(0, .inl (.ref 15)), (1, .inl (.int l1)), (3, .inl (.int l3)), (4, .inl (.int l4))] [] (hM nf ns rest s0 s) (0, 0) = cond (am_in l1 6) (cond (decide (l4 < (s.1 20 l1.toNatClampNeg))) (g_X2_grow n f 131 [(0, .inl (.ref 15)), (1, .inl (.int l1)), (3, .inl (.int l3)), (4, .inl (.int l4))] [] (hM nf ns rest s0 s) (0, 0)) (g_X2_grow n f 115 [(0, .inl (.ref 15)), (1, .inl (.int l1)), (3, .inl (.int l3)), (4, .inl (.int l4))] [] (hM nf ns rest s0 s) (0, 0))) none from fun f n => rfl) (f + 15) n).trans ?_
      refine am_lcd (B := none) ?_ rfl
      refine am_lcd ?_ ?_
      · refine ((show ∀ f n : Nat, g_X2_grow n (f + 2) 131 [(0, .inl (.ref 15)), (1, .inl (.int l1)), (3, .inl (.int l3)), (4, .inl (.int l4))] [] (hM nf ns rest s0 s) (0, 0) = j_X2_grow n 75 [(0, .inl (.ref 15)), (1, .inl (.int l1)), (3, .inl (.int l3)), (4, .inl (.int (l4 + (1 : Int32))))] [] (hM nf ns rest s0 s) (0, 0) from fun f n => rfl) (f + 13) n).trans ?_
        exact ih l1 l3 (l4 + (1 : Int32)) s
      · refine ((show ∀ f n : Nat, g_X2_grow n (f + 9) 115 [(0, .inl (.ref 15)), (1, .inl (.int l1)), (3, .inl (.int l3)), (4, .inl (.int l4))] [] (hM nf ns rest s0 s) (0, 0) = am_ri (F_X2_newPage [.inl (.ref 15)] (hM nf ns rest s0 s)) (fun x13 h => g_X2_grow n f 130 [(0, .inl (.ref 15)), (1, .inl (.int l1)), (3, .inl (.int l3)), (4, .inl (.int l4))] [.inl (.int x13), .inl (.int (((9 : Int32) * l1) + l4)), .inl (.ref 22)] h (0, 0)) (fun x h => some (.inr x, h)) from fun f n => rfl) (f + 6) n).trans ?_
        rw [e_X2_newPage  s]
        refine am_lbi (fun x13 s12 => ?_) (fun _ _ => rfl)
        refine ((show ∀ f n : Nat, g_X2_grow n (f + 3) 130 [(0, .inl (.ref 15)), (1, .inl (.int l1)), (3, .inl (.int l3)), (4, .inl (.int l4))] [.inl (.int x13), .inl (.int (((9 : Int32) * l1) + l4)), .inl (.ref 22)] (hM nf ns rest s0 s12) (0, 0) = cond (am_in (((9 : Int32) * l1) + l4) 54) (j_X2_grow n 75 [(0, .inl (.ref 15)), (1, .inl (.int l1)), (3, .inl (.int l3)), (4, .inl (.int (l4 + (1 : Int32))))] [] (hM nf ns rest s0 (kS s12 22 (((9 : Int32) * l1) + l4).toNatClampNeg (x13))) (0, 0)) none from fun f n => rfl) (f + 3) n).trans ?_
        refine am_lcd (B := none) ?_ rfl
        exact ih l1 l3 (l4 + (1 : Int32)) (kS s12 22 (((9 : Int32) * l1) + l4).toNatClampNeg (x13))
    · refine ((show ∀ f n : Nat, g_X2_grow n (f + 12) 88 [(0, .inl (.ref 15)), (1, .inl (.int l1)), (3, .inl (.int l3)), (4, .inl (.int l4))] [] (hM nf ns rest s0 s) (0, 0) = cond (am_in (((9 : Int32) * l1) + l4) 54) (j_X2_grow n 75 [(0, .inl (.ref 15)), (1, .inl (.int l1)), (3, .inl (.int l3)), (4, .inl (.int (l4 + (1 : Int32))))] [] (hM nf ns rest s0 (kS s 22 (((9 : Int32) * l1) + l4).toNatClampNeg ((-1 : Int32)))) (0, 0)) none from fun f n => rfl) (f + 9) n).trans ?_
      refine am_lcd (B := none) ?_ rfl
      exact ih l1 l3 (l4 + (1 : Int32)) (kS s 22 (((9 : Int32) * l1) + l4).toNatClampNeg ((-1 : Int32)))
set_option maxRecDepth 20000 in
theorem e_X2_grow_L75 {nf ns : Nat} {rest : am_H} {s0 : KS} : ∀ (n : Nat) (l1 : Int32) (l3 : Int32) (l4 : Int32) (s : KS), j_X2_grow n 75 [(0, .inl (.ref 15)), (1, .inl (.int l1)), (3, .inl (.int l3)), (4, .inl (.int l4))] [] (hM nf ns rest s0 s) (0, 0) = am_lf (hM nf ns rest s0) (p_X2_grow_L75 n l1 l3 l4 s)
  | 0, _, _, _, _ => by rw [p_X2_grow_L75]; rfl
  | n + 1, l1, l3, l4, s => (j_X2_grow_g n 75 _ _ _ _).trans (b_X2_grow_L75 n (e_X2_grow_L75 n) 973 l1 l3 l4 s)
set_option maxRecDepth 20000 in
def p_X2_grow (a1 : Int32) (a2 : Int32) (s : KS) : KR := kbi (p_X2_out a1 (6 : Int32) (kS s 15 0 (0 : Int32))) (fun x2 s1 => cond (!decide (x2 = (0 : Int32))) (kbi (p_X2_fail (1 : Int32) s1) (fun x4 s3 => some (.inl (some x4), s3))) (cond (decide (a2 < (-6 : Int32))) (kbi (p_X2_fail (1 : Int32) s1) (fun x6 s5 => some (.inl (some x6), s5))) (cond (decide (a2 ≤ (6 : Int32))) (kbi (p_X2_notRunning a1 s1) (fun x8 s7 => cond (decide (x8 = (0 : Int32))) (cond (am_in a1 6) (cond (decide (((s7.1 20 a1.toNatClampNeg) + a2) < (0 : Int32))) (kbi (p_X2_fail (3 : Int32) s7) (fun x10 s9 => some (.inl (some x10), s9))) (cond (decide (((s7.1 20 a1.toNatClampNeg) + a2) ≤ (6 : Int32))) (p_X2_grow_L75 400 a1 ((s7.1 20 a1.toNatClampNeg) + a2) (0 : Int32) s7) (kbi (p_X2_fail (3 : Int32) s7) (fun x15 s14 => some (.inl (some x15), s14))))) none) (kbi (p_X2_fail (2 : Int32) s7) (fun x17 s16 => some (.inl (some x17), s16))))) (kbi (p_X2_fail (1 : Int32) s1) (fun x19 s18 => some (.inl (some x19), s18))))))
set_option maxRecDepth 20000 in
theorem e_X2_grow {nf ns : Nat} {rest : am_H} {s0 : KS} (a1 : Int32) (a2 : Int32) (s : KS) : F_X2_grow [.inl (.ref 15), .inl (.int a1), .inl (.int a2)] (hM nf ns rest s0 s) = am_lf (hM nf ns rest s0) (p_X2_grow a1 a2 s) := by
  rw [p_X2_grow]
  refine (show _ = g_X2_grow 399 1000 0 [(0, .inl (.ref 15)), (1, .inl (.int a1)), (2, .inl (.int a2))] [] (hM nf ns rest s0 s) (0, 0) from am_fn_g (Nat.le_of_ble_eq_true rfl)).trans ?_
  refine ((show ∀ f n : Nat, g_X2_grow n (f + 7) 0 [(0, .inl (.ref 15)), (1, .inl (.int a1)), (2, .inl (.int a2))] [] (hM nf ns rest s0 s) (0, 0) = am_ri (F_X2_out [.inl (.ref 15), .inl (.int a1), .inl (.int (6 : Int32))] (hM nf ns rest s0 (kS s 15 0 (0 : Int32)))) (fun x2 h => g_X2_grow n f 12 [(0, .inl (.ref 15)), (1, .inl (.int a1)), (2, .inl (.int a2))] [.inl (.int x2)] h (0, 0)) (fun x h => some (.inr x, h)) from fun f n => rfl) 993 399).trans ?_
  rw [e_X2_out a1 (6 : Int32) (kS s 15 0 (0 : Int32))]
  refine am_lbi (fun x2 s1 => ?_) (fun _ _ => rfl)
  refine ((show ∀ f n : Nat, g_X2_grow n (f + 1) 12 [(0, .inl (.ref 15)), (1, .inl (.int a1)), (2, .inl (.int a2))] [.inl (.int x2)] (hM nf ns rest s0 s1) (0, 0) = cond (!decide (x2 = (0 : Int32))) (g_X2_grow n f 27 [(0, .inl (.ref 15)), (1, .inl (.int a1)), (2, .inl (.int a2))] [] (hM nf ns rest s0 s1) (0, 0)) (g_X2_grow n f 15 [(0, .inl (.ref 15)), (1, .inl (.int a1)), (2, .inl (.int a2))] [] (hM nf ns rest s0 s1) (0, 0)) from fun f n => rfl) 992 399).trans ?_
  refine am_lcd ?_ ?_
  · refine ((show ∀ f n : Nat, g_X2_grow n (f + 3) 27 [(0, .inl (.ref 15)), (1, .inl (.int a1)), (2, .inl (.int a2))] [] (hM nf ns rest s0 s1) (0, 0) = am_ri (F_X2_fail [.inl (.ref 15), .inl (.int (1 : Int32))] (hM nf ns rest s0 s1)) (fun x4 h => g_X2_grow n f 32 [(0, .inl (.ref 15)), (1, .inl (.int a1)), (2, .inl (.int a2))] [.inl (.int x4)] h (0, 0)) (fun x h => some (.inr x, h)) from fun f n => rfl) 989 399).trans ?_
    rw [e_X2_fail (1 : Int32) s1]
    refine am_lbi (fun x4 s3 => ?_) (fun _ _ => rfl)
    refine ((show ∀ f n : Nat, g_X2_grow n (f + 1) 32 [(0, .inl (.ref 15)), (1, .inl (.int a1)), (2, .inl (.int a2))] [.inl (.int x4)] (hM nf ns rest s0 s3) (0, 0) = some (.inl (some (.inl (.int x4))), hM nf ns rest s0 s3) from fun f n => rfl) 988 399).trans ?_
    rfl
  · refine ((show ∀ f n : Nat, g_X2_grow n (f + 3) 15 [(0, .inl (.ref 15)), (1, .inl (.int a1)), (2, .inl (.int a2))] [] (hM nf ns rest s0 s1) (0, 0) = cond (decide (a2 < (-6 : Int32))) (g_X2_grow n f 27 [(0, .inl (.ref 15)), (1, .inl (.int a1)), (2, .inl (.int a2))] [] (hM nf ns rest s0 s1) (0, 0)) (g_X2_grow n f 21 [(0, .inl (.ref 15)), (1, .inl (.int a1)), (2, .inl (.int a2))] [] (hM nf ns rest s0 s1) (0, 0)) from fun f n => rfl) 989 399).trans ?_
    refine am_lcd ?_ ?_
    · refine ((show ∀ f n : Nat, g_X2_grow n (f + 3) 27 [(0, .inl (.ref 15)), (1, .inl (.int a1)), (2, .inl (.int a2))] [] (hM nf ns rest s0 s1) (0, 0) = am_ri (F_X2_fail [.inl (.ref 15), .inl (.int (1 : Int32))] (hM nf ns rest s0 s1)) (fun x6 h => g_X2_grow n f 32 [(0, .inl (.ref 15)), (1, .inl (.int a1)), (2, .inl (.int a2))] [.inl (.int x6)] h (0, 0)) (fun x h => some (.inr x, h)) from fun f n => rfl) 986 399).trans ?_
      rw [e_X2_fail (1 : Int32) s1]
      refine am_lbi (fun x6 s5 => ?_) (fun _ _ => rfl)
      refine ((show ∀ f n : Nat, g_X2_grow n (f + 1) 32 [(0, .inl (.ref 15)), (1, .inl (.int a1)), (2, .inl (.int a2))] [.inl (.int x6)] (hM nf ns rest s0 s5) (0, 0) = some (.inl (some (.inl (.int x6))), hM nf ns rest s0 s5) from fun f n => rfl) 985 399).trans ?_
      rfl
    · refine ((show ∀ f n : Nat, g_X2_grow n (f + 3) 21 [(0, .inl (.ref 15)), (1, .inl (.int a1)), (2, .inl (.int a2))] [] (hM nf ns rest s0 s1) (0, 0) = cond (decide (a2 ≤ (6 : Int32))) (g_X2_grow n f 33 [(0, .inl (.ref 15)), (1, .inl (.int a1)), (2, .inl (.int a2))] [] (hM nf ns rest s0 s1) (0, 0)) (g_X2_grow n f 27 [(0, .inl (.ref 15)), (1, .inl (.int a1)), (2, .inl (.int a2))] [] (hM nf ns rest s0 s1) (0, 0)) from fun f n => rfl) 986 399).trans ?_
      refine am_lcd ?_ ?_
      · refine ((show ∀ f n : Nat, g_X2_grow n (f + 3) 33 [(0, .inl (.ref 15)), (1, .inl (.int a1)), (2, .inl (.int a2))] [] (hM nf ns rest s0 s1) (0, 0) = am_ri (F_X2_notRunning [.inl (.ref 15), .inl (.int a1)] (hM nf ns rest s0 s1)) (fun x8 h => g_X2_grow n f 38 [(0, .inl (.ref 15)), (1, .inl (.int a1)), (2, .inl (.int a2))] [.inl (.int x8)] h (0, 0)) (fun x h => some (.inr x, h)) from fun f n => rfl) 983 399).trans ?_
        rw [e_X2_notRunning a1 s1]
        refine am_lbi (fun x8 s7 => ?_) (fun _ _ => rfl)
        refine ((show ∀ f n : Nat, g_X2_grow n (f + 1) 38 [(0, .inl (.ref 15)), (1, .inl (.int a1)), (2, .inl (.int a2))] [.inl (.int x8)] (hM nf ns rest s0 s7) (0, 0) = cond (decide (x8 = (0 : Int32))) (g_X2_grow n f 47 [(0, .inl (.ref 15)), (1, .inl (.int a1)), (2, .inl (.int a2))] [] (hM nf ns rest s0 s7) (0, 0)) (g_X2_grow n f 41 [(0, .inl (.ref 15)), (1, .inl (.int a1)), (2, .inl (.int a2))] [] (hM nf ns rest s0 s7) (0, 0)) from fun f n => rfl) 982 399).trans ?_
        refine am_lcd ?_ ?_
        · refine ((show ∀ f n : Nat, g_X2_grow n (f + 9) 47 [(0, .inl (.ref 15)), (1, .inl (.int a1)), (2, .inl (.int a2))] [] (hM nf ns rest s0 s7) (0, 0) = cond (am_in a1 6) (cond (decide (((s7.1 20 a1.toNatClampNeg) + a2) < (0 : Int32))) (g_X2_grow n f 66 [(0, .inl (.ref 15)), (1, .inl (.int a1)), (2, .inl (.int a2)), (3, .inl (.int ((s7.1 20 a1.toNatClampNeg) + a2)))] [] (hM nf ns rest s0 s7) (0, 0)) (g_X2_grow n f 60 [(0, .inl (.ref 15)), (1, .inl (.int a1)), (2, .inl (.int a2)), (3, .inl (.int ((s7.1 20 a1.toNatClampNeg) + a2)))] [] (hM nf ns rest s0 s7) (0, 0))) none from fun f n => rfl) 973 399).trans ?_
          refine am_lcd (B := none) ?_ rfl
          refine am_lcd ?_ ?_
          · refine ((show ∀ f n : Nat, g_X2_grow n (f + 3) 66 [(0, .inl (.ref 15)), (1, .inl (.int a1)), (2, .inl (.int a2)), (3, .inl (.int ((s7.1 20 a1.toNatClampNeg) + a2)))] [] (hM nf ns rest s0 s7) (0, 0) = am_ri (F_X2_fail [.inl (.ref 15), .inl (.int (3 : Int32))] (hM nf ns rest s0 s7)) (fun x10 h => g_X2_grow n f 71 [(0, .inl (.ref 15)), (1, .inl (.int a1)), (2, .inl (.int a2)), (3, .inl (.int ((s7.1 20 a1.toNatClampNeg) + a2)))] [.inl (.int x10)] h (0, 0)) (fun x h => some (.inr x, h)) from fun f n => rfl) 970 399).trans ?_
            rw [e_X2_fail (3 : Int32) s7]
            refine am_lbi (fun x10 s9 => ?_) (fun _ _ => rfl)
            refine ((show ∀ f n : Nat, g_X2_grow n (f + 1) 71 [(0, .inl (.ref 15)), (1, .inl (.int a1)), (2, .inl (.int a2)), (3, .inl (.int ((s7.1 20 a1.toNatClampNeg) + a2)))] [.inl (.int x10)] (hM nf ns rest s0 s9) (0, 0) = some (.inl (some (.inl (.int x10))), hM nf ns rest s0 s9) from fun f n => rfl) 969 399).trans ?_
            rfl
          · refine ((show ∀ f n : Nat, g_X2_grow n (f + 3) 60 [(0, .inl (.ref 15)), (1, .inl (.int a1)), (2, .inl (.int a2)), (3, .inl (.int ((s7.1 20 a1.toNatClampNeg) + a2)))] [] (hM nf ns rest s0 s7) (0, 0) = cond (decide (((s7.1 20 a1.toNatClampNeg) + a2) ≤ (6 : Int32))) (g_X2_grow n f 72 [(0, .inl (.ref 15)), (1, .inl (.int a1)), (2, .inl (.int a2)), (3, .inl (.int ((s7.1 20 a1.toNatClampNeg) + a2)))] [] (hM nf ns rest s0 s7) (0, 0)) (g_X2_grow n f 66 [(0, .inl (.ref 15)), (1, .inl (.int a1)), (2, .inl (.int a2)), (3, .inl (.int ((s7.1 20 a1.toNatClampNeg) + a2)))] [] (hM nf ns rest s0 s7) (0, 0)) from fun f n => rfl) 970 399).trans ?_
            refine am_lcd ?_ ?_
            · refine ((show ∀ f n : Nat, g_X2_grow n (f + 2) 72 [(0, .inl (.ref 15)), (1, .inl (.int a1)), (2, .inl (.int a2)), (3, .inl (.int ((s7.1 20 a1.toNatClampNeg) + a2)))] [] (hM nf ns rest s0 s7) (0, 0) = g_X2_grow n f 75 [(0, .inl (.ref 15)), (1, .inl (.int a1)), (2, .inl (.int a2)), (3, .inl (.int ((s7.1 20 a1.toNatClampNeg) + a2))), (4, .inl (.int (0 : Int32)))] [] (hM nf ns rest s0 s7) (0, 0) from fun f n => rfl) 968 399).trans ?_
              refine ((show ∀ f n : Nat, g_X2_grow n (f + 1) 75 [(0, .inl (.ref 15)), (1, .inl (.int a1)), (2, .inl (.int a2)), (3, .inl (.int ((s7.1 20 a1.toNatClampNeg) + a2))), (4, .inl (.int (0 : Int32)))] [] (hM nf ns rest s0 s7) (0, 0) = g_X2_grow n (f + 1) 75 [(0, .inl (.ref 15)), (1, .inl (.int a1)), (3, .inl (.int ((s7.1 20 a1.toNatClampNeg) + a2))), (4, .inl (.int (0 : Int32)))] [] (hM nf ns rest s0 s7) (0, 0) from fun f n => rfl) 967 399).trans ?_
              exact b_X2_grow_L75 399 (e_X2_grow_L75 399) 941 a1 ((s7.1 20 a1.toNatClampNeg) + a2) (0 : Int32) s7
            · refine ((show ∀ f n : Nat, g_X2_grow n (f + 3) 66 [(0, .inl (.ref 15)), (1, .inl (.int a1)), (2, .inl (.int a2)), (3, .inl (.int ((s7.1 20 a1.toNatClampNeg) + a2)))] [] (hM nf ns rest s0 s7) (0, 0) = am_ri (F_X2_fail [.inl (.ref 15), .inl (.int (3 : Int32))] (hM nf ns rest s0 s7)) (fun x15 h => g_X2_grow n f 71 [(0, .inl (.ref 15)), (1, .inl (.int a1)), (2, .inl (.int a2)), (3, .inl (.int ((s7.1 20 a1.toNatClampNeg) + a2)))] [.inl (.int x15)] h (0, 0)) (fun x h => some (.inr x, h)) from fun f n => rfl) 967 399).trans ?_
              rw [e_X2_fail (3 : Int32) s7]
              refine am_lbi (fun x15 s14 => ?_) (fun _ _ => rfl)
              refine ((show ∀ f n : Nat, g_X2_grow n (f + 1) 71 [(0, .inl (.ref 15)), (1, .inl (.int a1)), (2, .inl (.int a2)), (3, .inl (.int ((s7.1 20 a1.toNatClampNeg) + a2)))] [.inl (.int x15)] (hM nf ns rest s0 s14) (0, 0) = some (.inl (some (.inl (.int x15))), hM nf ns rest s0 s14) from fun f n => rfl) 966 399).trans ?_
              rfl
        · refine ((show ∀ f n : Nat, g_X2_grow n (f + 3) 41 [(0, .inl (.ref 15)), (1, .inl (.int a1)), (2, .inl (.int a2))] [] (hM nf ns rest s0 s7) (0, 0) = am_ri (F_X2_fail [.inl (.ref 15), .inl (.int (2 : Int32))] (hM nf ns rest s0 s7)) (fun x17 h => g_X2_grow n f 46 [(0, .inl (.ref 15)), (1, .inl (.int a1)), (2, .inl (.int a2))] [.inl (.int x17)] h (0, 0)) (fun x h => some (.inr x, h)) from fun f n => rfl) 979 399).trans ?_
          rw [e_X2_fail (2 : Int32) s7]
          refine am_lbi (fun x17 s16 => ?_) (fun _ _ => rfl)
          refine ((show ∀ f n : Nat, g_X2_grow n (f + 1) 46 [(0, .inl (.ref 15)), (1, .inl (.int a1)), (2, .inl (.int a2))] [.inl (.int x17)] (hM nf ns rest s0 s16) (0, 0) = some (.inl (some (.inl (.int x17))), hM nf ns rest s0 s16) from fun f n => rfl) 978 399).trans ?_
          rfl
      · refine ((show ∀ f n : Nat, g_X2_grow n (f + 3) 27 [(0, .inl (.ref 15)), (1, .inl (.int a1)), (2, .inl (.int a2))] [] (hM nf ns rest s0 s1) (0, 0) = am_ri (F_X2_fail [.inl (.ref 15), .inl (.int (1 : Int32))] (hM nf ns rest s0 s1)) (fun x19 h => g_X2_grow n f 32 [(0, .inl (.ref 15)), (1, .inl (.int a1)), (2, .inl (.int a2))] [.inl (.int x19)] h (0, 0)) (fun x h => some (.inr x, h)) from fun f n => rfl) 983 399).trans ?_
        rw [e_X2_fail (1 : Int32) s1]
        refine am_lbi (fun x19 s18 => ?_) (fun _ _ => rfl)
        refine ((show ∀ f n : Nat, g_X2_grow n (f + 1) 32 [(0, .inl (.ref 15)), (1, .inl (.int a1)), (2, .inl (.int a2))] [.inl (.int x19)] (hM nf ns rest s0 s18) (0, 0) = some (.inl (some (.inl (.int x19))), hM nf ns rest s0 s18) from fun f n => rfl) 982 399).trans ?_
        rfl
set_option maxRecDepth 20000 in
def g_X2_growStack (n f pc : Nat) (lv : am_Lv) (st : List am_V) (h : am_H) (b : Nat × Nat) : Option am_O := am_go X_X2_growStack 4 none am_rs0 [] [(9, [0, 1, 2, 3])] (am_lp T_X2_growStack X_X2_growStack 4 none am_rs0 [] [(9, [0, 1, 2, 3])] n) f (am_from pc T_X2_growStack) lv st h b
set_option maxRecDepth 20000 in
def j_X2_growStack (n pc : Nat) (lv : am_Lv) (st : List am_V) (h : am_H) (b : Nat × Nat) : Option am_O := am_lp T_X2_growStack X_X2_growStack 4 none am_rs0 [] [(9, [0, 1, 2, 3])] n pc lv st h b
set_option maxRecDepth 20000 in
theorem j_X2_growStack_g (n pc : Nat) (lv : am_Lv) (st : List am_V) (h : am_H) (b : Nat × Nat) : j_X2_growStack (n + 1) pc lv st h b = g_X2_growStack n 1000 pc lv st h b := rfl
set_option maxRecDepth 20000 in
theorem j_X2_growStack_0 (pc : Nat) (lv : am_Lv) (st : List am_V) (h : am_H) (b : Nat × Nat) : j_X2_growStack 0 pc lv st h b = none := rfl
set_option maxRecDepth 20000 in
def p_X2_growStack_L9 : Nat → Int32 → Int32 → Int32 → KS → KR
  | 0, _, _, _, _ => none
  | n + 1, l1, l2, l3, s => cond (decide (l3 < ((l2 - (32 : Int32)) / (4 : Int32)))) (some (.inl none, s)) (cond (am_in ((((9 : Int32) * l1) + (6 : Int32)) + l3) 54) (cond (decide ((0 : Int32) ≤ (s.1 22 ((((9 : Int32) * l1) + (6 : Int32)) + l3).toNatClampNeg))) (p_X2_growStack_L9 n l1 l2 (l3 + (-1 : Int32)) s) (kbi (p_X2_newPage  s) (fun x2 s1 => cond (am_in ((((9 : Int32) * l1) + (6 : Int32)) + l3) 54) (cond (am_in l1 6) (cond (am_in l1 6) (p_X2_growStack_L9 n l1 l2 (l3 + (-1 : Int32)) (kS (kS s1 22 ((((9 : Int32) * l1) + (6 : Int32)) + l3).toNatClampNeg (x2)) 21 l1.toNatClampNeg ((((kS s1 22 ((((9 : Int32) * l1) + (6 : Int32)) + l3).toNatClampNeg (x2)).1 21 l1.toNatClampNeg) + (1 : Int32))))) none) none) none))) none)
set_option maxRecDepth 20000 in
theorem b_X2_growStack_L9 {nf ns : Nat} {rest : am_H} {s0 : KS} (n : Nat) (ih : ∀ (l1 : Int32) (l2 : Int32) (l3 : Int32) (s : KS), j_X2_growStack n 9 [(0, .inl (.ref 15)), (1, .inl (.int l1)), (2, .inl (.int l2)), (3, .inl (.int l3))] [] (hM nf ns rest s0 s) (0, 0) = am_lf (hM nf ns rest s0) (p_X2_growStack_L9 n l1 l2 l3 s)) (f : Nat) (l1 : Int32) (l2 : Int32) (l3 : Int32) (s : KS) : g_X2_growStack n (f + 43) 9 [(0, .inl (.ref 15)), (1, .inl (.int l1)), (2, .inl (.int l2)), (3, .inl (.int l3))] [] (hM nf ns rest s0 s) (0, 0) = am_lf (hM nf ns rest s0) (p_X2_growStack_L9 (n + 1) l1 l2 l3 s) := by
  rw [p_X2_growStack_L9]
  refine ((show ∀ f n : Nat, g_X2_growStack n (f + 7) 9 [(0, .inl (.ref 15)), (1, .inl (.int l1)), (2, .inl (.int l2)), (3, .inl (.int l3))] [] (hM nf ns rest s0 s) (0, 0) = cond (decide (l3 < ((l2 - (32 : Int32)) / (4 : Int32)))) (g_X2_growStack n f 70 [(0, .inl (.ref 15)), (1, .inl (.int l1)), (2, .inl (.int l2)), (3, .inl (.int l3))] [] (hM nf ns rest s0 s) (0, 0)) (g_X2_growStack n f 19 [(0, .inl (.ref 15)), (1, .inl (.int l1)), (2, .inl (.int l2)), (3, .inl (.int l3))] [] (hM nf ns rest s0 s) (0, 0)) from fun f n => rfl) (f + 36) n).trans ?_
  refine am_lcd ?_ ?_
  · refine ((show ∀ f n : Nat, g_X2_growStack n (f + 1) 70 [(0, .inl (.ref 15)), (1, .inl (.int l1)), (2, .inl (.int l2)), (3, .inl (.int l3))] [] (hM nf ns rest s0 s) (0, 0) = some (.inl none, hM nf ns rest s0 s) from fun f n => rfl) (f + 35) n).trans ?_
    rfl
  · refine ((show ∀ f n : Nat, g_X2_growStack n (f + 11) 19 [(0, .inl (.ref 15)), (1, .inl (.int l1)), (2, .inl (.int l2)), (3, .inl (.int l3))] [] (hM nf ns rest s0 s) (0, 0) = cond (am_in ((((9 : Int32) * l1) + (6 : Int32)) + l3) 54) (cond (decide ((0 : Int32) ≤ (s.1 22 ((((9 : Int32) * l1) + (6 : Int32)) + l3).toNatClampNeg))) (g_X2_growStack n f 64 [(0, .inl (.ref 15)), (1, .inl (.int l1)), (2, .inl (.int l2)), (3, .inl (.int l3))] [] (hM nf ns rest s0 s) (0, 0)) (g_X2_growStack n f 36 [(0, .inl (.ref 15)), (1, .inl (.int l1)), (2, .inl (.int l2)), (3, .inl (.int l3))] [] (hM nf ns rest s0 s) (0, 0))) none from fun f n => rfl) (f + 25) n).trans ?_
    refine am_lcd (B := none) ?_ rfl
    refine am_lcd ?_ ?_
    · refine ((show ∀ f n : Nat, g_X2_growStack n (f + 2) 64 [(0, .inl (.ref 15)), (1, .inl (.int l1)), (2, .inl (.int l2)), (3, .inl (.int l3))] [] (hM nf ns rest s0 s) (0, 0) = j_X2_growStack n 9 [(0, .inl (.ref 15)), (1, .inl (.int l1)), (2, .inl (.int l2)), (3, .inl (.int (l3 + (-1 : Int32))))] [] (hM nf ns rest s0 s) (0, 0) from fun f n => rfl) (f + 23) n).trans ?_
      exact ih l1 l2 (l3 + (-1 : Int32)) s
    · refine ((show ∀ f n : Nat, g_X2_growStack n (f + 11) 36 [(0, .inl (.ref 15)), (1, .inl (.int l1)), (2, .inl (.int l2)), (3, .inl (.int l3))] [] (hM nf ns rest s0 s) (0, 0) = am_ri (F_X2_newPage [.inl (.ref 15)] (hM nf ns rest s0 s)) (fun x2 h => g_X2_growStack n f 53 [(0, .inl (.ref 15)), (1, .inl (.int l1)), (2, .inl (.int l2)), (3, .inl (.int l3))] [.inl (.int x2), .inl (.int ((((9 : Int32) * l1) + (6 : Int32)) + l3)), .inl (.ref 22)] h (0, 0)) (fun x h => some (.inr x, h)) from fun f n => rfl) (f + 14) n).trans ?_
      rw [e_X2_newPage  s]
      refine am_lbi (fun x2 s1 => ?_) (fun _ _ => rfl)
      refine ((show ∀ f n : Nat, g_X2_growStack n (f + 11) 53 [(0, .inl (.ref 15)), (1, .inl (.int l1)), (2, .inl (.int l2)), (3, .inl (.int l3))] [.inl (.int x2), .inl (.int ((((9 : Int32) * l1) + (6 : Int32)) + l3)), .inl (.ref 22)] (hM nf ns rest s0 s1) (0, 0) = cond (am_in ((((9 : Int32) * l1) + (6 : Int32)) + l3) 54) (cond (am_in l1 6) (cond (am_in l1 6) (j_X2_growStack n 9 [(0, .inl (.ref 15)), (1, .inl (.int l1)), (2, .inl (.int l2)), (3, .inl (.int (l3 + (-1 : Int32))))] [] (hM nf ns rest s0 (kS (kS s1 22 ((((9 : Int32) * l1) + (6 : Int32)) + l3).toNatClampNeg (x2)) 21 l1.toNatClampNeg ((((kS s1 22 ((((9 : Int32) * l1) + (6 : Int32)) + l3).toNatClampNeg (x2)).1 21 l1.toNatClampNeg) + (1 : Int32))))) (0, 0)) none) none) none from fun f n => rfl) (f + 3) n).trans ?_
      refine am_lcd (B := none) ?_ rfl
      refine am_lcd (B := none) ?_ rfl
      refine am_lcd (B := none) ?_ rfl
      exact ih l1 l2 (l3 + (-1 : Int32)) (kS (kS s1 22 ((((9 : Int32) * l1) + (6 : Int32)) + l3).toNatClampNeg (x2)) 21 l1.toNatClampNeg ((((kS s1 22 ((((9 : Int32) * l1) + (6 : Int32)) + l3).toNatClampNeg (x2)).1 21 l1.toNatClampNeg) + (1 : Int32))))
set_option maxRecDepth 20000 in
theorem e_X2_growStack_L9 {nf ns : Nat} {rest : am_H} {s0 : KS} : ∀ (n : Nat) (l1 : Int32) (l2 : Int32) (l3 : Int32) (s : KS), j_X2_growStack n 9 [(0, .inl (.ref 15)), (1, .inl (.int l1)), (2, .inl (.int l2)), (3, .inl (.int l3))] [] (hM nf ns rest s0 s) (0, 0) = am_lf (hM nf ns rest s0) (p_X2_growStack_L9 n l1 l2 l3 s)
  | 0, _, _, _, _ => by rw [p_X2_growStack_L9]; rfl
  | n + 1, l1, l2, l3, s => (j_X2_growStack_g n 9 _ _ _ _).trans (b_X2_growStack_L9 n (e_X2_growStack_L9 n) 957 l1 l2 l3 s)
set_option maxRecDepth 20000 in
def p_X2_growStack (a1 : Int32) (a2 : Int32) (s : KS) : KR := cond (decide ((32 : Int32) ≤ a2)) (p_X2_growStack_L9 400 a1 a2 (2 : Int32) s) (some (.inl none, s))
set_option maxRecDepth 20000 in
theorem e_X2_growStack {nf ns : Nat} {rest : am_H} {s0 : KS} (a1 : Int32) (a2 : Int32) (s : KS) : F_X2_growStack [.inl (.ref 15), .inl (.int a1), .inl (.int a2)] (hM nf ns rest s0 s) = am_lf (hM nf ns rest s0) (p_X2_growStack a1 a2 s) := by
  rw [p_X2_growStack]
  refine (show _ = g_X2_growStack 399 1000 0 [(0, .inl (.ref 15)), (1, .inl (.int a1)), (2, .inl (.int a2))] [] (hM nf ns rest s0 s) (0, 0) from am_fn_g (Nat.le_of_ble_eq_true rfl)).trans ?_
  refine ((show ∀ f n : Nat, g_X2_growStack n (f + 3) 0 [(0, .inl (.ref 15)), (1, .inl (.int a1)), (2, .inl (.int a2))] [] (hM nf ns rest s0 s) (0, 0) = cond (decide ((32 : Int32) ≤ a2)) (g_X2_growStack n f 7 [(0, .inl (.ref 15)), (1, .inl (.int a1)), (2, .inl (.int a2))] [] (hM nf ns rest s0 s) (0, 0)) (g_X2_growStack n f 6 [(0, .inl (.ref 15)), (1, .inl (.int a1)), (2, .inl (.int a2))] [] (hM nf ns rest s0 s) (0, 0)) from fun f n => rfl) 997 399).trans ?_
  refine am_lcd ?_ ?_
  · refine ((show ∀ f n : Nat, g_X2_growStack n (f + 2) 7 [(0, .inl (.ref 15)), (1, .inl (.int a1)), (2, .inl (.int a2))] [] (hM nf ns rest s0 s) (0, 0) = g_X2_growStack n f 9 [(0, .inl (.ref 15)), (1, .inl (.int a1)), (2, .inl (.int a2)), (3, .inl (.int (2 : Int32)))] [] (hM nf ns rest s0 s) (0, 0) from fun f n => rfl) 995 399).trans ?_
    exact b_X2_growStack_L9 399 (e_X2_growStack_L9 399) 952 a1 a2 (2 : Int32) s
  · refine ((show ∀ f n : Nat, g_X2_growStack n (f + 1) 6 [(0, .inl (.ref 15)), (1, .inl (.int a1)), (2, .inl (.int a2))] [] (hM nf ns rest s0 s) (0, 0) = some (.inl none, hM nf ns rest s0 s) from fun f n => rfl) 996 399).trans ?_
    rfl
set_option maxRecDepth 20000 in
def g_X2_pageOf (n f pc : Nat) (lv : am_Lv) (st : List am_V) (h : am_H) (b : Nat × Nat) : Option am_O := am_go X_X2_pageOf 3 (some .int) am_rs0 [] [] (am_lp T_X2_pageOf X_X2_pageOf 3 (some .int) am_rs0 [] [] n) f (am_from pc T_X2_pageOf) lv st h b
set_option maxRecDepth 20000 in
def j_X2_pageOf (n pc : Nat) (lv : am_Lv) (st : List am_V) (h : am_H) (b : Nat × Nat) : Option am_O := am_lp T_X2_pageOf X_X2_pageOf 3 (some .int) am_rs0 [] [] n pc lv st h b
set_option maxRecDepth 20000 in
theorem j_X2_pageOf_g (n pc : Nat) (lv : am_Lv) (st : List am_V) (h : am_H) (b : Nat × Nat) : j_X2_pageOf (n + 1) pc lv st h b = g_X2_pageOf n 1000 pc lv st h b := rfl
set_option maxRecDepth 20000 in
theorem j_X2_pageOf_0 (pc : Nat) (lv : am_Lv) (st : List am_V) (h : am_H) (b : Nat × Nat) : j_X2_pageOf 0 pc lv st h b = none := rfl
set_option maxRecDepth 20000 in
def p_X2_pageOf (a1 : Int32) (a2 : Int32) (s : KS) : KR := cond (decide ((8 : Int32) ≤ a2)) (cond (decide ((32 : Int32) ≤ a2)) (cond (am_in (((9 : Int32) * a1) + ((6 : Int32) + ((a2 - (32 : Int32)) / (4 : Int32)))) 54) (some (.inl (some (s.1 22 (((9 : Int32) * a1) + ((6 : Int32) + ((a2 - (32 : Int32)) / (4 : Int32)))).toNatClampNeg)), s)) none) (cond (am_in (((9 : Int32) * a1) + ((a2 - (8 : Int32)) / (4 : Int32))) 54) (some (.inl (some (s.1 22 (((9 : Int32) * a1) + ((a2 - (8 : Int32)) / (4 : Int32))).toNatClampNeg)), s)) none)) (cond (am_in a1 6) (some (.inl (some (((64 : Int32) + ((2 : Int32) * (s.1 17 a1.toNatClampNeg))) + (a2 / (4 : Int32)))), s)) none)
set_option maxRecDepth 20000 in
theorem e_X2_pageOf {nf ns : Nat} {rest : am_H} {s0 : KS} (a1 : Int32) (a2 : Int32) (s : KS) : F_X2_pageOf [.inl (.ref 15), .inl (.int a1), .inl (.int a2)] (hM nf ns rest s0 s) = am_lf (hM nf ns rest s0) (p_X2_pageOf a1 a2 s) := by
  rw [p_X2_pageOf]
  refine (show _ = g_X2_pageOf 399 1000 0 [(0, .inl (.ref 15)), (1, .inl (.int a1)), (2, .inl (.int a2))] [] (hM nf ns rest s0 s) (0, 0) from am_fn_g (Nat.le_of_ble_eq_true rfl)).trans ?_
  refine ((show ∀ f n : Nat, g_X2_pageOf n (f + 3) 0 [(0, .inl (.ref 15)), (1, .inl (.int a1)), (2, .inl (.int a2))] [] (hM nf ns rest s0 s) (0, 0) = cond (decide ((8 : Int32) ≤ a2)) (g_X2_pageOf n f 22 [(0, .inl (.ref 15)), (1, .inl (.int a1)), (2, .inl (.int a2))] [] (hM nf ns rest s0 s) (0, 0)) (g_X2_pageOf n f 6 [(0, .inl (.ref 15)), (1, .inl (.int a1)), (2, .inl (.int a2))] [] (hM nf ns rest s0 s) (0, 0)) from fun f n => rfl) 997 399).trans ?_
  refine am_lcd ?_ ?_
  · refine ((show ∀ f n : Nat, g_X2_pageOf n (f + 8) 22 [(0, .inl (.ref 15)), (1, .inl (.int a1)), (2, .inl (.int a2))] [] (hM nf ns rest s0 s) (0, 0) = cond (decide ((32 : Int32) ≤ a2)) (g_X2_pageOf n f 45 [(0, .inl (.ref 15)), (1, .inl (.int a1)), (2, .inl (.int a2))] [.inl (.int ((9 : Int32) * a1)), .inl (.ref 22)] (hM nf ns rest s0 s) (0, 0)) (g_X2_pageOf n f 36 [(0, .inl (.ref 15)), (1, .inl (.int a1)), (2, .inl (.int a2))] [.inl (.int ((9 : Int32) * a1)), .inl (.ref 22)] (hM nf ns rest s0 s) (0, 0)) from fun f n => rfl) 989 399).trans ?_
    refine am_lcd ?_ ?_
    · refine ((show ∀ f n : Nat, g_X2_pageOf n (f + 10) 45 [(0, .inl (.ref 15)), (1, .inl (.int a1)), (2, .inl (.int a2))] [.inl (.int ((9 : Int32) * a1)), .inl (.ref 22)] (hM nf ns rest s0 s) (0, 0) = cond (am_in (((9 : Int32) * a1) + ((6 : Int32) + ((a2 - (32 : Int32)) / (4 : Int32)))) 54) (some (.inl (some (.inl (.int (s.1 22 (((9 : Int32) * a1) + ((6 : Int32) + ((a2 - (32 : Int32)) / (4 : Int32)))).toNatClampNeg)))), hM nf ns rest s0 s)) none from fun f n => rfl) 979 399).trans ?_
      refine am_lcd (B := none) ?_ rfl
      rfl
    · refine ((show ∀ f n : Nat, g_X2_pageOf n (f + 9) 36 [(0, .inl (.ref 15)), (1, .inl (.int a1)), (2, .inl (.int a2))] [.inl (.int ((9 : Int32) * a1)), .inl (.ref 22)] (hM nf ns rest s0 s) (0, 0) = cond (am_in (((9 : Int32) * a1) + ((a2 - (8 : Int32)) / (4 : Int32))) 54) (some (.inl (some (.inl (.int (s.1 22 (((9 : Int32) * a1) + ((a2 - (8 : Int32)) / (4 : Int32))).toNatClampNeg)))), hM nf ns rest s0 s)) none from fun f n => rfl) 980 399).trans ?_
      refine am_lcd (B := none) ?_ rfl
      rfl
  · refine ((show ∀ f n : Nat, g_X2_pageOf n (f + 13) 6 [(0, .inl (.ref 15)), (1, .inl (.int a1)), (2, .inl (.int a2))] [] (hM nf ns rest s0 s) (0, 0) = cond (am_in a1 6) (some (.inl (some (.inl (.int (((64 : Int32) + ((2 : Int32) * (s.1 17 a1.toNatClampNeg))) + (a2 / (4 : Int32)))))), hM nf ns rest s0 s)) none from fun f n => rfl) 984 399).trans ?_
    refine am_lcd (B := none) ?_ rfl
    rfl
set_option maxRecDepth 20000 in
def g_X2_freeSlot (n f pc : Nat) (lv : am_Lv) (st : List am_V) (h : am_H) (b : Nat × Nat) : Option am_O := am_go X_X2_freeSlot 2 (some .int) am_rs0 [] [(2, [0, 1])] (am_lp T_X2_freeSlot X_X2_freeSlot 2 (some .int) am_rs0 [] [(2, [0, 1])] n) f (am_from pc T_X2_freeSlot) lv st h b
set_option maxRecDepth 20000 in
def j_X2_freeSlot (n pc : Nat) (lv : am_Lv) (st : List am_V) (h : am_H) (b : Nat × Nat) : Option am_O := am_lp T_X2_freeSlot X_X2_freeSlot 2 (some .int) am_rs0 [] [(2, [0, 1])] n pc lv st h b
set_option maxRecDepth 20000 in
theorem j_X2_freeSlot_g (n pc : Nat) (lv : am_Lv) (st : List am_V) (h : am_H) (b : Nat × Nat) : j_X2_freeSlot (n + 1) pc lv st h b = g_X2_freeSlot n 1000 pc lv st h b := rfl
set_option maxRecDepth 20000 in
theorem j_X2_freeSlot_0 (pc : Nat) (lv : am_Lv) (st : List am_V) (h : am_H) (b : Nat × Nat) : j_X2_freeSlot 0 pc lv st h b = none := rfl
set_option maxRecDepth 20000 in
def p_X2_freeSlot_L2 : Nat → Int32 → KS → KR
  | 0, _, _ => none
  | n + 1, l1, s => cond (decide ((s.1 15 2) ≤ l1)) (some (.inl (some (-1 : Int32)), s)) (cond (am_in l1 20) (cond (!decide ((s.1 28 l1.toNatClampNeg) = (0 : Int32))) (p_X2_freeSlot_L2 n (l1 + (1 : Int32)) s) (some (.inl (some l1), s))) none)
set_option maxRecDepth 20000 in
theorem b_X2_freeSlot_L2 {nf ns : Nat} {rest : am_H} {s0 : KS} (n : Nat) (ih : ∀ (l1 : Int32) (s : KS), j_X2_freeSlot n 2 [(0, .inl (.ref 15)), (1, .inl (.int l1))] [] (hM nf ns rest s0 s) (0, 0) = am_lf (hM nf ns rest s0) (p_X2_freeSlot_L2 n l1 s)) (f : Nat) (l1 : Int32) (s : KS) : g_X2_freeSlot n (f + 14) 2 [(0, .inl (.ref 15)), (1, .inl (.int l1))] [] (hM nf ns rest s0 s) (0, 0) = am_lf (hM nf ns rest s0) (p_X2_freeSlot_L2 (n + 1) l1 s) := by
  rw [p_X2_freeSlot_L2]
  refine ((show ∀ f n : Nat, g_X2_freeSlot n (f + 4) 2 [(0, .inl (.ref 15)), (1, .inl (.int l1))] [] (hM nf ns rest s0 s) (0, 0) = cond (decide ((s.1 15 2) ≤ l1)) (g_X2_freeSlot n f 27 [(0, .inl (.ref 15)), (1, .inl (.int l1))] [] (hM nf ns rest s0 s) (0, 0)) (g_X2_freeSlot n f 10 [(0, .inl (.ref 15)), (1, .inl (.int l1))] [] (hM nf ns rest s0 s) (0, 0)) from fun f n => rfl) (f + 10) n).trans ?_
  refine am_lcd ?_ ?_
  · refine ((show ∀ f n : Nat, g_X2_freeSlot n (f + 2) 27 [(0, .inl (.ref 15)), (1, .inl (.int l1))] [] (hM nf ns rest s0 s) (0, 0) = some (.inl (some (.inl (.int (-1 : Int32)))), hM nf ns rest s0 s) from fun f n => rfl) (f + 8) n).trans ?_
    rfl
  · refine ((show ∀ f n : Nat, g_X2_freeSlot n (f + 5) 10 [(0, .inl (.ref 15)), (1, .inl (.int l1))] [] (hM nf ns rest s0 s) (0, 0) = cond (am_in l1 20) (cond (!decide ((s.1 28 l1.toNatClampNeg) = (0 : Int32))) (g_X2_freeSlot n f 21 [(0, .inl (.ref 15)), (1, .inl (.int l1))] [] (hM nf ns rest s0 s) (0, 0)) (g_X2_freeSlot n f 19 [(0, .inl (.ref 15)), (1, .inl (.int l1))] [] (hM nf ns rest s0 s) (0, 0))) none from fun f n => rfl) (f + 5) n).trans ?_
    refine am_lcd (B := none) ?_ rfl
    refine am_lcd ?_ ?_
    · refine ((show ∀ f n : Nat, g_X2_freeSlot n (f + 2) 21 [(0, .inl (.ref 15)), (1, .inl (.int l1))] [] (hM nf ns rest s0 s) (0, 0) = j_X2_freeSlot n 2 [(0, .inl (.ref 15)), (1, .inl (.int (l1 + (1 : Int32))))] [] (hM nf ns rest s0 s) (0, 0) from fun f n => rfl) (f + 3) n).trans ?_
      exact ih (l1 + (1 : Int32)) s
    · refine ((show ∀ f n : Nat, g_X2_freeSlot n (f + 2) 19 [(0, .inl (.ref 15)), (1, .inl (.int l1))] [] (hM nf ns rest s0 s) (0, 0) = some (.inl (some (.inl (.int l1))), hM nf ns rest s0 s) from fun f n => rfl) (f + 3) n).trans ?_
      rfl
set_option maxRecDepth 20000 in
theorem e_X2_freeSlot_L2 {nf ns : Nat} {rest : am_H} {s0 : KS} : ∀ (n : Nat) (l1 : Int32) (s : KS), j_X2_freeSlot n 2 [(0, .inl (.ref 15)), (1, .inl (.int l1))] [] (hM nf ns rest s0 s) (0, 0) = am_lf (hM nf ns rest s0) (p_X2_freeSlot_L2 n l1 s)
  | 0, _, _ => by rw [p_X2_freeSlot_L2]; rfl
  | n + 1, l1, s => (j_X2_freeSlot_g n 2 _ _ _ _).trans (b_X2_freeSlot_L2 n (e_X2_freeSlot_L2 n) 986 l1 s)
set_option maxRecDepth 20000 in
def p_X2_freeSlot  (s : KS) : KR := p_X2_freeSlot_L2 400 (0 : Int32) s
set_option maxRecDepth 20000 in
theorem e_X2_freeSlot {nf ns : Nat} {rest : am_H} {s0 : KS}  (s : KS) : F_X2_freeSlot [.inl (.ref 15)] (hM nf ns rest s0 s) = am_lf (hM nf ns rest s0) (p_X2_freeSlot  s) := by
  rw [p_X2_freeSlot]
  refine (show _ = g_X2_freeSlot 399 1000 0 [(0, .inl (.ref 15))] [] (hM nf ns rest s0 s) (0, 0) from am_fn_g (Nat.le_of_ble_eq_true rfl)).trans ?_
  refine ((show ∀ f n : Nat, g_X2_freeSlot n (f + 2) 0 [(0, .inl (.ref 15))] [] (hM nf ns rest s0 s) (0, 0) = g_X2_freeSlot n f 2 [(0, .inl (.ref 15)), (1, .inl (.int (0 : Int32)))] [] (hM nf ns rest s0 s) (0, 0) from fun f n => rfl) 998 399).trans ?_
  exact b_X2_freeSlot_L2 399 (e_X2_freeSlot_L2 399) 984 (0 : Int32) s
set_option maxRecDepth 20000 in
def g_X2_canGo (n f pc : Nat) (lv : am_Lv) (st : List am_V) (h : am_H) (b : Nat × Nat) : Option am_O := am_go X_X2_canGo 2 (some .boolean) am_rs0 [] [] (am_lp T_X2_canGo X_X2_canGo 2 (some .boolean) am_rs0 [] [] n) f (am_from pc T_X2_canGo) lv st h b
set_option maxRecDepth 20000 in
def j_X2_canGo (n pc : Nat) (lv : am_Lv) (st : List am_V) (h : am_H) (b : Nat × Nat) : Option am_O := am_lp T_X2_canGo X_X2_canGo 2 (some .boolean) am_rs0 [] [] n pc lv st h b
set_option maxRecDepth 20000 in
theorem j_X2_canGo_g (n pc : Nat) (lv : am_Lv) (st : List am_V) (h : am_H) (b : Nat × Nat) : j_X2_canGo (n + 1) pc lv st h b = g_X2_canGo n 1000 pc lv st h b := rfl
set_option maxRecDepth 20000 in
theorem j_X2_canGo_0 (pc : Nat) (lv : am_Lv) (st : List am_V) (h : am_H) (b : Nat × Nat) : j_X2_canGo 0 pc lv st h b = none := rfl
set_option maxRecDepth 20000 in
def p_X2_canGo (a1 : Int32) (s : KS) : KR := cond (decide ((64 : Int32) ≤ a1)) (some (.inl (some (1 : Int32)), s)) (kbi (p_X2_freeSlot  s) (fun x2 s1 => cond (decide (x2 < (0 : Int32))) (some (.inl (some (0 : Int32)), s1)) (some (.inl (some (1 : Int32)), s1))))
set_option maxRecDepth 20000 in
theorem e_X2_canGo {nf ns : Nat} {rest : am_H} {s0 : KS} (a1 : Int32) (s : KS) : F_X2_canGo [.inl (.ref 15), .inl (.int a1)] (hM nf ns rest s0 s) = am_lf (hM nf ns rest s0) (p_X2_canGo a1 s) := by
  rw [p_X2_canGo]
  refine (show _ = g_X2_canGo 399 1000 0 [(0, .inl (.ref 15)), (1, .inl (.int a1))] [] (hM nf ns rest s0 s) (0, 0) from am_fn_g (Nat.le_of_ble_eq_true rfl)).trans ?_
  refine ((show ∀ f n : Nat, g_X2_canGo n (f + 3) 0 [(0, .inl (.ref 15)), (1, .inl (.int a1))] [] (hM nf ns rest s0 s) (0, 0) = cond (decide ((64 : Int32) ≤ a1)) (g_X2_canGo n f 13 [(0, .inl (.ref 15)), (1, .inl (.int a1))] [] (hM nf ns rest s0 s) (0, 0)) (g_X2_canGo n f 6 [(0, .inl (.ref 15)), (1, .inl (.int a1))] [] (hM nf ns rest s0 s) (0, 0)) from fun f n => rfl) 997 399).trans ?_
  refine am_lcd ?_ ?_
  · refine ((show ∀ f n : Nat, g_X2_canGo n (f + 3) 13 [(0, .inl (.ref 15)), (1, .inl (.int a1))] [] (hM nf ns rest s0 s) (0, 0) = some (.inl (some (.inl (.int (1 : Int32)))), hM nf ns rest s0 s) from fun f n => rfl) 994 399).trans ?_
    rfl
  · refine ((show ∀ f n : Nat, g_X2_canGo n (f + 2) 6 [(0, .inl (.ref 15)), (1, .inl (.int a1))] [] (hM nf ns rest s0 s) (0, 0) = am_ri (F_X2_freeSlot [.inl (.ref 15)] (hM nf ns rest s0 s)) (fun x2 h => g_X2_canGo n f 10 [(0, .inl (.ref 15)), (1, .inl (.int a1))] [.inl (.int x2)] h (0, 0)) (fun x h => some (.inr x, h)) from fun f n => rfl) 995 399).trans ?_
    rw [e_X2_freeSlot  s]
    refine am_lbi (fun x2 s1 => ?_) (fun _ _ => rfl)
    refine ((show ∀ f n : Nat, g_X2_canGo n (f + 1) 10 [(0, .inl (.ref 15)), (1, .inl (.int a1))] [.inl (.int x2)] (hM nf ns rest s0 s1) (0, 0) = cond (decide (x2 < (0 : Int32))) (g_X2_canGo n f 17 [(0, .inl (.ref 15)), (1, .inl (.int a1))] [] (hM nf ns rest s0 s1) (0, 0)) (g_X2_canGo n f 13 [(0, .inl (.ref 15)), (1, .inl (.int a1))] [] (hM nf ns rest s0 s1) (0, 0)) from fun f n => rfl) 994 399).trans ?_
    refine am_lcd ?_ ?_
    · refine ((show ∀ f n : Nat, g_X2_canGo n (f + 2) 17 [(0, .inl (.ref 15)), (1, .inl (.int a1))] [] (hM nf ns rest s0 s1) (0, 0) = some (.inl (some (.inl (.int (0 : Int32)))), hM nf ns rest s0 s1) from fun f n => rfl) 992 399).trans ?_
      rfl
    · refine ((show ∀ f n : Nat, g_X2_canGo n (f + 3) 13 [(0, .inl (.ref 15)), (1, .inl (.int a1))] [] (hM nf ns rest s0 s1) (0, 0) = some (.inl (some (.inl (.int (1 : Int32)))), hM nf ns rest s0 s1) from fun f n => rfl) 991 399).trans ?_
      rfl
set_option maxRecDepth 20000 in
def g_X2_sendOut (n f pc : Nat) (lv : am_Lv) (st : List am_V) (h : am_H) (b : Nat × Nat) : Option am_O := am_go X_X2_sendOut 3 none am_rs0 [] [] (am_lp T_X2_sendOut X_X2_sendOut 3 none am_rs0 [] [] n) f (am_from pc T_X2_sendOut) lv st h b
set_option maxRecDepth 20000 in
def j_X2_sendOut (n pc : Nat) (lv : am_Lv) (st : List am_V) (h : am_H) (b : Nat × Nat) : Option am_O := am_lp T_X2_sendOut X_X2_sendOut 3 none am_rs0 [] [] n pc lv st h b
set_option maxRecDepth 20000 in
theorem j_X2_sendOut_g (n pc : Nat) (lv : am_Lv) (st : List am_V) (h : am_H) (b : Nat × Nat) : j_X2_sendOut (n + 1) pc lv st h b = g_X2_sendOut n 1000 pc lv st h b := rfl
set_option maxRecDepth 20000 in
theorem j_X2_sendOut_0 (pc : Nat) (lv : am_Lv) (st : List am_V) (h : am_H) (b : Nat × Nat) : j_X2_sendOut 0 pc lv st h b = none := rfl
set_option maxRecDepth 20000 in
def p_X2_sendOut (a1 : Int32) (s : KS) : KR := cond (am_in a1 70) (cond (am_in (s.1 25 a1.toNatClampNeg) 10) (cond (decide (a1 < (64 : Int32))) (kbi (p_X2_freeSlot  (kS (kS s 26 (s.1 25 a1.toNatClampNeg).toNatClampNeg ((-1 : Int32))) 15 19 (((kS s 26 (s.1 25 a1.toNatClampNeg).toNatClampNeg ((-1 : Int32))).1 15 19) + (1 : Int32)))) (fun x2 s1 => cond (am_in x2 20) (cond (am_in a1 70) (some (.inl none, (kS (kS s1 28 x2.toNatClampNeg (am_nar 1 (1 : Int32))) 25 a1.toNatClampNeg (((100 : Int32) + x2))))) none) none)) (cond (am_in a1 70) (some (.inl none, (kS (kS (kS s 26 (s.1 25 a1.toNatClampNeg).toNatClampNeg ((-1 : Int32))) 15 19 (((kS s 26 (s.1 25 a1.toNatClampNeg).toNatClampNeg ((-1 : Int32))).1 15 19) + (1 : Int32))) 25 a1.toNatClampNeg ((-1 : Int32))))) none)) none) none
set_option maxRecDepth 20000 in
theorem e_X2_sendOut {nf ns : Nat} {rest : am_H} {s0 : KS} (a1 : Int32) (s : KS) : F_X2_sendOut [.inl (.ref 15), .inl (.int a1)] (hM nf ns rest s0 s) = am_lf (hM nf ns rest s0) (p_X2_sendOut a1 s) := by
  rw [p_X2_sendOut]
  refine (show _ = g_X2_sendOut 399 1000 0 [(0, .inl (.ref 15)), (1, .inl (.int a1))] [] (hM nf ns rest s0 s) (0, 0) from am_fn_g (Nat.le_of_ble_eq_true rfl)).trans ?_
  refine ((show ∀ f n : Nat, g_X2_sendOut n (f + 17) 0 [(0, .inl (.ref 15)), (1, .inl (.int a1))] [] (hM nf ns rest s0 s) (0, 0) = cond (am_in a1 70) (cond (am_in (s.1 25 a1.toNatClampNeg) 10) (cond (decide (a1 < (64 : Int32))) (g_X2_sendOut n f 38 [(0, .inl (.ref 15)), (1, .inl (.int a1))] [] (hM nf ns rest s0 (kS (kS s 26 (s.1 25 a1.toNatClampNeg).toNatClampNeg ((-1 : Int32))) 15 19 (((kS s 26 (s.1 25 a1.toNatClampNeg).toNatClampNeg ((-1 : Int32))).1 15 19) + (1 : Int32)))) (0, 0)) (g_X2_sendOut n f 28 [(0, .inl (.ref 15)), (1, .inl (.int a1))] [] (hM nf ns rest s0 (kS (kS s 26 (s.1 25 a1.toNatClampNeg).toNatClampNeg ((-1 : Int32))) 15 19 (((kS s 26 (s.1 25 a1.toNatClampNeg).toNatClampNeg ((-1 : Int32))).1 15 19) + (1 : Int32)))) (0, 0))) none) none from fun f n => rfl) 983 399).trans ?_
  refine am_lcd (B := none) ?_ rfl
  refine am_lcd (B := none) ?_ rfl
  refine am_lcd ?_ ?_
  · refine ((show ∀ (f n : Nat) (z : KS), g_X2_sendOut n (f + 2) 38 [(0, .inl (.ref 15)), (1, .inl (.int a1))] [] (hM nf ns rest s0 z) (0, 0) = am_ri (F_X2_freeSlot [.inl (.ref 15)] (hM nf ns rest s0 z)) (fun x2 h => g_X2_sendOut n f 42 [(0, .inl (.ref 15)), (1, .inl (.int a1))] [.inl (.int x2)] h (0, 0)) (fun x h => some (.inr x, h)) from fun f n z => rfl) 981 399 (kS (kS s 26 (s.1 25 a1.toNatClampNeg).toNatClampNeg ((-1 : Int32))) 15 19 (((kS s 26 (s.1 25 a1.toNatClampNeg).toNatClampNeg ((-1 : Int32))).1 15 19) + (1 : Int32)))).trans ?_
    rw [e_X2_freeSlot  (kS (kS s 26 (s.1 25 a1.toNatClampNeg).toNatClampNeg ((-1 : Int32))) 15 19 (((kS s 26 (s.1 25 a1.toNatClampNeg).toNatClampNeg ((-1 : Int32))).1 15 19) + (1 : Int32)))]
    refine am_lbi (fun x2 s1 => ?_) (fun _ _ => rfl)
    refine ((show ∀ f n : Nat, g_X2_sendOut n (f + 14) 42 [(0, .inl (.ref 15)), (1, .inl (.int a1))] [.inl (.int x2)] (hM nf ns rest s0 s1) (0, 0) = cond (am_in x2 20) (cond (am_in a1 70) (some (.inl none, hM nf ns rest s0 (kS (kS s1 28 x2.toNatClampNeg (am_nar 1 (1 : Int32))) 25 a1.toNatClampNeg (((100 : Int32) + x2))))) none) none from fun f n => rfl) 967 399).trans ?_
    refine am_lcd (B := none) ?_ rfl
    refine am_lcd (B := none) ?_ rfl
    rfl
  · refine ((show ∀ (f n : Nat) (z : KS), g_X2_sendOut n (f + 7) 28 [(0, .inl (.ref 15)), (1, .inl (.int a1))] [] (hM nf ns rest s0 z) (0, 0) = cond (am_in a1 70) (some (.inl none, hM nf ns rest s0 (kS z 25 a1.toNatClampNeg ((-1 : Int32))))) none from fun f n z => rfl) 976 399 (kS (kS s 26 (s.1 25 a1.toNatClampNeg).toNatClampNeg ((-1 : Int32))) 15 19 (((kS s 26 (s.1 25 a1.toNatClampNeg).toNatClampNeg ((-1 : Int32))).1 15 19) + (1 : Int32)))).trans ?_
    refine am_lcd (B := none) ?_ rfl
    rfl
set_option maxRecDepth 20000 in
def g_X2_look (n f pc : Nat) (lv : am_Lv) (st : List am_V) (h : am_H) (b : Nat × Nat) : Option am_O := am_go X_X2_look 2 (some .boolean) am_rs0 [] [] (am_lp T_X2_look X_X2_look 2 (some .boolean) am_rs0 [] [] n) f (am_from pc T_X2_look) lv st h b
set_option maxRecDepth 20000 in
def j_X2_look (n pc : Nat) (lv : am_Lv) (st : List am_V) (h : am_H) (b : Nat × Nat) : Option am_O := am_lp T_X2_look X_X2_look 2 (some .boolean) am_rs0 [] [] n pc lv st h b
set_option maxRecDepth 20000 in
theorem j_X2_look_g (n pc : Nat) (lv : am_Lv) (st : List am_V) (h : am_H) (b : Nat × Nat) : j_X2_look (n + 1) pc lv st h b = g_X2_look n 1000 pc lv st h b := rfl
set_option maxRecDepth 20000 in
theorem j_X2_look_0 (pc : Nat) (lv : am_Lv) (st : List am_V) (h : am_H) (b : Nat × Nat) : j_X2_look 0 pc lv st h b = none := rfl
set_option maxRecDepth 20000 in
def p_X2_look  (s : KS) : KR := (if (s.1 15 1) = 0 then none else cond (am_in (s.1 15 16) 10) (cond (decide ((0 : Int32) ≤ ((kS s 15 16 (((s.1 15 16) + (1 : Int32)) - ((s.1 15 16) + (1 : Int32)) / (s.1 15 1) * (s.1 15 1))).1 26 (s.1 15 16).toNatClampNeg))) (cond (am_in (s.1 15 16) 10) (cond (decide (((kS s 15 16 (((s.1 15 16) + (1 : Int32)) - ((s.1 15 16) + (1 : Int32)) / (s.1 15 1) * (s.1 15 1))).1 27 (s.1 15 16).toNatClampNeg) = (0 : Int32))) (cond (am_in (s.1 15 16) 10) (kbi (p_X2_canGo ((kS s 15 16 (((s.1 15 16) + (1 : Int32)) - ((s.1 15 16) + (1 : Int32)) / (s.1 15 1) * (s.1 15 1))).1 26 (s.1 15 16).toNatClampNeg) (kS s 15 16 (((s.1 15 16) + (1 : Int32)) - ((s.1 15 16) + (1 : Int32)) / (s.1 15 1) * (s.1 15 1)))) (fun x2 s1 => cond (!decide (x2 = (0 : Int32))) (cond (am_in (s.1 15 16) 10) (kbv (p_X2_sendOut (s1.1 26 (s.1 15 16).toNatClampNeg) s1) (fun s3 => some (.inl (some (1 : Int32)), s3))) none) (some (.inl (some (0 : Int32)), s1)))) none) (cond (am_in (s.1 15 16) 10) (some (.inl (some (0 : Int32)), (kS (kS s 15 16 (((s.1 15 16) + (1 : Int32)) - ((s.1 15 16) + (1 : Int32)) / (s.1 15 1) * (s.1 15 1))) 27 (s.1 15 16).toNatClampNeg (am_nar 1 (0 : Int32))))) none)) none) (some (.inl (some (0 : Int32)), (kS s 15 16 (((s.1 15 16) + (1 : Int32)) - ((s.1 15 16) + (1 : Int32)) / (s.1 15 1) * (s.1 15 1)))))) none)
set_option maxRecDepth 20000 in
theorem e_X2_look {nf ns : Nat} {rest : am_H} {s0 : KS}  (s : KS) : F_X2_look [.inl (.ref 15)] (hM nf ns rest s0 s) = am_lf (hM nf ns rest s0) (p_X2_look  s) := by
  rw [p_X2_look]
  refine (show _ = g_X2_look 399 1000 0 [(0, .inl (.ref 15))] [] (hM nf ns rest s0 s) (0, 0) from am_fn_g (Nat.le_of_ble_eq_true rfl)).trans ?_
  refine ((show ∀ f n : Nat, g_X2_look n (f + 11) 0 [(0, .inl (.ref 15))] [] (hM nf ns rest s0 s) (0, 0) = if (s.1 15 1) = 0 then none else g_X2_look n f 17 [(0, .inl (.ref 15)), (1, .inl (.int (s.1 15 16)))] [.inl (.int (((s.1 15 16) + (1 : Int32)) - ((s.1 15 16) + (1 : Int32)) / (s.1 15 1) * (s.1 15 1))), .inl (.ref 15)] (hM nf ns rest s0 s) (0, 0) from fun f n => rfl) 989 399).trans ?_
  refine am_lite ?_
  refine ((show ∀ f n : Nat, g_X2_look n (f + 6) 17 [(0, .inl (.ref 15)), (1, .inl (.int (s.1 15 16)))] [.inl (.int (((s.1 15 16) + (1 : Int32)) - ((s.1 15 16) + (1 : Int32)) / (s.1 15 1) * (s.1 15 1))), .inl (.ref 15)] (hM nf ns rest s0 s) (0, 0) = cond (am_in (s.1 15 16) 10) (cond (decide ((0 : Int32) ≤ ((kS s 15 16 (((s.1 15 16) + (1 : Int32)) - ((s.1 15 16) + (1 : Int32)) / (s.1 15 1) * (s.1 15 1))).1 26 (s.1 15 16).toNatClampNeg))) (g_X2_look n f 31 [(0, .inl (.ref 15)), (1, .inl (.int (s.1 15 16)))] [] (hM nf ns rest s0 (kS s 15 16 (((s.1 15 16) + (1 : Int32)) - ((s.1 15 16) + (1 : Int32)) / (s.1 15 1) * (s.1 15 1)))) (0, 0)) (g_X2_look n f 29 [(0, .inl (.ref 15)), (1, .inl (.int (s.1 15 16)))] [] (hM nf ns rest s0 (kS s 15 16 (((s.1 15 16) + (1 : Int32)) - ((s.1 15 16) + (1 : Int32)) / (s.1 15 1) * (s.1 15 1)))) (0, 0))) none from fun f n => rfl) 983 399).trans ?_
  refine am_lcd (B := none) ?_ rfl
  refine am_lcd ?_ ?_
  · refine ((show ∀ (f n : Nat) (z : KS), g_X2_look n (f + 5) 31 [(0, .inl (.ref 15)), (1, .inl (.int (s.1 15 16)))] [] (hM nf ns rest s0 z) (0, 0) = cond (am_in (s.1 15 16) 10) (cond (decide ((z.1 27 (s.1 15 16).toNatClampNeg) = (0 : Int32))) (g_X2_look n f 49 [(0, .inl (.ref 15)), (1, .inl (.int (s.1 15 16)))] [] (hM nf ns rest s0 z) (0, 0)) (g_X2_look n f 40 [(0, .inl (.ref 15)), (1, .inl (.int (s.1 15 16)))] [] (hM nf ns rest s0 z) (0, 0))) none from fun f n z => rfl) 978 399 (kS s 15 16 (((s.1 15 16) + (1 : Int32)) - ((s.1 15 16) + (1 : Int32)) / (s.1 15 1) * (s.1 15 1)))).trans ?_
    refine am_lcd (B := none) ?_ rfl
    refine am_lcd ?_ ?_
    · refine ((show ∀ (f n : Nat) (z : KS), g_X2_look n (f + 6) 49 [(0, .inl (.ref 15)), (1, .inl (.int (s.1 15 16)))] [] (hM nf ns rest s0 z) (0, 0) = cond (am_in (s.1 15 16) 10) (am_ri (F_X2_canGo [.inl (.ref 15), .inl (.int (z.1 26 (s.1 15 16).toNatClampNeg))] (hM nf ns rest s0 z)) (fun x2 h => g_X2_look n f 59 [(0, .inl (.ref 15)), (1, .inl (.int (s.1 15 16)))] [.inl (.int x2)] h (0, 0)) (fun x h => some (.inr x, h))) none from fun f n z => rfl) 972 399 (kS s 15 16 (((s.1 15 16) + (1 : Int32)) - ((s.1 15 16) + (1 : Int32)) / (s.1 15 1) * (s.1 15 1)))).trans ?_
      refine am_lcd (B := none) ?_ rfl
      rw [e_X2_canGo ((kS s 15 16 (((s.1 15 16) + (1 : Int32)) - ((s.1 15 16) + (1 : Int32)) / (s.1 15 1) * (s.1 15 1))).1 26 (s.1 15 16).toNatClampNeg) (kS s 15 16 (((s.1 15 16) + (1 : Int32)) - ((s.1 15 16) + (1 : Int32)) / (s.1 15 1) * (s.1 15 1)))]
      refine am_lbi (fun x2 s1 => ?_) (fun _ _ => rfl)
      refine ((show ∀ f n : Nat, g_X2_look n (f + 1) 59 [(0, .inl (.ref 15)), (1, .inl (.int (s.1 15 16)))] [.inl (.int x2)] (hM nf ns rest s0 s1) (0, 0) = cond (!decide (x2 = (0 : Int32))) (g_X2_look n f 64 [(0, .inl (.ref 15)), (1, .inl (.int (s.1 15 16)))] [] (hM nf ns rest s0 s1) (0, 0)) (g_X2_look n f 62 [(0, .inl (.ref 15)), (1, .inl (.int (s.1 15 16)))] [] (hM nf ns rest s0 s1) (0, 0)) from fun f n => rfl) 971 399).trans ?_
      refine am_lcd ?_ ?_
      · refine ((show ∀ f n : Nat, g_X2_look n (f + 6) 64 [(0, .inl (.ref 15)), (1, .inl (.int (s.1 15 16)))] [] (hM nf ns rest s0 s1) (0, 0) = cond (am_in (s.1 15 16) 10) (am_rv (F_X2_sendOut [.inl (.ref 15), .inl (.int (s1.1 26 (s.1 15 16).toNatClampNeg))] (hM nf ns rest s0 s1)) (fun h => g_X2_look n f 74 [(0, .inl (.ref 15)), (1, .inl (.int (s.1 15 16)))] [] h (0, 0)) (fun x h => some (.inr x, h))) none from fun f n => rfl) 965 399).trans ?_
        refine am_lcd (B := none) ?_ rfl
        rw [e_X2_sendOut (s1.1 26 (s.1 15 16).toNatClampNeg) s1]
        refine am_lbv (fun s3 => ?_) (fun _ _ => rfl)
        refine ((show ∀ f n : Nat, g_X2_look n (f + 2) 74 [(0, .inl (.ref 15)), (1, .inl (.int (s.1 15 16)))] [] (hM nf ns rest s0 s3) (0, 0) = some (.inl (some (.inl (.int (1 : Int32)))), hM nf ns rest s0 s3) from fun f n => rfl) 963 399).trans ?_
        rfl
      · refine ((show ∀ f n : Nat, g_X2_look n (f + 2) 62 [(0, .inl (.ref 15)), (1, .inl (.int (s.1 15 16)))] [] (hM nf ns rest s0 s1) (0, 0) = some (.inl (some (.inl (.int (0 : Int32)))), hM nf ns rest s0 s1) from fun f n => rfl) 969 399).trans ?_
        rfl
    · refine ((show ∀ (f n : Nat) (z : KS), g_X2_look n (f + 7) 40 [(0, .inl (.ref 15)), (1, .inl (.int (s.1 15 16)))] [] (hM nf ns rest s0 z) (0, 0) = cond (am_in (s.1 15 16) 10) (some (.inl (some (.inl (.int (0 : Int32)))), hM nf ns rest s0 (kS z 27 (s.1 15 16).toNatClampNeg (am_nar 1 (0 : Int32))))) none from fun f n z => rfl) 971 399 (kS s 15 16 (((s.1 15 16) + (1 : Int32)) - ((s.1 15 16) + (1 : Int32)) / (s.1 15 1) * (s.1 15 1)))).trans ?_
      refine am_lcd (B := none) ?_ rfl
      rfl
  · refine ((show ∀ (f n : Nat) (z : KS), g_X2_look n (f + 2) 29 [(0, .inl (.ref 15)), (1, .inl (.int (s.1 15 16)))] [] (hM nf ns rest s0 z) (0, 0) = some (.inl (some (.inl (.int (0 : Int32)))), hM nf ns rest s0 z) from fun f n z => rfl) 981 399 (kS s 15 16 (((s.1 15 16) + (1 : Int32)) - ((s.1 15 16) + (1 : Int32)) / (s.1 15 1) * (s.1 15 1)))).trans ?_
    rfl
set_option maxRecDepth 20000 in
def g_X2_getFrame (n f pc : Nat) (lv : am_Lv) (st : List am_V) (h : am_H) (b : Nat × Nat) : Option am_O := am_go X_X2_getFrame 3 (some .int) am_rs0 [] [(2, [0, 1]), (29, [0, 1])] (am_lp T_X2_getFrame X_X2_getFrame 3 (some .int) am_rs0 [] [(2, [0, 1]), (29, [0, 1])] n) f (am_from pc T_X2_getFrame) lv st h b
set_option maxRecDepth 20000 in
def j_X2_getFrame (n pc : Nat) (lv : am_Lv) (st : List am_V) (h : am_H) (b : Nat × Nat) : Option am_O := am_lp T_X2_getFrame X_X2_getFrame 3 (some .int) am_rs0 [] [(2, [0, 1]), (29, [0, 1])] n pc lv st h b
set_option maxRecDepth 20000 in
theorem j_X2_getFrame_g (n pc : Nat) (lv : am_Lv) (st : List am_V) (h : am_H) (b : Nat × Nat) : j_X2_getFrame (n + 1) pc lv st h b = g_X2_getFrame n 1000 pc lv st h b := rfl
set_option maxRecDepth 20000 in
theorem j_X2_getFrame_0 (pc : Nat) (lv : am_Lv) (st : List am_V) (h : am_H) (b : Nat × Nat) : j_X2_getFrame 0 pc lv st h b = none := rfl
set_option maxRecDepth 20000 in
def p_X2_getFrame_L29 : Nat → Int32 → KS → KR
  | 0, _, _ => none
  | n + 1, l1, s => cond (decide (((2 : Int32) * (s.1 15 1)) ≤ l1)) (some (.inl (some (-1 : Int32)), s)) (kbi (p_X2_look  s) (fun x2 s1 => cond (decide (x2 = (0 : Int32))) (p_X2_getFrame_L29 n (l1 + (1 : Int32)) s1) (some (.inl (some (s.1 15 16)), s1))))
set_option maxRecDepth 20000 in
theorem b_X2_getFrame_L29 {nf ns : Nat} {rest : am_H} {s0 : KS} (n : Nat) (ih : ∀ (l1 : Int32) (s : KS), j_X2_getFrame n 29 [(0, .inl (.ref 15)), (1, .inl (.int l1))] [] (hM nf ns rest s0 s) (0, 0) = am_lf (hM nf ns rest s0) (p_X2_getFrame_L29 n l1 s)) (f : Nat) (l1 : Int32) (s : KS) : g_X2_getFrame n (f + 17) 29 [(0, .inl (.ref 15)), (1, .inl (.int l1))] [] (hM nf ns rest s0 s) (0, 0) = am_lf (hM nf ns rest s0) (p_X2_getFrame_L29 (n + 1) l1 s) := by
  rw [p_X2_getFrame_L29]
  refine ((show ∀ f n : Nat, g_X2_getFrame n (f + 6) 29 [(0, .inl (.ref 15)), (1, .inl (.int l1))] [] (hM nf ns rest s0 s) (0, 0) = cond (decide (((2 : Int32) * (s.1 15 1)) ≤ l1)) (g_X2_getFrame n f 59 [(0, .inl (.ref 15)), (1, .inl (.int l1))] [] (hM nf ns rest s0 s) (0, 0)) (g_X2_getFrame n f 39 [(0, .inl (.ref 15)), (1, .inl (.int l1))] [] (hM nf ns rest s0 s) (0, 0)) from fun f n => rfl) (f + 11) n).trans ?_
  refine am_lcd ?_ ?_
  · refine ((show ∀ f n : Nat, g_X2_getFrame n (f + 2) 59 [(0, .inl (.ref 15)), (1, .inl (.int l1))] [] (hM nf ns rest s0 s) (0, 0) = some (.inl (some (.inl (.int (-1 : Int32)))), hM nf ns rest s0 s) from fun f n => rfl) (f + 9) n).trans ?_
    rfl
  · refine ((show ∀ f n : Nat, g_X2_getFrame n (f + 5) 39 [(0, .inl (.ref 15)), (1, .inl (.int l1))] [] (hM nf ns rest s0 s) (0, 0) = am_ri (F_X2_look [.inl (.ref 15)] (hM nf ns rest s0 s)) (fun x2 h => g_X2_getFrame n f 48 [(0, .inl (.ref 15)), (1, .inl (.int l1)), (2, .inl (.int (s.1 15 16)))] [.inl (.int x2)] h (0, 0)) (fun x h => some (.inr x, h)) from fun f n => rfl) (f + 6) n).trans ?_
    rw [e_X2_look  s]
    refine am_lbi (fun x2 s1 => ?_) (fun _ _ => rfl)
    refine ((show ∀ f n : Nat, g_X2_getFrame n (f + 1) 48 [(0, .inl (.ref 15)), (1, .inl (.int l1)), (2, .inl (.int (s.1 15 16)))] [.inl (.int x2)] (hM nf ns rest s0 s1) (0, 0) = cond (decide (x2 = (0 : Int32))) (g_X2_getFrame n f 53 [(0, .inl (.ref 15)), (1, .inl (.int l1)), (2, .inl (.int (s.1 15 16)))] [] (hM nf ns rest s0 s1) (0, 0)) (g_X2_getFrame n f 51 [(0, .inl (.ref 15)), (1, .inl (.int l1)), (2, .inl (.int (s.1 15 16)))] [] (hM nf ns rest s0 s1) (0, 0)) from fun f n => rfl) (f + 5) n).trans ?_
    refine am_lcd ?_ ?_
    · refine ((show ∀ f n : Nat, g_X2_getFrame n (f + 2) 53 [(0, .inl (.ref 15)), (1, .inl (.int l1)), (2, .inl (.int (s.1 15 16)))] [] (hM nf ns rest s0 s1) (0, 0) = j_X2_getFrame n 29 [(0, .inl (.ref 15)), (1, .inl (.int (l1 + (1 : Int32))))] [] (hM nf ns rest s0 s1) (0, 0) from fun f n => rfl) (f + 3) n).trans ?_
      exact ih (l1 + (1 : Int32)) s1
    · refine ((show ∀ f n : Nat, g_X2_getFrame n (f + 2) 51 [(0, .inl (.ref 15)), (1, .inl (.int l1)), (2, .inl (.int (s.1 15 16)))] [] (hM nf ns rest s0 s1) (0, 0) = some (.inl (some (.inl (.int (s.1 15 16)))), hM nf ns rest s0 s1) from fun f n => rfl) (f + 3) n).trans ?_
      rfl
set_option maxRecDepth 20000 in
theorem e_X2_getFrame_L29 {nf ns : Nat} {rest : am_H} {s0 : KS} : ∀ (n : Nat) (l1 : Int32) (s : KS), j_X2_getFrame n 29 [(0, .inl (.ref 15)), (1, .inl (.int l1))] [] (hM nf ns rest s0 s) (0, 0) = am_lf (hM nf ns rest s0) (p_X2_getFrame_L29 n l1 s)
  | 0, _, _ => by rw [p_X2_getFrame_L29]; rfl
  | n + 1, l1, s => (j_X2_getFrame_g n 29 _ _ _ _).trans (b_X2_getFrame_L29 n (e_X2_getFrame_L29 n) 983 l1 s)
set_option maxRecDepth 20000 in
def p_X2_getFrame_L2 : Nat → Int32 → KS → KR
  | 0, _, _ => none
  | n + 1, l1, s => cond (decide ((s.1 15 1) ≤ l1)) (p_X2_getFrame_L29 (n + 1) (0 : Int32) s) (cond (am_in l1 10) (cond (decide ((0 : Int32) ≤ (s.1 26 l1.toNatClampNeg))) (p_X2_getFrame_L2 n (l1 + (1 : Int32)) s) (some (.inl (some l1), s))) none)
set_option maxRecDepth 20000 in
theorem b_X2_getFrame_L2 {nf ns : Nat} {rest : am_H} {s0 : KS} (n : Nat) (ih : ∀ (l1 : Int32) (s : KS), j_X2_getFrame n 2 [(0, .inl (.ref 15)), (1, .inl (.int l1))] [] (hM nf ns rest s0 s) (0, 0) = am_lf (hM nf ns rest s0) (p_X2_getFrame_L2 n l1 s)) (f : Nat) (l1 : Int32) (s : KS) : g_X2_getFrame n (f + 26) 2 [(0, .inl (.ref 15)), (1, .inl (.int l1))] [] (hM nf ns rest s0 s) (0, 0) = am_lf (hM nf ns rest s0) (p_X2_getFrame_L2 (n + 1) l1 s) := by
  rw [p_X2_getFrame_L2]
  refine ((show ∀ f n : Nat, g_X2_getFrame n (f + 4) 2 [(0, .inl (.ref 15)), (1, .inl (.int l1))] [] (hM nf ns rest s0 s) (0, 0) = cond (decide ((s.1 15 1) ≤ l1)) (g_X2_getFrame n f 27 [(0, .inl (.ref 15)), (1, .inl (.int l1))] [] (hM nf ns rest s0 s) (0, 0)) (g_X2_getFrame n f 10 [(0, .inl (.ref 15)), (1, .inl (.int l1))] [] (hM nf ns rest s0 s) (0, 0)) from fun f n => rfl) (f + 22) n).trans ?_
  refine am_lcd ?_ ?_
  · refine ((show ∀ f n : Nat, g_X2_getFrame n (f + 2) 27 [(0, .inl (.ref 15)), (1, .inl (.int l1))] [] (hM nf ns rest s0 s) (0, 0) = g_X2_getFrame n f 29 [(0, .inl (.ref 15)), (1, .inl (.int (0 : Int32)))] [] (hM nf ns rest s0 s) (0, 0) from fun f n => rfl) (f + 20) n).trans ?_
    exact b_X2_getFrame_L29 n (e_X2_getFrame_L29 n) (f + 3) (0 : Int32) s
  · refine ((show ∀ f n : Nat, g_X2_getFrame n (f + 5) 10 [(0, .inl (.ref 15)), (1, .inl (.int l1))] [] (hM nf ns rest s0 s) (0, 0) = cond (am_in l1 10) (cond (decide ((0 : Int32) ≤ (s.1 26 l1.toNatClampNeg))) (g_X2_getFrame n f 21 [(0, .inl (.ref 15)), (1, .inl (.int l1))] [] (hM nf ns rest s0 s) (0, 0)) (g_X2_getFrame n f 19 [(0, .inl (.ref 15)), (1, .inl (.int l1))] [] (hM nf ns rest s0 s) (0, 0))) none from fun f n => rfl) (f + 17) n).trans ?_
    refine am_lcd (B := none) ?_ rfl
    refine am_lcd ?_ ?_
    · refine ((show ∀ f n : Nat, g_X2_getFrame n (f + 2) 21 [(0, .inl (.ref 15)), (1, .inl (.int l1))] [] (hM nf ns rest s0 s) (0, 0) = j_X2_getFrame n 2 [(0, .inl (.ref 15)), (1, .inl (.int (l1 + (1 : Int32))))] [] (hM nf ns rest s0 s) (0, 0) from fun f n => rfl) (f + 15) n).trans ?_
      exact ih (l1 + (1 : Int32)) s
    · refine ((show ∀ f n : Nat, g_X2_getFrame n (f + 2) 19 [(0, .inl (.ref 15)), (1, .inl (.int l1))] [] (hM nf ns rest s0 s) (0, 0) = some (.inl (some (.inl (.int l1))), hM nf ns rest s0 s) from fun f n => rfl) (f + 15) n).trans ?_
      rfl
set_option maxRecDepth 20000 in
theorem e_X2_getFrame_L2 {nf ns : Nat} {rest : am_H} {s0 : KS} : ∀ (n : Nat) (l1 : Int32) (s : KS), j_X2_getFrame n 2 [(0, .inl (.ref 15)), (1, .inl (.int l1))] [] (hM nf ns rest s0 s) (0, 0) = am_lf (hM nf ns rest s0) (p_X2_getFrame_L2 n l1 s)
  | 0, _, _ => by rw [p_X2_getFrame_L2]; rfl
  | n + 1, l1, s => (j_X2_getFrame_g n 2 _ _ _ _).trans (b_X2_getFrame_L2 n (e_X2_getFrame_L2 n) 974 l1 s)
set_option maxRecDepth 20000 in
def p_X2_getFrame  (s : KS) : KR := p_X2_getFrame_L2 400 (0 : Int32) s
set_option maxRecDepth 20000 in
theorem e_X2_getFrame {nf ns : Nat} {rest : am_H} {s0 : KS}  (s : KS) : F_X2_getFrame [.inl (.ref 15)] (hM nf ns rest s0 s) = am_lf (hM nf ns rest s0) (p_X2_getFrame  s) := by
  rw [p_X2_getFrame]
  refine (show _ = g_X2_getFrame 399 1000 0 [(0, .inl (.ref 15))] [] (hM nf ns rest s0 s) (0, 0) from am_fn_g (Nat.le_of_ble_eq_true rfl)).trans ?_
  refine ((show ∀ f n : Nat, g_X2_getFrame n (f + 2) 0 [(0, .inl (.ref 15))] [] (hM nf ns rest s0 s) (0, 0) = g_X2_getFrame n f 2 [(0, .inl (.ref 15)), (1, .inl (.int (0 : Int32)))] [] (hM nf ns rest s0 s) (0, 0) from fun f n => rfl) 998 399).trans ?_
  exact b_X2_getFrame_L2 399 (e_X2_getFrame_L2 399) 972 (0 : Int32) s
set_option maxRecDepth 20000 in
def g_X2_putIn (n f pc : Nat) (lv : am_Lv) (st : List am_V) (h : am_H) (b : Nat × Nat) : Option am_O := am_go X_X2_putIn 3 none am_rs0 [] [] (am_lp T_X2_putIn X_X2_putIn 3 none am_rs0 [] [] n) f (am_from pc T_X2_putIn) lv st h b
set_option maxRecDepth 20000 in
def j_X2_putIn (n pc : Nat) (lv : am_Lv) (st : List am_V) (h : am_H) (b : Nat × Nat) : Option am_O := am_lp T_X2_putIn X_X2_putIn 3 none am_rs0 [] [] n pc lv st h b
set_option maxRecDepth 20000 in
theorem j_X2_putIn_g (n pc : Nat) (lv : am_Lv) (st : List am_V) (h : am_H) (b : Nat × Nat) : j_X2_putIn (n + 1) pc lv st h b = g_X2_putIn n 1000 pc lv st h b := rfl
set_option maxRecDepth 20000 in
theorem j_X2_putIn_0 (pc : Nat) (lv : am_Lv) (st : List am_V) (h : am_H) (b : Nat × Nat) : j_X2_putIn 0 pc lv st h b = none := rfl
set_option maxRecDepth 20000 in
def p_X2_putIn (a1 : Int32) (a2 : Int32) (s : KS) : KR := cond (am_in a1 70) (cond (am_in a2 10) (cond (am_in a2 10) (some (.inl none, (kS (kS (kS s 25 a1.toNatClampNeg (a2)) 26 a2.toNatClampNeg (a1)) 27 a2.toNatClampNeg (am_nar 1 (1 : Int32))))) none) none) none
set_option maxRecDepth 20000 in
theorem e_X2_putIn {nf ns : Nat} {rest : am_H} {s0 : KS} (a1 : Int32) (a2 : Int32) (s : KS) : F_X2_putIn [.inl (.ref 15), .inl (.int a1), .inl (.int a2)] (hM nf ns rest s0 s) = am_lf (hM nf ns rest s0) (p_X2_putIn a1 a2 s) := by
  rw [p_X2_putIn]
  refine (show _ = g_X2_putIn 399 1000 0 [(0, .inl (.ref 15)), (1, .inl (.int a1)), (2, .inl (.int a2))] [] (hM nf ns rest s0 s) (0, 0) from am_fn_g (Nat.le_of_ble_eq_true rfl)).trans ?_
  refine ((show ∀ f n : Nat, g_X2_putIn n (f + 16) 0 [(0, .inl (.ref 15)), (1, .inl (.int a1)), (2, .inl (.int a2))] [] (hM nf ns rest s0 s) (0, 0) = cond (am_in a1 70) (cond (am_in a2 10) (cond (am_in a2 10) (some (.inl none, hM nf ns rest s0 (kS (kS (kS s 25 a1.toNatClampNeg (a2)) 26 a2.toNatClampNeg (a1)) 27 a2.toNatClampNeg (am_nar 1 (1 : Int32))))) none) none) none from fun f n => rfl) 984 399).trans ?_
  refine am_lcd (B := none) ?_ rfl
  refine am_lcd (B := none) ?_ rfl
  refine am_lcd (B := none) ?_ rfl
  rfl
set_option maxRecDepth 20000 in
def g_X2_touch (n f pc : Nat) (lv : am_Lv) (st : List am_V) (h : am_H) (b : Nat × Nat) : Option am_O := am_go X_X2_touch 3 (some .boolean) am_rs0 [] [] (am_lp T_X2_touch X_X2_touch 3 (some .boolean) am_rs0 [] [] n) f (am_from pc T_X2_touch) lv st h b
set_option maxRecDepth 20000 in
def j_X2_touch (n pc : Nat) (lv : am_Lv) (st : List am_V) (h : am_H) (b : Nat × Nat) : Option am_O := am_lp T_X2_touch X_X2_touch 3 (some .boolean) am_rs0 [] [] n pc lv st h b
set_option maxRecDepth 20000 in
theorem j_X2_touch_g (n pc : Nat) (lv : am_Lv) (st : List am_V) (h : am_H) (b : Nat × Nat) : j_X2_touch (n + 1) pc lv st h b = g_X2_touch n 1000 pc lv st h b := rfl
set_option maxRecDepth 20000 in
theorem j_X2_touch_0 (pc : Nat) (lv : am_Lv) (st : List am_V) (h : am_H) (b : Nat × Nat) : j_X2_touch 0 pc lv st h b = none := rfl
set_option maxRecDepth 20000 in
def p_X2_touch (a1 : Int32) (s : KS) : KR := cond (am_in a1 70) (cond (decide ((s.1 25 a1.toNatClampNeg) < (0 : Int32))) (kbi (p_X2_getFrame  s) (fun x2 s1 => cond (decide ((0 : Int32) ≤ x2)) (cond (am_in a1 70) (cond (decide ((s1.1 25 a1.toNatClampNeg) < (100 : Int32))) (kbv (p_X2_putIn a1 x2 s1) (fun s3 => cond (am_in a1 70) (cond (am_in ((kS s3 15 17 ((s3.1 15 17) + (1 : Int32))).1 25 a1.toNatClampNeg) 10) (some (.inl (some (1 : Int32)), (kS (kS s3 15 17 ((s3.1 15 17) + (1 : Int32))) 27 ((kS s3 15 17 ((s3.1 15 17) + (1 : Int32))).1 25 a1.toNatClampNeg).toNatClampNeg (am_nar 1 (1 : Int32))))) none) none)) (cond (am_in a1 70) (cond (am_in ((s1.1 25 a1.toNatClampNeg) - (100 : Int32)) 20) (kbv (p_X2_putIn a1 x2 (kS s1 28 ((s1.1 25 a1.toNatClampNeg) - (100 : Int32)).toNatClampNeg (am_nar 1 (0 : Int32)))) (fun s4 => cond (am_in a1 70) (cond (am_in ((kS s4 15 17 ((s4.1 15 17) + (1 : Int32))).1 25 a1.toNatClampNeg) 10) (some (.inl (some (1 : Int32)), (kS (kS s4 15 17 ((s4.1 15 17) + (1 : Int32))) 27 ((kS s4 15 17 ((s4.1 15 17) + (1 : Int32))).1 25 a1.toNatClampNeg).toNatClampNeg (am_nar 1 (1 : Int32))))) none) none)) none) none)) none) (some (.inl (some (0 : Int32)), s1)))) (cond (am_in a1 70) (cond (decide ((s.1 25 a1.toNatClampNeg) < (100 : Int32))) (cond (am_in a1 70) (cond (am_in (s.1 25 a1.toNatClampNeg) 10) (some (.inl (some (1 : Int32)), (kS s 27 (s.1 25 a1.toNatClampNeg).toNatClampNeg (am_nar 1 (1 : Int32))))) none) none) (kbi (p_X2_getFrame  s) (fun x6 s5 => cond (decide ((0 : Int32) ≤ x6)) (cond (am_in a1 70) (cond (decide ((s5.1 25 a1.toNatClampNeg) < (100 : Int32))) (kbv (p_X2_putIn a1 x6 s5) (fun s7 => cond (am_in a1 70) (cond (am_in ((kS s7 15 17 ((s7.1 15 17) + (1 : Int32))).1 25 a1.toNatClampNeg) 10) (some (.inl (some (1 : Int32)), (kS (kS s7 15 17 ((s7.1 15 17) + (1 : Int32))) 27 ((kS s7 15 17 ((s7.1 15 17) + (1 : Int32))).1 25 a1.toNatClampNeg).toNatClampNeg (am_nar 1 (1 : Int32))))) none) none)) (cond (am_in a1 70) (cond (am_in ((s5.1 25 a1.toNatClampNeg) - (100 : Int32)) 20) (kbv (p_X2_putIn a1 x6 (kS s5 28 ((s5.1 25 a1.toNatClampNeg) - (100 : Int32)).toNatClampNeg (am_nar 1 (0 : Int32)))) (fun s8 => cond (am_in a1 70) (cond (am_in ((kS s8 15 17 ((s8.1 15 17) + (1 : Int32))).1 25 a1.toNatClampNeg) 10) (some (.inl (some (1 : Int32)), (kS (kS s8 15 17 ((s8.1 15 17) + (1 : Int32))) 27 ((kS s8 15 17 ((s8.1 15 17) + (1 : Int32))).1 25 a1.toNatClampNeg).toNatClampNeg (am_nar 1 (1 : Int32))))) none) none)) none) none)) none) (some (.inl (some (0 : Int32)), s5))))) none)) none
set_option maxRecDepth 20000 in
theorem e_X2_touch {nf ns : Nat} {rest : am_H} {s0 : KS} (a1 : Int32) (s : KS) : F_X2_touch [.inl (.ref 15), .inl (.int a1)] (hM nf ns rest s0 s) = am_lf (hM nf ns rest s0) (p_X2_touch a1 s) := by
  rw [p_X2_touch]
  refine (show _ = g_X2_touch 399 1000 0 [(0, .inl (.ref 15)), (1, .inl (.int a1))] [] (hM nf ns rest s0 s) (0, 0) from am_fn_g (Nat.le_of_ble_eq_true rfl)).trans ?_
  refine ((show ∀ f n : Nat, g_X2_touch n (f + 5) 0 [(0, .inl (.ref 15)), (1, .inl (.int a1))] [] (hM nf ns rest s0 s) (0, 0) = cond (am_in a1 70) (cond (decide ((s.1 25 a1.toNatClampNeg) < (0 : Int32))) (g_X2_touch n f 20 [(0, .inl (.ref 15)), (1, .inl (.int a1))] [] (hM nf ns rest s0 s) (0, 0)) (g_X2_touch n f 9 [(0, .inl (.ref 15)), (1, .inl (.int a1))] [] (hM nf ns rest s0 s) (0, 0))) none from fun f n => rfl) 995 399).trans ?_
  refine am_lcd (B := none) ?_ rfl
  refine am_lcd ?_ ?_
  · refine ((show ∀ f n : Nat, g_X2_touch n (f + 2) 20 [(0, .inl (.ref 15)), (1, .inl (.int a1))] [] (hM nf ns rest s0 s) (0, 0) = am_ri (F_X2_getFrame [.inl (.ref 15)] (hM nf ns rest s0 s)) (fun x2 h => g_X2_touch n f 24 [(0, .inl (.ref 15)), (1, .inl (.int a1))] [.inl (.int x2)] h (0, 0)) (fun x h => some (.inr x, h)) from fun f n => rfl) 993 399).trans ?_
    rw [e_X2_getFrame  s]
    refine am_lbi (fun x2 s1 => ?_) (fun _ _ => rfl)
    refine ((show ∀ f n : Nat, g_X2_touch n (f + 3) 24 [(0, .inl (.ref 15)), (1, .inl (.int a1))] [.inl (.int x2)] (hM nf ns rest s0 s1) (0, 0) = cond (decide ((0 : Int32) ≤ x2)) (g_X2_touch n f 31 [(0, .inl (.ref 15)), (1, .inl (.int a1)), (2, .inl (.int x2))] [] (hM nf ns rest s0 s1) (0, 0)) (g_X2_touch n f 29 [(0, .inl (.ref 15)), (1, .inl (.int a1)), (2, .inl (.int x2))] [] (hM nf ns rest s0 s1) (0, 0)) from fun f n => rfl) 990 399).trans ?_
    refine am_lcd ?_ ?_
    · refine ((show ∀ f n : Nat, g_X2_touch n (f + 6) 31 [(0, .inl (.ref 15)), (1, .inl (.int a1)), (2, .inl (.int x2))] [] (hM nf ns rest s0 s1) (0, 0) = cond (am_in a1 70) (cond (decide ((s1.1 25 a1.toNatClampNeg) < (100 : Int32))) (g_X2_touch n f 57 [(0, .inl (.ref 15)), (1, .inl (.int a1)), (2, .inl (.int x2))] [] (hM nf ns rest s0 s1) (0, 0)) (g_X2_touch n f 42 [(0, .inl (.ref 15)), (1, .inl (.int a1)), (2, .inl (.int x2))] [] (hM nf ns rest s0 s1) (0, 0))) none from fun f n => rfl) 984 399).trans ?_
      refine am_lcd (B := none) ?_ rfl
      refine am_lcd ?_ ?_
      · refine ((show ∀ f n : Nat, g_X2_touch n (f + 4) 57 [(0, .inl (.ref 15)), (1, .inl (.int a1)), (2, .inl (.int x2))] [] (hM nf ns rest s0 s1) (0, 0) = am_rv (F_X2_putIn [.inl (.ref 15), .inl (.int a1), .inl (.int x2)] (hM nf ns rest s0 s1)) (fun h => g_X2_touch n f 63 [(0, .inl (.ref 15)), (1, .inl (.int a1)), (2, .inl (.int x2))] [] h (0, 0)) (fun x h => some (.inr x, h)) from fun f n => rfl) 980 399).trans ?_
        rw [e_X2_putIn a1 x2 s1]
        refine am_lbv (fun s3 => ?_) (fun _ _ => rfl)
        refine ((show ∀ f n : Nat, g_X2_touch n (f + 16) 63 [(0, .inl (.ref 15)), (1, .inl (.int a1)), (2, .inl (.int x2))] [] (hM nf ns rest s0 s3) (0, 0) = cond (am_in a1 70) (cond (am_in ((kS s3 15 17 ((s3.1 15 17) + (1 : Int32))).1 25 a1.toNatClampNeg) 10) (some (.inl (some (.inl (.int (1 : Int32)))), hM nf ns rest s0 (kS (kS s3 15 17 ((s3.1 15 17) + (1 : Int32))) 27 ((kS s3 15 17 ((s3.1 15 17) + (1 : Int32))).1 25 a1.toNatClampNeg).toNatClampNeg (am_nar 1 (1 : Int32))))) none) none from fun f n => rfl) 964 399).trans ?_
        refine am_lcd (B := none) ?_ rfl
        refine am_lcd (B := none) ?_ rfl
        rfl
      · refine ((show ∀ f n : Nat, g_X2_touch n (f + 14) 42 [(0, .inl (.ref 15)), (1, .inl (.int a1)), (2, .inl (.int x2))] [] (hM nf ns rest s0 s1) (0, 0) = cond (am_in a1 70) (cond (am_in ((s1.1 25 a1.toNatClampNeg) - (100 : Int32)) 20) (am_rv (F_X2_putIn [.inl (.ref 15), .inl (.int a1), .inl (.int x2)] (hM nf ns rest s0 (kS s1 28 ((s1.1 25 a1.toNatClampNeg) - (100 : Int32)).toNatClampNeg (am_nar 1 (0 : Int32))))) (fun h => g_X2_touch n f 63 [(0, .inl (.ref 15)), (1, .inl (.int a1)), (2, .inl (.int x2))] [] h (0, 0)) (fun x h => some (.inr x, h))) none) none from fun f n => rfl) 970 399).trans ?_
        refine am_lcd (B := none) ?_ rfl
        refine am_lcd (B := none) ?_ rfl
        rw [e_X2_putIn a1 x2 (kS s1 28 ((s1.1 25 a1.toNatClampNeg) - (100 : Int32)).toNatClampNeg (am_nar 1 (0 : Int32)))]
        refine am_lbv (fun s4 => ?_) (fun _ _ => rfl)
        refine ((show ∀ f n : Nat, g_X2_touch n (f + 16) 63 [(0, .inl (.ref 15)), (1, .inl (.int a1)), (2, .inl (.int x2))] [] (hM nf ns rest s0 s4) (0, 0) = cond (am_in a1 70) (cond (am_in ((kS s4 15 17 ((s4.1 15 17) + (1 : Int32))).1 25 a1.toNatClampNeg) 10) (some (.inl (some (.inl (.int (1 : Int32)))), hM nf ns rest s0 (kS (kS s4 15 17 ((s4.1 15 17) + (1 : Int32))) 27 ((kS s4 15 17 ((s4.1 15 17) + (1 : Int32))).1 25 a1.toNatClampNeg).toNatClampNeg (am_nar 1 (1 : Int32))))) none) none from fun f n => rfl) 954 399).trans ?_
        refine am_lcd (B := none) ?_ rfl
        refine am_lcd (B := none) ?_ rfl
        rfl
    · refine ((show ∀ f n : Nat, g_X2_touch n (f + 2) 29 [(0, .inl (.ref 15)), (1, .inl (.int a1)), (2, .inl (.int x2))] [] (hM nf ns rest s0 s1) (0, 0) = some (.inl (some (.inl (.int (0 : Int32)))), hM nf ns rest s0 s1) from fun f n => rfl) 988 399).trans ?_
      rfl
  · refine ((show ∀ f n : Nat, g_X2_touch n (f + 6) 9 [(0, .inl (.ref 15)), (1, .inl (.int a1))] [] (hM nf ns rest s0 s) (0, 0) = cond (am_in a1 70) (cond (decide ((s.1 25 a1.toNatClampNeg) < (100 : Int32))) (g_X2_touch n f 73 [(0, .inl (.ref 15)), (1, .inl (.int a1))] [] (hM nf ns rest s0 s) (0, 0)) (g_X2_touch n f 20 [(0, .inl (.ref 15)), (1, .inl (.int a1))] [] (hM nf ns rest s0 s) (0, 0))) none from fun f n => rfl) 989 399).trans ?_
    refine am_lcd (B := none) ?_ rfl
    refine am_lcd ?_ ?_
    · refine ((show ∀ f n : Nat, g_X2_touch n (f + 10) 73 [(0, .inl (.ref 15)), (1, .inl (.int a1))] [] (hM nf ns rest s0 s) (0, 0) = cond (am_in a1 70) (cond (am_in (s.1 25 a1.toNatClampNeg) 10) (some (.inl (some (.inl (.int (1 : Int32)))), hM nf ns rest s0 (kS s 27 (s.1 25 a1.toNatClampNeg).toNatClampNeg (am_nar 1 (1 : Int32))))) none) none from fun f n => rfl) 979 399).trans ?_
      refine am_lcd (B := none) ?_ rfl
      refine am_lcd (B := none) ?_ rfl
      rfl
    · refine ((show ∀ f n : Nat, g_X2_touch n (f + 2) 20 [(0, .inl (.ref 15)), (1, .inl (.int a1))] [] (hM nf ns rest s0 s) (0, 0) = am_ri (F_X2_getFrame [.inl (.ref 15)] (hM nf ns rest s0 s)) (fun x6 h => g_X2_touch n f 24 [(0, .inl (.ref 15)), (1, .inl (.int a1))] [.inl (.int x6)] h (0, 0)) (fun x h => some (.inr x, h)) from fun f n => rfl) 987 399).trans ?_
      rw [e_X2_getFrame  s]
      refine am_lbi (fun x6 s5 => ?_) (fun _ _ => rfl)
      refine ((show ∀ f n : Nat, g_X2_touch n (f + 3) 24 [(0, .inl (.ref 15)), (1, .inl (.int a1))] [.inl (.int x6)] (hM nf ns rest s0 s5) (0, 0) = cond (decide ((0 : Int32) ≤ x6)) (g_X2_touch n f 31 [(0, .inl (.ref 15)), (1, .inl (.int a1)), (2, .inl (.int x6))] [] (hM nf ns rest s0 s5) (0, 0)) (g_X2_touch n f 29 [(0, .inl (.ref 15)), (1, .inl (.int a1)), (2, .inl (.int x6))] [] (hM nf ns rest s0 s5) (0, 0)) from fun f n => rfl) 984 399).trans ?_
      refine am_lcd ?_ ?_
      · refine ((show ∀ f n : Nat, g_X2_touch n (f + 6) 31 [(0, .inl (.ref 15)), (1, .inl (.int a1)), (2, .inl (.int x6))] [] (hM nf ns rest s0 s5) (0, 0) = cond (am_in a1 70) (cond (decide ((s5.1 25 a1.toNatClampNeg) < (100 : Int32))) (g_X2_touch n f 57 [(0, .inl (.ref 15)), (1, .inl (.int a1)), (2, .inl (.int x6))] [] (hM nf ns rest s0 s5) (0, 0)) (g_X2_touch n f 42 [(0, .inl (.ref 15)), (1, .inl (.int a1)), (2, .inl (.int x6))] [] (hM nf ns rest s0 s5) (0, 0))) none from fun f n => rfl) 978 399).trans ?_
        refine am_lcd (B := none) ?_ rfl
        refine am_lcd ?_ ?_
        · refine ((show ∀ f n : Nat, g_X2_touch n (f + 4) 57 [(0, .inl (.ref 15)), (1, .inl (.int a1)), (2, .inl (.int x6))] [] (hM nf ns rest s0 s5) (0, 0) = am_rv (F_X2_putIn [.inl (.ref 15), .inl (.int a1), .inl (.int x6)] (hM nf ns rest s0 s5)) (fun h => g_X2_touch n f 63 [(0, .inl (.ref 15)), (1, .inl (.int a1)), (2, .inl (.int x6))] [] h (0, 0)) (fun x h => some (.inr x, h)) from fun f n => rfl) 974 399).trans ?_
          rw [e_X2_putIn a1 x6 s5]
          refine am_lbv (fun s7 => ?_) (fun _ _ => rfl)
          refine ((show ∀ f n : Nat, g_X2_touch n (f + 16) 63 [(0, .inl (.ref 15)), (1, .inl (.int a1)), (2, .inl (.int x6))] [] (hM nf ns rest s0 s7) (0, 0) = cond (am_in a1 70) (cond (am_in ((kS s7 15 17 ((s7.1 15 17) + (1 : Int32))).1 25 a1.toNatClampNeg) 10) (some (.inl (some (.inl (.int (1 : Int32)))), hM nf ns rest s0 (kS (kS s7 15 17 ((s7.1 15 17) + (1 : Int32))) 27 ((kS s7 15 17 ((s7.1 15 17) + (1 : Int32))).1 25 a1.toNatClampNeg).toNatClampNeg (am_nar 1 (1 : Int32))))) none) none from fun f n => rfl) 958 399).trans ?_
          refine am_lcd (B := none) ?_ rfl
          refine am_lcd (B := none) ?_ rfl
          rfl
        · refine ((show ∀ f n : Nat, g_X2_touch n (f + 14) 42 [(0, .inl (.ref 15)), (1, .inl (.int a1)), (2, .inl (.int x6))] [] (hM nf ns rest s0 s5) (0, 0) = cond (am_in a1 70) (cond (am_in ((s5.1 25 a1.toNatClampNeg) - (100 : Int32)) 20) (am_rv (F_X2_putIn [.inl (.ref 15), .inl (.int a1), .inl (.int x6)] (hM nf ns rest s0 (kS s5 28 ((s5.1 25 a1.toNatClampNeg) - (100 : Int32)).toNatClampNeg (am_nar 1 (0 : Int32))))) (fun h => g_X2_touch n f 63 [(0, .inl (.ref 15)), (1, .inl (.int a1)), (2, .inl (.int x6))] [] h (0, 0)) (fun x h => some (.inr x, h))) none) none from fun f n => rfl) 964 399).trans ?_
          refine am_lcd (B := none) ?_ rfl
          refine am_lcd (B := none) ?_ rfl
          rw [e_X2_putIn a1 x6 (kS s5 28 ((s5.1 25 a1.toNatClampNeg) - (100 : Int32)).toNatClampNeg (am_nar 1 (0 : Int32)))]
          refine am_lbv (fun s8 => ?_) (fun _ _ => rfl)
          refine ((show ∀ f n : Nat, g_X2_touch n (f + 16) 63 [(0, .inl (.ref 15)), (1, .inl (.int a1)), (2, .inl (.int x6))] [] (hM nf ns rest s0 s8) (0, 0) = cond (am_in a1 70) (cond (am_in ((kS s8 15 17 ((s8.1 15 17) + (1 : Int32))).1 25 a1.toNatClampNeg) 10) (some (.inl (some (.inl (.int (1 : Int32)))), hM nf ns rest s0 (kS (kS s8 15 17 ((s8.1 15 17) + (1 : Int32))) 27 ((kS s8 15 17 ((s8.1 15 17) + (1 : Int32))).1 25 a1.toNatClampNeg).toNatClampNeg (am_nar 1 (1 : Int32))))) none) none from fun f n => rfl) 948 399).trans ?_
          refine am_lcd (B := none) ?_ rfl
          refine am_lcd (B := none) ?_ rfl
          rfl
      · refine ((show ∀ f n : Nat, g_X2_touch n (f + 2) 29 [(0, .inl (.ref 15)), (1, .inl (.int a1)), (2, .inl (.int x6))] [] (hM nf ns rest s0 s5) (0, 0) = some (.inl (some (.inl (.int (0 : Int32)))), hM nf ns rest s0 s5) from fun f n => rfl) 982 399).trans ?_
        rfl
set_option maxRecDepth 20000 in
def g_X2_wordOf (n f pc : Nat) (lv : am_Lv) (st : List am_V) (h : am_H) (b : Nat × Nat) : Option am_O := am_go X_X2_wordOf 3 (some .int) am_rs0 [] [] (am_lp T_X2_wordOf X_X2_wordOf 3 (some .int) am_rs0 [] [] n) f (am_from pc T_X2_wordOf) lv st h b
set_option maxRecDepth 20000 in
def j_X2_wordOf (n pc : Nat) (lv : am_Lv) (st : List am_V) (h : am_H) (b : Nat × Nat) : Option am_O := am_lp T_X2_wordOf X_X2_wordOf 3 (some .int) am_rs0 [] [] n pc lv st h b
set_option maxRecDepth 20000 in
theorem j_X2_wordOf_g (n pc : Nat) (lv : am_Lv) (st : List am_V) (h : am_H) (b : Nat × Nat) : j_X2_wordOf (n + 1) pc lv st h b = g_X2_wordOf n 1000 pc lv st h b := rfl
set_option maxRecDepth 20000 in
theorem j_X2_wordOf_0 (pc : Nat) (lv : am_Lv) (st : List am_V) (h : am_H) (b : Nat × Nat) : j_X2_wordOf 0 pc lv st h b = none := rfl
set_option maxRecDepth 20000 in
def p_X2_wordOf (a1 : Int32) (a2 : Int32) (s : KS) : KR := cond (decide (a1 < (64 : Int32))) (cond (am_in (((4 : Int32) * a1) + (a2 - a2 / (4 : Int32) * (4 : Int32))) 256) (some (.inl (some (s.1 23 (((4 : Int32) * a1) + (a2 - a2 / (4 : Int32) * (4 : Int32))).toNatClampNeg)), s)) none) (some (.inl (some ((((100 : Int32) * ((a1 - (64 : Int32)) / (2 : Int32))) + ((10 : Int32) * (a1 - a1 / (2 : Int32) * (2 : Int32)))) + (a2 - a2 / (4 : Int32) * (4 : Int32)))), s))
set_option maxRecDepth 20000 in
theorem e_X2_wordOf {nf ns : Nat} {rest : am_H} {s0 : KS} (a1 : Int32) (a2 : Int32) (s : KS) : F_X2_wordOf [.inl (.ref 15), .inl (.int a1), .inl (.int a2)] (hM nf ns rest s0 s) = am_lf (hM nf ns rest s0) (p_X2_wordOf a1 a2 s) := by
  rw [p_X2_wordOf]
  refine (show _ = g_X2_wordOf 399 1000 0 [(0, .inl (.ref 15)), (1, .inl (.int a1)), (2, .inl (.int a2))] [] (hM nf ns rest s0 s) (0, 0) from am_fn_g (Nat.le_of_ble_eq_true rfl)).trans ?_
  refine ((show ∀ f n : Nat, g_X2_wordOf n (f + 3) 0 [(0, .inl (.ref 15)), (1, .inl (.int a1)), (2, .inl (.int a2))] [] (hM nf ns rest s0 s) (0, 0) = cond (decide (a1 < (64 : Int32))) (g_X2_wordOf n f 29 [(0, .inl (.ref 15)), (1, .inl (.int a1)), (2, .inl (.int a2))] [] (hM nf ns rest s0 s) (0, 0)) (g_X2_wordOf n f 6 [(0, .inl (.ref 15)), (1, .inl (.int a1)), (2, .inl (.int a2))] [] (hM nf ns rest s0 s) (0, 0)) from fun f n => rfl) 997 399).trans ?_
  refine am_lcd ?_ ?_
  · refine ((show ∀ f n : Nat, g_X2_wordOf n (f + 11) 29 [(0, .inl (.ref 15)), (1, .inl (.int a1)), (2, .inl (.int a2))] [] (hM nf ns rest s0 s) (0, 0) = cond (am_in (((4 : Int32) * a1) + (a2 - a2 / (4 : Int32) * (4 : Int32))) 256) (some (.inl (some (.inl (.int (s.1 23 (((4 : Int32) * a1) + (a2 - a2 / (4 : Int32) * (4 : Int32))).toNatClampNeg)))), hM nf ns rest s0 s)) none from fun f n => rfl) 986 399).trans ?_
    refine am_lcd (B := none) ?_ rfl
    rfl
  · refine ((show ∀ f n : Nat, g_X2_wordOf n (f + 19) 6 [(0, .inl (.ref 15)), (1, .inl (.int a1)), (2, .inl (.int a2))] [] (hM nf ns rest s0 s) (0, 0) = some (.inl (some (.inl (.int ((((100 : Int32) * ((a1 - (64 : Int32)) / (2 : Int32))) + ((10 : Int32) * (a1 - a1 / (2 : Int32) * (2 : Int32)))) + (a2 - a2 / (4 : Int32) * (4 : Int32)))))), hM nf ns rest s0 s) from fun f n => rfl) 978 399).trans ?_
    rfl
set_option maxRecDepth 20000 in
def g_X2_read (n f pc : Nat) (lv : am_Lv) (st : List am_V) (h : am_H) (b : Nat × Nat) : Option am_O := am_go X_X2_read 4 (some .int) am_rs0 [] [] (am_lp T_X2_read X_X2_read 4 (some .int) am_rs0 [] [] n) f (am_from pc T_X2_read) lv st h b
set_option maxRecDepth 20000 in
def j_X2_read (n pc : Nat) (lv : am_Lv) (st : List am_V) (h : am_H) (b : Nat × Nat) : Option am_O := am_lp T_X2_read X_X2_read 4 (some .int) am_rs0 [] [] n pc lv st h b
set_option maxRecDepth 20000 in
theorem j_X2_read_g (n pc : Nat) (lv : am_Lv) (st : List am_V) (h : am_H) (b : Nat × Nat) : j_X2_read (n + 1) pc lv st h b = g_X2_read n 1000 pc lv st h b := rfl
set_option maxRecDepth 20000 in
theorem j_X2_read_0 (pc : Nat) (lv : am_Lv) (st : List am_V) (h : am_H) (b : Nat × Nat) : j_X2_read 0 pc lv st h b = none := rfl
set_option maxRecDepth 20000 in
def p_X2_read (a1 : Int32) (a2 : Int32) (s : KS) : KR := kbi (p_X2_out a1 (6 : Int32) (kS s 15 0 (0 : Int32))) (fun x2 s1 => cond (!decide (x2 = (0 : Int32))) (kbi (p_X2_fail (1 : Int32) s1) (fun x4 s3 => some (.inl (some x4), s3))) (kbi (p_X2_out a2 (44 : Int32) s1) (fun x6 s5 => cond (decide (x6 = (0 : Int32))) (kbi (p_X2_notRunning a1 s5) (fun x8 s7 => cond (decide (x8 = (0 : Int32))) (kbv (p_X2_growStack a1 a2 s7) (fun s9 => kbi (p_X2_pageOf a1 a2 s9) (fun x11 s10 => cond (decide ((0 : Int32) ≤ x11)) (kbi (p_X2_touch x11 s10) (fun x13 s12 => cond (decide (x13 = (0 : Int32))) (kbi (p_X2_fail (4 : Int32) s12) (fun x15 s14 => some (.inl (some x15), s14))) (kbi (p_X2_wordOf x11 a2 s12) (fun x17 s16 => some (.inl (some x17), s16))))) (kbi (p_X2_fail (3 : Int32) s10) (fun x19 s18 => some (.inl (some x19), s18)))))) (kbi (p_X2_fail (2 : Int32) s7) (fun x21 s20 => some (.inl (some x21), s20))))) (kbi (p_X2_fail (1 : Int32) s5) (fun x23 s22 => some (.inl (some x23), s22))))))
set_option maxRecDepth 20000 in
theorem e_X2_read {nf ns : Nat} {rest : am_H} {s0 : KS} (a1 : Int32) (a2 : Int32) (s : KS) : F_X2_read [.inl (.ref 15), .inl (.int a1), .inl (.int a2)] (hM nf ns rest s0 s) = am_lf (hM nf ns rest s0) (p_X2_read a1 a2 s) := by
  rw [p_X2_read]
  refine (show _ = g_X2_read 399 1000 0 [(0, .inl (.ref 15)), (1, .inl (.int a1)), (2, .inl (.int a2))] [] (hM nf ns rest s0 s) (0, 0) from am_fn_g (Nat.le_of_ble_eq_true rfl)).trans ?_
  refine ((show ∀ f n : Nat, g_X2_read n (f + 7) 0 [(0, .inl (.ref 15)), (1, .inl (.int a1)), (2, .inl (.int a2))] [] (hM nf ns rest s0 s) (0, 0) = am_ri (F_X2_out [.inl (.ref 15), .inl (.int a1), .inl (.int (6 : Int32))] (hM nf ns rest s0 (kS s 15 0 (0 : Int32)))) (fun x2 h => g_X2_read n f 12 [(0, .inl (.ref 15)), (1, .inl (.int a1)), (2, .inl (.int a2))] [.inl (.int x2)] h (0, 0)) (fun x h => some (.inr x, h)) from fun f n => rfl) 993 399).trans ?_
  rw [e_X2_out a1 (6 : Int32) (kS s 15 0 (0 : Int32))]
  refine am_lbi (fun x2 s1 => ?_) (fun _ _ => rfl)
  refine ((show ∀ f n : Nat, g_X2_read n (f + 1) 12 [(0, .inl (.ref 15)), (1, .inl (.int a1)), (2, .inl (.int a2))] [.inl (.int x2)] (hM nf ns rest s0 s1) (0, 0) = cond (!decide (x2 = (0 : Int32))) (g_X2_read n f 25 [(0, .inl (.ref 15)), (1, .inl (.int a1)), (2, .inl (.int a2))] [] (hM nf ns rest s0 s1) (0, 0)) (g_X2_read n f 15 [(0, .inl (.ref 15)), (1, .inl (.int a1)), (2, .inl (.int a2))] [] (hM nf ns rest s0 s1) (0, 0)) from fun f n => rfl) 992 399).trans ?_
  refine am_lcd ?_ ?_
  · refine ((show ∀ f n : Nat, g_X2_read n (f + 3) 25 [(0, .inl (.ref 15)), (1, .inl (.int a1)), (2, .inl (.int a2))] [] (hM nf ns rest s0 s1) (0, 0) = am_ri (F_X2_fail [.inl (.ref 15), .inl (.int (1 : Int32))] (hM nf ns rest s0 s1)) (fun x4 h => g_X2_read n f 30 [(0, .inl (.ref 15)), (1, .inl (.int a1)), (2, .inl (.int a2))] [.inl (.int x4)] h (0, 0)) (fun x h => some (.inr x, h)) from fun f n => rfl) 989 399).trans ?_
    rw [e_X2_fail (1 : Int32) s1]
    refine am_lbi (fun x4 s3 => ?_) (fun _ _ => rfl)
    refine ((show ∀ f n : Nat, g_X2_read n (f + 1) 30 [(0, .inl (.ref 15)), (1, .inl (.int a1)), (2, .inl (.int a2))] [.inl (.int x4)] (hM nf ns rest s0 s3) (0, 0) = some (.inl (some (.inl (.int x4))), hM nf ns rest s0 s3) from fun f n => rfl) 988 399).trans ?_
    rfl
  · refine ((show ∀ f n : Nat, g_X2_read n (f + 4) 15 [(0, .inl (.ref 15)), (1, .inl (.int a1)), (2, .inl (.int a2))] [] (hM nf ns rest s0 s1) (0, 0) = am_ri (F_X2_out [.inl (.ref 15), .inl (.int a2), .inl (.int (44 : Int32))] (hM nf ns rest s0 s1)) (fun x6 h => g_X2_read n f 22 [(0, .inl (.ref 15)), (1, .inl (.int a1)), (2, .inl (.int a2))] [.inl (.int x6)] h (0, 0)) (fun x h => some (.inr x, h)) from fun f n => rfl) 988 399).trans ?_
    rw [e_X2_out a2 (44 : Int32) s1]
    refine am_lbi (fun x6 s5 => ?_) (fun _ _ => rfl)
    refine ((show ∀ f n : Nat, g_X2_read n (f + 1) 22 [(0, .inl (.ref 15)), (1, .inl (.int a1)), (2, .inl (.int a2))] [.inl (.int x6)] (hM nf ns rest s0 s5) (0, 0) = cond (decide (x6 = (0 : Int32))) (g_X2_read n f 31 [(0, .inl (.ref 15)), (1, .inl (.int a1)), (2, .inl (.int a2))] [] (hM nf ns rest s0 s5) (0, 0)) (g_X2_read n f 25 [(0, .inl (.ref 15)), (1, .inl (.int a1)), (2, .inl (.int a2))] [] (hM nf ns rest s0 s5) (0, 0)) from fun f n => rfl) 987 399).trans ?_
    refine am_lcd ?_ ?_
    · refine ((show ∀ f n : Nat, g_X2_read n (f + 3) 31 [(0, .inl (.ref 15)), (1, .inl (.int a1)), (2, .inl (.int a2))] [] (hM nf ns rest s0 s5) (0, 0) = am_ri (F_X2_notRunning [.inl (.ref 15), .inl (.int a1)] (hM nf ns rest s0 s5)) (fun x8 h => g_X2_read n f 36 [(0, .inl (.ref 15)), (1, .inl (.int a1)), (2, .inl (.int a2))] [.inl (.int x8)] h (0, 0)) (fun x h => some (.inr x, h)) from fun f n => rfl) 984 399).trans ?_
      rw [e_X2_notRunning a1 s5]
      refine am_lbi (fun x8 s7 => ?_) (fun _ _ => rfl)
      refine ((show ∀ f n : Nat, g_X2_read n (f + 1) 36 [(0, .inl (.ref 15)), (1, .inl (.int a1)), (2, .inl (.int a2))] [.inl (.int x8)] (hM nf ns rest s0 s7) (0, 0) = cond (decide (x8 = (0 : Int32))) (g_X2_read n f 45 [(0, .inl (.ref 15)), (1, .inl (.int a1)), (2, .inl (.int a2))] [] (hM nf ns rest s0 s7) (0, 0)) (g_X2_read n f 39 [(0, .inl (.ref 15)), (1, .inl (.int a1)), (2, .inl (.int a2))] [] (hM nf ns rest s0 s7) (0, 0)) from fun f n => rfl) 983 399).trans ?_
      refine am_lcd ?_ ?_
      · refine ((show ∀ f n : Nat, g_X2_read n (f + 4) 45 [(0, .inl (.ref 15)), (1, .inl (.int a1)), (2, .inl (.int a2))] [] (hM nf ns rest s0 s7) (0, 0) = am_rv (F_X2_growStack [.inl (.ref 15), .inl (.int a1), .inl (.int a2)] (hM nf ns rest s0 s7)) (fun h => g_X2_read n f 51 [(0, .inl (.ref 15)), (1, .inl (.int a1)), (2, .inl (.int a2))] [] h (0, 0)) (fun x h => some (.inr x, h)) from fun f n => rfl) 979 399).trans ?_
        rw [e_X2_growStack a1 a2 s7]
        refine am_lbv (fun s9 => ?_) (fun _ _ => rfl)
        refine ((show ∀ f n : Nat, g_X2_read n (f + 4) 51 [(0, .inl (.ref 15)), (1, .inl (.int a1)), (2, .inl (.int a2))] [] (hM nf ns rest s0 s9) (0, 0) = am_ri (F_X2_pageOf [.inl (.ref 15), .inl (.int a1), .inl (.int a2)] (hM nf ns rest s0 s9)) (fun x11 h => g_X2_read n f 57 [(0, .inl (.ref 15)), (1, .inl (.int a1)), (2, .inl (.int a2))] [.inl (.int x11)] h (0, 0)) (fun x h => some (.inr x, h)) from fun f n => rfl) 975 399).trans ?_
        rw [e_X2_pageOf a1 a2 s9]
        refine am_lbi (fun x11 s10 => ?_) (fun _ _ => rfl)
        refine ((show ∀ f n : Nat, g_X2_read n (f + 3) 57 [(0, .inl (.ref 15)), (1, .inl (.int a1)), (2, .inl (.int a2))] [.inl (.int x11)] (hM nf ns rest s0 s10) (0, 0) = cond (decide ((0 : Int32) ≤ x11)) (g_X2_read n f 68 [(0, .inl (.ref 15)), (1, .inl (.int a1)), (2, .inl (.int a2)), (3, .inl (.int x11))] [] (hM nf ns rest s0 s10) (0, 0)) (g_X2_read n f 62 [(0, .inl (.ref 15)), (1, .inl (.int a1)), (2, .inl (.int a2)), (3, .inl (.int x11))] [] (hM nf ns rest s0 s10) (0, 0)) from fun f n => rfl) 972 399).trans ?_
        refine am_lcd ?_ ?_
        · refine ((show ∀ f n : Nat, g_X2_read n (f + 3) 68 [(0, .inl (.ref 15)), (1, .inl (.int a1)), (2, .inl (.int a2)), (3, .inl (.int x11))] [] (hM nf ns rest s0 s10) (0, 0) = am_ri (F_X2_touch [.inl (.ref 15), .inl (.int x11)] (hM nf ns rest s0 s10)) (fun x13 h => g_X2_read n f 73 [(0, .inl (.ref 15)), (1, .inl (.int a1)), (2, .inl (.int a2)), (3, .inl (.int x11))] [.inl (.int x13)] h (0, 0)) (fun x h => some (.inr x, h)) from fun f n => rfl) 969 399).trans ?_
          rw [e_X2_touch x11 s10]
          refine am_lbi (fun x13 s12 => ?_) (fun _ _ => rfl)
          refine ((show ∀ f n : Nat, g_X2_read n (f + 1) 73 [(0, .inl (.ref 15)), (1, .inl (.int a1)), (2, .inl (.int a2)), (3, .inl (.int x11))] [.inl (.int x13)] (hM nf ns rest s0 s12) (0, 0) = cond (decide (x13 = (0 : Int32))) (g_X2_read n f 85 [(0, .inl (.ref 15)), (1, .inl (.int a1)), (2, .inl (.int a2)), (3, .inl (.int x11))] [] (hM nf ns rest s0 s12) (0, 0)) (g_X2_read n f 76 [(0, .inl (.ref 15)), (1, .inl (.int a1)), (2, .inl (.int a2)), (3, .inl (.int x11))] [] (hM nf ns rest s0 s12) (0, 0)) from fun f n => rfl) 968 399).trans ?_
          refine am_lcd ?_ ?_
          · refine ((show ∀ f n : Nat, g_X2_read n (f + 3) 85 [(0, .inl (.ref 15)), (1, .inl (.int a1)), (2, .inl (.int a2)), (3, .inl (.int x11))] [] (hM nf ns rest s0 s12) (0, 0) = am_ri (F_X2_fail [.inl (.ref 15), .inl (.int (4 : Int32))] (hM nf ns rest s0 s12)) (fun x15 h => g_X2_read n f 90 [(0, .inl (.ref 15)), (1, .inl (.int a1)), (2, .inl (.int a2)), (3, .inl (.int x11))] [.inl (.int x15)] h (0, 0)) (fun x h => some (.inr x, h)) from fun f n => rfl) 965 399).trans ?_
            rw [e_X2_fail (4 : Int32) s12]
            refine am_lbi (fun x15 s14 => ?_) (fun _ _ => rfl)
            refine ((show ∀ f n : Nat, g_X2_read n (f + 1) 90 [(0, .inl (.ref 15)), (1, .inl (.int a1)), (2, .inl (.int a2)), (3, .inl (.int x11))] [.inl (.int x15)] (hM nf ns rest s0 s14) (0, 0) = some (.inl (some (.inl (.int x15))), hM nf ns rest s0 s14) from fun f n => rfl) 964 399).trans ?_
            rfl
          · refine ((show ∀ f n : Nat, g_X2_read n (f + 4) 76 [(0, .inl (.ref 15)), (1, .inl (.int a1)), (2, .inl (.int a2)), (3, .inl (.int x11))] [] (hM nf ns rest s0 s12) (0, 0) = am_ri (F_X2_wordOf [.inl (.ref 15), .inl (.int x11), .inl (.int a2)] (hM nf ns rest s0 s12)) (fun x17 h => g_X2_read n f 82 [(0, .inl (.ref 15)), (1, .inl (.int a1)), (2, .inl (.int a2)), (3, .inl (.int x11))] [.inl (.int x17)] h (0, 0)) (fun x h => some (.inr x, h)) from fun f n => rfl) 964 399).trans ?_
            rw [e_X2_wordOf x11 a2 s12]
            refine am_lbi (fun x17 s16 => ?_) (fun _ _ => rfl)
            refine ((show ∀ f n : Nat, g_X2_read n (f + 2) 82 [(0, .inl (.ref 15)), (1, .inl (.int a1)), (2, .inl (.int a2)), (3, .inl (.int x11))] [.inl (.int x17)] (hM nf ns rest s0 s16) (0, 0) = some (.inl (some (.inl (.int x17))), hM nf ns rest s0 s16) from fun f n => rfl) 962 399).trans ?_
            rfl
        · refine ((show ∀ f n : Nat, g_X2_read n (f + 3) 62 [(0, .inl (.ref 15)), (1, .inl (.int a1)), (2, .inl (.int a2)), (3, .inl (.int x11))] [] (hM nf ns rest s0 s10) (0, 0) = am_ri (F_X2_fail [.inl (.ref 15), .inl (.int (3 : Int32))] (hM nf ns rest s0 s10)) (fun x19 h => g_X2_read n f 67 [(0, .inl (.ref 15)), (1, .inl (.int a1)), (2, .inl (.int a2)), (3, .inl (.int x11))] [.inl (.int x19)] h (0, 0)) (fun x h => some (.inr x, h)) from fun f n => rfl) 969 399).trans ?_
          rw [e_X2_fail (3 : Int32) s10]
          refine am_lbi (fun x19 s18 => ?_) (fun _ _ => rfl)
          refine ((show ∀ f n : Nat, g_X2_read n (f + 1) 67 [(0, .inl (.ref 15)), (1, .inl (.int a1)), (2, .inl (.int a2)), (3, .inl (.int x11))] [.inl (.int x19)] (hM nf ns rest s0 s18) (0, 0) = some (.inl (some (.inl (.int x19))), hM nf ns rest s0 s18) from fun f n => rfl) 968 399).trans ?_
          rfl
      · refine ((show ∀ f n : Nat, g_X2_read n (f + 3) 39 [(0, .inl (.ref 15)), (1, .inl (.int a1)), (2, .inl (.int a2))] [] (hM nf ns rest s0 s7) (0, 0) = am_ri (F_X2_fail [.inl (.ref 15), .inl (.int (2 : Int32))] (hM nf ns rest s0 s7)) (fun x21 h => g_X2_read n f 44 [(0, .inl (.ref 15)), (1, .inl (.int a1)), (2, .inl (.int a2))] [.inl (.int x21)] h (0, 0)) (fun x h => some (.inr x, h)) from fun f n => rfl) 980 399).trans ?_
        rw [e_X2_fail (2 : Int32) s7]
        refine am_lbi (fun x21 s20 => ?_) (fun _ _ => rfl)
        refine ((show ∀ f n : Nat, g_X2_read n (f + 1) 44 [(0, .inl (.ref 15)), (1, .inl (.int a1)), (2, .inl (.int a2))] [.inl (.int x21)] (hM nf ns rest s0 s20) (0, 0) = some (.inl (some (.inl (.int x21))), hM nf ns rest s0 s20) from fun f n => rfl) 979 399).trans ?_
        rfl
    · refine ((show ∀ f n : Nat, g_X2_read n (f + 3) 25 [(0, .inl (.ref 15)), (1, .inl (.int a1)), (2, .inl (.int a2))] [] (hM nf ns rest s0 s5) (0, 0) = am_ri (F_X2_fail [.inl (.ref 15), .inl (.int (1 : Int32))] (hM nf ns rest s0 s5)) (fun x23 h => g_X2_read n f 30 [(0, .inl (.ref 15)), (1, .inl (.int a1)), (2, .inl (.int a2))] [.inl (.int x23)] h (0, 0)) (fun x h => some (.inr x, h)) from fun f n => rfl) 984 399).trans ?_
      rw [e_X2_fail (1 : Int32) s5]
      refine am_lbi (fun x23 s22 => ?_) (fun _ _ => rfl)
      refine ((show ∀ f n : Nat, g_X2_read n (f + 1) 30 [(0, .inl (.ref 15)), (1, .inl (.int a1)), (2, .inl (.int a2))] [.inl (.int x23)] (hM nf ns rest s0 s22) (0, 0) = some (.inl (some (.inl (.int x23))), hM nf ns rest s0 s22) from fun f n => rfl) 983 399).trans ?_
      rfl
set_option maxRecDepth 20000 in
def g_X2_write (n f pc : Nat) (lv : am_Lv) (st : List am_V) (h : am_H) (b : Nat × Nat) : Option am_O := am_go X_X2_write 8 (some .int) am_rs0 [] [(134, [0, 1, 2, 3, 4, 5, 6, 7])] (am_lp T_X2_write X_X2_write 8 (some .int) am_rs0 [] [(134, [0, 1, 2, 3, 4, 5, 6, 7])] n) f (am_from pc T_X2_write) lv st h b
set_option maxRecDepth 20000 in
def j_X2_write (n pc : Nat) (lv : am_Lv) (st : List am_V) (h : am_H) (b : Nat × Nat) : Option am_O := am_lp T_X2_write X_X2_write 8 (some .int) am_rs0 [] [(134, [0, 1, 2, 3, 4, 5, 6, 7])] n pc lv st h b
set_option maxRecDepth 20000 in
theorem j_X2_write_g (n pc : Nat) (lv : am_Lv) (st : List am_V) (h : am_H) (b : Nat × Nat) : j_X2_write (n + 1) pc lv st h b = g_X2_write n 1000 pc lv st h b := rfl
set_option maxRecDepth 20000 in
theorem j_X2_write_0 (pc : Nat) (lv : am_Lv) (st : List am_V) (h : am_H) (b : Nat × Nat) : j_X2_write 0 pc lv st h b = none := rfl
set_option maxRecDepth 20000 in
def p_X2_write_L134 : Nat → Int32 → Int32 → Int32 → Int32 → Int32 → Int32 → Int32 → KS → KR
  | 0, _, _, _, _, _, _, _, _ => none
  | n + 1, l1, l2, l3, l4, l5, l6, l7, s => cond (decide ((4 : Int32) ≤ l7)) (kbv (p_X2_putIn l6 l5 s) (fun s22 => cond (decide ((32 : Int32) ≤ l2)) (cond (am_in (((9 : Int32) * l1) + ((6 : Int32) + ((l2 - (32 : Int32)) / (4 : Int32)))) 54) (kbi (p_X2_wordOf l6 l2 (kS (kS s22 15 18 ((s22.1 15 18) + (1 : Int32))) 22 (((9 : Int32) * l1) + ((6 : Int32) + ((l2 - (32 : Int32)) / (4 : Int32)))).toNatClampNeg (l6))) (fun x24 s23 => cond (am_in (((4 : Int32) * l6) + (l2 - l2 / (4 : Int32) * (4 : Int32))) 256) (some (.inl (some x24), (kS s23 23 (((4 : Int32) * l6) + (l2 - l2 / (4 : Int32) * (4 : Int32))).toNatClampNeg (l3)))) none)) none) (cond (am_in (((9 : Int32) * l1) + ((l2 - (8 : Int32)) / (4 : Int32))) 54) (kbi (p_X2_wordOf l6 l2 (kS (kS s22 15 18 ((s22.1 15 18) + (1 : Int32))) 22 (((9 : Int32) * l1) + ((l2 - (8 : Int32)) / (4 : Int32))).toNatClampNeg (l6))) (fun x26 s25 => cond (am_in (((4 : Int32) * l6) + (l2 - l2 / (4 : Int32) * (4 : Int32))) 256) (some (.inl (some x26), (kS s25 23 (((4 : Int32) * l6) + (l2 - l2 / (4 : Int32) * (4 : Int32))).toNatClampNeg (l3)))) none)) none))) (cond (am_in (((4 : Int32) * l4) + l7) 256) (cond (am_in (((4 : Int32) * l6) + l7) 256) (p_X2_write_L134 n l1 l2 l3 l4 l5 l6 (l7 + (1 : Int32)) (kS s 23 (((4 : Int32) * l6) + l7).toNatClampNeg ((s.1 23 (((4 : Int32) * l4) + l7).toNatClampNeg)))) none) none)
set_option maxRecDepth 20000 in
theorem b_X2_write_L134 {nf ns : Nat} {rest : am_H} {s0 : KS} (n : Nat) (ih : ∀ (l1 : Int32) (l2 : Int32) (l3 : Int32) (l4 : Int32) (l5 : Int32) (l6 : Int32) (l7 : Int32) (s : KS), j_X2_write n 134 [(0, .inl (.ref 15)), (1, .inl (.int l1)), (2, .inl (.int l2)), (3, .inl (.int l3)), (4, .inl (.int l4)), (5, .inl (.int l5)), (6, .inl (.int l6)), (7, .inl (.int l7))] [] (hM nf ns rest s0 s) (0, 0) = am_lf (hM nf ns rest s0) (p_X2_write_L134 n l1 l2 l3 l4 l5 l6 l7 s)) (f : Nat) (l1 : Int32) (l2 : Int32) (l3 : Int32) (l4 : Int32) (l5 : Int32) (l6 : Int32) (l7 : Int32) (s : KS) : g_X2_write n (f + 54) 134 [(0, .inl (.ref 15)), (1, .inl (.int l1)), (2, .inl (.int l2)), (3, .inl (.int l3)), (4, .inl (.int l4)), (5, .inl (.int l5)), (6, .inl (.int l6)), (7, .inl (.int l7))] [] (hM nf ns rest s0 s) (0, 0) = am_lf (hM nf ns rest s0) (p_X2_write_L134 (n + 1) l1 l2 l3 l4 l5 l6 l7 s) := by
  rw [p_X2_write_L134]
  refine ((show ∀ f n : Nat, g_X2_write n (f + 3) 134 [(0, .inl (.ref 15)), (1, .inl (.int l1)), (2, .inl (.int l2)), (3, .inl (.int l3)), (4, .inl (.int l4)), (5, .inl (.int l5)), (6, .inl (.int l6)), (7, .inl (.int l7))] [] (hM nf ns rest s0 s) (0, 0) = cond (decide ((4 : Int32) ≤ l7)) (g_X2_write n f 170 [(0, .inl (.ref 15)), (1, .inl (.int l1)), (2, .inl (.int l2)), (3, .inl (.int l3)), (4, .inl (.int l4)), (5, .inl (.int l5)), (6, .inl (.int l6)), (7, .inl (.int l7))] [] (hM nf ns rest s0 s) (0, 0)) (g_X2_write n f 140 [(0, .inl (.ref 15)), (1, .inl (.int l1)), (2, .inl (.int l2)), (3, .inl (.int l3)), (4, .inl (.int l4)), (5, .inl (.int l5)), (6, .inl (.int l6)), (7, .inl (.int l7))] [] (hM nf ns rest s0 s) (0, 0)) from fun f n => rfl) (f + 51) n).trans ?_
  refine am_lcd ?_ ?_
  · refine ((show ∀ f n : Nat, g_X2_write n (f + 4) 170 [(0, .inl (.ref 15)), (1, .inl (.int l1)), (2, .inl (.int l2)), (3, .inl (.int l3)), (4, .inl (.int l4)), (5, .inl (.int l5)), (6, .inl (.int l6)), (7, .inl (.int l7))] [] (hM nf ns rest s0 s) (0, 0) = am_rv (F_X2_putIn [.inl (.ref 15), .inl (.int l6), .inl (.int l5)] (hM nf ns rest s0 s)) (fun h => g_X2_write n f 178 [(0, .inl (.ref 15)), (1, .inl (.int l1)), (2, .inl (.int l2)), (3, .inl (.int l3)), (4, .inl (.int l4)), (5, .inl (.int l5)), (6, .inl (.int l6)), (7, .inl (.int l7))] [] h (0, 0)) (fun x h => some (.inr x, h)) from fun f n => rfl) (f + 47) n).trans ?_
    rw [e_X2_putIn l6 l5 s]
    refine am_lbv (fun s22 => ?_) (fun _ _ => rfl)
    refine ((show ∀ f n : Nat, g_X2_write n (f + 14) 178 [(0, .inl (.ref 15)), (1, .inl (.int l1)), (2, .inl (.int l2)), (3, .inl (.int l3)), (4, .inl (.int l4)), (5, .inl (.int l5)), (6, .inl (.int l6)), (7, .inl (.int l7))] [] (hM nf ns rest s0 s22) (0, 0) = cond (decide ((32 : Int32) ≤ l2)) (g_X2_write n f 211 [(0, .inl (.ref 15)), (1, .inl (.int l1)), (2, .inl (.int l2)), (3, .inl (.int l3)), (4, .inl (.int l4)), (5, .inl (.int l5)), (6, .inl (.int l6)), (7, .inl (.int l7))] [.inl (.int ((9 : Int32) * l1)), .inl (.ref 22)] (hM nf ns rest s0 (kS s22 15 18 ((s22.1 15 18) + (1 : Int32)))) (0, 0)) (g_X2_write n f 202 [(0, .inl (.ref 15)), (1, .inl (.int l1)), (2, .inl (.int l2)), (3, .inl (.int l3)), (4, .inl (.int l4)), (5, .inl (.int l5)), (6, .inl (.int l6)), (7, .inl (.int l7))] [.inl (.int ((9 : Int32) * l1)), .inl (.ref 22)] (hM nf ns rest s0 (kS s22 15 18 ((s22.1 15 18) + (1 : Int32)))) (0, 0)) from fun f n => rfl) (f + 33) n).trans ?_
    refine am_lcd ?_ ?_
    · refine ((show ∀ (f n : Nat) (z : KS), g_X2_write n (f + 16) 211 [(0, .inl (.ref 15)), (1, .inl (.int l1)), (2, .inl (.int l2)), (3, .inl (.int l3)), (4, .inl (.int l4)), (5, .inl (.int l5)), (6, .inl (.int l6)), (7, .inl (.int l7))] [.inl (.int ((9 : Int32) * l1)), .inl (.ref 22)] (hM nf ns rest s0 z) (0, 0) = cond (am_in (((9 : Int32) * l1) + ((6 : Int32) + ((l2 - (32 : Int32)) / (4 : Int32)))) 54) (am_ri (F_X2_wordOf [.inl (.ref 15), .inl (.int l6), .inl (.int l2)] (hM nf ns rest s0 (kS z 22 (((9 : Int32) * l1) + ((6 : Int32) + ((l2 - (32 : Int32)) / (4 : Int32)))).toNatClampNeg (l6)))) (fun x24 h => g_X2_write n f 235 [(0, .inl (.ref 15)), (1, .inl (.int l1)), (2, .inl (.int l2)), (3, .inl (.int l3)), (4, .inl (.int l6)), (5, .inl (.int l5)), (6, .inl (.int l6)), (7, .inl (.int l7))] [.inl (.int x24)] h (0, 0)) (fun x h => some (.inr x, h))) none from fun f n z => rfl) (f + 17) n (kS s22 15 18 ((s22.1 15 18) + (1 : Int32)))).trans ?_
      refine am_lcd (B := none) ?_ rfl
      rw [e_X2_wordOf l6 l2 (kS (kS s22 15 18 ((s22.1 15 18) + (1 : Int32))) 22 (((9 : Int32) * l1) + ((6 : Int32) + ((l2 - (32 : Int32)) / (4 : Int32)))).toNatClampNeg (l6))]
      refine am_lbi (fun x24 s23 => ?_) (fun _ _ => rfl)
      refine ((show ∀ f n : Nat, g_X2_write n (f + 14) 235 [(0, .inl (.ref 15)), (1, .inl (.int l1)), (2, .inl (.int l2)), (3, .inl (.int l3)), (4, .inl (.int l6)), (5, .inl (.int l5)), (6, .inl (.int l6)), (7, .inl (.int l7))] [.inl (.int x24)] (hM nf ns rest s0 s23) (0, 0) = cond (am_in (((4 : Int32) * l6) + (l2 - l2 / (4 : Int32) * (4 : Int32))) 256) (some (.inl (some (.inl (.int x24))), hM nf ns rest s0 (kS s23 23 (((4 : Int32) * l6) + (l2 - l2 / (4 : Int32) * (4 : Int32))).toNatClampNeg (l3)))) none from fun f n => rfl) (f + 3) n).trans ?_
      refine am_lcd (B := none) ?_ rfl
      rfl
    · refine ((show ∀ (f n : Nat) (z : KS), g_X2_write n (f + 15) 202 [(0, .inl (.ref 15)), (1, .inl (.int l1)), (2, .inl (.int l2)), (3, .inl (.int l3)), (4, .inl (.int l4)), (5, .inl (.int l5)), (6, .inl (.int l6)), (7, .inl (.int l7))] [.inl (.int ((9 : Int32) * l1)), .inl (.ref 22)] (hM nf ns rest s0 z) (0, 0) = cond (am_in (((9 : Int32) * l1) + ((l2 - (8 : Int32)) / (4 : Int32))) 54) (am_ri (F_X2_wordOf [.inl (.ref 15), .inl (.int l6), .inl (.int l2)] (hM nf ns rest s0 (kS z 22 (((9 : Int32) * l1) + ((l2 - (8 : Int32)) / (4 : Int32))).toNatClampNeg (l6)))) (fun x26 h => g_X2_write n f 235 [(0, .inl (.ref 15)), (1, .inl (.int l1)), (2, .inl (.int l2)), (3, .inl (.int l3)), (4, .inl (.int l6)), (5, .inl (.int l5)), (6, .inl (.int l6)), (7, .inl (.int l7))] [.inl (.int x26)] h (0, 0)) (fun x h => some (.inr x, h))) none from fun f n z => rfl) (f + 18) n (kS s22 15 18 ((s22.1 15 18) + (1 : Int32)))).trans ?_
      refine am_lcd (B := none) ?_ rfl
      rw [e_X2_wordOf l6 l2 (kS (kS s22 15 18 ((s22.1 15 18) + (1 : Int32))) 22 (((9 : Int32) * l1) + ((l2 - (8 : Int32)) / (4 : Int32))).toNatClampNeg (l6))]
      refine am_lbi (fun x26 s25 => ?_) (fun _ _ => rfl)
      refine ((show ∀ f n : Nat, g_X2_write n (f + 14) 235 [(0, .inl (.ref 15)), (1, .inl (.int l1)), (2, .inl (.int l2)), (3, .inl (.int l3)), (4, .inl (.int l6)), (5, .inl (.int l5)), (6, .inl (.int l6)), (7, .inl (.int l7))] [.inl (.int x26)] (hM nf ns rest s0 s25) (0, 0) = cond (am_in (((4 : Int32) * l6) + (l2 - l2 / (4 : Int32) * (4 : Int32))) 256) (some (.inl (some (.inl (.int x26))), hM nf ns rest s0 (kS s25 23 (((4 : Int32) * l6) + (l2 - l2 / (4 : Int32) * (4 : Int32))).toNatClampNeg (l3)))) none from fun f n => rfl) (f + 4) n).trans ?_
      refine am_lcd (B := none) ?_ rfl
      rfl
  · refine ((show ∀ f n : Nat, g_X2_write n (f + 18) 140 [(0, .inl (.ref 15)), (1, .inl (.int l1)), (2, .inl (.int l2)), (3, .inl (.int l3)), (4, .inl (.int l4)), (5, .inl (.int l5)), (6, .inl (.int l6)), (7, .inl (.int l7))] [] (hM nf ns rest s0 s) (0, 0) = cond (am_in (((4 : Int32) * l4) + l7) 256) (cond (am_in (((4 : Int32) * l6) + l7) 256) (j_X2_write n 134 [(0, .inl (.ref 15)), (1, .inl (.int l1)), (2, .inl (.int l2)), (3, .inl (.int l3)), (4, .inl (.int l4)), (5, .inl (.int l5)), (6, .inl (.int l6)), (7, .inl (.int (l7 + (1 : Int32))))] [] (hM nf ns rest s0 (kS s 23 (((4 : Int32) * l6) + l7).toNatClampNeg ((s.1 23 (((4 : Int32) * l4) + l7).toNatClampNeg)))) (0, 0)) none) none from fun f n => rfl) (f + 33) n).trans ?_
    refine am_lcd (B := none) ?_ rfl
    refine am_lcd (B := none) ?_ rfl
    exact ih l1 l2 l3 l4 l5 l6 (l7 + (1 : Int32)) (kS s 23 (((4 : Int32) * l6) + l7).toNatClampNeg ((s.1 23 (((4 : Int32) * l4) + l7).toNatClampNeg)))
set_option maxRecDepth 20000 in
theorem e_X2_write_L134 {nf ns : Nat} {rest : am_H} {s0 : KS} : ∀ (n : Nat) (l1 : Int32) (l2 : Int32) (l3 : Int32) (l4 : Int32) (l5 : Int32) (l6 : Int32) (l7 : Int32) (s : KS), j_X2_write n 134 [(0, .inl (.ref 15)), (1, .inl (.int l1)), (2, .inl (.int l2)), (3, .inl (.int l3)), (4, .inl (.int l4)), (5, .inl (.int l5)), (6, .inl (.int l6)), (7, .inl (.int l7))] [] (hM nf ns rest s0 s) (0, 0) = am_lf (hM nf ns rest s0) (p_X2_write_L134 n l1 l2 l3 l4 l5 l6 l7 s)
  | 0, _, _, _, _, _, _, _, _ => by rw [p_X2_write_L134]; rfl
  | n + 1, l1, l2, l3, l4, l5, l6, l7, s => (j_X2_write_g n 134 _ _ _ _).trans (b_X2_write_L134 n (e_X2_write_L134 n) 946 l1 l2 l3 l4 l5 l6 l7 s)
set_option maxRecDepth 20000 in
def p_X2_write (a1 : Int32) (a2 : Int32) (a3 : Int32) (s : KS) : KR := kbi (p_X2_out a1 (6 : Int32) (kS s 15 0 (0 : Int32))) (fun x2 s1 => cond (!decide (x2 = (0 : Int32))) (kbi (p_X2_fail (1 : Int32) s1) (fun x4 s3 => some (.inl (some x4), s3))) (kbi (p_X2_out a2 (44 : Int32) s1) (fun x6 s5 => cond (decide (x6 = (0 : Int32))) (kbi (p_X2_notRunning a1 s5) (fun x8 s7 => cond (decide (x8 = (0 : Int32))) (kbv (p_X2_growStack a1 a2 s7) (fun s9 => kbi (p_X2_pageOf a1 a2 s9) (fun x11 s10 => cond (decide ((0 : Int32) ≤ x11)) (cond (decide (x11 < (64 : Int32))) (kbi (p_X2_touch x11 s10) (fun x13 s12 => cond (!decide (x13 = (0 : Int32))) (kbi (p_X2_owners x11 s12) (fun x15 s14 => cond (decide (x15 ≤ (1 : Int32))) (kbi (p_X2_wordOf x11 a2 s14) (fun x17 s16 => cond (am_in (((4 : Int32) * x11) + (a2 - a2 / (4 : Int32) * (4 : Int32))) 256) (some (.inl (some x17), (kS s16 23 (((4 : Int32) * x11) + (a2 - a2 / (4 : Int32) * (4 : Int32))).toNatClampNeg (a3)))) none)) (kbi (p_X2_getFrame  s14) (fun x19 s18 => cond (decide ((0 : Int32) ≤ x19)) (kbi (p_X2_newPage  s18) (fun x21 s20 => p_X2_write_L134 400 a1 a2 a3 x11 x19 x21 (0 : Int32) s20)) (kbi (p_X2_fail (5 : Int32) s18) (fun x28 s27 => some (.inl (some x28), s27))))))) (kbi (p_X2_fail (5 : Int32) s12) (fun x30 s29 => some (.inl (some x30), s29))))) (kbi (p_X2_fail (4 : Int32) s10) (fun x32 s31 => some (.inl (some x32), s31)))) (kbi (p_X2_fail (3 : Int32) s10) (fun x34 s33 => some (.inl (some x34), s33)))))) (kbi (p_X2_fail (2 : Int32) s7) (fun x36 s35 => some (.inl (some x36), s35))))) (kbi (p_X2_fail (1 : Int32) s5) (fun x38 s37 => some (.inl (some x38), s37))))))
set_option maxRecDepth 20000 in
theorem e_X2_write {nf ns : Nat} {rest : am_H} {s0 : KS} (a1 : Int32) (a2 : Int32) (a3 : Int32) (s : KS) : F_X2_write [.inl (.ref 15), .inl (.int a1), .inl (.int a2), .inl (.int a3)] (hM nf ns rest s0 s) = am_lf (hM nf ns rest s0) (p_X2_write a1 a2 a3 s) := by
  rw [p_X2_write]
  refine (show _ = g_X2_write 399 1000 0 [(0, .inl (.ref 15)), (1, .inl (.int a1)), (2, .inl (.int a2)), (3, .inl (.int a3))] [] (hM nf ns rest s0 s) (0, 0) from am_fn_g (Nat.le_of_ble_eq_true rfl)).trans ?_
  refine ((show ∀ f n : Nat, g_X2_write n (f + 7) 0 [(0, .inl (.ref 15)), (1, .inl (.int a1)), (2, .inl (.int a2)), (3, .inl (.int a3))] [] (hM nf ns rest s0 s) (0, 0) = am_ri (F_X2_out [.inl (.ref 15), .inl (.int a1), .inl (.int (6 : Int32))] (hM nf ns rest s0 (kS s 15 0 (0 : Int32)))) (fun x2 h => g_X2_write n f 12 [(0, .inl (.ref 15)), (1, .inl (.int a1)), (2, .inl (.int a2)), (3, .inl (.int a3))] [.inl (.int x2)] h (0, 0)) (fun x h => some (.inr x, h)) from fun f n => rfl) 993 399).trans ?_
  rw [e_X2_out a1 (6 : Int32) (kS s 15 0 (0 : Int32))]
  refine am_lbi (fun x2 s1 => ?_) (fun _ _ => rfl)
  refine ((show ∀ f n : Nat, g_X2_write n (f + 1) 12 [(0, .inl (.ref 15)), (1, .inl (.int a1)), (2, .inl (.int a2)), (3, .inl (.int a3))] [.inl (.int x2)] (hM nf ns rest s0 s1) (0, 0) = cond (!decide (x2 = (0 : Int32))) (g_X2_write n f 25 [(0, .inl (.ref 15)), (1, .inl (.int a1)), (2, .inl (.int a2)), (3, .inl (.int a3))] [] (hM nf ns rest s0 s1) (0, 0)) (g_X2_write n f 15 [(0, .inl (.ref 15)), (1, .inl (.int a1)), (2, .inl (.int a2)), (3, .inl (.int a3))] [] (hM nf ns rest s0 s1) (0, 0)) from fun f n => rfl) 992 399).trans ?_
  refine am_lcd ?_ ?_
  · refine ((show ∀ f n : Nat, g_X2_write n (f + 3) 25 [(0, .inl (.ref 15)), (1, .inl (.int a1)), (2, .inl (.int a2)), (3, .inl (.int a3))] [] (hM nf ns rest s0 s1) (0, 0) = am_ri (F_X2_fail [.inl (.ref 15), .inl (.int (1 : Int32))] (hM nf ns rest s0 s1)) (fun x4 h => g_X2_write n f 30 [(0, .inl (.ref 15)), (1, .inl (.int a1)), (2, .inl (.int a2)), (3, .inl (.int a3))] [.inl (.int x4)] h (0, 0)) (fun x h => some (.inr x, h)) from fun f n => rfl) 989 399).trans ?_
    rw [e_X2_fail (1 : Int32) s1]
    refine am_lbi (fun x4 s3 => ?_) (fun _ _ => rfl)
    refine ((show ∀ f n : Nat, g_X2_write n (f + 1) 30 [(0, .inl (.ref 15)), (1, .inl (.int a1)), (2, .inl (.int a2)), (3, .inl (.int a3))] [.inl (.int x4)] (hM nf ns rest s0 s3) (0, 0) = some (.inl (some (.inl (.int x4))), hM nf ns rest s0 s3) from fun f n => rfl) 988 399).trans ?_
    rfl
  · refine ((show ∀ f n : Nat, g_X2_write n (f + 4) 15 [(0, .inl (.ref 15)), (1, .inl (.int a1)), (2, .inl (.int a2)), (3, .inl (.int a3))] [] (hM nf ns rest s0 s1) (0, 0) = am_ri (F_X2_out [.inl (.ref 15), .inl (.int a2), .inl (.int (44 : Int32))] (hM nf ns rest s0 s1)) (fun x6 h => g_X2_write n f 22 [(0, .inl (.ref 15)), (1, .inl (.int a1)), (2, .inl (.int a2)), (3, .inl (.int a3))] [.inl (.int x6)] h (0, 0)) (fun x h => some (.inr x, h)) from fun f n => rfl) 988 399).trans ?_
    rw [e_X2_out a2 (44 : Int32) s1]
    refine am_lbi (fun x6 s5 => ?_) (fun _ _ => rfl)
    refine ((show ∀ f n : Nat, g_X2_write n (f + 1) 22 [(0, .inl (.ref 15)), (1, .inl (.int a1)), (2, .inl (.int a2)), (3, .inl (.int a3))] [.inl (.int x6)] (hM nf ns rest s0 s5) (0, 0) = cond (decide (x6 = (0 : Int32))) (g_X2_write n f 31 [(0, .inl (.ref 15)), (1, .inl (.int a1)), (2, .inl (.int a2)), (3, .inl (.int a3))] [] (hM nf ns rest s0 s5) (0, 0)) (g_X2_write n f 25 [(0, .inl (.ref 15)), (1, .inl (.int a1)), (2, .inl (.int a2)), (3, .inl (.int a3))] [] (hM nf ns rest s0 s5) (0, 0)) from fun f n => rfl) 987 399).trans ?_
    refine am_lcd ?_ ?_
    · refine ((show ∀ f n : Nat, g_X2_write n (f + 3) 31 [(0, .inl (.ref 15)), (1, .inl (.int a1)), (2, .inl (.int a2)), (3, .inl (.int a3))] [] (hM nf ns rest s0 s5) (0, 0) = am_ri (F_X2_notRunning [.inl (.ref 15), .inl (.int a1)] (hM nf ns rest s0 s5)) (fun x8 h => g_X2_write n f 36 [(0, .inl (.ref 15)), (1, .inl (.int a1)), (2, .inl (.int a2)), (3, .inl (.int a3))] [.inl (.int x8)] h (0, 0)) (fun x h => some (.inr x, h)) from fun f n => rfl) 984 399).trans ?_
      rw [e_X2_notRunning a1 s5]
      refine am_lbi (fun x8 s7 => ?_) (fun _ _ => rfl)
      refine ((show ∀ f n : Nat, g_X2_write n (f + 1) 36 [(0, .inl (.ref 15)), (1, .inl (.int a1)), (2, .inl (.int a2)), (3, .inl (.int a3))] [.inl (.int x8)] (hM nf ns rest s0 s7) (0, 0) = cond (decide (x8 = (0 : Int32))) (g_X2_write n f 45 [(0, .inl (.ref 15)), (1, .inl (.int a1)), (2, .inl (.int a2)), (3, .inl (.int a3))] [] (hM nf ns rest s0 s7) (0, 0)) (g_X2_write n f 39 [(0, .inl (.ref 15)), (1, .inl (.int a1)), (2, .inl (.int a2)), (3, .inl (.int a3))] [] (hM nf ns rest s0 s7) (0, 0)) from fun f n => rfl) 983 399).trans ?_
      refine am_lcd ?_ ?_
      · refine ((show ∀ f n : Nat, g_X2_write n (f + 4) 45 [(0, .inl (.ref 15)), (1, .inl (.int a1)), (2, .inl (.int a2)), (3, .inl (.int a3))] [] (hM nf ns rest s0 s7) (0, 0) = am_rv (F_X2_growStack [.inl (.ref 15), .inl (.int a1), .inl (.int a2)] (hM nf ns rest s0 s7)) (fun h => g_X2_write n f 51 [(0, .inl (.ref 15)), (1, .inl (.int a1)), (2, .inl (.int a2)), (3, .inl (.int a3))] [] h (0, 0)) (fun x h => some (.inr x, h)) from fun f n => rfl) 979 399).trans ?_
        rw [e_X2_growStack a1 a2 s7]
        refine am_lbv (fun s9 => ?_) (fun _ _ => rfl)
        refine ((show ∀ f n : Nat, g_X2_write n (f + 4) 51 [(0, .inl (.ref 15)), (1, .inl (.int a1)), (2, .inl (.int a2)), (3, .inl (.int a3))] [] (hM nf ns rest s0 s9) (0, 0) = am_ri (F_X2_pageOf [.inl (.ref 15), .inl (.int a1), .inl (.int a2)] (hM nf ns rest s0 s9)) (fun x11 h => g_X2_write n f 57 [(0, .inl (.ref 15)), (1, .inl (.int a1)), (2, .inl (.int a2)), (3, .inl (.int a3))] [.inl (.int x11)] h (0, 0)) (fun x h => some (.inr x, h)) from fun f n => rfl) 975 399).trans ?_
        rw [e_X2_pageOf a1 a2 s9]
        refine am_lbi (fun x11 s10 => ?_) (fun _ _ => rfl)
        refine ((show ∀ f n : Nat, g_X2_write n (f + 3) 57 [(0, .inl (.ref 15)), (1, .inl (.int a1)), (2, .inl (.int a2)), (3, .inl (.int a3))] [.inl (.int x11)] (hM nf ns rest s0 s10) (0, 0) = cond (decide ((0 : Int32) ≤ x11)) (g_X2_write n f 70 [(0, .inl (.ref 15)), (1, .inl (.int a1)), (2, .inl (.int a2)), (3, .inl (.int a3)), (4, .inl (.int x11))] [] (hM nf ns rest s0 s10) (0, 0)) (g_X2_write n f 64 [(0, .inl (.ref 15)), (1, .inl (.int a1)), (2, .inl (.int a2)), (3, .inl (.int a3)), (4, .inl (.int x11))] [] (hM nf ns rest s0 s10) (0, 0)) from fun f n => rfl) 972 399).trans ?_
        refine am_lcd ?_ ?_
        · refine ((show ∀ f n : Nat, g_X2_write n (f + 3) 70 [(0, .inl (.ref 15)), (1, .inl (.int a1)), (2, .inl (.int a2)), (3, .inl (.int a3)), (4, .inl (.int x11))] [] (hM nf ns rest s0 s10) (0, 0) = cond (decide (x11 < (64 : Int32))) (g_X2_write n f 83 [(0, .inl (.ref 15)), (1, .inl (.int a1)), (2, .inl (.int a2)), (3, .inl (.int a3)), (4, .inl (.int x11))] [] (hM nf ns rest s0 s10) (0, 0)) (g_X2_write n f 77 [(0, .inl (.ref 15)), (1, .inl (.int a1)), (2, .inl (.int a2)), (3, .inl (.int a3)), (4, .inl (.int x11))] [] (hM nf ns rest s0 s10) (0, 0)) from fun f n => rfl) 969 399).trans ?_
          refine am_lcd ?_ ?_
          · refine ((show ∀ f n : Nat, g_X2_write n (f + 3) 83 [(0, .inl (.ref 15)), (1, .inl (.int a1)), (2, .inl (.int a2)), (3, .inl (.int a3)), (4, .inl (.int x11))] [] (hM nf ns rest s0 s10) (0, 0) = am_ri (F_X2_touch [.inl (.ref 15), .inl (.int x11)] (hM nf ns rest s0 s10)) (fun x13 h => g_X2_write n f 89 [(0, .inl (.ref 15)), (1, .inl (.int a1)), (2, .inl (.int a2)), (3, .inl (.int a3)), (4, .inl (.int x11))] [.inl (.int x13)] h (0, 0)) (fun x h => some (.inr x, h)) from fun f n => rfl) 966 399).trans ?_
            rw [e_X2_touch x11 s10]
            refine am_lbi (fun x13 s12 => ?_) (fun _ _ => rfl)
            refine ((show ∀ f n : Nat, g_X2_write n (f + 1) 89 [(0, .inl (.ref 15)), (1, .inl (.int a1)), (2, .inl (.int a2)), (3, .inl (.int a3)), (4, .inl (.int x11))] [.inl (.int x13)] (hM nf ns rest s0 s12) (0, 0) = cond (!decide (x13 = (0 : Int32))) (g_X2_write n f 98 [(0, .inl (.ref 15)), (1, .inl (.int a1)), (2, .inl (.int a2)), (3, .inl (.int a3)), (4, .inl (.int x11))] [] (hM nf ns rest s0 s12) (0, 0)) (g_X2_write n f 92 [(0, .inl (.ref 15)), (1, .inl (.int a1)), (2, .inl (.int a2)), (3, .inl (.int a3)), (4, .inl (.int x11))] [] (hM nf ns rest s0 s12) (0, 0)) from fun f n => rfl) 965 399).trans ?_
            refine am_lcd ?_ ?_
            · refine ((show ∀ f n : Nat, g_X2_write n (f + 3) 98 [(0, .inl (.ref 15)), (1, .inl (.int a1)), (2, .inl (.int a2)), (3, .inl (.int a3)), (4, .inl (.int x11))] [] (hM nf ns rest s0 s12) (0, 0) = am_ri (F_X2_owners [.inl (.ref 15), .inl (.int x11)] (hM nf ns rest s0 s12)) (fun x15 h => g_X2_write n f 104 [(0, .inl (.ref 15)), (1, .inl (.int a1)), (2, .inl (.int a2)), (3, .inl (.int a3)), (4, .inl (.int x11))] [.inl (.int x15)] h (0, 0)) (fun x h => some (.inr x, h)) from fun f n => rfl) 962 399).trans ?_
              rw [e_X2_owners x11 s12]
              refine am_lbi (fun x15 s14 => ?_) (fun _ _ => rfl)
              refine ((show ∀ f n : Nat, g_X2_write n (f + 2) 104 [(0, .inl (.ref 15)), (1, .inl (.int a1)), (2, .inl (.int a2)), (3, .inl (.int a3)), (4, .inl (.int x11))] [.inl (.int x15)] (hM nf ns rest s0 s14) (0, 0) = cond (decide (x15 ≤ (1 : Int32))) (g_X2_write n f 228 [(0, .inl (.ref 15)), (1, .inl (.int a1)), (2, .inl (.int a2)), (3, .inl (.int a3)), (4, .inl (.int x11))] [] (hM nf ns rest s0 s14) (0, 0)) (g_X2_write n f 108 [(0, .inl (.ref 15)), (1, .inl (.int a1)), (2, .inl (.int a2)), (3, .inl (.int a3)), (4, .inl (.int x11))] [] (hM nf ns rest s0 s14) (0, 0)) from fun f n => rfl) 960 399).trans ?_
              refine am_lcd ?_ ?_
              · refine ((show ∀ f n : Nat, g_X2_write n (f + 4) 228 [(0, .inl (.ref 15)), (1, .inl (.int a1)), (2, .inl (.int a2)), (3, .inl (.int a3)), (4, .inl (.int x11))] [] (hM nf ns rest s0 s14) (0, 0) = am_ri (F_X2_wordOf [.inl (.ref 15), .inl (.int x11), .inl (.int a2)] (hM nf ns rest s0 s14)) (fun x17 h => g_X2_write n f 235 [(0, .inl (.ref 15)), (1, .inl (.int a1)), (2, .inl (.int a2)), (3, .inl (.int a3)), (4, .inl (.int x11))] [.inl (.int x17)] h (0, 0)) (fun x h => some (.inr x, h)) from fun f n => rfl) 956 399).trans ?_
                rw [e_X2_wordOf x11 a2 s14]
                refine am_lbi (fun x17 s16 => ?_) (fun _ _ => rfl)
                refine ((show ∀ f n : Nat, g_X2_write n (f + 14) 235 [(0, .inl (.ref 15)), (1, .inl (.int a1)), (2, .inl (.int a2)), (3, .inl (.int a3)), (4, .inl (.int x11))] [.inl (.int x17)] (hM nf ns rest s0 s16) (0, 0) = cond (am_in (((4 : Int32) * x11) + (a2 - a2 / (4 : Int32) * (4 : Int32))) 256) (some (.inl (some (.inl (.int x17))), hM nf ns rest s0 (kS s16 23 (((4 : Int32) * x11) + (a2 - a2 / (4 : Int32) * (4 : Int32))).toNatClampNeg (a3)))) none from fun f n => rfl) 942 399).trans ?_
                refine am_lcd (B := none) ?_ rfl
                rfl
              · refine ((show ∀ f n : Nat, g_X2_write n (f + 2) 108 [(0, .inl (.ref 15)), (1, .inl (.int a1)), (2, .inl (.int a2)), (3, .inl (.int a3)), (4, .inl (.int x11))] [] (hM nf ns rest s0 s14) (0, 0) = am_ri (F_X2_getFrame [.inl (.ref 15)] (hM nf ns rest s0 s14)) (fun x19 h => g_X2_write n f 112 [(0, .inl (.ref 15)), (1, .inl (.int a1)), (2, .inl (.int a2)), (3, .inl (.int a3)), (4, .inl (.int x11))] [.inl (.int x19)] h (0, 0)) (fun x h => some (.inr x, h)) from fun f n => rfl) 958 399).trans ?_
                rw [e_X2_getFrame  s14]
                refine am_lbi (fun x19 s18 => ?_) (fun _ _ => rfl)
                refine ((show ∀ f n : Nat, g_X2_write n (f + 3) 112 [(0, .inl (.ref 15)), (1, .inl (.int a1)), (2, .inl (.int a2)), (3, .inl (.int a3)), (4, .inl (.int x11))] [.inl (.int x19)] (hM nf ns rest s0 s18) (0, 0) = cond (decide ((0 : Int32) ≤ x19)) (g_X2_write n f 125 [(0, .inl (.ref 15)), (1, .inl (.int a1)), (2, .inl (.int a2)), (3, .inl (.int a3)), (4, .inl (.int x11)), (5, .inl (.int x19))] [] (hM nf ns rest s0 s18) (0, 0)) (g_X2_write n f 119 [(0, .inl (.ref 15)), (1, .inl (.int a1)), (2, .inl (.int a2)), (3, .inl (.int a3)), (4, .inl (.int x11)), (5, .inl (.int x19))] [] (hM nf ns rest s0 s18) (0, 0)) from fun f n => rfl) 955 399).trans ?_
                refine am_lcd ?_ ?_
                · refine ((show ∀ f n : Nat, g_X2_write n (f + 2) 125 [(0, .inl (.ref 15)), (1, .inl (.int a1)), (2, .inl (.int a2)), (3, .inl (.int a3)), (4, .inl (.int x11)), (5, .inl (.int x19))] [] (hM nf ns rest s0 s18) (0, 0) = am_ri (F_X2_newPage [.inl (.ref 15)] (hM nf ns rest s0 s18)) (fun x21 h => g_X2_write n f 129 [(0, .inl (.ref 15)), (1, .inl (.int a1)), (2, .inl (.int a2)), (3, .inl (.int a3)), (4, .inl (.int x11)), (5, .inl (.int x19))] [.inl (.int x21)] h (0, 0)) (fun x h => some (.inr x, h)) from fun f n => rfl) 953 399).trans ?_
                  rw [e_X2_newPage  s18]
                  refine am_lbi (fun x21 s20 => ?_) (fun _ _ => rfl)
                  refine ((show ∀ f n : Nat, g_X2_write n (f + 3) 129 [(0, .inl (.ref 15)), (1, .inl (.int a1)), (2, .inl (.int a2)), (3, .inl (.int a3)), (4, .inl (.int x11)), (5, .inl (.int x19))] [.inl (.int x21)] (hM nf ns rest s0 s20) (0, 0) = g_X2_write n f 134 [(0, .inl (.ref 15)), (1, .inl (.int a1)), (2, .inl (.int a2)), (3, .inl (.int a3)), (4, .inl (.int x11)), (5, .inl (.int x19)), (6, .inl (.int x21)), (7, .inl (.int (0 : Int32)))] [] (hM nf ns rest s0 s20) (0, 0) from fun f n => rfl) 950 399).trans ?_
                  exact b_X2_write_L134 399 (e_X2_write_L134 399) 896 a1 a2 a3 x11 x19 x21 (0 : Int32) s20
                · refine ((show ∀ f n : Nat, g_X2_write n (f + 3) 119 [(0, .inl (.ref 15)), (1, .inl (.int a1)), (2, .inl (.int a2)), (3, .inl (.int a3)), (4, .inl (.int x11)), (5, .inl (.int x19))] [] (hM nf ns rest s0 s18) (0, 0) = am_ri (F_X2_fail [.inl (.ref 15), .inl (.int (5 : Int32))] (hM nf ns rest s0 s18)) (fun x28 h => g_X2_write n f 124 [(0, .inl (.ref 15)), (1, .inl (.int a1)), (2, .inl (.int a2)), (3, .inl (.int a3)), (4, .inl (.int x11)), (5, .inl (.int x19))] [.inl (.int x28)] h (0, 0)) (fun x h => some (.inr x, h)) from fun f n => rfl) 952 399).trans ?_
                  rw [e_X2_fail (5 : Int32) s18]
                  refine am_lbi (fun x28 s27 => ?_) (fun _ _ => rfl)
                  refine ((show ∀ f n : Nat, g_X2_write n (f + 1) 124 [(0, .inl (.ref 15)), (1, .inl (.int a1)), (2, .inl (.int a2)), (3, .inl (.int a3)), (4, .inl (.int x11)), (5, .inl (.int x19))] [.inl (.int x28)] (hM nf ns rest s0 s27) (0, 0) = some (.inl (some (.inl (.int x28))), hM nf ns rest s0 s27) from fun f n => rfl) 951 399).trans ?_
                  rfl
            · refine ((show ∀ f n : Nat, g_X2_write n (f + 3) 92 [(0, .inl (.ref 15)), (1, .inl (.int a1)), (2, .inl (.int a2)), (3, .inl (.int a3)), (4, .inl (.int x11))] [] (hM nf ns rest s0 s12) (0, 0) = am_ri (F_X2_fail [.inl (.ref 15), .inl (.int (5 : Int32))] (hM nf ns rest s0 s12)) (fun x30 h => g_X2_write n f 97 [(0, .inl (.ref 15)), (1, .inl (.int a1)), (2, .inl (.int a2)), (3, .inl (.int a3)), (4, .inl (.int x11))] [.inl (.int x30)] h (0, 0)) (fun x h => some (.inr x, h)) from fun f n => rfl) 962 399).trans ?_
              rw [e_X2_fail (5 : Int32) s12]
              refine am_lbi (fun x30 s29 => ?_) (fun _ _ => rfl)
              refine ((show ∀ f n : Nat, g_X2_write n (f + 1) 97 [(0, .inl (.ref 15)), (1, .inl (.int a1)), (2, .inl (.int a2)), (3, .inl (.int a3)), (4, .inl (.int x11))] [.inl (.int x30)] (hM nf ns rest s0 s29) (0, 0) = some (.inl (some (.inl (.int x30))), hM nf ns rest s0 s29) from fun f n => rfl) 961 399).trans ?_
              rfl
          · refine ((show ∀ f n : Nat, g_X2_write n (f + 3) 77 [(0, .inl (.ref 15)), (1, .inl (.int a1)), (2, .inl (.int a2)), (3, .inl (.int a3)), (4, .inl (.int x11))] [] (hM nf ns rest s0 s10) (0, 0) = am_ri (F_X2_fail [.inl (.ref 15), .inl (.int (4 : Int32))] (hM nf ns rest s0 s10)) (fun x32 h => g_X2_write n f 82 [(0, .inl (.ref 15)), (1, .inl (.int a1)), (2, .inl (.int a2)), (3, .inl (.int a3)), (4, .inl (.int x11))] [.inl (.int x32)] h (0, 0)) (fun x h => some (.inr x, h)) from fun f n => rfl) 966 399).trans ?_
            rw [e_X2_fail (4 : Int32) s10]
            refine am_lbi (fun x32 s31 => ?_) (fun _ _ => rfl)
            refine ((show ∀ f n : Nat, g_X2_write n (f + 1) 82 [(0, .inl (.ref 15)), (1, .inl (.int a1)), (2, .inl (.int a2)), (3, .inl (.int a3)), (4, .inl (.int x11))] [.inl (.int x32)] (hM nf ns rest s0 s31) (0, 0) = some (.inl (some (.inl (.int x32))), hM nf ns rest s0 s31) from fun f n => rfl) 965 399).trans ?_
            rfl
        · refine ((show ∀ f n : Nat, g_X2_write n (f + 3) 64 [(0, .inl (.ref 15)), (1, .inl (.int a1)), (2, .inl (.int a2)), (3, .inl (.int a3)), (4, .inl (.int x11))] [] (hM nf ns rest s0 s10) (0, 0) = am_ri (F_X2_fail [.inl (.ref 15), .inl (.int (3 : Int32))] (hM nf ns rest s0 s10)) (fun x34 h => g_X2_write n f 69 [(0, .inl (.ref 15)), (1, .inl (.int a1)), (2, .inl (.int a2)), (3, .inl (.int a3)), (4, .inl (.int x11))] [.inl (.int x34)] h (0, 0)) (fun x h => some (.inr x, h)) from fun f n => rfl) 969 399).trans ?_
          rw [e_X2_fail (3 : Int32) s10]
          refine am_lbi (fun x34 s33 => ?_) (fun _ _ => rfl)
          refine ((show ∀ f n : Nat, g_X2_write n (f + 1) 69 [(0, .inl (.ref 15)), (1, .inl (.int a1)), (2, .inl (.int a2)), (3, .inl (.int a3)), (4, .inl (.int x11))] [.inl (.int x34)] (hM nf ns rest s0 s33) (0, 0) = some (.inl (some (.inl (.int x34))), hM nf ns rest s0 s33) from fun f n => rfl) 968 399).trans ?_
          rfl
      · refine ((show ∀ f n : Nat, g_X2_write n (f + 3) 39 [(0, .inl (.ref 15)), (1, .inl (.int a1)), (2, .inl (.int a2)), (3, .inl (.int a3))] [] (hM nf ns rest s0 s7) (0, 0) = am_ri (F_X2_fail [.inl (.ref 15), .inl (.int (2 : Int32))] (hM nf ns rest s0 s7)) (fun x36 h => g_X2_write n f 44 [(0, .inl (.ref 15)), (1, .inl (.int a1)), (2, .inl (.int a2)), (3, .inl (.int a3))] [.inl (.int x36)] h (0, 0)) (fun x h => some (.inr x, h)) from fun f n => rfl) 980 399).trans ?_
        rw [e_X2_fail (2 : Int32) s7]
        refine am_lbi (fun x36 s35 => ?_) (fun _ _ => rfl)
        refine ((show ∀ f n : Nat, g_X2_write n (f + 1) 44 [(0, .inl (.ref 15)), (1, .inl (.int a1)), (2, .inl (.int a2)), (3, .inl (.int a3))] [.inl (.int x36)] (hM nf ns rest s0 s35) (0, 0) = some (.inl (some (.inl (.int x36))), hM nf ns rest s0 s35) from fun f n => rfl) 979 399).trans ?_
        rfl
    · refine ((show ∀ f n : Nat, g_X2_write n (f + 3) 25 [(0, .inl (.ref 15)), (1, .inl (.int a1)), (2, .inl (.int a2)), (3, .inl (.int a3))] [] (hM nf ns rest s0 s5) (0, 0) = am_ri (F_X2_fail [.inl (.ref 15), .inl (.int (1 : Int32))] (hM nf ns rest s0 s5)) (fun x38 h => g_X2_write n f 30 [(0, .inl (.ref 15)), (1, .inl (.int a1)), (2, .inl (.int a2)), (3, .inl (.int a3))] [.inl (.int x38)] h (0, 0)) (fun x h => some (.inr x, h)) from fun f n => rfl) 984 399).trans ?_
      rw [e_X2_fail (1 : Int32) s5]
      refine am_lbi (fun x38 s37 => ?_) (fun _ _ => rfl)
      refine ((show ∀ f n : Nat, g_X2_write n (f + 1) 30 [(0, .inl (.ref 15)), (1, .inl (.int a1)), (2, .inl (.int a2)), (3, .inl (.int a3))] [.inl (.int x38)] (hM nf ns rest s0 s37) (0, 0) = some (.inl (some (.inl (.int x38))), hM nf ns rest s0 s37) from fun f n => rfl) 983 399).trans ?_
      rfl
set_option maxRecDepth 20000 in
def g_X2_sweep (n f pc : Nat) (lv : am_Lv) (st : List am_V) (h : am_H) (b : Nat × Nat) : Option am_O := am_go X_X2_sweep 4 (some .int) am_rs0 [] [(26, [0, 1, 2, 3])] (am_lp T_X2_sweep X_X2_sweep 4 (some .int) am_rs0 [] [(26, [0, 1, 2, 3])] n) f (am_from pc T_X2_sweep) lv st h b
set_option maxRecDepth 20000 in
def j_X2_sweep (n pc : Nat) (lv : am_Lv) (st : List am_V) (h : am_H) (b : Nat × Nat) : Option am_O := am_lp T_X2_sweep X_X2_sweep 4 (some .int) am_rs0 [] [(26, [0, 1, 2, 3])] n pc lv st h b
set_option maxRecDepth 20000 in
theorem j_X2_sweep_g (n pc : Nat) (lv : am_Lv) (st : List am_V) (h : am_H) (b : Nat × Nat) : j_X2_sweep (n + 1) pc lv st h b = g_X2_sweep n 1000 pc lv st h b := rfl
set_option maxRecDepth 20000 in
theorem j_X2_sweep_0 (pc : Nat) (lv : am_Lv) (st : List am_V) (h : am_H) (b : Nat × Nat) : j_X2_sweep 0 pc lv st h b = none := rfl
set_option maxRecDepth 20000 in
def p_X2_sweep_L26 : Nat → Int32 → Int32 → Int32 → KS → KR
  | 0, _, _, _, _ => none
  | n + 1, l1, l2, l3, s => cond (decide (l1 ≤ l3)) (some (.inl (some l2), s)) (kbi (p_X2_look  s) (fun x4 s3 => cond (decide (x4 = (0 : Int32))) (p_X2_sweep_L26 n l1 l2 (l3 + (1 : Int32)) s3) (p_X2_sweep_L26 n l1 (l2 + (1 : Int32)) (l3 + (1 : Int32)) s3)))
set_option maxRecDepth 20000 in
theorem b_X2_sweep_L26 {nf ns : Nat} {rest : am_H} {s0 : KS} (n : Nat) (ih : ∀ (l1 : Int32) (l2 : Int32) (l3 : Int32) (s : KS), j_X2_sweep n 26 [(0, .inl (.ref 15)), (1, .inl (.int l1)), (2, .inl (.int l2)), (3, .inl (.int l3))] [] (hM nf ns rest s0 s) (0, 0) = am_lf (hM nf ns rest s0) (p_X2_sweep_L26 n l1 l2 l3 s)) (f : Nat) (l1 : Int32) (l2 : Int32) (l3 : Int32) (s : KS) : g_X2_sweep n (f + 12) 26 [(0, .inl (.ref 15)), (1, .inl (.int l1)), (2, .inl (.int l2)), (3, .inl (.int l3))] [] (hM nf ns rest s0 s) (0, 0) = am_lf (hM nf ns rest s0) (p_X2_sweep_L26 (n + 1) l1 l2 l3 s) := by
  rw [p_X2_sweep_L26]
  refine ((show ∀ f n : Nat, g_X2_sweep n (f + 3) 26 [(0, .inl (.ref 15)), (1, .inl (.int l1)), (2, .inl (.int l2)), (3, .inl (.int l3))] [] (hM nf ns rest s0 s) (0, 0) = cond (decide (l1 ≤ l3)) (g_X2_sweep n f 47 [(0, .inl (.ref 15)), (1, .inl (.int l1)), (2, .inl (.int l2)), (3, .inl (.int l3))] [] (hM nf ns rest s0 s) (0, 0)) (g_X2_sweep n f 31 [(0, .inl (.ref 15)), (1, .inl (.int l1)), (2, .inl (.int l2)), (3, .inl (.int l3))] [] (hM nf ns rest s0 s) (0, 0)) from fun f n => rfl) (f + 9) n).trans ?_
  refine am_lcd ?_ ?_
  · refine ((show ∀ f n : Nat, g_X2_sweep n (f + 2) 47 [(0, .inl (.ref 15)), (1, .inl (.int l1)), (2, .inl (.int l2)), (3, .inl (.int l3))] [] (hM nf ns rest s0 s) (0, 0) = some (.inl (some (.inl (.int l2))), hM nf ns rest s0 s) from fun f n => rfl) (f + 7) n).trans ?_
    rfl
  · refine ((show ∀ f n : Nat, g_X2_sweep n (f + 2) 31 [(0, .inl (.ref 15)), (1, .inl (.int l1)), (2, .inl (.int l2)), (3, .inl (.int l3))] [] (hM nf ns rest s0 s) (0, 0) = am_ri (F_X2_look [.inl (.ref 15)] (hM nf ns rest s0 s)) (fun x4 h => g_X2_sweep n f 35 [(0, .inl (.ref 15)), (1, .inl (.int l1)), (2, .inl (.int l2)), (3, .inl (.int l3))] [.inl (.int x4)] h (0, 0)) (fun x h => some (.inr x, h)) from fun f n => rfl) (f + 7) n).trans ?_
    rw [e_X2_look  s]
    refine am_lbi (fun x4 s3 => ?_) (fun _ _ => rfl)
    refine ((show ∀ f n : Nat, g_X2_sweep n (f + 1) 35 [(0, .inl (.ref 15)), (1, .inl (.int l1)), (2, .inl (.int l2)), (3, .inl (.int l3))] [.inl (.int x4)] (hM nf ns rest s0 s3) (0, 0) = cond (decide (x4 = (0 : Int32))) (g_X2_sweep n f 41 [(0, .inl (.ref 15)), (1, .inl (.int l1)), (2, .inl (.int l2)), (3, .inl (.int l3))] [] (hM nf ns rest s0 s3) (0, 0)) (g_X2_sweep n f 38 [(0, .inl (.ref 15)), (1, .inl (.int l1)), (2, .inl (.int l2)), (3, .inl (.int l3))] [] (hM nf ns rest s0 s3) (0, 0)) from fun f n => rfl) (f + 6) n).trans ?_
    refine am_lcd ?_ ?_
    · refine ((show ∀ f n : Nat, g_X2_sweep n (f + 2) 41 [(0, .inl (.ref 15)), (1, .inl (.int l1)), (2, .inl (.int l2)), (3, .inl (.int l3))] [] (hM nf ns rest s0 s3) (0, 0) = j_X2_sweep n 26 [(0, .inl (.ref 15)), (1, .inl (.int l1)), (2, .inl (.int l2)), (3, .inl (.int (l3 + (1 : Int32))))] [] (hM nf ns rest s0 s3) (0, 0) from fun f n => rfl) (f + 4) n).trans ?_
      exact ih l1 l2 (l3 + (1 : Int32)) s3
    · refine ((show ∀ f n : Nat, g_X2_sweep n (f + 3) 38 [(0, .inl (.ref 15)), (1, .inl (.int l1)), (2, .inl (.int l2)), (3, .inl (.int l3))] [] (hM nf ns rest s0 s3) (0, 0) = j_X2_sweep n 26 [(0, .inl (.ref 15)), (1, .inl (.int l1)), (2, .inl (.int (l2 + (1 : Int32)))), (3, .inl (.int (l3 + (1 : Int32))))] [] (hM nf ns rest s0 s3) (0, 0) from fun f n => rfl) (f + 3) n).trans ?_
      exact ih l1 (l2 + (1 : Int32)) (l3 + (1 : Int32)) s3
set_option maxRecDepth 20000 in
theorem e_X2_sweep_L26 {nf ns : Nat} {rest : am_H} {s0 : KS} : ∀ (n : Nat) (l1 : Int32) (l2 : Int32) (l3 : Int32) (s : KS), j_X2_sweep n 26 [(0, .inl (.ref 15)), (1, .inl (.int l1)), (2, .inl (.int l2)), (3, .inl (.int l3))] [] (hM nf ns rest s0 s) (0, 0) = am_lf (hM nf ns rest s0) (p_X2_sweep_L26 n l1 l2 l3 s)
  | 0, _, _, _, _ => by rw [p_X2_sweep_L26]; rfl
  | n + 1, l1, l2, l3, s => (j_X2_sweep_g n 26 _ _ _ _).trans (b_X2_sweep_L26 n (e_X2_sweep_L26 n) 988 l1 l2 l3 s)
set_option maxRecDepth 20000 in
def p_X2_sweep (a1 : Int32) (s : KS) : KR := cond (decide (a1 < (1 : Int32))) (kbi (p_X2_fail (1 : Int32) (kS s 15 0 (0 : Int32))) (fun x2 s1 => some (.inl (some x2), s1))) (cond (decide (a1 ≤ (20 : Int32))) (p_X2_sweep_L26 400 a1 (0 : Int32) (0 : Int32) (kS s 15 0 (0 : Int32))) (kbi (p_X2_fail (1 : Int32) (kS s 15 0 (0 : Int32))) (fun x6 s5 => some (.inl (some x6), s5))))
set_option maxRecDepth 20000 in
theorem e_X2_sweep {nf ns : Nat} {rest : am_H} {s0 : KS} (a1 : Int32) (s : KS) : F_X2_sweep [.inl (.ref 15), .inl (.int a1)] (hM nf ns rest s0 s) = am_lf (hM nf ns rest s0) (p_X2_sweep a1 s) := by
  rw [p_X2_sweep]
  refine (show _ = g_X2_sweep 399 1000 0 [(0, .inl (.ref 15)), (1, .inl (.int a1))] [] (hM nf ns rest s0 s) (0, 0) from am_fn_g (Nat.le_of_ble_eq_true rfl)).trans ?_
  refine ((show ∀ f n : Nat, g_X2_sweep n (f + 6) 0 [(0, .inl (.ref 15)), (1, .inl (.int a1))] [] (hM nf ns rest s0 s) (0, 0) = cond (decide (a1 < (1 : Int32))) (g_X2_sweep n f 16 [(0, .inl (.ref 15)), (1, .inl (.int a1))] [] (hM nf ns rest s0 (kS s 15 0 (0 : Int32))) (0, 0)) (g_X2_sweep n f 10 [(0, .inl (.ref 15)), (1, .inl (.int a1))] [] (hM nf ns rest s0 (kS s 15 0 (0 : Int32))) (0, 0)) from fun f n => rfl) 994 399).trans ?_
  refine am_lcd ?_ ?_
  · refine ((show ∀ (f n : Nat) (z : KS), g_X2_sweep n (f + 3) 16 [(0, .inl (.ref 15)), (1, .inl (.int a1))] [] (hM nf ns rest s0 z) (0, 0) = am_ri (F_X2_fail [.inl (.ref 15), .inl (.int (1 : Int32))] (hM nf ns rest s0 z)) (fun x2 h => g_X2_sweep n f 21 [(0, .inl (.ref 15)), (1, .inl (.int a1))] [.inl (.int x2)] h (0, 0)) (fun x h => some (.inr x, h)) from fun f n z => rfl) 991 399 (kS s 15 0 (0 : Int32))).trans ?_
    rw [e_X2_fail (1 : Int32) (kS s 15 0 (0 : Int32))]
    refine am_lbi (fun x2 s1 => ?_) (fun _ _ => rfl)
    refine ((show ∀ f n : Nat, g_X2_sweep n (f + 1) 21 [(0, .inl (.ref 15)), (1, .inl (.int a1))] [.inl (.int x2)] (hM nf ns rest s0 s1) (0, 0) = some (.inl (some (.inl (.int x2))), hM nf ns rest s0 s1) from fun f n => rfl) 990 399).trans ?_
    rfl
  · refine ((show ∀ (f n : Nat) (z : KS), g_X2_sweep n (f + 3) 10 [(0, .inl (.ref 15)), (1, .inl (.int a1))] [] (hM nf ns rest s0 z) (0, 0) = cond (decide (a1 ≤ (20 : Int32))) (g_X2_sweep n f 22 [(0, .inl (.ref 15)), (1, .inl (.int a1))] [] (hM nf ns rest s0 z) (0, 0)) (g_X2_sweep n f 16 [(0, .inl (.ref 15)), (1, .inl (.int a1))] [] (hM nf ns rest s0 z) (0, 0)) from fun f n z => rfl) 991 399 (kS s 15 0 (0 : Int32))).trans ?_
    refine am_lcd ?_ ?_
    · refine ((show ∀ (f n : Nat) (z : KS), g_X2_sweep n (f + 4) 22 [(0, .inl (.ref 15)), (1, .inl (.int a1))] [] (hM nf ns rest s0 z) (0, 0) = g_X2_sweep n f 26 [(0, .inl (.ref 15)), (1, .inl (.int a1)), (2, .inl (.int (0 : Int32))), (3, .inl (.int (0 : Int32)))] [] (hM nf ns rest s0 z) (0, 0) from fun f n z => rfl) 987 399 (kS s 15 0 (0 : Int32))).trans ?_
      exact b_X2_sweep_L26 399 (e_X2_sweep_L26 399) 975 a1 (0 : Int32) (0 : Int32) (kS s 15 0 (0 : Int32))
    · refine ((show ∀ (f n : Nat) (z : KS), g_X2_sweep n (f + 3) 16 [(0, .inl (.ref 15)), (1, .inl (.int a1))] [] (hM nf ns rest s0 z) (0, 0) = am_ri (F_X2_fail [.inl (.ref 15), .inl (.int (1 : Int32))] (hM nf ns rest s0 z)) (fun x6 h => g_X2_sweep n f 21 [(0, .inl (.ref 15)), (1, .inl (.int a1))] [.inl (.int x6)] h (0, 0)) (fun x h => some (.inr x, h)) from fun f n z => rfl) 988 399 (kS s 15 0 (0 : Int32))).trans ?_
      rw [e_X2_fail (1 : Int32) (kS s 15 0 (0 : Int32))]
      refine am_lbi (fun x6 s5 => ?_) (fun _ _ => rfl)
      refine ((show ∀ f n : Nat, g_X2_sweep n (f + 1) 21 [(0, .inl (.ref 15)), (1, .inl (.int a1))] [.inl (.int x6)] (hM nf ns rest s0 s5) (0, 0) = some (.inl (some (.inl (.int x6))), hM nf ns rest s0 s5) from fun f n => rfl) 987 399).trans ?_
      rfl
set_option maxRecDepth 20000 in
def g_X2_swapOut (n f pc : Nat) (lv : am_Lv) (st : List am_V) (h : am_H) (b : Nat × Nat) : Option am_O := am_go X_X2_swapOut 5 (some .int) am_rs0 [] [(39, [0, 1, 2, 3])] (am_lp T_X2_swapOut X_X2_swapOut 5 (some .int) am_rs0 [] [(39, [0, 1, 2, 3])] n) f (am_from pc T_X2_swapOut) lv st h b
set_option maxRecDepth 20000 in
def j_X2_swapOut (n pc : Nat) (lv : am_Lv) (st : List am_V) (h : am_H) (b : Nat × Nat) : Option am_O := am_lp T_X2_swapOut X_X2_swapOut 5 (some .int) am_rs0 [] [(39, [0, 1, 2, 3])] n pc lv st h b
set_option maxRecDepth 20000 in
theorem j_X2_swapOut_g (n pc : Nat) (lv : am_Lv) (st : List am_V) (h : am_H) (b : Nat × Nat) : j_X2_swapOut (n + 1) pc lv st h b = g_X2_swapOut n 1000 pc lv st h b := rfl
set_option maxRecDepth 20000 in
theorem j_X2_swapOut_0 (pc : Nat) (lv : am_Lv) (st : List am_V) (h : am_H) (b : Nat × Nat) : j_X2_swapOut 0 pc lv st h b = none := rfl
set_option maxRecDepth 20000 in
def p_X2_swapOut_L39 : Nat → Int32 → Int32 → Int32 → KS → KR
  | 0, _, _, _, _ => none
  | n + 1, l1, l2, l3, s => cond (decide ((9 : Int32) ≤ l3)) (some (.inl (some l2), s)) (cond (am_in (((9 : Int32) * l1) + l3) 54) (cond (decide ((s.1 22 (((9 : Int32) * l1) + l3).toNatClampNeg) < (0 : Int32))) (p_X2_swapOut_L39 n l1 l2 (l3 + (1 : Int32)) s) (cond (am_in (s.1 22 (((9 : Int32) * l1) + l3).toNatClampNeg) 70) (cond (decide ((s.1 25 (s.1 22 (((9 : Int32) * l1) + l3).toNatClampNeg).toNatClampNeg) < (0 : Int32))) (p_X2_swapOut_L39 n l1 l2 (l3 + (1 : Int32)) s) (cond (am_in (s.1 22 (((9 : Int32) * l1) + l3).toNatClampNeg) 70) (cond (decide ((100 : Int32) ≤ (s.1 25 (s.1 22 (((9 : Int32) * l1) + l3).toNatClampNeg).toNatClampNeg))) (p_X2_swapOut_L39 n l1 l2 (l3 + (1 : Int32)) s) (kbi (p_X2_owners (s.1 22 (((9 : Int32) * l1) + l3).toNatClampNeg) s) (fun x6 s5 => cond (!decide (x6 = (1 : Int32))) (p_X2_swapOut_L39 n l1 l2 (l3 + (1 : Int32)) s5) (kbi (p_X2_freeSlot  s5) (fun x8 s7 => cond (decide ((0 : Int32) ≤ x8)) (kbv (p_X2_sendOut (s.1 22 (((9 : Int32) * l1) + l3).toNatClampNeg) s7) (fun s9 => p_X2_swapOut_L39 n l1 (l2 + (1 : Int32)) (l3 + (1 : Int32)) s9)) (p_X2_swapOut_L39 n l1 l2 (l3 + (1 : Int32)) s7)))))) none)) none)) none)
set_option maxRecDepth 20000 in
theorem b_X2_swapOut_L39 {nf ns : Nat} {rest : am_H} {s0 : KS} (n : Nat) (ih : ∀ (l1 : Int32) (l2 : Int32) (l3 : Int32) (s : KS), j_X2_swapOut n 39 [(0, .inl (.ref 15)), (1, .inl (.int l1)), (2, .inl (.int l2)), (3, .inl (.int l3))] [] (hM nf ns rest s0 s) (0, 0) = am_lf (hM nf ns rest s0) (p_X2_swapOut_L39 n l1 l2 l3 s)) (f : Nat) (l1 : Int32) (l2 : Int32) (l3 : Int32) (s : KS) : g_X2_swapOut n (f + 42) 39 [(0, .inl (.ref 15)), (1, .inl (.int l1)), (2, .inl (.int l2)), (3, .inl (.int l3))] [] (hM nf ns rest s0 s) (0, 0) = am_lf (hM nf ns rest s0) (p_X2_swapOut_L39 (n + 1) l1 l2 l3 s) := by
  rw [p_X2_swapOut_L39]
  refine ((show ∀ f n : Nat, g_X2_swapOut n (f + 3) 39 [(0, .inl (.ref 15)), (1, .inl (.int l1)), (2, .inl (.int l2)), (3, .inl (.int l3))] [] (hM nf ns rest s0 s) (0, 0) = cond (decide ((9 : Int32) ≤ l3)) (g_X2_swapOut n f 120 [(0, .inl (.ref 15)), (1, .inl (.int l1)), (2, .inl (.int l2)), (3, .inl (.int l3))] [] (hM nf ns rest s0 s) (0, 0)) (g_X2_swapOut n f 45 [(0, .inl (.ref 15)), (1, .inl (.int l1)), (2, .inl (.int l2)), (3, .inl (.int l3))] [] (hM nf ns rest s0 s) (0, 0)) from fun f n => rfl) (f + 39) n).trans ?_
  refine am_lcd ?_ ?_
  · refine ((show ∀ f n : Nat, g_X2_swapOut n (f + 2) 120 [(0, .inl (.ref 15)), (1, .inl (.int l1)), (2, .inl (.int l2)), (3, .inl (.int l3))] [] (hM nf ns rest s0 s) (0, 0) = some (.inl (some (.inl (.int l2))), hM nf ns rest s0 s) from fun f n => rfl) (f + 37) n).trans ?_
    rfl
  · refine ((show ∀ f n : Nat, g_X2_swapOut n (f + 11) 45 [(0, .inl (.ref 15)), (1, .inl (.int l1)), (2, .inl (.int l2)), (3, .inl (.int l3))] [] (hM nf ns rest s0 s) (0, 0) = cond (am_in (((9 : Int32) * l1) + l3) 54) (cond (decide ((s.1 22 (((9 : Int32) * l1) + l3).toNatClampNeg) < (0 : Int32))) (g_X2_swapOut n f 114 [(0, .inl (.ref 15)), (1, .inl (.int l1)), (2, .inl (.int l2)), (3, .inl (.int l3)), (4, .inl (.int (s.1 22 (((9 : Int32) * l1) + l3).toNatClampNeg)))] [] (hM nf ns rest s0 s) (0, 0)) (g_X2_swapOut n f 63 [(0, .inl (.ref 15)), (1, .inl (.int l1)), (2, .inl (.int l2)), (3, .inl (.int l3)), (4, .inl (.int (s.1 22 (((9 : Int32) * l1) + l3).toNatClampNeg)))] [] (hM nf ns rest s0 s) (0, 0))) none from fun f n => rfl) (f + 28) n).trans ?_
    refine am_lcd (B := none) ?_ rfl
    refine am_lcd ?_ ?_
    · refine ((show ∀ f n : Nat, g_X2_swapOut n (f + 2) 114 [(0, .inl (.ref 15)), (1, .inl (.int l1)), (2, .inl (.int l2)), (3, .inl (.int l3)), (4, .inl (.int (s.1 22 (((9 : Int32) * l1) + l3).toNatClampNeg)))] [] (hM nf ns rest s0 s) (0, 0) = j_X2_swapOut n 39 [(0, .inl (.ref 15)), (1, .inl (.int l1)), (2, .inl (.int l2)), (3, .inl (.int (l3 + (1 : Int32))))] [] (hM nf ns rest s0 s) (0, 0) from fun f n => rfl) (f + 26) n).trans ?_
      exact ih l1 l2 (l3 + (1 : Int32)) s
    · refine ((show ∀ f n : Nat, g_X2_swapOut n (f + 5) 63 [(0, .inl (.ref 15)), (1, .inl (.int l1)), (2, .inl (.int l2)), (3, .inl (.int l3)), (4, .inl (.int (s.1 22 (((9 : Int32) * l1) + l3).toNatClampNeg)))] [] (hM nf ns rest s0 s) (0, 0) = cond (am_in (s.1 22 (((9 : Int32) * l1) + l3).toNatClampNeg) 70) (cond (decide ((s.1 25 (s.1 22 (((9 : Int32) * l1) + l3).toNatClampNeg).toNatClampNeg) < (0 : Int32))) (g_X2_swapOut n f 114 [(0, .inl (.ref 15)), (1, .inl (.int l1)), (2, .inl (.int l2)), (3, .inl (.int l3)), (4, .inl (.int (s.1 22 (((9 : Int32) * l1) + l3).toNatClampNeg)))] [] (hM nf ns rest s0 s) (0, 0)) (g_X2_swapOut n f 73 [(0, .inl (.ref 15)), (1, .inl (.int l1)), (2, .inl (.int l2)), (3, .inl (.int l3)), (4, .inl (.int (s.1 22 (((9 : Int32) * l1) + l3).toNatClampNeg)))] [] (hM nf ns rest s0 s) (0, 0))) none from fun f n => rfl) (f + 23) n).trans ?_
      refine am_lcd (B := none) ?_ rfl
      refine am_lcd ?_ ?_
      · refine ((show ∀ f n : Nat, g_X2_swapOut n (f + 2) 114 [(0, .inl (.ref 15)), (1, .inl (.int l1)), (2, .inl (.int l2)), (3, .inl (.int l3)), (4, .inl (.int (s.1 22 (((9 : Int32) * l1) + l3).toNatClampNeg)))] [] (hM nf ns rest s0 s) (0, 0) = j_X2_swapOut n 39 [(0, .inl (.ref 15)), (1, .inl (.int l1)), (2, .inl (.int l2)), (3, .inl (.int (l3 + (1 : Int32))))] [] (hM nf ns rest s0 s) (0, 0) from fun f n => rfl) (f + 21) n).trans ?_
        exact ih l1 l2 (l3 + (1 : Int32)) s
      · refine ((show ∀ f n : Nat, g_X2_swapOut n (f + 6) 73 [(0, .inl (.ref 15)), (1, .inl (.int l1)), (2, .inl (.int l2)), (3, .inl (.int l3)), (4, .inl (.int (s.1 22 (((9 : Int32) * l1) + l3).toNatClampNeg)))] [] (hM nf ns rest s0 s) (0, 0) = cond (am_in (s.1 22 (((9 : Int32) * l1) + l3).toNatClampNeg) 70) (cond (decide ((100 : Int32) ≤ (s.1 25 (s.1 22 (((9 : Int32) * l1) + l3).toNatClampNeg).toNatClampNeg))) (g_X2_swapOut n f 114 [(0, .inl (.ref 15)), (1, .inl (.int l1)), (2, .inl (.int l2)), (3, .inl (.int l3)), (4, .inl (.int (s.1 22 (((9 : Int32) * l1) + l3).toNatClampNeg)))] [] (hM nf ns rest s0 s) (0, 0)) (g_X2_swapOut n f 85 [(0, .inl (.ref 15)), (1, .inl (.int l1)), (2, .inl (.int l2)), (3, .inl (.int l3)), (4, .inl (.int (s.1 22 (((9 : Int32) * l1) + l3).toNatClampNeg)))] [] (hM nf ns rest s0 s) (0, 0))) none from fun f n => rfl) (f + 17) n).trans ?_
        refine am_lcd (B := none) ?_ rfl
        refine am_lcd ?_ ?_
        · refine ((show ∀ f n : Nat, g_X2_swapOut n (f + 2) 114 [(0, .inl (.ref 15)), (1, .inl (.int l1)), (2, .inl (.int l2)), (3, .inl (.int l3)), (4, .inl (.int (s.1 22 (((9 : Int32) * l1) + l3).toNatClampNeg)))] [] (hM nf ns rest s0 s) (0, 0) = j_X2_swapOut n 39 [(0, .inl (.ref 15)), (1, .inl (.int l1)), (2, .inl (.int l2)), (3, .inl (.int (l3 + (1 : Int32))))] [] (hM nf ns rest s0 s) (0, 0) from fun f n => rfl) (f + 15) n).trans ?_
          exact ih l1 l2 (l3 + (1 : Int32)) s
        · refine ((show ∀ f n : Nat, g_X2_swapOut n (f + 3) 85 [(0, .inl (.ref 15)), (1, .inl (.int l1)), (2, .inl (.int l2)), (3, .inl (.int l3)), (4, .inl (.int (s.1 22 (((9 : Int32) * l1) + l3).toNatClampNeg)))] [] (hM nf ns rest s0 s) (0, 0) = am_ri (F_X2_owners [.inl (.ref 15), .inl (.int (s.1 22 (((9 : Int32) * l1) + l3).toNatClampNeg))] (hM nf ns rest s0 s)) (fun x6 h => g_X2_swapOut n f 91 [(0, .inl (.ref 15)), (1, .inl (.int l1)), (2, .inl (.int l2)), (3, .inl (.int l3)), (4, .inl (.int (s.1 22 (((9 : Int32) * l1) + l3).toNatClampNeg)))] [.inl (.int x6)] h (0, 0)) (fun x h => some (.inr x, h)) from fun f n => rfl) (f + 14) n).trans ?_
          rw [e_X2_owners (s.1 22 (((9 : Int32) * l1) + l3).toNatClampNeg) s]
          refine am_lbi (fun x6 s5 => ?_) (fun _ _ => rfl)
          refine ((show ∀ f n : Nat, g_X2_swapOut n (f + 2) 91 [(0, .inl (.ref 15)), (1, .inl (.int l1)), (2, .inl (.int l2)), (3, .inl (.int l3)), (4, .inl (.int (s.1 22 (((9 : Int32) * l1) + l3).toNatClampNeg)))] [.inl (.int x6)] (hM nf ns rest s0 s5) (0, 0) = cond (!decide (x6 = (1 : Int32))) (g_X2_swapOut n f 114 [(0, .inl (.ref 15)), (1, .inl (.int l1)), (2, .inl (.int l2)), (3, .inl (.int l3)), (4, .inl (.int (s.1 22 (((9 : Int32) * l1) + l3).toNatClampNeg)))] [] (hM nf ns rest s0 s5) (0, 0)) (g_X2_swapOut n f 95 [(0, .inl (.ref 15)), (1, .inl (.int l1)), (2, .inl (.int l2)), (3, .inl (.int l3)), (4, .inl (.int (s.1 22 (((9 : Int32) * l1) + l3).toNatClampNeg)))] [] (hM nf ns rest s0 s5) (0, 0)) from fun f n => rfl) (f + 12) n).trans ?_
          refine am_lcd ?_ ?_
          · refine ((show ∀ f n : Nat, g_X2_swapOut n (f + 2) 114 [(0, .inl (.ref 15)), (1, .inl (.int l1)), (2, .inl (.int l2)), (3, .inl (.int l3)), (4, .inl (.int (s.1 22 (((9 : Int32) * l1) + l3).toNatClampNeg)))] [] (hM nf ns rest s0 s5) (0, 0) = j_X2_swapOut n 39 [(0, .inl (.ref 15)), (1, .inl (.int l1)), (2, .inl (.int l2)), (3, .inl (.int (l3 + (1 : Int32))))] [] (hM nf ns rest s0 s5) (0, 0) from fun f n => rfl) (f + 10) n).trans ?_
            exact ih l1 l2 (l3 + (1 : Int32)) s5
          · refine ((show ∀ f n : Nat, g_X2_swapOut n (f + 2) 95 [(0, .inl (.ref 15)), (1, .inl (.int l1)), (2, .inl (.int l2)), (3, .inl (.int l3)), (4, .inl (.int (s.1 22 (((9 : Int32) * l1) + l3).toNatClampNeg)))] [] (hM nf ns rest s0 s5) (0, 0) = am_ri (F_X2_freeSlot [.inl (.ref 15)] (hM nf ns rest s0 s5)) (fun x8 h => g_X2_swapOut n f 99 [(0, .inl (.ref 15)), (1, .inl (.int l1)), (2, .inl (.int l2)), (3, .inl (.int l3)), (4, .inl (.int (s.1 22 (((9 : Int32) * l1) + l3).toNatClampNeg)))] [.inl (.int x8)] h (0, 0)) (fun x h => some (.inr x, h)) from fun f n => rfl) (f + 10) n).trans ?_
            rw [e_X2_freeSlot  s5]
            refine am_lbi (fun x8 s7 => ?_) (fun _ _ => rfl)
            refine ((show ∀ f n : Nat, g_X2_swapOut n (f + 1) 99 [(0, .inl (.ref 15)), (1, .inl (.int l1)), (2, .inl (.int l2)), (3, .inl (.int l3)), (4, .inl (.int (s.1 22 (((9 : Int32) * l1) + l3).toNatClampNeg)))] [.inl (.int x8)] (hM nf ns rest s0 s7) (0, 0) = cond (decide ((0 : Int32) ≤ x8)) (g_X2_swapOut n f 105 [(0, .inl (.ref 15)), (1, .inl (.int l1)), (2, .inl (.int l2)), (3, .inl (.int l3)), (4, .inl (.int (s.1 22 (((9 : Int32) * l1) + l3).toNatClampNeg)))] [] (hM nf ns rest s0 s7) (0, 0)) (g_X2_swapOut n f 102 [(0, .inl (.ref 15)), (1, .inl (.int l1)), (2, .inl (.int l2)), (3, .inl (.int l3)), (4, .inl (.int (s.1 22 (((9 : Int32) * l1) + l3).toNatClampNeg)))] [] (hM nf ns rest s0 s7) (0, 0)) from fun f n => rfl) (f + 9) n).trans ?_
            refine am_lcd ?_ ?_
            · refine ((show ∀ f n : Nat, g_X2_swapOut n (f + 3) 105 [(0, .inl (.ref 15)), (1, .inl (.int l1)), (2, .inl (.int l2)), (3, .inl (.int l3)), (4, .inl (.int (s.1 22 (((9 : Int32) * l1) + l3).toNatClampNeg)))] [] (hM nf ns rest s0 s7) (0, 0) = am_rv (F_X2_sendOut [.inl (.ref 15), .inl (.int (s.1 22 (((9 : Int32) * l1) + l3).toNatClampNeg))] (hM nf ns rest s0 s7)) (fun h => g_X2_swapOut n f 111 [(0, .inl (.ref 15)), (1, .inl (.int l1)), (2, .inl (.int l2)), (3, .inl (.int l3)), (4, .inl (.int (s.1 22 (((9 : Int32) * l1) + l3).toNatClampNeg)))] [] h (0, 0)) (fun x h => some (.inr x, h)) from fun f n => rfl) (f + 6) n).trans ?_
              rw [e_X2_sendOut (s.1 22 (((9 : Int32) * l1) + l3).toNatClampNeg) s7]
              refine am_lbv (fun s9 => ?_) (fun _ _ => rfl)
              refine ((show ∀ f n : Nat, g_X2_swapOut n (f + 3) 111 [(0, .inl (.ref 15)), (1, .inl (.int l1)), (2, .inl (.int l2)), (3, .inl (.int l3)), (4, .inl (.int (s.1 22 (((9 : Int32) * l1) + l3).toNatClampNeg)))] [] (hM nf ns rest s0 s9) (0, 0) = j_X2_swapOut n 39 [(0, .inl (.ref 15)), (1, .inl (.int l1)), (2, .inl (.int (l2 + (1 : Int32)))), (3, .inl (.int (l3 + (1 : Int32))))] [] (hM nf ns rest s0 s9) (0, 0) from fun f n => rfl) (f + 3) n).trans ?_
              exact ih l1 (l2 + (1 : Int32)) (l3 + (1 : Int32)) s9
            · refine ((show ∀ f n : Nat, g_X2_swapOut n (f + 3) 102 [(0, .inl (.ref 15)), (1, .inl (.int l1)), (2, .inl (.int l2)), (3, .inl (.int l3)), (4, .inl (.int (s.1 22 (((9 : Int32) * l1) + l3).toNatClampNeg)))] [] (hM nf ns rest s0 s7) (0, 0) = j_X2_swapOut n 39 [(0, .inl (.ref 15)), (1, .inl (.int l1)), (2, .inl (.int l2)), (3, .inl (.int (l3 + (1 : Int32))))] [] (hM nf ns rest s0 s7) (0, 0) from fun f n => rfl) (f + 6) n).trans ?_
              exact ih l1 l2 (l3 + (1 : Int32)) s7
set_option maxRecDepth 20000 in
theorem e_X2_swapOut_L39 {nf ns : Nat} {rest : am_H} {s0 : KS} : ∀ (n : Nat) (l1 : Int32) (l2 : Int32) (l3 : Int32) (s : KS), j_X2_swapOut n 39 [(0, .inl (.ref 15)), (1, .inl (.int l1)), (2, .inl (.int l2)), (3, .inl (.int l3))] [] (hM nf ns rest s0 s) (0, 0) = am_lf (hM nf ns rest s0) (p_X2_swapOut_L39 n l1 l2 l3 s)
  | 0, _, _, _, _ => by rw [p_X2_swapOut_L39]; rfl
  | n + 1, l1, l2, l3, s => (j_X2_swapOut_g n 39 _ _ _ _).trans (b_X2_swapOut_L39 n (e_X2_swapOut_L39 n) 958 l1 l2 l3 s)
set_option maxRecDepth 20000 in
def p_X2_swapOut (a1 : Int32) (s : KS) : KR := kbi (p_X2_out a1 (6 : Int32) (kS s 15 0 (0 : Int32))) (fun x2 s1 => cond (decide (x2 = (0 : Int32))) (kbi (p_X2_notRunning a1 s1) (fun x4 s3 => cond (decide (x4 = (0 : Int32))) (p_X2_swapOut_L39 400 a1 (0 : Int32) (0 : Int32) s3) (kbi (p_X2_fail (2 : Int32) s3) (fun x11 s10 => some (.inl (some x11), s10))))) (kbi (p_X2_fail (1 : Int32) s1) (fun x13 s12 => some (.inl (some x13), s12))))
set_option maxRecDepth 20000 in
theorem e_X2_swapOut {nf ns : Nat} {rest : am_H} {s0 : KS} (a1 : Int32) (s : KS) : F_X2_swapOut [.inl (.ref 15), .inl (.int a1)] (hM nf ns rest s0 s) = am_lf (hM nf ns rest s0) (p_X2_swapOut a1 s) := by
  rw [p_X2_swapOut]
  refine (show _ = g_X2_swapOut 399 1000 0 [(0, .inl (.ref 15)), (1, .inl (.int a1))] [] (hM nf ns rest s0 s) (0, 0) from am_fn_g (Nat.le_of_ble_eq_true rfl)).trans ?_
  refine ((show ∀ f n : Nat, g_X2_swapOut n (f + 7) 0 [(0, .inl (.ref 15)), (1, .inl (.int a1))] [] (hM nf ns rest s0 s) (0, 0) = am_ri (F_X2_out [.inl (.ref 15), .inl (.int a1), .inl (.int (6 : Int32))] (hM nf ns rest s0 (kS s 15 0 (0 : Int32)))) (fun x2 h => g_X2_swapOut n f 12 [(0, .inl (.ref 15)), (1, .inl (.int a1))] [.inl (.int x2)] h (0, 0)) (fun x h => some (.inr x, h)) from fun f n => rfl) 993 399).trans ?_
  rw [e_X2_out a1 (6 : Int32) (kS s 15 0 (0 : Int32))]
  refine am_lbi (fun x2 s1 => ?_) (fun _ _ => rfl)
  refine ((show ∀ f n : Nat, g_X2_swapOut n (f + 1) 12 [(0, .inl (.ref 15)), (1, .inl (.int a1))] [.inl (.int x2)] (hM nf ns rest s0 s1) (0, 0) = cond (decide (x2 = (0 : Int32))) (g_X2_swapOut n f 21 [(0, .inl (.ref 15)), (1, .inl (.int a1))] [] (hM nf ns rest s0 s1) (0, 0)) (g_X2_swapOut n f 15 [(0, .inl (.ref 15)), (1, .inl (.int a1))] [] (hM nf ns rest s0 s1) (0, 0)) from fun f n => rfl) 992 399).trans ?_
  refine am_lcd ?_ ?_
  · refine ((show ∀ f n : Nat, g_X2_swapOut n (f + 3) 21 [(0, .inl (.ref 15)), (1, .inl (.int a1))] [] (hM nf ns rest s0 s1) (0, 0) = am_ri (F_X2_notRunning [.inl (.ref 15), .inl (.int a1)] (hM nf ns rest s0 s1)) (fun x4 h => g_X2_swapOut n f 26 [(0, .inl (.ref 15)), (1, .inl (.int a1))] [.inl (.int x4)] h (0, 0)) (fun x h => some (.inr x, h)) from fun f n => rfl) 989 399).trans ?_
    rw [e_X2_notRunning a1 s1]
    refine am_lbi (fun x4 s3 => ?_) (fun _ _ => rfl)
    refine ((show ∀ f n : Nat, g_X2_swapOut n (f + 1) 26 [(0, .inl (.ref 15)), (1, .inl (.int a1))] [.inl (.int x4)] (hM nf ns rest s0 s3) (0, 0) = cond (decide (x4 = (0 : Int32))) (g_X2_swapOut n f 35 [(0, .inl (.ref 15)), (1, .inl (.int a1))] [] (hM nf ns rest s0 s3) (0, 0)) (g_X2_swapOut n f 29 [(0, .inl (.ref 15)), (1, .inl (.int a1))] [] (hM nf ns rest s0 s3) (0, 0)) from fun f n => rfl) 988 399).trans ?_
    refine am_lcd ?_ ?_
    · refine ((show ∀ f n : Nat, g_X2_swapOut n (f + 4) 35 [(0, .inl (.ref 15)), (1, .inl (.int a1))] [] (hM nf ns rest s0 s3) (0, 0) = g_X2_swapOut n f 39 [(0, .inl (.ref 15)), (1, .inl (.int a1)), (2, .inl (.int (0 : Int32))), (3, .inl (.int (0 : Int32)))] [] (hM nf ns rest s0 s3) (0, 0) from fun f n => rfl) 984 399).trans ?_
      exact b_X2_swapOut_L39 399 (e_X2_swapOut_L39 399) 942 a1 (0 : Int32) (0 : Int32) s3
    · refine ((show ∀ f n : Nat, g_X2_swapOut n (f + 3) 29 [(0, .inl (.ref 15)), (1, .inl (.int a1))] [] (hM nf ns rest s0 s3) (0, 0) = am_ri (F_X2_fail [.inl (.ref 15), .inl (.int (2 : Int32))] (hM nf ns rest s0 s3)) (fun x11 h => g_X2_swapOut n f 34 [(0, .inl (.ref 15)), (1, .inl (.int a1))] [.inl (.int x11)] h (0, 0)) (fun x h => some (.inr x, h)) from fun f n => rfl) 985 399).trans ?_
      rw [e_X2_fail (2 : Int32) s3]
      refine am_lbi (fun x11 s10 => ?_) (fun _ _ => rfl)
      refine ((show ∀ f n : Nat, g_X2_swapOut n (f + 1) 34 [(0, .inl (.ref 15)), (1, .inl (.int a1))] [.inl (.int x11)] (hM nf ns rest s0 s10) (0, 0) = some (.inl (some (.inl (.int x11))), hM nf ns rest s0 s10) from fun f n => rfl) 984 399).trans ?_
      rfl
  · refine ((show ∀ f n : Nat, g_X2_swapOut n (f + 3) 15 [(0, .inl (.ref 15)), (1, .inl (.int a1))] [] (hM nf ns rest s0 s1) (0, 0) = am_ri (F_X2_fail [.inl (.ref 15), .inl (.int (1 : Int32))] (hM nf ns rest s0 s1)) (fun x13 h => g_X2_swapOut n f 20 [(0, .inl (.ref 15)), (1, .inl (.int a1))] [.inl (.int x13)] h (0, 0)) (fun x h => some (.inr x, h)) from fun f n => rfl) 989 399).trans ?_
    rw [e_X2_fail (1 : Int32) s1]
    refine am_lbi (fun x13 s12 => ?_) (fun _ _ => rfl)
    refine ((show ∀ f n : Nat, g_X2_swapOut n (f + 1) 20 [(0, .inl (.ref 15)), (1, .inl (.int a1))] [.inl (.int x13)] (hM nf ns rest s0 s12) (0, 0) = some (.inl (some (.inl (.int x13))), hM nf ns rest s0 s12) from fun f n => rfl) 988 399).trans ?_
    rfl
set_option maxRecDepth 20000 in
def g_X2_seek (n f pc : Nat) (lv : am_Lv) (st : List am_V) (h : am_H) (b : Nat × Nat) : Option am_O := am_go X_X2_seek 3 (some .int) am_rs0 [] [] (am_lp T_X2_seek X_X2_seek 3 (some .int) am_rs0 [] [] n) f (am_from pc T_X2_seek) lv st h b
set_option maxRecDepth 20000 in
def j_X2_seek (n pc : Nat) (lv : am_Lv) (st : List am_V) (h : am_H) (b : Nat × Nat) : Option am_O := am_lp T_X2_seek X_X2_seek 3 (some .int) am_rs0 [] [] n pc lv st h b
set_option maxRecDepth 20000 in
theorem j_X2_seek_g (n pc : Nat) (lv : am_Lv) (st : List am_V) (h : am_H) (b : Nat × Nat) : j_X2_seek (n + 1) pc lv st h b = g_X2_seek n 1000 pc lv st h b := rfl
set_option maxRecDepth 20000 in
theorem j_X2_seek_0 (pc : Nat) (lv : am_Lv) (st : List am_V) (h : am_H) (b : Nat × Nat) : j_X2_seek 0 pc lv st h b = none := rfl
set_option maxRecDepth 20000 in
def p_X2_seek (a1 : Int32) (a2 : Int32) (s : KS) : KR := kbi (p_X2_out a1 (6 : Int32) s) (fun x2 s1 => cond (!decide (x2 = (0 : Int32))) (cond (decide (((kS s1 15 0 (1 : Int32)).1 15 0) ≤ (0 : Int32))) (kbi (p_X2_pageOf a1 a2 (kS s1 15 0 (1 : Int32))) (fun x4 s3 => some (.inl (some x4), s3))) (some (.inl (some (-1 : Int32)), (kS s1 15 0 (1 : Int32))))) (kbi (p_X2_out a2 (44 : Int32) s1) (fun x6 s5 => cond (decide (x6 = (0 : Int32))) (kbi (p_X2_notRunning a1 s5) (fun x8 s7 => cond (decide (x8 = (0 : Int32))) (kbi (p_X2_pageOf a1 a2 s7) (fun x10 s9 => cond (decide ((0 : Int32) ≤ x10)) (cond (decide ((s9.1 15 0) ≤ (0 : Int32))) (kbi (p_X2_pageOf a1 a2 s9) (fun x12 s11 => some (.inl (some x12), s11))) (some (.inl (some (-1 : Int32)), s9))) (cond (decide (((kS s9 15 0 (3 : Int32)).1 15 0) ≤ (0 : Int32))) (kbi (p_X2_pageOf a1 a2 (kS s9 15 0 (3 : Int32))) (fun x14 s13 => some (.inl (some x14), s13))) (some (.inl (some (-1 : Int32)), (kS s9 15 0 (3 : Int32))))))) (cond (decide (((kS s7 15 0 (2 : Int32)).1 15 0) ≤ (0 : Int32))) (kbi (p_X2_pageOf a1 a2 (kS s7 15 0 (2 : Int32))) (fun x16 s15 => some (.inl (some x16), s15))) (some (.inl (some (-1 : Int32)), (kS s7 15 0 (2 : Int32))))))) (cond (decide (((kS s5 15 0 (1 : Int32)).1 15 0) ≤ (0 : Int32))) (kbi (p_X2_pageOf a1 a2 (kS s5 15 0 (1 : Int32))) (fun x18 s17 => some (.inl (some x18), s17))) (some (.inl (some (-1 : Int32)), (kS s5 15 0 (1 : Int32))))))))
set_option maxRecDepth 20000 in
theorem e_X2_seek {nf ns : Nat} {rest : am_H} {s0 : KS} (a1 : Int32) (a2 : Int32) (s : KS) : F_X2_seek [.inl (.ref 15), .inl (.int a1), .inl (.int a2)] (hM nf ns rest s0 s) = am_lf (hM nf ns rest s0) (p_X2_seek a1 a2 s) := by
  rw [p_X2_seek]
  refine (show _ = g_X2_seek 399 1000 0 [(0, .inl (.ref 15)), (1, .inl (.int a1)), (2, .inl (.int a2))] [] (hM nf ns rest s0 s) (0, 0) from am_fn_g (Nat.le_of_ble_eq_true rfl)).trans ?_
  refine ((show ∀ f n : Nat, g_X2_seek n (f + 4) 0 [(0, .inl (.ref 15)), (1, .inl (.int a1)), (2, .inl (.int a2))] [] (hM nf ns rest s0 s) (0, 0) = am_ri (F_X2_out [.inl (.ref 15), .inl (.int a1), .inl (.int (6 : Int32))] (hM nf ns rest s0 s)) (fun x2 h => g_X2_seek n f 7 [(0, .inl (.ref 15)), (1, .inl (.int a1)), (2, .inl (.int a2))] [.inl (.int x2)] h (0, 0)) (fun x h => some (.inr x, h)) from fun f n => rfl) 996 399).trans ?_
  rw [e_X2_out a1 (6 : Int32) s]
  refine am_lbi (fun x2 s1 => ?_) (fun _ _ => rfl)
  refine ((show ∀ f n : Nat, g_X2_seek n (f + 1) 7 [(0, .inl (.ref 15)), (1, .inl (.int a1)), (2, .inl (.int a2))] [.inl (.int x2)] (hM nf ns rest s0 s1) (0, 0) = cond (!decide (x2 = (0 : Int32))) (g_X2_seek n f 20 [(0, .inl (.ref 15)), (1, .inl (.int a1)), (2, .inl (.int a2))] [] (hM nf ns rest s0 s1) (0, 0)) (g_X2_seek n f 10 [(0, .inl (.ref 15)), (1, .inl (.int a1)), (2, .inl (.int a2))] [] (hM nf ns rest s0 s1) (0, 0)) from fun f n => rfl) 995 399).trans ?_
  refine am_lcd ?_ ?_
  · refine ((show ∀ f n : Nat, g_X2_seek n (f + 7) 20 [(0, .inl (.ref 15)), (1, .inl (.int a1)), (2, .inl (.int a2))] [] (hM nf ns rest s0 s1) (0, 0) = cond (decide (((kS s1 15 0 (1 : Int32)).1 15 0) ≤ (0 : Int32))) (g_X2_seek n f 69 [(0, .inl (.ref 15)), (1, .inl (.int a1)), (2, .inl (.int a2))] [] (hM nf ns rest s0 (kS s1 15 0 (1 : Int32))) (0, 0)) (g_X2_seek n f 65 [(0, .inl (.ref 15)), (1, .inl (.int a1)), (2, .inl (.int a2))] [] (hM nf ns rest s0 (kS s1 15 0 (1 : Int32))) (0, 0)) from fun f n => rfl) 988 399).trans ?_
    refine am_lcd ?_ ?_
    · refine ((show ∀ (f n : Nat) (z : KS), g_X2_seek n (f + 4) 69 [(0, .inl (.ref 15)), (1, .inl (.int a1)), (2, .inl (.int a2))] [] (hM nf ns rest s0 z) (0, 0) = am_ri (F_X2_pageOf [.inl (.ref 15), .inl (.int a1), .inl (.int a2)] (hM nf ns rest s0 z)) (fun x4 h => g_X2_seek n f 75 [(0, .inl (.ref 15)), (1, .inl (.int a1)), (2, .inl (.int a2))] [.inl (.int x4)] h (0, 0)) (fun x h => some (.inr x, h)) from fun f n z => rfl) 984 399 (kS s1 15 0 (1 : Int32))).trans ?_
      rw [e_X2_pageOf a1 a2 (kS s1 15 0 (1 : Int32))]
      refine am_lbi (fun x4 s3 => ?_) (fun _ _ => rfl)
      refine ((show ∀ f n : Nat, g_X2_seek n (f + 1) 75 [(0, .inl (.ref 15)), (1, .inl (.int a1)), (2, .inl (.int a2))] [.inl (.int x4)] (hM nf ns rest s0 s3) (0, 0) = some (.inl (some (.inl (.int x4))), hM nf ns rest s0 s3) from fun f n => rfl) 983 399).trans ?_
      rfl
    · refine ((show ∀ (f n : Nat) (z : KS), g_X2_seek n (f + 3) 65 [(0, .inl (.ref 15)), (1, .inl (.int a1)), (2, .inl (.int a2))] [] (hM nf ns rest s0 z) (0, 0) = some (.inl (some (.inl (.int (-1 : Int32)))), hM nf ns rest s0 z) from fun f n z => rfl) 985 399 (kS s1 15 0 (1 : Int32))).trans ?_
      rfl
  · refine ((show ∀ f n : Nat, g_X2_seek n (f + 4) 10 [(0, .inl (.ref 15)), (1, .inl (.int a1)), (2, .inl (.int a2))] [] (hM nf ns rest s0 s1) (0, 0) = am_ri (F_X2_out [.inl (.ref 15), .inl (.int a2), .inl (.int (44 : Int32))] (hM nf ns rest s0 s1)) (fun x6 h => g_X2_seek n f 17 [(0, .inl (.ref 15)), (1, .inl (.int a1)), (2, .inl (.int a2))] [.inl (.int x6)] h (0, 0)) (fun x h => some (.inr x, h)) from fun f n => rfl) 991 399).trans ?_
    rw [e_X2_out a2 (44 : Int32) s1]
    refine am_lbi (fun x6 s5 => ?_) (fun _ _ => rfl)
    refine ((show ∀ f n : Nat, g_X2_seek n (f + 1) 17 [(0, .inl (.ref 15)), (1, .inl (.int a1)), (2, .inl (.int a2))] [.inl (.int x6)] (hM nf ns rest s0 s5) (0, 0) = cond (decide (x6 = (0 : Int32))) (g_X2_seek n f 28 [(0, .inl (.ref 15)), (1, .inl (.int a1)), (2, .inl (.int a2))] [] (hM nf ns rest s0 s5) (0, 0)) (g_X2_seek n f 20 [(0, .inl (.ref 15)), (1, .inl (.int a1)), (2, .inl (.int a2))] [] (hM nf ns rest s0 s5) (0, 0)) from fun f n => rfl) 990 399).trans ?_
    refine am_lcd ?_ ?_
    · refine ((show ∀ f n : Nat, g_X2_seek n (f + 3) 28 [(0, .inl (.ref 15)), (1, .inl (.int a1)), (2, .inl (.int a2))] [] (hM nf ns rest s0 s5) (0, 0) = am_ri (F_X2_notRunning [.inl (.ref 15), .inl (.int a1)] (hM nf ns rest s0 s5)) (fun x8 h => g_X2_seek n f 33 [(0, .inl (.ref 15)), (1, .inl (.int a1)), (2, .inl (.int a2))] [.inl (.int x8)] h (0, 0)) (fun x h => some (.inr x, h)) from fun f n => rfl) 987 399).trans ?_
      rw [e_X2_notRunning a1 s5]
      refine am_lbi (fun x8 s7 => ?_) (fun _ _ => rfl)
      refine ((show ∀ f n : Nat, g_X2_seek n (f + 1) 33 [(0, .inl (.ref 15)), (1, .inl (.int a1)), (2, .inl (.int a2))] [.inl (.int x8)] (hM nf ns rest s0 s7) (0, 0) = cond (decide (x8 = (0 : Int32))) (g_X2_seek n f 44 [(0, .inl (.ref 15)), (1, .inl (.int a1)), (2, .inl (.int a2))] [] (hM nf ns rest s0 s7) (0, 0)) (g_X2_seek n f 36 [(0, .inl (.ref 15)), (1, .inl (.int a1)), (2, .inl (.int a2))] [] (hM nf ns rest s0 s7) (0, 0)) from fun f n => rfl) 986 399).trans ?_
      refine am_lcd ?_ ?_
      · refine ((show ∀ f n : Nat, g_X2_seek n (f + 4) 44 [(0, .inl (.ref 15)), (1, .inl (.int a1)), (2, .inl (.int a2))] [] (hM nf ns rest s0 s7) (0, 0) = am_ri (F_X2_pageOf [.inl (.ref 15), .inl (.int a1), .inl (.int a2)] (hM nf ns rest s0 s7)) (fun x10 h => g_X2_seek n f 50 [(0, .inl (.ref 15)), (1, .inl (.int a1)), (2, .inl (.int a2))] [.inl (.int x10)] h (0, 0)) (fun x h => some (.inr x, h)) from fun f n => rfl) 982 399).trans ?_
        rw [e_X2_pageOf a1 a2 s7]
        refine am_lbi (fun x10 s9 => ?_) (fun _ _ => rfl)
        refine ((show ∀ f n : Nat, g_X2_seek n (f + 1) 50 [(0, .inl (.ref 15)), (1, .inl (.int a1)), (2, .inl (.int a2))] [.inl (.int x10)] (hM nf ns rest s0 s9) (0, 0) = cond (decide ((0 : Int32) ≤ x10)) (g_X2_seek n f 58 [(0, .inl (.ref 15)), (1, .inl (.int a1)), (2, .inl (.int a2))] [] (hM nf ns rest s0 s9) (0, 0)) (g_X2_seek n f 53 [(0, .inl (.ref 15)), (1, .inl (.int a1)), (2, .inl (.int a2))] [] (hM nf ns rest s0 s9) (0, 0)) from fun f n => rfl) 981 399).trans ?_
        refine am_lcd ?_ ?_
        · refine ((show ∀ f n : Nat, g_X2_seek n (f + 3) 58 [(0, .inl (.ref 15)), (1, .inl (.int a1)), (2, .inl (.int a2))] [] (hM nf ns rest s0 s9) (0, 0) = cond (decide ((s9.1 15 0) ≤ (0 : Int32))) (g_X2_seek n f 69 [(0, .inl (.ref 15)), (1, .inl (.int a1)), (2, .inl (.int a2))] [] (hM nf ns rest s0 s9) (0, 0)) (g_X2_seek n f 65 [(0, .inl (.ref 15)), (1, .inl (.int a1)), (2, .inl (.int a2))] [] (hM nf ns rest s0 s9) (0, 0)) from fun f n => rfl) 978 399).trans ?_
          refine am_lcd ?_ ?_
          · refine ((show ∀ f n : Nat, g_X2_seek n (f + 4) 69 [(0, .inl (.ref 15)), (1, .inl (.int a1)), (2, .inl (.int a2))] [] (hM nf ns rest s0 s9) (0, 0) = am_ri (F_X2_pageOf [.inl (.ref 15), .inl (.int a1), .inl (.int a2)] (hM nf ns rest s0 s9)) (fun x12 h => g_X2_seek n f 75 [(0, .inl (.ref 15)), (1, .inl (.int a1)), (2, .inl (.int a2))] [.inl (.int x12)] h (0, 0)) (fun x h => some (.inr x, h)) from fun f n => rfl) 974 399).trans ?_
            rw [e_X2_pageOf a1 a2 s9]
            refine am_lbi (fun x12 s11 => ?_) (fun _ _ => rfl)
            refine ((show ∀ f n : Nat, g_X2_seek n (f + 1) 75 [(0, .inl (.ref 15)), (1, .inl (.int a1)), (2, .inl (.int a2))] [.inl (.int x12)] (hM nf ns rest s0 s11) (0, 0) = some (.inl (some (.inl (.int x12))), hM nf ns rest s0 s11) from fun f n => rfl) 973 399).trans ?_
            rfl
          · refine ((show ∀ f n : Nat, g_X2_seek n (f + 3) 65 [(0, .inl (.ref 15)), (1, .inl (.int a1)), (2, .inl (.int a2))] [] (hM nf ns rest s0 s9) (0, 0) = some (.inl (some (.inl (.int (-1 : Int32)))), hM nf ns rest s0 s9) from fun f n => rfl) 975 399).trans ?_
            rfl
        · refine ((show ∀ f n : Nat, g_X2_seek n (f + 6) 53 [(0, .inl (.ref 15)), (1, .inl (.int a1)), (2, .inl (.int a2))] [] (hM nf ns rest s0 s9) (0, 0) = cond (decide (((kS s9 15 0 (3 : Int32)).1 15 0) ≤ (0 : Int32))) (g_X2_seek n f 69 [(0, .inl (.ref 15)), (1, .inl (.int a1)), (2, .inl (.int a2))] [] (hM nf ns rest s0 (kS s9 15 0 (3 : Int32))) (0, 0)) (g_X2_seek n f 65 [(0, .inl (.ref 15)), (1, .inl (.int a1)), (2, .inl (.int a2))] [] (hM nf ns rest s0 (kS s9 15 0 (3 : Int32))) (0, 0)) from fun f n => rfl) 975 399).trans ?_
          refine am_lcd ?_ ?_
          · refine ((show ∀ (f n : Nat) (z : KS), g_X2_seek n (f + 4) 69 [(0, .inl (.ref 15)), (1, .inl (.int a1)), (2, .inl (.int a2))] [] (hM nf ns rest s0 z) (0, 0) = am_ri (F_X2_pageOf [.inl (.ref 15), .inl (.int a1), .inl (.int a2)] (hM nf ns rest s0 z)) (fun x14 h => g_X2_seek n f 75 [(0, .inl (.ref 15)), (1, .inl (.int a1)), (2, .inl (.int a2))] [.inl (.int x14)] h (0, 0)) (fun x h => some (.inr x, h)) from fun f n z => rfl) 971 399 (kS s9 15 0 (3 : Int32))).trans ?_
            rw [e_X2_pageOf a1 a2 (kS s9 15 0 (3 : Int32))]
            refine am_lbi (fun x14 s13 => ?_) (fun _ _ => rfl)
            refine ((show ∀ f n : Nat, g_X2_seek n (f + 1) 75 [(0, .inl (.ref 15)), (1, .inl (.int a1)), (2, .inl (.int a2))] [.inl (.int x14)] (hM nf ns rest s0 s13) (0, 0) = some (.inl (some (.inl (.int x14))), hM nf ns rest s0 s13) from fun f n => rfl) 970 399).trans ?_
            rfl
          · refine ((show ∀ (f n : Nat) (z : KS), g_X2_seek n (f + 3) 65 [(0, .inl (.ref 15)), (1, .inl (.int a1)), (2, .inl (.int a2))] [] (hM nf ns rest s0 z) (0, 0) = some (.inl (some (.inl (.int (-1 : Int32)))), hM nf ns rest s0 z) from fun f n z => rfl) 972 399 (kS s9 15 0 (3 : Int32))).trans ?_
            rfl
      · refine ((show ∀ f n : Nat, g_X2_seek n (f + 7) 36 [(0, .inl (.ref 15)), (1, .inl (.int a1)), (2, .inl (.int a2))] [] (hM nf ns rest s0 s7) (0, 0) = cond (decide (((kS s7 15 0 (2 : Int32)).1 15 0) ≤ (0 : Int32))) (g_X2_seek n f 69 [(0, .inl (.ref 15)), (1, .inl (.int a1)), (2, .inl (.int a2))] [] (hM nf ns rest s0 (kS s7 15 0 (2 : Int32))) (0, 0)) (g_X2_seek n f 65 [(0, .inl (.ref 15)), (1, .inl (.int a1)), (2, .inl (.int a2))] [] (hM nf ns rest s0 (kS s7 15 0 (2 : Int32))) (0, 0)) from fun f n => rfl) 979 399).trans ?_
        refine am_lcd ?_ ?_
        · refine ((show ∀ (f n : Nat) (z : KS), g_X2_seek n (f + 4) 69 [(0, .inl (.ref 15)), (1, .inl (.int a1)), (2, .inl (.int a2))] [] (hM nf ns rest s0 z) (0, 0) = am_ri (F_X2_pageOf [.inl (.ref 15), .inl (.int a1), .inl (.int a2)] (hM nf ns rest s0 z)) (fun x16 h => g_X2_seek n f 75 [(0, .inl (.ref 15)), (1, .inl (.int a1)), (2, .inl (.int a2))] [.inl (.int x16)] h (0, 0)) (fun x h => some (.inr x, h)) from fun f n z => rfl) 975 399 (kS s7 15 0 (2 : Int32))).trans ?_
          rw [e_X2_pageOf a1 a2 (kS s7 15 0 (2 : Int32))]
          refine am_lbi (fun x16 s15 => ?_) (fun _ _ => rfl)
          refine ((show ∀ f n : Nat, g_X2_seek n (f + 1) 75 [(0, .inl (.ref 15)), (1, .inl (.int a1)), (2, .inl (.int a2))] [.inl (.int x16)] (hM nf ns rest s0 s15) (0, 0) = some (.inl (some (.inl (.int x16))), hM nf ns rest s0 s15) from fun f n => rfl) 974 399).trans ?_
          rfl
        · refine ((show ∀ (f n : Nat) (z : KS), g_X2_seek n (f + 3) 65 [(0, .inl (.ref 15)), (1, .inl (.int a1)), (2, .inl (.int a2))] [] (hM nf ns rest s0 z) (0, 0) = some (.inl (some (.inl (.int (-1 : Int32)))), hM nf ns rest s0 z) from fun f n z => rfl) 976 399 (kS s7 15 0 (2 : Int32))).trans ?_
          rfl
    · refine ((show ∀ f n : Nat, g_X2_seek n (f + 7) 20 [(0, .inl (.ref 15)), (1, .inl (.int a1)), (2, .inl (.int a2))] [] (hM nf ns rest s0 s5) (0, 0) = cond (decide (((kS s5 15 0 (1 : Int32)).1 15 0) ≤ (0 : Int32))) (g_X2_seek n f 69 [(0, .inl (.ref 15)), (1, .inl (.int a1)), (2, .inl (.int a2))] [] (hM nf ns rest s0 (kS s5 15 0 (1 : Int32))) (0, 0)) (g_X2_seek n f 65 [(0, .inl (.ref 15)), (1, .inl (.int a1)), (2, .inl (.int a2))] [] (hM nf ns rest s0 (kS s5 15 0 (1 : Int32))) (0, 0)) from fun f n => rfl) 983 399).trans ?_
      refine am_lcd ?_ ?_
      · refine ((show ∀ (f n : Nat) (z : KS), g_X2_seek n (f + 4) 69 [(0, .inl (.ref 15)), (1, .inl (.int a1)), (2, .inl (.int a2))] [] (hM nf ns rest s0 z) (0, 0) = am_ri (F_X2_pageOf [.inl (.ref 15), .inl (.int a1), .inl (.int a2)] (hM nf ns rest s0 z)) (fun x18 h => g_X2_seek n f 75 [(0, .inl (.ref 15)), (1, .inl (.int a1)), (2, .inl (.int a2))] [.inl (.int x18)] h (0, 0)) (fun x h => some (.inr x, h)) from fun f n z => rfl) 979 399 (kS s5 15 0 (1 : Int32))).trans ?_
        rw [e_X2_pageOf a1 a2 (kS s5 15 0 (1 : Int32))]
        refine am_lbi (fun x18 s17 => ?_) (fun _ _ => rfl)
        refine ((show ∀ f n : Nat, g_X2_seek n (f + 1) 75 [(0, .inl (.ref 15)), (1, .inl (.int a1)), (2, .inl (.int a2))] [.inl (.int x18)] (hM nf ns rest s0 s17) (0, 0) = some (.inl (some (.inl (.int x18))), hM nf ns rest s0 s17) from fun f n => rfl) 978 399).trans ?_
        rfl
      · refine ((show ∀ (f n : Nat) (z : KS), g_X2_seek n (f + 3) 65 [(0, .inl (.ref 15)), (1, .inl (.int a1)), (2, .inl (.int a2))] [] (hM nf ns rest s0 z) (0, 0) = some (.inl (some (.inl (.int (-1 : Int32)))), hM nf ns rest s0 z) from fun f n z => rfl) 980 399 (kS s5 15 0 (1 : Int32))).trans ?_
        rfl
set_option maxRecDepth 20000 in
def g_X2_where (n f pc : Nat) (lv : am_Lv) (st : List am_V) (h : am_H) (b : Nat × Nat) : Option am_O := am_go X_X2_where 4 (some .int) am_rs0 [] [] (am_lp T_X2_where X_X2_where 4 (some .int) am_rs0 [] [] n) f (am_from pc T_X2_where) lv st h b
set_option maxRecDepth 20000 in
def j_X2_where (n pc : Nat) (lv : am_Lv) (st : List am_V) (h : am_H) (b : Nat × Nat) : Option am_O := am_lp T_X2_where X_X2_where 4 (some .int) am_rs0 [] [] n pc lv st h b
set_option maxRecDepth 20000 in
theorem j_X2_where_g (n pc : Nat) (lv : am_Lv) (st : List am_V) (h : am_H) (b : Nat × Nat) : j_X2_where (n + 1) pc lv st h b = g_X2_where n 1000 pc lv st h b := rfl
set_option maxRecDepth 20000 in
theorem j_X2_where_0 (pc : Nat) (lv : am_Lv) (st : List am_V) (h : am_H) (b : Nat × Nat) : j_X2_where 0 pc lv st h b = none := rfl
set_option maxRecDepth 20000 in
def p_X2_where (a1 : Int32) (a2 : Int32) (s : KS) : KR := kbi (p_X2_seek a1 a2 (kS s 15 0 (0 : Int32))) (fun x2 s1 => cond (decide ((0 : Int32) ≤ x2)) (cond (am_in x2 70) (some (.inl (some (s1.1 25 x2.toNatClampNeg)), s1)) none) (some (.inl (some (0 : Int32)), s1)))
set_option maxRecDepth 20000 in
theorem e_X2_where {nf ns : Nat} {rest : am_H} {s0 : KS} (a1 : Int32) (a2 : Int32) (s : KS) : F_X2_where [.inl (.ref 15), .inl (.int a1), .inl (.int a2)] (hM nf ns rest s0 s) = am_lf (hM nf ns rest s0) (p_X2_where a1 a2 s) := by
  rw [p_X2_where]
  refine (show _ = g_X2_where 399 1000 0 [(0, .inl (.ref 15)), (1, .inl (.int a1)), (2, .inl (.int a2))] [] (hM nf ns rest s0 s) (0, 0) from am_fn_g (Nat.le_of_ble_eq_true rfl)).trans ?_
  refine ((show ∀ f n : Nat, g_X2_where n (f + 7) 0 [(0, .inl (.ref 15)), (1, .inl (.int a1)), (2, .inl (.int a2))] [] (hM nf ns rest s0 s) (0, 0) = am_ri (F_X2_seek [.inl (.ref 15), .inl (.int a1), .inl (.int a2)] (hM nf ns rest s0 (kS s 15 0 (0 : Int32)))) (fun x2 h => g_X2_where n f 11 [(0, .inl (.ref 15)), (1, .inl (.int a1)), (2, .inl (.int a2))] [.inl (.int x2)] h (0, 0)) (fun x h => some (.inr x, h)) from fun f n => rfl) 993 399).trans ?_
  rw [e_X2_seek a1 a2 (kS s 15 0 (0 : Int32))]
  refine am_lbi (fun x2 s1 => ?_) (fun _ _ => rfl)
  refine ((show ∀ f n : Nat, g_X2_where n (f + 3) 11 [(0, .inl (.ref 15)), (1, .inl (.int a1)), (2, .inl (.int a2))] [.inl (.int x2)] (hM nf ns rest s0 s1) (0, 0) = cond (decide ((0 : Int32) ≤ x2)) (g_X2_where n f 20 [(0, .inl (.ref 15)), (1, .inl (.int a1)), (2, .inl (.int a2)), (3, .inl (.int x2))] [] (hM nf ns rest s0 s1) (0, 0)) (g_X2_where n f 16 [(0, .inl (.ref 15)), (1, .inl (.int a1)), (2, .inl (.int a2)), (3, .inl (.int x2))] [] (hM nf ns rest s0 s1) (0, 0)) from fun f n => rfl) 990 399).trans ?_
  refine am_lcd ?_ ?_
  · refine ((show ∀ f n : Nat, g_X2_where n (f + 5) 20 [(0, .inl (.ref 15)), (1, .inl (.int a1)), (2, .inl (.int a2)), (3, .inl (.int x2))] [] (hM nf ns rest s0 s1) (0, 0) = cond (am_in x2 70) (some (.inl (some (.inl (.int (s1.1 25 x2.toNatClampNeg)))), hM nf ns rest s0 s1)) none from fun f n => rfl) 985 399).trans ?_
    refine am_lcd (B := none) ?_ rfl
    rfl
  · refine ((show ∀ f n : Nat, g_X2_where n (f + 3) 16 [(0, .inl (.ref 15)), (1, .inl (.int a1)), (2, .inl (.int a2)), (3, .inl (.int x2))] [] (hM nf ns rest s0 s1) (0, 0) = some (.inl (some (.inl (.int (0 : Int32)))), hM nf ns rest s0 s1) from fun f n => rfl) 987 399).trans ?_
    rfl
set_option maxRecDepth 20000 in
def g_X2_sharers (n f pc : Nat) (lv : am_Lv) (st : List am_V) (h : am_H) (b : Nat × Nat) : Option am_O := am_go X_X2_sharers 4 (some .int) am_rs0 [] [] (am_lp T_X2_sharers X_X2_sharers 4 (some .int) am_rs0 [] [] n) f (am_from pc T_X2_sharers) lv st h b
set_option maxRecDepth 20000 in
def j_X2_sharers (n pc : Nat) (lv : am_Lv) (st : List am_V) (h : am_H) (b : Nat × Nat) : Option am_O := am_lp T_X2_sharers X_X2_sharers 4 (some .int) am_rs0 [] [] n pc lv st h b
set_option maxRecDepth 20000 in
theorem j_X2_sharers_g (n pc : Nat) (lv : am_Lv) (st : List am_V) (h : am_H) (b : Nat × Nat) : j_X2_sharers (n + 1) pc lv st h b = g_X2_sharers n 1000 pc lv st h b := rfl
set_option maxRecDepth 20000 in
theorem j_X2_sharers_0 (pc : Nat) (lv : am_Lv) (st : List am_V) (h : am_H) (b : Nat × Nat) : j_X2_sharers 0 pc lv st h b = none := rfl
set_option maxRecDepth 20000 in
def p_X2_sharers (a1 : Int32) (a2 : Int32) (s : KS) : KR := kbi (p_X2_seek a1 a2 (kS s 15 0 (0 : Int32))) (fun x2 s1 => cond (decide ((0 : Int32) ≤ x2)) (kbi (p_X2_owners x2 s1) (fun x4 s3 => some (.inl (some x4), s3))) (some (.inl (some (0 : Int32)), s1)))
set_option maxRecDepth 20000 in
theorem e_X2_sharers {nf ns : Nat} {rest : am_H} {s0 : KS} (a1 : Int32) (a2 : Int32) (s : KS) : F_X2_sharers [.inl (.ref 15), .inl (.int a1), .inl (.int a2)] (hM nf ns rest s0 s) = am_lf (hM nf ns rest s0) (p_X2_sharers a1 a2 s) := by
  rw [p_X2_sharers]
  refine (show _ = g_X2_sharers 399 1000 0 [(0, .inl (.ref 15)), (1, .inl (.int a1)), (2, .inl (.int a2))] [] (hM nf ns rest s0 s) (0, 0) from am_fn_g (Nat.le_of_ble_eq_true rfl)).trans ?_
  refine ((show ∀ f n : Nat, g_X2_sharers n (f + 7) 0 [(0, .inl (.ref 15)), (1, .inl (.int a1)), (2, .inl (.int a2))] [] (hM nf ns rest s0 s) (0, 0) = am_ri (F_X2_seek [.inl (.ref 15), .inl (.int a1), .inl (.int a2)] (hM nf ns rest s0 (kS s 15 0 (0 : Int32)))) (fun x2 h => g_X2_sharers n f 11 [(0, .inl (.ref 15)), (1, .inl (.int a1)), (2, .inl (.int a2))] [.inl (.int x2)] h (0, 0)) (fun x h => some (.inr x, h)) from fun f n => rfl) 993 399).trans ?_
  rw [e_X2_seek a1 a2 (kS s 15 0 (0 : Int32))]
  refine am_lbi (fun x2 s1 => ?_) (fun _ _ => rfl)
  refine ((show ∀ f n : Nat, g_X2_sharers n (f + 3) 11 [(0, .inl (.ref 15)), (1, .inl (.int a1)), (2, .inl (.int a2))] [.inl (.int x2)] (hM nf ns rest s0 s1) (0, 0) = cond (decide ((0 : Int32) ≤ x2)) (g_X2_sharers n f 20 [(0, .inl (.ref 15)), (1, .inl (.int a1)), (2, .inl (.int a2)), (3, .inl (.int x2))] [] (hM nf ns rest s0 s1) (0, 0)) (g_X2_sharers n f 16 [(0, .inl (.ref 15)), (1, .inl (.int a1)), (2, .inl (.int a2)), (3, .inl (.int x2))] [] (hM nf ns rest s0 s1) (0, 0)) from fun f n => rfl) 990 399).trans ?_
  refine am_lcd ?_ ?_
  · refine ((show ∀ f n : Nat, g_X2_sharers n (f + 3) 20 [(0, .inl (.ref 15)), (1, .inl (.int a1)), (2, .inl (.int a2)), (3, .inl (.int x2))] [] (hM nf ns rest s0 s1) (0, 0) = am_ri (F_X2_owners [.inl (.ref 15), .inl (.int x2)] (hM nf ns rest s0 s1)) (fun x4 h => g_X2_sharers n f 25 [(0, .inl (.ref 15)), (1, .inl (.int a1)), (2, .inl (.int a2)), (3, .inl (.int x2))] [.inl (.int x4)] h (0, 0)) (fun x h => some (.inr x, h)) from fun f n => rfl) 987 399).trans ?_
    rw [e_X2_owners x2 s1]
    refine am_lbi (fun x4 s3 => ?_) (fun _ _ => rfl)
    refine ((show ∀ f n : Nat, g_X2_sharers n (f + 1) 25 [(0, .inl (.ref 15)), (1, .inl (.int a1)), (2, .inl (.int a2)), (3, .inl (.int x2))] [.inl (.int x4)] (hM nf ns rest s0 s3) (0, 0) = some (.inl (some (.inl (.int x4))), hM nf ns rest s0 s3) from fun f n => rfl) 986 399).trans ?_
    rfl
  · refine ((show ∀ f n : Nat, g_X2_sharers n (f + 3) 16 [(0, .inl (.ref 15)), (1, .inl (.int a1)), (2, .inl (.int a2)), (3, .inl (.int x2))] [] (hM nf ns rest s0 s1) (0, 0) = some (.inl (some (.inl (.int (0 : Int32)))), hM nf ns rest s0 s1) from fun f n => rfl) 987 399).trans ?_
    rfl
set_option maxRecDepth 20000 in
def g_X2_fact (n f pc : Nat) (lv : am_Lv) (st : List am_V) (h : am_H) (b : Nat × Nat) : Option am_O := am_go X_X2_fact 3 (some .int) am_rs0 [] [] (am_lp T_X2_fact X_X2_fact 3 (some .int) am_rs0 [] [] n) f (am_from pc T_X2_fact) lv st h b
set_option maxRecDepth 20000 in
def j_X2_fact (n pc : Nat) (lv : am_Lv) (st : List am_V) (h : am_H) (b : Nat × Nat) : Option am_O := am_lp T_X2_fact X_X2_fact 3 (some .int) am_rs0 [] [] n pc lv st h b
set_option maxRecDepth 20000 in
theorem j_X2_fact_g (n pc : Nat) (lv : am_Lv) (st : List am_V) (h : am_H) (b : Nat × Nat) : j_X2_fact (n + 1) pc lv st h b = g_X2_fact n 1000 pc lv st h b := rfl
set_option maxRecDepth 20000 in
theorem j_X2_fact_0 (pc : Nat) (lv : am_Lv) (st : List am_V) (h : am_H) (b : Nat × Nat) : j_X2_fact 0 pc lv st h b = none := rfl
set_option maxRecDepth 20000 in
def p_X2_fact (a1 : Int32) (a2 : Int32) (s : KS) : KR := kbi (p_X2_out a1 (6 : Int32) (kS s 15 0 (0 : Int32))) (fun x2 s1 => cond (!decide (x2 = (0 : Int32))) (kbi (p_X2_fail (1 : Int32) s1) (fun x4 s3 => some (.inl (some x4), s3))) (kbi (p_X2_out a2 (5 : Int32) s1) (fun x6 s5 => cond (decide (x6 = (0 : Int32))) (cond (!decide (a2 = (0 : Int32))) (cond (!decide (a2 = (2 : Int32))) (kbi (p_X2_notRunning a1 s5) (fun x8 s7 => cond (decide (x8 = (0 : Int32))) (cond (!decide (a2 = (1 : Int32))) (cond (!decide (a2 = (3 : Int32))) (cond (am_in a1 6) (some (.inl (some (s7.1 21 a1.toNatClampNeg)), s7)) none) (cond (am_in a1 6) (some (.inl (some (s7.1 20 a1.toNatClampNeg)), s7)) none)) (cond (am_in a1 6) (some (.inl (some (s7.1 17 a1.toNatClampNeg)), s7)) none)) (some (.inl (some (-1 : Int32)), s7)))) (cond (am_in a1 6) (cond (!decide ((s5.1 16 a1.toNatClampNeg) = (0 : Int32))) (cond (am_in a1 6) (some (.inl (some (s5.1 18 a1.toNatClampNeg)), s5)) none) (some (.inl (some (-1 : Int32)), s5))) none)) (cond (am_in a1 6) (some (.inl (some (s5.1 16 a1.toNatClampNeg)), s5)) none)) (kbi (p_X2_fail (1 : Int32) s5) (fun x10 s9 => some (.inl (some x10), s9))))))
set_option maxRecDepth 20000 in
theorem e_X2_fact {nf ns : Nat} {rest : am_H} {s0 : KS} (a1 : Int32) (a2 : Int32) (s : KS) : F_X2_fact [.inl (.ref 15), .inl (.int a1), .inl (.int a2)] (hM nf ns rest s0 s) = am_lf (hM nf ns rest s0) (p_X2_fact a1 a2 s) := by
  rw [p_X2_fact]
  refine (show _ = g_X2_fact 399 1000 0 [(0, .inl (.ref 15)), (1, .inl (.int a1)), (2, .inl (.int a2))] [] (hM nf ns rest s0 s) (0, 0) from am_fn_g (Nat.le_of_ble_eq_true rfl)).trans ?_
  refine ((show ∀ f n : Nat, g_X2_fact n (f + 7) 0 [(0, .inl (.ref 15)), (1, .inl (.int a1)), (2, .inl (.int a2))] [] (hM nf ns rest s0 s) (0, 0) = am_ri (F_X2_out [.inl (.ref 15), .inl (.int a1), .inl (.int (6 : Int32))] (hM nf ns rest s0 (kS s 15 0 (0 : Int32)))) (fun x2 h => g_X2_fact n f 12 [(0, .inl (.ref 15)), (1, .inl (.int a1)), (2, .inl (.int a2))] [.inl (.int x2)] h (0, 0)) (fun x h => some (.inr x, h)) from fun f n => rfl) 993 399).trans ?_
  rw [e_X2_out a1 (6 : Int32) (kS s 15 0 (0 : Int32))]
  refine am_lbi (fun x2 s1 => ?_) (fun _ _ => rfl)
  refine ((show ∀ f n : Nat, g_X2_fact n (f + 1) 12 [(0, .inl (.ref 15)), (1, .inl (.int a1)), (2, .inl (.int a2))] [.inl (.int x2)] (hM nf ns rest s0 s1) (0, 0) = cond (!decide (x2 = (0 : Int32))) (g_X2_fact n f 24 [(0, .inl (.ref 15)), (1, .inl (.int a1)), (2, .inl (.int a2))] [] (hM nf ns rest s0 s1) (0, 0)) (g_X2_fact n f 15 [(0, .inl (.ref 15)), (1, .inl (.int a1)), (2, .inl (.int a2))] [] (hM nf ns rest s0 s1) (0, 0)) from fun f n => rfl) 992 399).trans ?_
  refine am_lcd ?_ ?_
  · refine ((show ∀ f n : Nat, g_X2_fact n (f + 3) 24 [(0, .inl (.ref 15)), (1, .inl (.int a1)), (2, .inl (.int a2))] [] (hM nf ns rest s0 s1) (0, 0) = am_ri (F_X2_fail [.inl (.ref 15), .inl (.int (1 : Int32))] (hM nf ns rest s0 s1)) (fun x4 h => g_X2_fact n f 29 [(0, .inl (.ref 15)), (1, .inl (.int a1)), (2, .inl (.int a2))] [.inl (.int x4)] h (0, 0)) (fun x h => some (.inr x, h)) from fun f n => rfl) 989 399).trans ?_
    rw [e_X2_fail (1 : Int32) s1]
    refine am_lbi (fun x4 s3 => ?_) (fun _ _ => rfl)
    refine ((show ∀ f n : Nat, g_X2_fact n (f + 1) 29 [(0, .inl (.ref 15)), (1, .inl (.int a1)), (2, .inl (.int a2))] [.inl (.int x4)] (hM nf ns rest s0 s3) (0, 0) = some (.inl (some (.inl (.int x4))), hM nf ns rest s0 s3) from fun f n => rfl) 988 399).trans ?_
    rfl
  · refine ((show ∀ f n : Nat, g_X2_fact n (f + 4) 15 [(0, .inl (.ref 15)), (1, .inl (.int a1)), (2, .inl (.int a2))] [] (hM nf ns rest s0 s1) (0, 0) = am_ri (F_X2_out [.inl (.ref 15), .inl (.int a2), .inl (.int (5 : Int32))] (hM nf ns rest s0 s1)) (fun x6 h => g_X2_fact n f 21 [(0, .inl (.ref 15)), (1, .inl (.int a1)), (2, .inl (.int a2))] [.inl (.int x6)] h (0, 0)) (fun x h => some (.inr x, h)) from fun f n => rfl) 988 399).trans ?_
    rw [e_X2_out a2 (5 : Int32) s1]
    refine am_lbi (fun x6 s5 => ?_) (fun _ _ => rfl)
    refine ((show ∀ f n : Nat, g_X2_fact n (f + 1) 21 [(0, .inl (.ref 15)), (1, .inl (.int a1)), (2, .inl (.int a2))] [.inl (.int x6)] (hM nf ns rest s0 s5) (0, 0) = cond (decide (x6 = (0 : Int32))) (g_X2_fact n f 30 [(0, .inl (.ref 15)), (1, .inl (.int a1)), (2, .inl (.int a2))] [] (hM nf ns rest s0 s5) (0, 0)) (g_X2_fact n f 24 [(0, .inl (.ref 15)), (1, .inl (.int a1)), (2, .inl (.int a2))] [] (hM nf ns rest s0 s5) (0, 0)) from fun f n => rfl) 987 399).trans ?_
    refine am_lcd ?_ ?_
    · refine ((show ∀ f n : Nat, g_X2_fact n (f + 2) 30 [(0, .inl (.ref 15)), (1, .inl (.int a1)), (2, .inl (.int a2))] [] (hM nf ns rest s0 s5) (0, 0) = cond (!decide (a2 = (0 : Int32))) (g_X2_fact n f 41 [(0, .inl (.ref 15)), (1, .inl (.int a1)), (2, .inl (.int a2))] [] (hM nf ns rest s0 s5) (0, 0)) (g_X2_fact n f 34 [(0, .inl (.ref 15)), (1, .inl (.int a1)), (2, .inl (.int a2))] [] (hM nf ns rest s0 s5) (0, 0)) from fun f n => rfl) 985 399).trans ?_
      refine am_lcd ?_ ?_
      · refine ((show ∀ f n : Nat, g_X2_fact n (f + 3) 41 [(0, .inl (.ref 15)), (1, .inl (.int a1)), (2, .inl (.int a2))] [] (hM nf ns rest s0 s5) (0, 0) = cond (!decide (a2 = (2 : Int32))) (g_X2_fact n f 66 [(0, .inl (.ref 15)), (1, .inl (.int a1)), (2, .inl (.int a2))] [] (hM nf ns rest s0 s5) (0, 0)) (g_X2_fact n f 46 [(0, .inl (.ref 15)), (1, .inl (.int a1)), (2, .inl (.int a2))] [] (hM nf ns rest s0 s5) (0, 0)) from fun f n => rfl) 982 399).trans ?_
        refine am_lcd ?_ ?_
        · refine ((show ∀ f n : Nat, g_X2_fact n (f + 3) 66 [(0, .inl (.ref 15)), (1, .inl (.int a1)), (2, .inl (.int a2))] [] (hM nf ns rest s0 s5) (0, 0) = am_ri (F_X2_notRunning [.inl (.ref 15), .inl (.int a1)] (hM nf ns rest s0 s5)) (fun x8 h => g_X2_fact n f 71 [(0, .inl (.ref 15)), (1, .inl (.int a1)), (2, .inl (.int a2))] [.inl (.int x8)] h (0, 0)) (fun x h => some (.inr x, h)) from fun f n => rfl) 979 399).trans ?_
          rw [e_X2_notRunning a1 s5]
          refine am_lbi (fun x8 s7 => ?_) (fun _ _ => rfl)
          refine ((show ∀ f n : Nat, g_X2_fact n (f + 1) 71 [(0, .inl (.ref 15)), (1, .inl (.int a1)), (2, .inl (.int a2))] [.inl (.int x8)] (hM nf ns rest s0 s7) (0, 0) = cond (decide (x8 = (0 : Int32))) (g_X2_fact n f 76 [(0, .inl (.ref 15)), (1, .inl (.int a1)), (2, .inl (.int a2))] [] (hM nf ns rest s0 s7) (0, 0)) (g_X2_fact n f 74 [(0, .inl (.ref 15)), (1, .inl (.int a1)), (2, .inl (.int a2))] [] (hM nf ns rest s0 s7) (0, 0)) from fun f n => rfl) 978 399).trans ?_
          refine am_lcd ?_ ?_
          · refine ((show ∀ f n : Nat, g_X2_fact n (f + 3) 76 [(0, .inl (.ref 15)), (1, .inl (.int a1)), (2, .inl (.int a2))] [] (hM nf ns rest s0 s7) (0, 0) = cond (!decide (a2 = (1 : Int32))) (g_X2_fact n f 90 [(0, .inl (.ref 15)), (1, .inl (.int a1)), (2, .inl (.int a2))] [] (hM nf ns rest s0 s7) (0, 0)) (g_X2_fact n f 81 [(0, .inl (.ref 15)), (1, .inl (.int a1)), (2, .inl (.int a2))] [] (hM nf ns rest s0 s7) (0, 0)) from fun f n => rfl) 975 399).trans ?_
            refine am_lcd ?_ ?_
            · refine ((show ∀ f n : Nat, g_X2_fact n (f + 3) 90 [(0, .inl (.ref 15)), (1, .inl (.int a1)), (2, .inl (.int a2))] [] (hM nf ns rest s0 s7) (0, 0) = cond (!decide (a2 = (3 : Int32))) (g_X2_fact n f 104 [(0, .inl (.ref 15)), (1, .inl (.int a1)), (2, .inl (.int a2))] [] (hM nf ns rest s0 s7) (0, 0)) (g_X2_fact n f 95 [(0, .inl (.ref 15)), (1, .inl (.int a1)), (2, .inl (.int a2))] [] (hM nf ns rest s0 s7) (0, 0)) from fun f n => rfl) 972 399).trans ?_
              refine am_lcd ?_ ?_
              · refine ((show ∀ f n : Nat, g_X2_fact n (f + 5) 104 [(0, .inl (.ref 15)), (1, .inl (.int a1)), (2, .inl (.int a2))] [] (hM nf ns rest s0 s7) (0, 0) = cond (am_in a1 6) (some (.inl (some (.inl (.int (s7.1 21 a1.toNatClampNeg)))), hM nf ns rest s0 s7)) none from fun f n => rfl) 967 399).trans ?_
                refine am_lcd (B := none) ?_ rfl
                rfl
              · refine ((show ∀ f n : Nat, g_X2_fact n (f + 6) 95 [(0, .inl (.ref 15)), (1, .inl (.int a1)), (2, .inl (.int a2))] [] (hM nf ns rest s0 s7) (0, 0) = cond (am_in a1 6) (some (.inl (some (.inl (.int (s7.1 20 a1.toNatClampNeg)))), hM nf ns rest s0 s7)) none from fun f n => rfl) 966 399).trans ?_
                refine am_lcd (B := none) ?_ rfl
                rfl
            · refine ((show ∀ f n : Nat, g_X2_fact n (f + 6) 81 [(0, .inl (.ref 15)), (1, .inl (.int a1)), (2, .inl (.int a2))] [] (hM nf ns rest s0 s7) (0, 0) = cond (am_in a1 6) (some (.inl (some (.inl (.int (s7.1 17 a1.toNatClampNeg)))), hM nf ns rest s0 s7)) none from fun f n => rfl) 969 399).trans ?_
              refine am_lcd (B := none) ?_ rfl
              rfl
          · refine ((show ∀ f n : Nat, g_X2_fact n (f + 2) 74 [(0, .inl (.ref 15)), (1, .inl (.int a1)), (2, .inl (.int a2))] [] (hM nf ns rest s0 s7) (0, 0) = some (.inl (some (.inl (.int (-1 : Int32)))), hM nf ns rest s0 s7) from fun f n => rfl) 976 399).trans ?_
            rfl
        · refine ((show ∀ f n : Nat, g_X2_fact n (f + 5) 46 [(0, .inl (.ref 15)), (1, .inl (.int a1)), (2, .inl (.int a2))] [] (hM nf ns rest s0 s5) (0, 0) = cond (am_in a1 6) (cond (!decide ((s5.1 16 a1.toNatClampNeg) = (0 : Int32))) (g_X2_fact n f 59 [(0, .inl (.ref 15)), (1, .inl (.int a1)), (2, .inl (.int a2))] [] (hM nf ns rest s0 s5) (0, 0)) (g_X2_fact n f 55 [(0, .inl (.ref 15)), (1, .inl (.int a1)), (2, .inl (.int a2))] [] (hM nf ns rest s0 s5) (0, 0))) none from fun f n => rfl) 977 399).trans ?_
          refine am_lcd (B := none) ?_ rfl
          refine am_lcd ?_ ?_
          · refine ((show ∀ f n : Nat, g_X2_fact n (f + 5) 59 [(0, .inl (.ref 15)), (1, .inl (.int a1)), (2, .inl (.int a2))] [] (hM nf ns rest s0 s5) (0, 0) = cond (am_in a1 6) (some (.inl (some (.inl (.int (s5.1 18 a1.toNatClampNeg)))), hM nf ns rest s0 s5)) none from fun f n => rfl) 972 399).trans ?_
            refine am_lcd (B := none) ?_ rfl
            rfl
          · refine ((show ∀ f n : Nat, g_X2_fact n (f + 3) 55 [(0, .inl (.ref 15)), (1, .inl (.int a1)), (2, .inl (.int a2))] [] (hM nf ns rest s0 s5) (0, 0) = some (.inl (some (.inl (.int (-1 : Int32)))), hM nf ns rest s0 s5) from fun f n => rfl) 974 399).trans ?_
            rfl
      · refine ((show ∀ f n : Nat, g_X2_fact n (f + 5) 34 [(0, .inl (.ref 15)), (1, .inl (.int a1)), (2, .inl (.int a2))] [] (hM nf ns rest s0 s5) (0, 0) = cond (am_in a1 6) (some (.inl (some (.inl (.int (s5.1 16 a1.toNatClampNeg)))), hM nf ns rest s0 s5)) none from fun f n => rfl) 980 399).trans ?_
        refine am_lcd (B := none) ?_ rfl
        rfl
    · refine ((show ∀ f n : Nat, g_X2_fact n (f + 3) 24 [(0, .inl (.ref 15)), (1, .inl (.int a1)), (2, .inl (.int a2))] [] (hM nf ns rest s0 s5) (0, 0) = am_ri (F_X2_fail [.inl (.ref 15), .inl (.int (1 : Int32))] (hM nf ns rest s0 s5)) (fun x10 h => g_X2_fact n f 29 [(0, .inl (.ref 15)), (1, .inl (.int a1)), (2, .inl (.int a2))] [.inl (.int x10)] h (0, 0)) (fun x h => some (.inr x, h)) from fun f n => rfl) 984 399).trans ?_
      rw [e_X2_fail (1 : Int32) s5]
      refine am_lbi (fun x10 s9 => ?_) (fun _ _ => rfl)
      refine ((show ∀ f n : Nat, g_X2_fact n (f + 1) 29 [(0, .inl (.ref 15)), (1, .inl (.int a1)), (2, .inl (.int a2))] [.inl (.int x10)] (hM nf ns rest s0 s9) (0, 0) = some (.inl (some (.inl (.int x10))), hM nf ns rest s0 s9) from fun f n => rfl) 983 399).trans ?_
      rfl
set_option maxRecDepth 20000 in
def g_X2_count (n f pc : Nat) (lv : am_Lv) (st : List am_V) (h : am_H) (b : Nat × Nat) : Option am_O := am_go X_X2_count 5 (some .int) am_rs0 [] [(28, [0, 1, 2, 3, 4]), (64, [0, 1, 2, 3, 4])] (am_lp T_X2_count X_X2_count 5 (some .int) am_rs0 [] [(28, [0, 1, 2, 3, 4]), (64, [0, 1, 2, 3, 4])] n) f (am_from pc T_X2_count) lv st h b
set_option maxRecDepth 20000 in
def j_X2_count (n pc : Nat) (lv : am_Lv) (st : List am_V) (h : am_H) (b : Nat × Nat) : Option am_O := am_lp T_X2_count X_X2_count 5 (some .int) am_rs0 [] [(28, [0, 1, 2, 3, 4]), (64, [0, 1, 2, 3, 4])] n pc lv st h b
set_option maxRecDepth 20000 in
theorem j_X2_count_g (n pc : Nat) (lv : am_Lv) (st : List am_V) (h : am_H) (b : Nat × Nat) : j_X2_count (n + 1) pc lv st h b = g_X2_count n 1000 pc lv st h b := rfl
set_option maxRecDepth 20000 in
theorem j_X2_count_0 (pc : Nat) (lv : am_Lv) (st : List am_V) (h : am_H) (b : Nat × Nat) : j_X2_count 0 pc lv st h b = none := rfl
set_option maxRecDepth 20000 in
def p_X2_count_L64 : Nat → Int32 → Int32 → Int32 → Int32 → KS → KR
  | 0, _, _, _, _, _ => none
  | n + 1, l1, l2, l3, l4, s => cond (decide ((s.1 15 2) ≤ l4)) (cond (decide (l1.toInt = 0)) (some (.inl (some l2), s)) (cond (decide (l1.toInt = 1)) (some (.inl (some l3), s)) (cond (decide (l1.toInt = 2)) (some (.inl (some (s.1 15 17)), s)) (cond (decide (l1.toInt = 3)) (some (.inl (some (s.1 15 18)), s)) (cond (decide (l1.toInt = 4)) (some (.inl (some (s.1 15 16)), s)) (cond (decide (l1.toInt = 5)) (some (.inl (some (s.1 15 19)), s)) (cond (am_in (l1 - (6 : Int32)) 10) (cond (decide ((0 : Int32) ≤ (s.1 26 (l1 - (6 : Int32)).toNatClampNeg))) (cond (am_in (l1 - (6 : Int32)) 10) (cond (decide ((s.1 27 (l1 - (6 : Int32)).toNatClampNeg) = (0 : Int32))) (some (.inl (some (0 : Int32)), s)) (some (.inl (some (1 : Int32)), s))) none) (some (.inl (some (-1 : Int32)), s))) none))))))) (cond (am_in l4 20) (cond (decide ((s.1 28 l4.toNatClampNeg) = (0 : Int32))) (p_X2_count_L64 n l1 l2 (l3 + (1 : Int32)) (l4 + (1 : Int32)) s) (p_X2_count_L64 n l1 l2 (l3 + (0 : Int32)) (l4 + (1 : Int32)) s)) none)
set_option maxRecDepth 20000 in
theorem b_X2_count_L64 {nf ns : Nat} {rest : am_H} {s0 : KS} (n : Nat) (ih : ∀ (l1 : Int32) (l2 : Int32) (l3 : Int32) (l4 : Int32) (s : KS), j_X2_count n 64 [(0, .inl (.ref 15)), (1, .inl (.int l1)), (2, .inl (.int l2)), (3, .inl (.int l3)), (4, .inl (.int l4))] [] (hM nf ns rest s0 s) (0, 0) = am_lf (hM nf ns rest s0) (p_X2_count_L64 n l1 l2 l3 l4 s)) (f : Nat) (l1 : Int32) (l2 : Int32) (l3 : Int32) (l4 : Int32) (s : KS) : g_X2_count n (f + 26) 64 [(0, .inl (.ref 15)), (1, .inl (.int l1)), (2, .inl (.int l2)), (3, .inl (.int l3)), (4, .inl (.int l4))] [] (hM nf ns rest s0 s) (0, 0) = am_lf (hM nf ns rest s0) (p_X2_count_L64 (n + 1) l1 l2 l3 l4 s) := by
  rw [p_X2_count_L64]
  refine ((show ∀ f n : Nat, g_X2_count n (f + 4) 64 [(0, .inl (.ref 15)), (1, .inl (.int l1)), (2, .inl (.int l2)), (3, .inl (.int l3)), (4, .inl (.int l4))] [] (hM nf ns rest s0 s) (0, 0) = cond (decide ((s.1 15 2) ≤ l4)) (g_X2_count n f 97 [(0, .inl (.ref 15)), (1, .inl (.int l1)), (2, .inl (.int l2)), (3, .inl (.int l3)), (4, .inl (.int l4))] [] (hM nf ns rest s0 s) (0, 0)) (g_X2_count n f 73 [(0, .inl (.ref 15)), (1, .inl (.int l1)), (2, .inl (.int l2)), (3, .inl (.int l3)), (4, .inl (.int l4))] [] (hM nf ns rest s0 s) (0, 0)) from fun f n => rfl) (f + 22) n).trans ?_
  refine am_lcd ?_ ?_
  · refine ((show ∀ f n : Nat, g_X2_count n (f + 2) 97 [(0, .inl (.ref 15)), (1, .inl (.int l1)), (2, .inl (.int l2)), (3, .inl (.int l3)), (4, .inl (.int l4))] [] (hM nf ns rest s0 s) (0, 0) = cond (decide (l1.toInt = 0)) (g_X2_count n f 136 [(0, .inl (.ref 15)), (1, .inl (.int l1)), (2, .inl (.int l2)), (3, .inl (.int l3)), (4, .inl (.int l4))] [] (hM nf ns rest s0 s) (0, 0)) (cond (decide (l1.toInt = 1)) (g_X2_count n f 138 [(0, .inl (.ref 15)), (1, .inl (.int l1)), (2, .inl (.int l2)), (3, .inl (.int l3)), (4, .inl (.int l4))] [] (hM nf ns rest s0 s) (0, 0)) (cond (decide (l1.toInt = 2)) (g_X2_count n f 140 [(0, .inl (.ref 15)), (1, .inl (.int l1)), (2, .inl (.int l2)), (3, .inl (.int l3)), (4, .inl (.int l4))] [] (hM nf ns rest s0 s) (0, 0)) (cond (decide (l1.toInt = 3)) (g_X2_count n f 145 [(0, .inl (.ref 15)), (1, .inl (.int l1)), (2, .inl (.int l2)), (3, .inl (.int l3)), (4, .inl (.int l4))] [] (hM nf ns rest s0 s) (0, 0)) (cond (decide (l1.toInt = 4)) (g_X2_count n f 150 [(0, .inl (.ref 15)), (1, .inl (.int l1)), (2, .inl (.int l2)), (3, .inl (.int l3)), (4, .inl (.int l4))] [] (hM nf ns rest s0 s) (0, 0)) (cond (decide (l1.toInt = 5)) (g_X2_count n f 155 [(0, .inl (.ref 15)), (1, .inl (.int l1)), (2, .inl (.int l2)), (3, .inl (.int l3)), (4, .inl (.int l4))] [] (hM nf ns rest s0 s) (0, 0)) (g_X2_count n f 160 [(0, .inl (.ref 15)), (1, .inl (.int l1)), (2, .inl (.int l2)), (3, .inl (.int l3)), (4, .inl (.int l4))] [] (hM nf ns rest s0 s) (0, 0))))))) from fun f n => rfl) (f + 20) n).trans ?_
    refine am_lcd ?_ ?_
    · refine ((show ∀ f n : Nat, g_X2_count n (f + 2) 136 [(0, .inl (.ref 15)), (1, .inl (.int l1)), (2, .inl (.int l2)), (3, .inl (.int l3)), (4, .inl (.int l4))] [] (hM nf ns rest s0 s) (0, 0) = some (.inl (some (.inl (.int l2))), hM nf ns rest s0 s) from fun f n => rfl) (f + 18) n).trans ?_
      rfl
    · refine am_lcd ?_ ?_
      · refine ((show ∀ f n : Nat, g_X2_count n (f + 2) 138 [(0, .inl (.ref 15)), (1, .inl (.int l1)), (2, .inl (.int l2)), (3, .inl (.int l3)), (4, .inl (.int l4))] [] (hM nf ns rest s0 s) (0, 0) = some (.inl (some (.inl (.int l3))), hM nf ns rest s0 s) from fun f n => rfl) (f + 18) n).trans ?_
        rfl
      · refine am_lcd ?_ ?_
        · refine ((show ∀ f n : Nat, g_X2_count n (f + 3) 140 [(0, .inl (.ref 15)), (1, .inl (.int l1)), (2, .inl (.int l2)), (3, .inl (.int l3)), (4, .inl (.int l4))] [] (hM nf ns rest s0 s) (0, 0) = some (.inl (some (.inl (.int (s.1 15 17)))), hM nf ns rest s0 s) from fun f n => rfl) (f + 17) n).trans ?_
          rfl
        · refine am_lcd ?_ ?_
          · refine ((show ∀ f n : Nat, g_X2_count n (f + 3) 145 [(0, .inl (.ref 15)), (1, .inl (.int l1)), (2, .inl (.int l2)), (3, .inl (.int l3)), (4, .inl (.int l4))] [] (hM nf ns rest s0 s) (0, 0) = some (.inl (some (.inl (.int (s.1 15 18)))), hM nf ns rest s0 s) from fun f n => rfl) (f + 17) n).trans ?_
            rfl
          · refine am_lcd ?_ ?_
            · refine ((show ∀ f n : Nat, g_X2_count n (f + 3) 150 [(0, .inl (.ref 15)), (1, .inl (.int l1)), (2, .inl (.int l2)), (3, .inl (.int l3)), (4, .inl (.int l4))] [] (hM nf ns rest s0 s) (0, 0) = some (.inl (some (.inl (.int (s.1 15 16)))), hM nf ns rest s0 s) from fun f n => rfl) (f + 17) n).trans ?_
              rfl
            · refine am_lcd ?_ ?_
              · refine ((show ∀ f n : Nat, g_X2_count n (f + 3) 155 [(0, .inl (.ref 15)), (1, .inl (.int l1)), (2, .inl (.int l2)), (3, .inl (.int l3)), (4, .inl (.int l4))] [] (hM nf ns rest s0 s) (0, 0) = some (.inl (some (.inl (.int (s.1 15 19)))), hM nf ns rest s0 s) from fun f n => rfl) (f + 17) n).trans ?_
                rfl
              · refine ((show ∀ f n : Nat, g_X2_count n (f + 9) 160 [(0, .inl (.ref 15)), (1, .inl (.int l1)), (2, .inl (.int l2)), (3, .inl (.int l3)), (4, .inl (.int l4))] [] (hM nf ns rest s0 s) (0, 0) = cond (am_in (l1 - (6 : Int32)) 10) (cond (decide ((0 : Int32) ≤ (s.1 26 (l1 - (6 : Int32)).toNatClampNeg))) (g_X2_count n f 180 [(0, .inl (.ref 15)), (1, .inl (.int l1)), (2, .inl (.int l2)), (3, .inl (.int l3)), (4, .inl (.int (l1 - (6 : Int32))))] [] (hM nf ns rest s0 s) (0, 0)) (g_X2_count n f 176 [(0, .inl (.ref 15)), (1, .inl (.int l1)), (2, .inl (.int l2)), (3, .inl (.int l3)), (4, .inl (.int (l1 - (6 : Int32))))] [] (hM nf ns rest s0 s) (0, 0))) none from fun f n => rfl) (f + 11) n).trans ?_
                refine am_lcd (B := none) ?_ rfl
                refine am_lcd ?_ ?_
                · refine ((show ∀ f n : Nat, g_X2_count n (f + 5) 180 [(0, .inl (.ref 15)), (1, .inl (.int l1)), (2, .inl (.int l2)), (3, .inl (.int l3)), (4, .inl (.int (l1 - (6 : Int32))))] [] (hM nf ns rest s0 s) (0, 0) = cond (am_in (l1 - (6 : Int32)) 10) (cond (decide ((s.1 27 (l1 - (6 : Int32)).toNatClampNeg) = (0 : Int32))) (g_X2_count n f 194 [(0, .inl (.ref 15)), (1, .inl (.int l1)), (2, .inl (.int l2)), (3, .inl (.int l3)), (4, .inl (.int (l1 - (6 : Int32))))] [] (hM nf ns rest s0 s) (0, 0)) (g_X2_count n f 190 [(0, .inl (.ref 15)), (1, .inl (.int l1)), (2, .inl (.int l2)), (3, .inl (.int l3)), (4, .inl (.int (l1 - (6 : Int32))))] [] (hM nf ns rest s0 s) (0, 0))) none from fun f n => rfl) (f + 6) n).trans ?_
                  refine am_lcd (B := none) ?_ rfl
                  refine am_lcd ?_ ?_
                  · refine ((show ∀ f n : Nat, g_X2_count n (f + 2) 194 [(0, .inl (.ref 15)), (1, .inl (.int l1)), (2, .inl (.int l2)), (3, .inl (.int l3)), (4, .inl (.int (l1 - (6 : Int32))))] [] (hM nf ns rest s0 s) (0, 0) = some (.inl (some (.inl (.int (0 : Int32)))), hM nf ns rest s0 s) from fun f n => rfl) (f + 4) n).trans ?_
                    rfl
                  · refine ((show ∀ f n : Nat, g_X2_count n (f + 3) 190 [(0, .inl (.ref 15)), (1, .inl (.int l1)), (2, .inl (.int l2)), (3, .inl (.int l3)), (4, .inl (.int (l1 - (6 : Int32))))] [] (hM nf ns rest s0 s) (0, 0) = some (.inl (some (.inl (.int (1 : Int32)))), hM nf ns rest s0 s) from fun f n => rfl) (f + 3) n).trans ?_
                    rfl
                · refine ((show ∀ f n : Nat, g_X2_count n (f + 3) 176 [(0, .inl (.ref 15)), (1, .inl (.int l1)), (2, .inl (.int l2)), (3, .inl (.int l3)), (4, .inl (.int (l1 - (6 : Int32))))] [] (hM nf ns rest s0 s) (0, 0) = some (.inl (some (.inl (.int (-1 : Int32)))), hM nf ns rest s0 s) from fun f n => rfl) (f + 8) n).trans ?_
                  rfl
  · refine ((show ∀ f n : Nat, g_X2_count n (f + 6) 73 [(0, .inl (.ref 15)), (1, .inl (.int l1)), (2, .inl (.int l2)), (3, .inl (.int l3)), (4, .inl (.int l4))] [] (hM nf ns rest s0 s) (0, 0) = cond (am_in l4 20) (cond (decide ((s.1 28 l4.toNatClampNeg) = (0 : Int32))) (g_X2_count n f 88 [(0, .inl (.ref 15)), (1, .inl (.int l1)), (2, .inl (.int l2)), (3, .inl (.int l3)), (4, .inl (.int l4))] [.inl (.int l3)] (hM nf ns rest s0 s) (0, 0)) (g_X2_count n f 84 [(0, .inl (.ref 15)), (1, .inl (.int l1)), (2, .inl (.int l2)), (3, .inl (.int l3)), (4, .inl (.int l4))] [.inl (.int l3)] (hM nf ns rest s0 s) (0, 0))) none from fun f n => rfl) (f + 16) n).trans ?_
    refine am_lcd (B := none) ?_ rfl
    refine am_lcd ?_ ?_
    · refine ((show ∀ f n : Nat, g_X2_count n (f + 5) 88 [(0, .inl (.ref 15)), (1, .inl (.int l1)), (2, .inl (.int l2)), (3, .inl (.int l3)), (4, .inl (.int l4))] [.inl (.int l3)] (hM nf ns rest s0 s) (0, 0) = j_X2_count n 64 [(0, .inl (.ref 15)), (1, .inl (.int l1)), (2, .inl (.int l2)), (3, .inl (.int (l3 + (1 : Int32)))), (4, .inl (.int (l4 + (1 : Int32))))] [] (hM nf ns rest s0 s) (0, 0) from fun f n => rfl) (f + 11) n).trans ?_
      exact ih l1 l2 (l3 + (1 : Int32)) (l4 + (1 : Int32)) s
    · refine ((show ∀ f n : Nat, g_X2_count n (f + 6) 84 [(0, .inl (.ref 15)), (1, .inl (.int l1)), (2, .inl (.int l2)), (3, .inl (.int l3)), (4, .inl (.int l4))] [.inl (.int l3)] (hM nf ns rest s0 s) (0, 0) = j_X2_count n 64 [(0, .inl (.ref 15)), (1, .inl (.int l1)), (2, .inl (.int l2)), (3, .inl (.int (l3 + (0 : Int32)))), (4, .inl (.int (l4 + (1 : Int32))))] [] (hM nf ns rest s0 s) (0, 0) from fun f n => rfl) (f + 10) n).trans ?_
      exact ih l1 l2 (l3 + (0 : Int32)) (l4 + (1 : Int32)) s
set_option maxRecDepth 20000 in
theorem e_X2_count_L64 {nf ns : Nat} {rest : am_H} {s0 : KS} : ∀ (n : Nat) (l1 : Int32) (l2 : Int32) (l3 : Int32) (l4 : Int32) (s : KS), j_X2_count n 64 [(0, .inl (.ref 15)), (1, .inl (.int l1)), (2, .inl (.int l2)), (3, .inl (.int l3)), (4, .inl (.int l4))] [] (hM nf ns rest s0 s) (0, 0) = am_lf (hM nf ns rest s0) (p_X2_count_L64 n l1 l2 l3 l4 s)
  | 0, _, _, _, _, _ => by rw [p_X2_count_L64]; rfl
  | n + 1, l1, l2, l3, l4, s => (j_X2_count_g n 64 _ _ _ _).trans (b_X2_count_L64 n (e_X2_count_L64 n) 974 l1 l2 l3 l4 s)
set_option maxRecDepth 20000 in
def p_X2_count_L28 : Nat → Int32 → Int32 → Int32 → Int32 → KS → KR
  | 0, _, _, _, _, _ => none
  | n + 1, l1, l2, l3, l4, s => cond (decide ((s.1 15 1) ≤ l4)) (p_X2_count_L64 (n + 1) l1 l2 l3 (0 : Int32) s) (cond (am_in l4 10) (cond (decide ((0 : Int32) ≤ (s.1 26 l4.toNatClampNeg))) (p_X2_count_L28 n l1 (l2 + (0 : Int32)) l3 (l4 + (1 : Int32)) s) (p_X2_count_L28 n l1 (l2 + (1 : Int32)) l3 (l4 + (1 : Int32)) s)) none)
set_option maxRecDepth 20000 in
theorem b_X2_count_L28 {nf ns : Nat} {rest : am_H} {s0 : KS} (n : Nat) (ih : ∀ (l1 : Int32) (l2 : Int32) (l3 : Int32) (l4 : Int32) (s : KS), j_X2_count n 28 [(0, .inl (.ref 15)), (1, .inl (.int l1)), (2, .inl (.int l2)), (3, .inl (.int l3)), (4, .inl (.int l4))] [] (hM nf ns rest s0 s) (0, 0) = am_lf (hM nf ns rest s0) (p_X2_count_L28 n l1 l2 l3 l4 s)) (f : Nat) (l1 : Int32) (l2 : Int32) (l3 : Int32) (l4 : Int32) (s : KS) : g_X2_count n (f + 35) 28 [(0, .inl (.ref 15)), (1, .inl (.int l1)), (2, .inl (.int l2)), (3, .inl (.int l3)), (4, .inl (.int l4))] [] (hM nf ns rest s0 s) (0, 0) = am_lf (hM nf ns rest s0) (p_X2_count_L28 (n + 1) l1 l2 l3 l4 s) := by
  rw [p_X2_count_L28]
  refine ((show ∀ f n : Nat, g_X2_count n (f + 4) 28 [(0, .inl (.ref 15)), (1, .inl (.int l1)), (2, .inl (.int l2)), (3, .inl (.int l3)), (4, .inl (.int l4))] [] (hM nf ns rest s0 s) (0, 0) = cond (decide ((s.1 15 1) ≤ l4)) (g_X2_count n f 61 [(0, .inl (.ref 15)), (1, .inl (.int l1)), (2, .inl (.int l2)), (3, .inl (.int l3)), (4, .inl (.int l4))] [] (hM nf ns rest s0 s) (0, 0)) (g_X2_count n f 37 [(0, .inl (.ref 15)), (1, .inl (.int l1)), (2, .inl (.int l2)), (3, .inl (.int l3)), (4, .inl (.int l4))] [] (hM nf ns rest s0 s) (0, 0)) from fun f n => rfl) (f + 31) n).trans ?_
  refine am_lcd ?_ ?_
  · refine ((show ∀ f n : Nat, g_X2_count n (f + 2) 61 [(0, .inl (.ref 15)), (1, .inl (.int l1)), (2, .inl (.int l2)), (3, .inl (.int l3)), (4, .inl (.int l4))] [] (hM nf ns rest s0 s) (0, 0) = g_X2_count n f 64 [(0, .inl (.ref 15)), (1, .inl (.int l1)), (2, .inl (.int l2)), (3, .inl (.int l3)), (4, .inl (.int (0 : Int32)))] [] (hM nf ns rest s0 s) (0, 0) from fun f n => rfl) (f + 29) n).trans ?_
    exact b_X2_count_L64 n (e_X2_count_L64 n) (f + 3) l1 l2 l3 (0 : Int32) s
  · refine ((show ∀ f n : Nat, g_X2_count n (f + 6) 37 [(0, .inl (.ref 15)), (1, .inl (.int l1)), (2, .inl (.int l2)), (3, .inl (.int l3)), (4, .inl (.int l4))] [] (hM nf ns rest s0 s) (0, 0) = cond (am_in l4 10) (cond (decide ((0 : Int32) ≤ (s.1 26 l4.toNatClampNeg))) (g_X2_count n f 52 [(0, .inl (.ref 15)), (1, .inl (.int l1)), (2, .inl (.int l2)), (3, .inl (.int l3)), (4, .inl (.int l4))] [.inl (.int l2)] (hM nf ns rest s0 s) (0, 0)) (g_X2_count n f 48 [(0, .inl (.ref 15)), (1, .inl (.int l1)), (2, .inl (.int l2)), (3, .inl (.int l3)), (4, .inl (.int l4))] [.inl (.int l2)] (hM nf ns rest s0 s) (0, 0))) none from fun f n => rfl) (f + 25) n).trans ?_
    refine am_lcd (B := none) ?_ rfl
    refine am_lcd ?_ ?_
    · refine ((show ∀ f n : Nat, g_X2_count n (f + 5) 52 [(0, .inl (.ref 15)), (1, .inl (.int l1)), (2, .inl (.int l2)), (3, .inl (.int l3)), (4, .inl (.int l4))] [.inl (.int l2)] (hM nf ns rest s0 s) (0, 0) = j_X2_count n 28 [(0, .inl (.ref 15)), (1, .inl (.int l1)), (2, .inl (.int (l2 + (0 : Int32)))), (3, .inl (.int l3)), (4, .inl (.int (l4 + (1 : Int32))))] [] (hM nf ns rest s0 s) (0, 0) from fun f n => rfl) (f + 20) n).trans ?_
      exact ih l1 (l2 + (0 : Int32)) l3 (l4 + (1 : Int32)) s
    · refine ((show ∀ f n : Nat, g_X2_count n (f + 6) 48 [(0, .inl (.ref 15)), (1, .inl (.int l1)), (2, .inl (.int l2)), (3, .inl (.int l3)), (4, .inl (.int l4))] [.inl (.int l2)] (hM nf ns rest s0 s) (0, 0) = j_X2_count n 28 [(0, .inl (.ref 15)), (1, .inl (.int l1)), (2, .inl (.int (l2 + (1 : Int32)))), (3, .inl (.int l3)), (4, .inl (.int (l4 + (1 : Int32))))] [] (hM nf ns rest s0 s) (0, 0) from fun f n => rfl) (f + 19) n).trans ?_
      exact ih l1 (l2 + (1 : Int32)) l3 (l4 + (1 : Int32)) s
set_option maxRecDepth 20000 in
theorem e_X2_count_L28 {nf ns : Nat} {rest : am_H} {s0 : KS} : ∀ (n : Nat) (l1 : Int32) (l2 : Int32) (l3 : Int32) (l4 : Int32) (s : KS), j_X2_count n 28 [(0, .inl (.ref 15)), (1, .inl (.int l1)), (2, .inl (.int l2)), (3, .inl (.int l3)), (4, .inl (.int l4))] [] (hM nf ns rest s0 s) (0, 0) = am_lf (hM nf ns rest s0) (p_X2_count_L28 n l1 l2 l3 l4 s)
  | 0, _, _, _, _, _ => by rw [p_X2_count_L28]; rfl
  | n + 1, l1, l2, l3, l4, s => (j_X2_count_g n 28 _ _ _ _).trans (b_X2_count_L28 n (e_X2_count_L28 n) 965 l1 l2 l3 l4 s)
set_option maxRecDepth 20000 in
def p_X2_count (a1 : Int32) (s : KS) : KR := kbi (p_X2_out a1 (16 : Int32) (kS s 15 0 (0 : Int32))) (fun x2 s1 => cond (decide (x2 = (0 : Int32))) (p_X2_count_L28 400 a1 (0 : Int32) (0 : Int32) (0 : Int32) s1) (kbi (p_X2_fail (1 : Int32) s1) (fun x4 s3 => some (.inl (some x4), s3))))
set_option maxRecDepth 20000 in
theorem e_X2_count {nf ns : Nat} {rest : am_H} {s0 : KS} (a1 : Int32) (s : KS) : F_X2_count [.inl (.ref 15), .inl (.int a1)] (hM nf ns rest s0 s) = am_lf (hM nf ns rest s0) (p_X2_count a1 s) := by
  rw [p_X2_count]
  refine (show _ = g_X2_count 399 1000 0 [(0, .inl (.ref 15)), (1, .inl (.int a1))] [] (hM nf ns rest s0 s) (0, 0) from am_fn_g (Nat.le_of_ble_eq_true rfl)).trans ?_
  refine ((show ∀ f n : Nat, g_X2_count n (f + 7) 0 [(0, .inl (.ref 15)), (1, .inl (.int a1))] [] (hM nf ns rest s0 s) (0, 0) = am_ri (F_X2_out [.inl (.ref 15), .inl (.int a1), .inl (.int (16 : Int32))] (hM nf ns rest s0 (kS s 15 0 (0 : Int32)))) (fun x2 h => g_X2_count n f 12 [(0, .inl (.ref 15)), (1, .inl (.int a1))] [.inl (.int x2)] h (0, 0)) (fun x h => some (.inr x, h)) from fun f n => rfl) 993 399).trans ?_
  rw [e_X2_out a1 (16 : Int32) (kS s 15 0 (0 : Int32))]
  refine am_lbi (fun x2 s1 => ?_) (fun _ _ => rfl)
  refine ((show ∀ f n : Nat, g_X2_count n (f + 1) 12 [(0, .inl (.ref 15)), (1, .inl (.int a1))] [.inl (.int x2)] (hM nf ns rest s0 s1) (0, 0) = cond (decide (x2 = (0 : Int32))) (g_X2_count n f 21 [(0, .inl (.ref 15)), (1, .inl (.int a1))] [] (hM nf ns rest s0 s1) (0, 0)) (g_X2_count n f 15 [(0, .inl (.ref 15)), (1, .inl (.int a1))] [] (hM nf ns rest s0 s1) (0, 0)) from fun f n => rfl) 992 399).trans ?_
  refine am_lcd ?_ ?_
  · refine ((show ∀ f n : Nat, g_X2_count n (f + 6) 21 [(0, .inl (.ref 15)), (1, .inl (.int a1))] [] (hM nf ns rest s0 s1) (0, 0) = g_X2_count n f 28 [(0, .inl (.ref 15)), (1, .inl (.int a1)), (2, .inl (.int (0 : Int32))), (3, .inl (.int (0 : Int32))), (4, .inl (.int (0 : Int32)))] [] (hM nf ns rest s0 s1) (0, 0) from fun f n => rfl) 986 399).trans ?_
    exact b_X2_count_L28 399 (e_X2_count_L28 399) 951 a1 (0 : Int32) (0 : Int32) (0 : Int32) s1
  · refine ((show ∀ f n : Nat, g_X2_count n (f + 3) 15 [(0, .inl (.ref 15)), (1, .inl (.int a1))] [] (hM nf ns rest s0 s1) (0, 0) = am_ri (F_X2_fail [.inl (.ref 15), .inl (.int (1 : Int32))] (hM nf ns rest s0 s1)) (fun x4 h => g_X2_count n f 20 [(0, .inl (.ref 15)), (1, .inl (.int a1))] [.inl (.int x4)] h (0, 0)) (fun x h => some (.inr x, h)) from fun f n => rfl) 989 399).trans ?_
    rw [e_X2_fail (1 : Int32) s1]
    refine am_lbi (fun x4 s3 => ?_) (fun _ _ => rfl)
    refine ((show ∀ f n : Nat, g_X2_count n (f + 1) 20 [(0, .inl (.ref 15)), (1, .inl (.int a1))] [.inl (.int x4)] (hM nf ns rest s0 s3) (0, 0) = some (.inl (some (.inl (.int x4))), hM nf ns rest s0 s3) from fun f n => rfl) 988 399).trans ?_
    rfl
