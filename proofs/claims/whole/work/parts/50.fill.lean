/-! fill: rows of the class's heap; the memory field of cell 0 may not be set yet -/
def kHm (m : am_V) (nf ns : Nat) (rest : am_H) (s : KS) : am_H :=
  .inr (.inr (.inl (1, [m, .inl (.ref 1), .inl (.ref 2), .inl (.ref 3), .inl (.ref 4), .inl (.ref 5), .inl (.ref 6), .inl (.ref 7)]))) :: .inl (0, 6, s.1 1) :: .inl (0, 6, s.1 2) :: .inl (0, 6, s.1 3) :: .inl (0, 6, s.1 4) :: .inl (0, 6, s.1 5) :: .inl (0, 6, s.1 6) :: .inr (.inl (6, 11, s.2)) ::
  .inr (.inr (.inl (0, [.inl (.ref 9), .inl (.ref 10), .inl (.ref 11), .inl (.ref 12), .inl (.ref 13), .inl (.ref 14), .inl (.int (s.1 8 6)), .inl (.int (s.1 8 7)), .inl (.int (s.1 8 8)), .inl (.int (s.1 8 9))]))) :: .inl (0, 240, s.1 9) :: .inl (0, 60, s.1 10) :: .inl (0, 60, s.1 11) :: .inl (0, nf, s.1 12) :: .inl (1, nf, s.1 13) :: .inl (0, ns, s.1 14) :: rest
theorem kHm_k (nf ns : Nat) (rest : am_H) (s : KS) : kHm (.inl (.ref 8)) nf ns rest s = kH nf ns rest s := rfl
set_option maxRecDepth 20000 in
def g_J7_fill (n f pc : Nat) (lv : am_Lv) (st : List am_V) (h : am_H) (b : Nat × Nat) : Option am_O := am_go X_J7_fill 4 none am_rs0 [] [(5, [0, 1, 2, 3])] (am_lp T_J7_fill X_J7_fill 4 none am_rs0 [] [(5, [0, 1, 2, 3])] n) f (am_from pc T_J7_fill) lv st h b
set_option maxRecDepth 20000 in
def j_J7_fill (n pc : Nat) (lv : am_Lv) (st : List am_V) (h : am_H) (b : Nat × Nat) : Option am_O := am_lp T_J7_fill X_J7_fill 4 none am_rs0 [] [(5, [0, 1, 2, 3])] n pc lv st h b
set_option maxRecDepth 20000 in
theorem j_J7_fill_g (n pc : Nat) (lv : am_Lv) (st : List am_V) (h : am_H) (b : Nat × Nat) : j_J7_fill (n + 1) pc lv st h b = g_J7_fill n 1000 pc lv st h b := rfl
/-- a row's places from i on have the value v -/
def fS32 (g : Nat → Int32) (i m : Nat) (v : Int32) : Nat → Int32 := fun j => if i ≤ j ∧ j < i + m then v else g j
theorem fS32_0 (g : Nat → Int32) (i : Nat) (v : Int32) : fS32 g i 0 v = g := funext fun j => if_neg (by omega)
theorem fS32_s (g : Nat → Int32) (i m : Nat) (v : Int32) : fS32 (upd g i v) (i + 1) m v = fS32 g i (m + 1) v := funext fun j => by
  unfold fS32
  rw [upd_e]
  by_cases h : j = i
  · rw [if_neg (by omega), if_pos h, if_pos (by omega)]
  · by_cases h2 : i + 1 ≤ j ∧ j < i + 1 + m
    · rw [if_pos h2, if_pos (by omega)]
    · rw [if_neg h2, if_neg h, if_neg (by omega)]
def kV3 (s : KS) (g : Nat → Int32) : KS := (va_up s.1 3 g, s.2)
set_option maxRecDepth 20000 in
theorem fl_3 {m : am_V} {nf ns : Nat} {rest : am_H} {v l : Int32}  (hl : l = nn (6)) : ∀ (k i n f : Nat) (s : KS), i + k = 6 → k ≤ n → g_J7_fill n (f + 9) 5 [(0, .inl (.ref 3)), (1, .inl (.int v)), (2, .inl (.int (nn i))), (3, .inl (.int l))] [] (kHm m nf ns rest s) (0, 0) = some (.inl none, kHm m nf ns rest (kV3 s (fS32 (s.1 3) i k v)))
  | 0, i, n, f, s, h1, h2 => by
    refine ((show ∀ (f n : Nat) (w : Int32), g_J7_fill n (f + 3) 5 [(0, .inl (.ref 3)), (1, .inl (.int v)), (2, .inl (.int w)), (3, .inl (.int l))] [] (kHm m nf ns rest s) (0, 0) = cond (decide (l ≤ w)) (g_J7_fill n f 20 [(0, .inl (.ref 3)), (1, .inl (.int v)), (2, .inl (.int w)), (3, .inl (.int l))] [] (kHm m nf ns rest s) (0, 0)) (g_J7_fill n f 10 [(0, .inl (.ref 3)), (1, .inl (.int v)), (2, .inl (.int w)), (3, .inl (.int l))] [] (kHm m nf ns rest s) (0, 0)) from fun f n w => rfl) (f + 6) n (nn i)).trans ?_
    rw [show decide (l ≤ nn i) = true from decide_eq_true (by rw [hl, nn_le (by omega) (by omega)]; omega)]
    refine ((show ∀ (f n : Nat) (w : Int32), g_J7_fill n (f + 1) 20 [(0, .inl (.ref 3)), (1, .inl (.int v)), (2, .inl (.int w)), (3, .inl (.int l))] [] (kHm m nf ns rest s) (0, 0) = some (.inl none, (kHm m nf ns rest s)) from fun f n w => rfl) (f + 5) n (nn i)).trans ?_
    rw [fS32_0]; rfl
  | k + 1, i, n + 1, f, s, h1, h2 => by
    have ih := fl_3 (m := m) (rest := rest) (v := v) (nf := nf) (ns := ns) hl k (i + 1) n 991 (kS s 3 i v) (by omega) (by omega)
    refine ((show ∀ (f n : Nat) (w : Int32), g_J7_fill n (f + 3) 5 [(0, .inl (.ref 3)), (1, .inl (.int v)), (2, .inl (.int w)), (3, .inl (.int l))] [] (kHm m nf ns rest s) (0, 0) = cond (decide (l ≤ w)) (g_J7_fill n f 20 [(0, .inl (.ref 3)), (1, .inl (.int v)), (2, .inl (.int w)), (3, .inl (.int l))] [] (kHm m nf ns rest s) (0, 0)) (g_J7_fill n f 10 [(0, .inl (.ref 3)), (1, .inl (.int v)), (2, .inl (.int w)), (3, .inl (.int l))] [] (kHm m nf ns rest s) (0, 0)) from fun f n w => rfl) (f + 6) (n + 1) (nn i)).trans ?_
    rw [show decide (l ≤ nn i) = false from decide_eq_false (by rw [hl, nn_le (by omega) (by omega)]; omega)]
    refine ((show ∀ (f n : Nat) (w : Int32), g_J7_fill n (f + 6) 10 [(0, .inl (.ref 3)), (1, .inl (.int v)), (2, .inl (.int w)), (3, .inl (.int l))] [] (kHm m nf ns rest s) (0, 0) = cond (am_in w (6)) (j_J7_fill n 5 [(0, .inl (.ref 3)), (1, .inl (.int v)), (2, .inl (.int (w + 1))), (3, .inl (.int l))] [] (kHm m nf ns rest (kS s 3 w.toNatClampNeg v)) (0, 0)) none from fun f n w => rfl) f (n + 1) (nn i)).trans ?_
    rw [nn_in (by omega), decide_eq_true (show i < 6 by omega), nn_tn (by omega), nn_p1]
    refine (j_J7_fill_g n 5 _ _ _ _).trans (ih.trans ?_)
    rw [← fS32_s]; rfl
set_option maxRecDepth 20000 in
theorem fill_3 {m : am_V} {nf ns : Nat} {rest : am_H} {v : Int32} {s : KS}  : F_J7_fill [.inl (.ref 3), .inl (.int v)] (kHm m nf ns rest s) = some (.inl none, kHm m nf ns rest (kV3 s (fS32 (s.1 3) 0 (6) v))) := by
  refine (show _ = g_J7_fill 399 1000 0 [(0, .inl (.ref 3)), (1, .inl (.int v))] [] (kHm m nf ns rest s) (0, 0) from am_fn_g (T := T_J7_fill) (X := X_J7_fill) (nL := 4) (rt := none) (rs := am_rs0) (hs := []) (kp := [(5, [0, 1, 2, 3])]) (n := 399) (b := (0, 0)) (as := [.inl (.ref 3), .inl (.int v)]) (h := (kHm m nf ns rest s)) (Nat.le_of_ble_eq_true rfl)).trans ?_
  refine ((show ∀ f n : Nat, g_J7_fill n (f + 5) 0 [(0, .inl (.ref 3)), (1, .inl (.int v))] [] (kHm m nf ns rest s) (0, 0) = g_J7_fill n f 5 [(0, .inl (.ref 3)), (1, .inl (.int v)), (2, .inl (.int 0)), (3, .inl (.int (Int32.ofNat (6))))] [] (kHm m nf ns rest s) (0, 0) from fun f n => rfl) 995 399).trans ?_
  exact fl_3 (m := m) (rest := rest) (v := v) (nf := nf) (ns := ns) (nn_lit (6)) (6) 0 399 986 s (by omega) (by omega)
def kV11 (s : KS) (g : Nat → Int32) : KS := (va_up s.1 11 g, s.2)
set_option maxRecDepth 20000 in
theorem fl_11 {m : am_V} {nf ns : Nat} {rest : am_H} {v l : Int32}  (hl : l = nn (60)) : ∀ (k i n f : Nat) (s : KS), i + k = 60 → k ≤ n → g_J7_fill n (f + 9) 5 [(0, .inl (.ref 11)), (1, .inl (.int v)), (2, .inl (.int (nn i))), (3, .inl (.int l))] [] (kHm m nf ns rest s) (0, 0) = some (.inl none, kHm m nf ns rest (kV11 s (fS32 (s.1 11) i k v)))
  | 0, i, n, f, s, h1, h2 => by
    refine ((show ∀ (f n : Nat) (w : Int32), g_J7_fill n (f + 3) 5 [(0, .inl (.ref 11)), (1, .inl (.int v)), (2, .inl (.int w)), (3, .inl (.int l))] [] (kHm m nf ns rest s) (0, 0) = cond (decide (l ≤ w)) (g_J7_fill n f 20 [(0, .inl (.ref 11)), (1, .inl (.int v)), (2, .inl (.int w)), (3, .inl (.int l))] [] (kHm m nf ns rest s) (0, 0)) (g_J7_fill n f 10 [(0, .inl (.ref 11)), (1, .inl (.int v)), (2, .inl (.int w)), (3, .inl (.int l))] [] (kHm m nf ns rest s) (0, 0)) from fun f n w => rfl) (f + 6) n (nn i)).trans ?_
    rw [show decide (l ≤ nn i) = true from decide_eq_true (by rw [hl, nn_le (by omega) (by omega)]; omega)]
    refine ((show ∀ (f n : Nat) (w : Int32), g_J7_fill n (f + 1) 20 [(0, .inl (.ref 11)), (1, .inl (.int v)), (2, .inl (.int w)), (3, .inl (.int l))] [] (kHm m nf ns rest s) (0, 0) = some (.inl none, (kHm m nf ns rest s)) from fun f n w => rfl) (f + 5) n (nn i)).trans ?_
    rw [fS32_0]; rfl
  | k + 1, i, n + 1, f, s, h1, h2 => by
    have ih := fl_11 (m := m) (rest := rest) (v := v) (nf := nf) (ns := ns) hl k (i + 1) n 991 (kS s 11 i v) (by omega) (by omega)
    refine ((show ∀ (f n : Nat) (w : Int32), g_J7_fill n (f + 3) 5 [(0, .inl (.ref 11)), (1, .inl (.int v)), (2, .inl (.int w)), (3, .inl (.int l))] [] (kHm m nf ns rest s) (0, 0) = cond (decide (l ≤ w)) (g_J7_fill n f 20 [(0, .inl (.ref 11)), (1, .inl (.int v)), (2, .inl (.int w)), (3, .inl (.int l))] [] (kHm m nf ns rest s) (0, 0)) (g_J7_fill n f 10 [(0, .inl (.ref 11)), (1, .inl (.int v)), (2, .inl (.int w)), (3, .inl (.int l))] [] (kHm m nf ns rest s) (0, 0)) from fun f n w => rfl) (f + 6) (n + 1) (nn i)).trans ?_
    rw [show decide (l ≤ nn i) = false from decide_eq_false (by rw [hl, nn_le (by omega) (by omega)]; omega)]
    refine ((show ∀ (f n : Nat) (w : Int32), g_J7_fill n (f + 6) 10 [(0, .inl (.ref 11)), (1, .inl (.int v)), (2, .inl (.int w)), (3, .inl (.int l))] [] (kHm m nf ns rest s) (0, 0) = cond (am_in w (60)) (j_J7_fill n 5 [(0, .inl (.ref 11)), (1, .inl (.int v)), (2, .inl (.int (w + 1))), (3, .inl (.int l))] [] (kHm m nf ns rest (kS s 11 w.toNatClampNeg v)) (0, 0)) none from fun f n w => rfl) f (n + 1) (nn i)).trans ?_
    rw [nn_in (by omega), decide_eq_true (show i < 60 by omega), nn_tn (by omega), nn_p1]
    refine (j_J7_fill_g n 5 _ _ _ _).trans (ih.trans ?_)
    rw [← fS32_s]; rfl
set_option maxRecDepth 20000 in
theorem fill_11 {m : am_V} {nf ns : Nat} {rest : am_H} {v : Int32} {s : KS}  : F_J7_fill [.inl (.ref 11), .inl (.int v)] (kHm m nf ns rest s) = some (.inl none, kHm m nf ns rest (kV11 s (fS32 (s.1 11) 0 (60) v))) := by
  refine (show _ = g_J7_fill 399 1000 0 [(0, .inl (.ref 11)), (1, .inl (.int v))] [] (kHm m nf ns rest s) (0, 0) from am_fn_g (T := T_J7_fill) (X := X_J7_fill) (nL := 4) (rt := none) (rs := am_rs0) (hs := []) (kp := [(5, [0, 1, 2, 3])]) (n := 399) (b := (0, 0)) (as := [.inl (.ref 11), .inl (.int v)]) (h := (kHm m nf ns rest s)) (Nat.le_of_ble_eq_true rfl)).trans ?_
  refine ((show ∀ f n : Nat, g_J7_fill n (f + 5) 0 [(0, .inl (.ref 11)), (1, .inl (.int v))] [] (kHm m nf ns rest s) (0, 0) = g_J7_fill n f 5 [(0, .inl (.ref 11)), (1, .inl (.int v)), (2, .inl (.int 0)), (3, .inl (.int (Int32.ofNat (60))))] [] (kHm m nf ns rest s) (0, 0) from fun f n => rfl) 995 399).trans ?_
  exact fl_11 (m := m) (rest := rest) (v := v) (nf := nf) (ns := ns) (nn_lit (60)) (60) 0 399 986 s (by omega) (by omega)
def kV12 (s : KS) (g : Nat → Int32) : KS := (va_up s.1 12 g, s.2)
set_option maxRecDepth 20000 in
theorem fl_12 {m : am_V} {nf ns : Nat} {rest : am_H} {v l : Int32} (hn : nf ≤ 60) (hl : l = nn (nf)) : ∀ (k i n f : Nat) (s : KS), i + k = nf → k ≤ n → g_J7_fill n (f + 9) 5 [(0, .inl (.ref 12)), (1, .inl (.int v)), (2, .inl (.int (nn i))), (3, .inl (.int l))] [] (kHm m nf ns rest s) (0, 0) = some (.inl none, kHm m nf ns rest (kV12 s (fS32 (s.1 12) i k v)))
  | 0, i, n, f, s, h1, h2 => by
    refine ((show ∀ (f n : Nat) (w : Int32), g_J7_fill n (f + 3) 5 [(0, .inl (.ref 12)), (1, .inl (.int v)), (2, .inl (.int w)), (3, .inl (.int l))] [] (kHm m nf ns rest s) (0, 0) = cond (decide (l ≤ w)) (g_J7_fill n f 20 [(0, .inl (.ref 12)), (1, .inl (.int v)), (2, .inl (.int w)), (3, .inl (.int l))] [] (kHm m nf ns rest s) (0, 0)) (g_J7_fill n f 10 [(0, .inl (.ref 12)), (1, .inl (.int v)), (2, .inl (.int w)), (3, .inl (.int l))] [] (kHm m nf ns rest s) (0, 0)) from fun f n w => rfl) (f + 6) n (nn i)).trans ?_
    rw [show decide (l ≤ nn i) = true from decide_eq_true (by rw [hl, nn_le (by omega) (by omega)]; omega)]
    refine ((show ∀ (f n : Nat) (w : Int32), g_J7_fill n (f + 1) 20 [(0, .inl (.ref 12)), (1, .inl (.int v)), (2, .inl (.int w)), (3, .inl (.int l))] [] (kHm m nf ns rest s) (0, 0) = some (.inl none, (kHm m nf ns rest s)) from fun f n w => rfl) (f + 5) n (nn i)).trans ?_
    rw [fS32_0]; rfl
  | k + 1, i, n + 1, f, s, h1, h2 => by
    have ih := fl_12 (m := m) (rest := rest) (v := v) (ns := ns) hn hl k (i + 1) n 991 (kS s 12 i v) (by omega) (by omega)
    refine ((show ∀ (f n : Nat) (w : Int32), g_J7_fill n (f + 3) 5 [(0, .inl (.ref 12)), (1, .inl (.int v)), (2, .inl (.int w)), (3, .inl (.int l))] [] (kHm m nf ns rest s) (0, 0) = cond (decide (l ≤ w)) (g_J7_fill n f 20 [(0, .inl (.ref 12)), (1, .inl (.int v)), (2, .inl (.int w)), (3, .inl (.int l))] [] (kHm m nf ns rest s) (0, 0)) (g_J7_fill n f 10 [(0, .inl (.ref 12)), (1, .inl (.int v)), (2, .inl (.int w)), (3, .inl (.int l))] [] (kHm m nf ns rest s) (0, 0)) from fun f n w => rfl) (f + 6) (n + 1) (nn i)).trans ?_
    rw [show decide (l ≤ nn i) = false from decide_eq_false (by rw [hl, nn_le (by omega) (by omega)]; omega)]
    refine ((show ∀ (f n : Nat) (w : Int32), g_J7_fill n (f + 6) 10 [(0, .inl (.ref 12)), (1, .inl (.int v)), (2, .inl (.int w)), (3, .inl (.int l))] [] (kHm m nf ns rest s) (0, 0) = cond (am_in w (nf)) (j_J7_fill n 5 [(0, .inl (.ref 12)), (1, .inl (.int v)), (2, .inl (.int (w + 1))), (3, .inl (.int l))] [] (kHm m nf ns rest (kS s 12 w.toNatClampNeg v)) (0, 0)) none from fun f n w => rfl) f (n + 1) (nn i)).trans ?_
    rw [nn_in (by omega), decide_eq_true (show i < nf by omega), nn_tn (by omega), nn_p1]
    refine (j_J7_fill_g n 5 _ _ _ _).trans (ih.trans ?_)
    rw [← fS32_s]; rfl
set_option maxRecDepth 20000 in
theorem fill_12 {m : am_V} {nf ns : Nat} {rest : am_H} {v : Int32} {s : KS} (hn : nf ≤ 60) : F_J7_fill [.inl (.ref 12), .inl (.int v)] (kHm m nf ns rest s) = some (.inl none, kHm m nf ns rest (kV12 s (fS32 (s.1 12) 0 (nf) v))) := by
  refine (show _ = g_J7_fill 399 1000 0 [(0, .inl (.ref 12)), (1, .inl (.int v))] [] (kHm m nf ns rest s) (0, 0) from am_fn_g (T := T_J7_fill) (X := X_J7_fill) (nL := 4) (rt := none) (rs := am_rs0) (hs := []) (kp := [(5, [0, 1, 2, 3])]) (n := 399) (b := (0, 0)) (as := [.inl (.ref 12), .inl (.int v)]) (h := (kHm m nf ns rest s)) (Nat.le_of_ble_eq_true rfl)).trans ?_
  refine ((show ∀ f n : Nat, g_J7_fill n (f + 5) 0 [(0, .inl (.ref 12)), (1, .inl (.int v))] [] (kHm m nf ns rest s) (0, 0) = g_J7_fill n f 5 [(0, .inl (.ref 12)), (1, .inl (.int v)), (2, .inl (.int 0)), (3, .inl (.int (Int32.ofNat (nf))))] [] (kHm m nf ns rest s) (0, 0) from fun f n => rfl) 995 399).trans ?_
  exact fl_12 (m := m) (rest := rest) (v := v) (ns := ns) hn (nn_lit (nf)) (nf) 0 399 986 s (by omega) (by omega)
def kV14 (s : KS) (g : Nat → Int32) : KS := (va_up s.1 14 g, s.2)
set_option maxRecDepth 20000 in
theorem fl_14 {m : am_V} {nf ns : Nat} {rest : am_H} {v l : Int32} (hn : ns ≤ 60) (hl : l = nn (ns)) : ∀ (k i n f : Nat) (s : KS), i + k = ns → k ≤ n → g_J7_fill n (f + 9) 5 [(0, .inl (.ref 14)), (1, .inl (.int v)), (2, .inl (.int (nn i))), (3, .inl (.int l))] [] (kHm m nf ns rest s) (0, 0) = some (.inl none, kHm m nf ns rest (kV14 s (fS32 (s.1 14) i k v)))
  | 0, i, n, f, s, h1, h2 => by
    refine ((show ∀ (f n : Nat) (w : Int32), g_J7_fill n (f + 3) 5 [(0, .inl (.ref 14)), (1, .inl (.int v)), (2, .inl (.int w)), (3, .inl (.int l))] [] (kHm m nf ns rest s) (0, 0) = cond (decide (l ≤ w)) (g_J7_fill n f 20 [(0, .inl (.ref 14)), (1, .inl (.int v)), (2, .inl (.int w)), (3, .inl (.int l))] [] (kHm m nf ns rest s) (0, 0)) (g_J7_fill n f 10 [(0, .inl (.ref 14)), (1, .inl (.int v)), (2, .inl (.int w)), (3, .inl (.int l))] [] (kHm m nf ns rest s) (0, 0)) from fun f n w => rfl) (f + 6) n (nn i)).trans ?_
    rw [show decide (l ≤ nn i) = true from decide_eq_true (by rw [hl, nn_le (by omega) (by omega)]; omega)]
    refine ((show ∀ (f n : Nat) (w : Int32), g_J7_fill n (f + 1) 20 [(0, .inl (.ref 14)), (1, .inl (.int v)), (2, .inl (.int w)), (3, .inl (.int l))] [] (kHm m nf ns rest s) (0, 0) = some (.inl none, (kHm m nf ns rest s)) from fun f n w => rfl) (f + 5) n (nn i)).trans ?_
    rw [fS32_0]; rfl
  | k + 1, i, n + 1, f, s, h1, h2 => by
    have ih := fl_14 (m := m) (rest := rest) (v := v) (nf := nf) hn hl k (i + 1) n 991 (kS s 14 i v) (by omega) (by omega)
    refine ((show ∀ (f n : Nat) (w : Int32), g_J7_fill n (f + 3) 5 [(0, .inl (.ref 14)), (1, .inl (.int v)), (2, .inl (.int w)), (3, .inl (.int l))] [] (kHm m nf ns rest s) (0, 0) = cond (decide (l ≤ w)) (g_J7_fill n f 20 [(0, .inl (.ref 14)), (1, .inl (.int v)), (2, .inl (.int w)), (3, .inl (.int l))] [] (kHm m nf ns rest s) (0, 0)) (g_J7_fill n f 10 [(0, .inl (.ref 14)), (1, .inl (.int v)), (2, .inl (.int w)), (3, .inl (.int l))] [] (kHm m nf ns rest s) (0, 0)) from fun f n w => rfl) (f + 6) (n + 1) (nn i)).trans ?_
    rw [show decide (l ≤ nn i) = false from decide_eq_false (by rw [hl, nn_le (by omega) (by omega)]; omega)]
    refine ((show ∀ (f n : Nat) (w : Int32), g_J7_fill n (f + 6) 10 [(0, .inl (.ref 14)), (1, .inl (.int v)), (2, .inl (.int w)), (3, .inl (.int l))] [] (kHm m nf ns rest s) (0, 0) = cond (am_in w (ns)) (j_J7_fill n 5 [(0, .inl (.ref 14)), (1, .inl (.int v)), (2, .inl (.int (w + 1))), (3, .inl (.int l))] [] (kHm m nf ns rest (kS s 14 w.toNatClampNeg v)) (0, 0)) none from fun f n w => rfl) f (n + 1) (nn i)).trans ?_
    rw [nn_in (by omega), decide_eq_true (show i < ns by omega), nn_tn (by omega), nn_p1]
    refine (j_J7_fill_g n 5 _ _ _ _).trans (ih.trans ?_)
    rw [← fS32_s]; rfl
set_option maxRecDepth 20000 in
theorem fill_14 {m : am_V} {nf ns : Nat} {rest : am_H} {v : Int32} {s : KS} (hn : ns ≤ 60) : F_J7_fill [.inl (.ref 14), .inl (.int v)] (kHm m nf ns rest s) = some (.inl none, kHm m nf ns rest (kV14 s (fS32 (s.1 14) 0 (ns) v))) := by
  refine (show _ = g_J7_fill 399 1000 0 [(0, .inl (.ref 14)), (1, .inl (.int v))] [] (kHm m nf ns rest s) (0, 0) from am_fn_g (T := T_J7_fill) (X := X_J7_fill) (nL := 4) (rt := none) (rs := am_rs0) (hs := []) (kp := [(5, [0, 1, 2, 3])]) (n := 399) (b := (0, 0)) (as := [.inl (.ref 14), .inl (.int v)]) (h := (kHm m nf ns rest s)) (Nat.le_of_ble_eq_true rfl)).trans ?_
  refine ((show ∀ f n : Nat, g_J7_fill n (f + 5) 0 [(0, .inl (.ref 14)), (1, .inl (.int v))] [] (kHm m nf ns rest s) (0, 0) = g_J7_fill n f 5 [(0, .inl (.ref 14)), (1, .inl (.int v)), (2, .inl (.int 0)), (3, .inl (.int (Int32.ofNat (ns))))] [] (kHm m nf ns rest s) (0, 0) from fun f n => rfl) 995 399).trans ?_
  exact fl_14 (m := m) (rest := rest) (v := v) (nf := nf) hn (nn_lit (ns)) (ns) 0 399 986 s (by omega) (by omega)
