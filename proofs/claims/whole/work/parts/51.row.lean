def kR (s : KS) (q i k : Nat) (v : Int32) : KS := (s.1, va_up s.2 q (fS32 (s.2 q) i k v))
theorem kR_0 (s : KS) (q i : Nat) (v : Int32) : kR s q i 0 v = s := by
  have : va_up s.2 q (fS32 (s.2 q) i 0 v) = s.2 := funext fun r => by
    show (if r = q then fS32 (s.2 q) i 0 v else s.2 r) = s.2 r
    rw [fS32_0]
    split
    · rename_i e; rw [e]
    · rfl
  show (s.1, va_up s.2 q (fS32 (s.2 q) i 0 v)) = s
  rw [this]
theorem kR_s (s : KS) (q i k : Nat) (v : Int32) : kR (kG s q i v) q (i + 1) k v = kR s q i (k + 1) v := by
  have : va_up (va_up s.2 q (upd (s.2 q) i v)) q (fS32 ((va_up s.2 q (upd (s.2 q) i v)) q) (i + 1) k v) = va_up s.2 q (fS32 (s.2 q) i (k + 1) v) := funext fun r => by
    show (if r = q then fS32 (if q = q then upd (s.2 q) i v else s.2 q) (i + 1) k v else (if r = q then upd (s.2 q) i v else s.2 r)) = (if r = q then fS32 (s.2 q) i (k + 1) v else s.2 r)
    rw [if_pos (show q = q from rfl), fS32_s]
    split
    · rfl
    · rfl
  show (s.1, _) = (s.1, _)
  exact congrArg (fun z => (s.1, z)) this
set_option maxRecDepth 20000 in
theorem fl_r {m : am_V} {nf ns q : Nat} {rest : am_H} {v l : Int32} (hq : q < 6) (hl : l = nn 11) : ∀ (k i n f : Nat) (s : KS), i + k = 11 → k ≤ n → g_J7_fill n (f + 9) 5 [(0, .inr (7, q)), (1, .inl (.int v)), (2, .inl (.int (nn i))), (3, .inl (.int l))] [] (kHm m nf ns rest s) (0, 0) = some (.inl none, kHm m nf ns rest (kR s q i k v))
  | 0, i, n, f, s, h1, h2 => by
    refine ((show ∀ (f n : Nat) (w : Int32), g_J7_fill n (f + 3) 5 [(0, .inr (7, q)), (1, .inl (.int v)), (2, .inl (.int w)), (3, .inl (.int l))] [] (kHm m nf ns rest s) (0, 0) = cond (decide (l ≤ w)) (g_J7_fill n f 20 [(0, .inr (7, q)), (1, .inl (.int v)), (2, .inl (.int w)), (3, .inl (.int l))] [] (kHm m nf ns rest s) (0, 0)) (g_J7_fill n f 10 [(0, .inr (7, q)), (1, .inl (.int v)), (2, .inl (.int w)), (3, .inl (.int l))] [] (kHm m nf ns rest s) (0, 0)) from fun f n w => rfl) (f + 6) n (nn i)).trans ?_
    rw [show decide (l ≤ nn i) = true from decide_eq_true (by rw [hl, nn_le (by omega) (by omega)]; omega)]
    refine ((show ∀ (f n : Nat) (w : Int32), g_J7_fill n (f + 1) 20 [(0, .inr (7, q)), (1, .inl (.int v)), (2, .inl (.int w)), (3, .inl (.int l))] [] (kHm m nf ns rest s) (0, 0) = some (.inl none, (kHm m nf ns rest s)) from fun f n w => rfl) (f + 5) n (nn i)).trans ?_
    rw [kR_0]
  | k + 1, i, n + 1, f, s, h1, h2 => by
    have ih := fl_r (m := m) (rest := rest) (v := v) (nf := nf) (ns := ns) hq hl k (i + 1) n 991 (kG s q i v) (by omega) (by omega)
    refine ((show ∀ (f n : Nat) (w : Int32), g_J7_fill n (f + 3) 5 [(0, .inr (7, q)), (1, .inl (.int v)), (2, .inl (.int w)), (3, .inl (.int l))] [] (kHm m nf ns rest s) (0, 0) = cond (decide (l ≤ w)) (g_J7_fill n f 20 [(0, .inr (7, q)), (1, .inl (.int v)), (2, .inl (.int w)), (3, .inl (.int l))] [] (kHm m nf ns rest s) (0, 0)) (g_J7_fill n f 10 [(0, .inr (7, q)), (1, .inl (.int v)), (2, .inl (.int w)), (3, .inl (.int l))] [] (kHm m nf ns rest s) (0, 0)) from fun f n w => rfl) (f + 6) (n + 1) (nn i)).trans ?_
    rw [show decide (l ≤ nn i) = false from decide_eq_false (by rw [hl, nn_le (by omega) (by omega)]; omega)]
    refine ((show ∀ (f n : Nat) (w : Int32), g_J7_fill n (f + 6) 10 [(0, .inr (7, q)), (1, .inl (.int v)), (2, .inl (.int w)), (3, .inl (.int l))] [] (kHm m nf ns rest s) (0, 0) = cond (decide (q < 6) && am_in w 11) (j_J7_fill n 5 [(0, .inr (7, q)), (1, .inl (.int v)), (2, .inl (.int (w + 1))), (3, .inl (.int l))] [] (kHm m nf ns rest (kG s q w.toNatClampNeg v)) (0, 0)) none from fun f n w => rfl) f (n + 1) (nn i)).trans ?_
    rw [nn_in (by omega), decide_eq_true (show i < 11 by omega), decide_eq_true hq, nn_tn (by omega), nn_p1]
    refine (j_J7_fill_g n 5 _ _ _ _).trans (ih.trans ?_)
    rw [← kR_s]
set_option maxRecDepth 20000 in
theorem fill_r {m : am_V} {nf ns q : Nat} {rest : am_H} {v : Int32} {s : KS} (hq : q < 6) : F_J7_fill [.inr (7, q), .inl (.int v)] (kHm m nf ns rest s) = some (.inl none, kHm m nf ns rest (kR s q 0 11 v)) := by
  refine (show _ = g_J7_fill 399 1000 0 [(0, .inr (7, q)), (1, .inl (.int v))] [] (kHm m nf ns rest s) (0, 0) from am_fn_g (T := T_J7_fill) (X := X_J7_fill) (nL := 4) (rt := none) (rs := am_rs0) (hs := []) (kp := [(5, [0, 1, 2, 3])]) (n := 399) (b := (0, 0)) (as := [.inr (7, q), .inl (.int v)]) (h := kHm m nf ns rest s) (Nat.le_of_ble_eq_true rfl)).trans ?_
  refine ((show ∀ f n : Nat, g_J7_fill n (f + 5) 0 [(0, .inr (7, q)), (1, .inl (.int v))] [] (kHm m nf ns rest s) (0, 0) = cond (decide (q < 6)) (g_J7_fill n f 5 [(0, .inr (7, q)), (1, .inl (.int v)), (2, .inl (.int 0)), (3, .inl (.int (Int32.ofNat 11)))] [] (kHm m nf ns rest s) (0, 0)) none from fun f n => rfl) 995 399).trans ?_
  rw [decide_eq_true hq]
  exact fl_r (m := m) (rest := rest) (v := v) (nf := nf) (ns := ns) hq (nn_lit 11) 11 0 399 986 s (by omega) (by omega)
