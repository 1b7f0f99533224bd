/-! the law's loop -/
set_option maxRecDepth 20000 in
def g_law (L : Nat) (xs : Nat → Int32) (n f pc : Nat) (lv : am_Lv) (st : List am_V) (h : am_H) (b : Nat × Nat) : Option am_O := am_go (X_L_law (am_rsL L xs)) 7 (some .boolean) (am_rsL L xs) [] [(43, [0, 1, 2, 3, 4])] (am_lp T_L_law (X_L_law (am_rsL L xs)) 7 (some .boolean) (am_rsL L xs) [] [(43, [0, 1, 2, 3, 4])] n) f (am_from pc T_L_law) lv st h b
set_option maxRecDepth 20000 in
def j_law (L : Nat) (xs : Nat → Int32) (n pc : Nat) (lv : am_Lv) (st : List am_V) (h : am_H) (b : Nat × Nat) : Option am_O := am_lp T_L_law (X_L_law (am_rsL L xs)) 7 (some .boolean) (am_rsL L xs) [] [(43, [0, 1, 2, 3, 4])] n pc lv st h b
set_option maxRecDepth 20000 in
theorem j_law_g (L : Nat) (xs : Nat → Int32) (n pc : Nat) (lv : am_Lv) (st : List am_V) (h : am_H) (b : Nat × Nat) : j_law L xs (n + 1) pc lv st h b = g_law L xs n 1000 pc lv st h b := rfl
theorem lg_cmp_self (x : Int64) : lg_cmp x x = 0 := by
  unfold lg_cmp
  rw [if_neg (Int64.lt_irrefl), if_pos rfl]
set_option maxRecDepth 20000 in
theorem b1_fork (L : Nat) (xs : Nat → Int32) (nf ns : Nat) (o : Nat → Int64) (s t : KS) (v k y z : Int32) (bc bs : Nat) : ∀ f n : Nat, g_law L xs n (f + 8) 124 [(0, .inl (.retAddr 1)), (1, .inl (.ref 0)), (2, .inl (.ref 15)), (3, .inl (.ref 29)), (4, .inl (.int v))] [] (lH nf ns o s t) (bc + 6, bs + 36) = cond (am_in (v + 1) L) (am_ri (F_L_fork [.inl (.ref 0), .inl (.int (xs (v + 1).toNatClampNeg)), .inl (.ref 29)] (lH nf ns o s t)) (fun x h => g_law L xs n f 135 [(0, .inl (.retAddr 1)), (1, .inl (.ref 0)), (2, .inl (.ref 15)), (3, .inl (.ref 29)), (4, .inl (.int v))] [.inl (.int x)] h (bc + 3, bs + 18)) (fun x h => some (.inr x, h))) none := fun f n => rfl
set_option maxRecDepth 20000 in
theorem b2_fork (L : Nat) (xs : Nat → Int32) (nf ns : Nat) (o : Nat → Int64) (s t : KS) (v k y z : Int32) (bc bs : Nat) : ∀ f n : Nat, g_law L xs n (f + 8) 135 [(0, .inl (.retAddr 1)), (1, .inl (.ref 0)), (2, .inl (.ref 15)), (3, .inl (.ref 29)), (4, .inl (.int v))] [.inl (.int k)] (lH nf ns o s t) (bc, bs) = cond (am_in (v + 1) L) (am_ri (F_X2_fork [.inl (.ref 15), .inl (.int (xs (v + 1).toNatClampNeg))] (lH nf ns o s t)) (fun x h => g_law L xs n f 147 [(0, .inl (.retAddr 1)), (1, .inl (.ref 0)), (2, .inl (.ref 15)), (3, .inl (.ref 29)), (4, .inl (.int v)), (5, .inl (.int k))] [.inl (.int x)] h (bc, bs)) (fun x h => some (.inr x, h))) none := fun f n => rfl
set_option maxRecDepth 20000 in
theorem b3_fork (L : Nat) (xs : Nat → Int32) (nf ns : Nat) (o : Nat → Int64) (s t : KS) (v k y z : Int32) (bc bs : Nat) : ∀ f n : Nat, g_law L xs n (f + 3) 147 [(0, .inl (.retAddr 1)), (1, .inl (.ref 0)), (2, .inl (.ref 15)), (3, .inl (.ref 29)), (4, .inl (.int v)), (5, .inl (.int k))] [.inl (.int y)] (lH nf ns o s t) (bc, bs) = am_ri (F_X2_thrown [.inl (.ref 15)] (lH nf ns o s t)) (fun x h => g_law L xs n f 153 [(0, .inl (.retAddr 1)), (1, .inl (.ref 0)), (2, .inl (.ref 15)), (3, .inl (.ref 29)), (4, .inl (.int v)), (5, .inl (.int k)), (6, .inl (.int y))] [.inl (.int x)] h (bc, bs)) (fun x h => some (.inr x, h)) := fun f n => rfl
set_option maxRecDepth 20000 in
theorem b4_fork (L : Nat) (xs : Nat → Int32) (nf ns : Nat) (o : Nat → Int64) (s t : KS) (v k y z : Int32) (bc bs : Nat) : ∀ f n : Nat, g_law L xs n (f + 2) 153 [(0, .inl (.retAddr 1)), (1, .inl (.ref 0)), (2, .inl (.ref 15)), (3, .inl (.ref 29)), (4, .inl (.int v)), (5, .inl (.int k)), (6, .inl (.int y))] [.inl (.int z)] (lH nf ns o s t) (bc, bs) = cond (decide (z = k)) (g_law L xs n f 160 [(0, .inl (.retAddr 1)), (1, .inl (.ref 0)), (2, .inl (.ref 15)), (3, .inl (.ref 29)), (4, .inl (.int v)), (5, .inl (.int k)), (6, .inl (.int y))] [] (lH nf ns o s t) (bc, bs)) (g_law L xs n f 158 [(0, .inl (.retAddr 1)), (1, .inl (.ref 0)), (2, .inl (.ref 15)), (3, .inl (.ref 29)), (4, .inl (.int v)), (5, .inl (.int k)), (6, .inl (.int y))] [] (lH nf ns o s t) (bc, bs)) := fun f n => rfl
set_option maxRecDepth 20000 in
theorem b5_fork (L : Nat) (xs : Nat → Int32) (nf ns : Nat) (o : Nat → Int64) (s t : KS) (v k y z : Int32) (bc bs : Nat) : ∀ f n : Nat, g_law L xs n (f + 2) 160 [(0, .inl (.retAddr 1)), (1, .inl (.ref 0)), (2, .inl (.ref 15)), (3, .inl (.ref 29)), (4, .inl (.int v)), (5, .inl (.int k)), (6, .inl (.int y))] [] (lH nf ns o s t) (bc, bs) = cond (!decide (k = 0)) (g_law L xs n f 177 [(0, .inl (.retAddr 1)), (1, .inl (.ref 0)), (2, .inl (.ref 15)), (3, .inl (.ref 29)), (4, .inl (.int v)), (5, .inl (.int k)), (6, .inl (.int y))] [] (lH nf ns o s t) (bc, bs)) (g_law L xs n f 165 [(0, .inl (.retAddr 1)), (1, .inl (.ref 0)), (2, .inl (.ref 15)), (3, .inl (.ref 29)), (4, .inl (.int v)), (5, .inl (.int k)), (6, .inl (.int y))] [] (lH nf ns o s t) (bc, bs)) := fun f n => rfl
set_option maxRecDepth 20000 in
theorem b6_fork (L : Nat) (xs : Nat → Int32) (nf ns : Nat) (o : Nat → Int64) (s t : KS) (v k y z : Int32) (bc bs : Nat) : ∀ f n : Nat, g_law L xs n (f + 7) 165 [(0, .inl (.retAddr 1)), (1, .inl (.ref 0)), (2, .inl (.ref 15)), (3, .inl (.ref 29)), (4, .inl (.int v)), (5, .inl (.int k)), (6, .inl (.int y))] [] (lH nf ns o s t) (bc, bs) = cond (decide (lg_cmp (o 0) y.toInt64 = 0)) (g_law L xs n f 177 [(0, .inl (.retAddr 1)), (1, .inl (.ref 0)), (2, .inl (.ref 15)), (3, .inl (.ref 29)), (4, .inl (.int v)), (5, .inl (.int k)), (6, .inl (.int y))] [] (lH nf ns o s t) (bc, bs)) (g_law L xs n f 175 [(0, .inl (.retAddr 1)), (1, .inl (.ref 0)), (2, .inl (.ref 15)), (3, .inl (.ref 29)), (4, .inl (.int v)), (5, .inl (.int k)), (6, .inl (.int y))] [] (lH nf ns o s t) (bc, bs)) := fun f n => rfl
set_option maxRecDepth 20000 in
theorem b7_fork (L : Nat) (xs : Nat → Int32) (nf ns : Nat) (o : Nat → Int64) (s t : KS) (v k y z : Int32) (bc bs : Nat) : ∀ f n : Nat, g_law L xs n (f + 3) 177 [(0, .inl (.retAddr 1)), (1, .inl (.ref 0)), (2, .inl (.ref 15)), (3, .inl (.ref 29)), (4, .inl (.int v)), (5, .inl (.int k)), (6, .inl (.int y))] [] (lH nf ns o s t) (bc, bs) = j_law L xs n 43 [(0, .inl (.retAddr 1)), (1, .inl (.ref 0)), (2, .inl (.ref 15)), (3, .inl (.ref 29)), (4, .inl (.int (v + 4)))] [] (lH nf ns o s t) (bc, bs) := fun f n => rfl
set_option maxRecDepth 20000 in
theorem it_fork {L nf ns : Nat} {xs : Nat → Int32} {o : Nat → Int64} {s t : KS} {v : Int32} {bc bs : Nat} (R : RR nf ns s t) (h1 : am_in (v + 1) L = true) : ∃ o' s' t' c d, RR nf ns s' t' ∧ ∀ f n : Nat, g_law L xs n (f + 33) 124 [(0, .inl (.retAddr 1)), (1, .inl (.ref 0)), (2, .inl (.ref 15)), (3, .inl (.ref 29)), (4, .inl (.int v))] [] (lH nf ns o s t) (bc + 6, bs + 36) = j_law L xs n 43 [(0, .inl (.retAddr 1)), (1, .inl (.ref 0)), (2, .inl (.ref 15)), (3, .inl (.ref 29)), (4, .inl (.int (v + 4)))] [] (lH nf ns o' s' t') (bc + c, bs + d) := by
  obtain ⟨s', t', R', A⟩ := a_fork (xs (v + 1).toNatClampNeg) R
  have em : ∀ (s : KS) (o : Nat → Int64), F_X2_fork [.inl (.ref 15), .inl (.int (xs (v + 1).toNatClampNeg))] (lH nf ns o s t) = am_lf (hM nf ns [.inr (.inr (.inr (1, o)))] s) (p_X2_fork (xs (v + 1).toNatClampNeg) t) := fun s o => e_X2_fork (xs (v + 1).toNatClampNeg) t
  have et : ∀ (s t : KS) (o : Nat → Int64), F_X2_thrown [.inl (.ref 15)] (lH nf ns o s t) = some (.inl (some (.inl (.int (t.1 15 0)))), lH nf ns o s t) := fun s t o => e_X2_thrown t
  rcases A with ⟨x, A1, A2, A3⟩ | ⟨e, c, y, hm, A1, A2, A3⟩
  · refine ⟨vp_updL o 0 x.toInt64, s', t', 3, 18, R', fun f n => ?_⟩
    refine (b1_fork L xs nf ns o s t v 0 0 0 bc bs (f + 25) n).trans ?_
    rw [h1]
    refine (am_ri_i (w_L_fork_i A1)).trans ?_
    refine (b2_fork L xs nf ns _ s' t v 0 0 0 _ _ (f + 17) n).trans ?_
    rw [h1]
    refine (am_ri_i ((em s' _).trans (congrArg (am_lf _) A2))).trans ?_
    refine (b3_fork L xs nf ns _ s' t' v 0 x 0 _ _ (f + 14) n).trans ?_
    refine (am_ri_i (et s' t' _)).trans ?_
    refine (b4_fork L xs nf ns _ s' t' v 0 x _ _ _ (f + 12) n).trans ?_
    rw [A3, show decide ((0 : Int32) = 0) = true from rfl]
    refine (b5_fork L xs nf ns _ s' t' v 0 x 0 _ _ (f + 10) n).trans ?_
    rw [show (!decide ((0 : Int32) = 0)) = false from rfl]
    refine (b6_fork L xs nf ns _ s' t' v 0 x 0 _ _ (f + 3) n).trans ?_
    rw [show decide (lg_cmp (vp_updL o 0 x.toInt64 0) x.toInt64 = 0) = true from decide_eq_true (lg_cmp_self _)]
    exact b7_fork L xs nf ns _ s' t' v 0 x 0 _ _ f n
  · obtain ⟨B1, B2⟩ := w_L_fork_x (o := o) (t := t) hm A1
    refine ⟨o, s', t', 3, 18, R', fun f n => ?_⟩
    rw [show f + 33 = (f + 25) + 8 by omega]
    refine (b1_fork L xs nf ns o s t v 0 0 0 bc bs (f + 25) n).trans ?_
    rw [h1]
    refine (am_ri_i B1).trans ?_
    refine (b2_fork L xs nf ns _ s' t v c 0 0 _ _ (f + 17) n).trans ?_
    rw [h1]
    refine (am_ri_i ((em s' _).trans (congrArg (am_lf _) A2))).trans ?_
    refine (b3_fork L xs nf ns _ s' t' v c y 0 _ _ (f + 14) n).trans ?_
    refine (am_ri_i (et s' t' _)).trans ?_
    refine (b4_fork L xs nf ns _ s' t' v c y _ _ _ (f + 12) n).trans ?_
    rw [A3, show decide (c = c) = true from decide_eq_true rfl]
    refine (b5_fork L xs nf ns _ s' t' v c y 0 _ _ (f + 10) n).trans ?_
    rw [show (!decide (c = 0)) = true from by rw [decide_eq_false B2]; rfl]
    exact b7_fork L xs nf ns _ s' t' v c y 0 _ _ (f + 7) n
set_option maxRecDepth 20000 in
theorem b1_exec (L : Nat) (xs : Nat → Int32) (nf ns : Nat) (o : Nat → Int64) (s t : KS) (v k y z : Int32) (bc bs : Nat) : ∀ f n : Nat, g_law L xs n (f + 13) 180 [(0, .inl (.retAddr 1)), (1, .inl (.ref 0)), (2, .inl (.ref 15)), (3, .inl (.ref 29)), (4, .inl (.int v))] [] (lH nf ns o s t) (bc + 6, bs + 36) = cond (am_in (v + 1) L) (cond (am_in (v + 2) L) (am_ri (F_L_exec [.inl (.ref 0), .inl (.int (xs (v + 1).toNatClampNeg)), .inl (.int (xs (v + 2).toNatClampNeg)), .inl (.ref 29)] (lH nf ns o s t)) (fun x h => g_law L xs n f 197 [(0, .inl (.retAddr 1)), (1, .inl (.ref 0)), (2, .inl (.ref 15)), (3, .inl (.ref 29)), (4, .inl (.int v))] [.inl (.int x)] h (bc + 3, bs + 18)) (fun x h => some (.inr x, h))) none) none := fun f n => rfl
set_option maxRecDepth 20000 in
theorem b2_exec (L : Nat) (xs : Nat → Int32) (nf ns : Nat) (o : Nat → Int64) (s t : KS) (v k y z : Int32) (bc bs : Nat) : ∀ f n : Nat, g_law L xs n (f + 13) 197 [(0, .inl (.retAddr 1)), (1, .inl (.ref 0)), (2, .inl (.ref 15)), (3, .inl (.ref 29)), (4, .inl (.int v))] [.inl (.int k)] (lH nf ns o s t) (bc, bs) = cond (am_in (v + 1) L) (cond (am_in (v + 2) L) (am_ri (F_X2_exec [.inl (.ref 15), .inl (.int (xs (v + 1).toNatClampNeg)), .inl (.int (xs (v + 2).toNatClampNeg))] (lH nf ns o s t)) (fun x h => g_law L xs n f 215 [(0, .inl (.retAddr 1)), (1, .inl (.ref 0)), (2, .inl (.ref 15)), (3, .inl (.ref 29)), (4, .inl (.int v)), (5, .inl (.int k))] [.inl (.int x)] h (bc, bs)) (fun x h => some (.inr x, h))) none) none := fun f n => rfl
set_option maxRecDepth 20000 in
theorem b3_exec (L : Nat) (xs : Nat → Int32) (nf ns : Nat) (o : Nat → Int64) (s t : KS) (v k y z : Int32) (bc bs : Nat) : ∀ f n : Nat, g_law L xs n (f + 3) 215 [(0, .inl (.retAddr 1)), (1, .inl (.ref 0)), (2, .inl (.ref 15)), (3, .inl (.ref 29)), (4, .inl (.int v)), (5, .inl (.int k))] [.inl (.int y)] (lH nf ns o s t) (bc, bs) = am_ri (F_X2_thrown [.inl (.ref 15)] (lH nf ns o s t)) (fun x h => g_law L xs n f 221 [(0, .inl (.retAddr 1)), (1, .inl (.ref 0)), (2, .inl (.ref 15)), (3, .inl (.ref 29)), (4, .inl (.int v)), (5, .inl (.int k)), (6, .inl (.int y))] [.inl (.int x)] h (bc, bs)) (fun x h => some (.inr x, h)) := fun f n => rfl
set_option maxRecDepth 20000 in
theorem b4_exec (L : Nat) (xs : Nat → Int32) (nf ns : Nat) (o : Nat → Int64) (s t : KS) (v k y z : Int32) (bc bs : Nat) : ∀ f n : Nat, g_law L xs n (f + 2) 221 [(0, .inl (.retAddr 1)), (1, .inl (.ref 0)), (2, .inl (.ref 15)), (3, .inl (.ref 29)), (4, .inl (.int v)), (5, .inl (.int k)), (6, .inl (.int y))] [.inl (.int z)] (lH nf ns o s t) (bc, bs) = cond (decide (z = k)) (g_law L xs n f 228 [(0, .inl (.retAddr 1)), (1, .inl (.ref 0)), (2, .inl (.ref 15)), (3, .inl (.ref 29)), (4, .inl (.int v)), (5, .inl (.int k)), (6, .inl (.int y))] [] (lH nf ns o s t) (bc, bs)) (g_law L xs n f 226 [(0, .inl (.retAddr 1)), (1, .inl (.ref 0)), (2, .inl (.ref 15)), (3, .inl (.ref 29)), (4, .inl (.int v)), (5, .inl (.int k)), (6, .inl (.int y))] [] (lH nf ns o s t) (bc, bs)) := fun f n => rfl
set_option maxRecDepth 20000 in
theorem b5_exec (L : Nat) (xs : Nat → Int32) (nf ns : Nat) (o : Nat → Int64) (s t : KS) (v k y z : Int32) (bc bs : Nat) : ∀ f n : Nat, g_law L xs n (f + 2) 228 [(0, .inl (.retAddr 1)), (1, .inl (.ref 0)), (2, .inl (.ref 15)), (3, .inl (.ref 29)), (4, .inl (.int v)), (5, .inl (.int k)), (6, .inl (.int y))] [] (lH nf ns o s t) (bc, bs) = cond (!decide (k = 0)) (g_law L xs n f 245 [(0, .inl (.retAddr 1)), (1, .inl (.ref 0)), (2, .inl (.ref 15)), (3, .inl (.ref 29)), (4, .inl (.int v)), (5, .inl (.int k)), (6, .inl (.int y))] [] (lH nf ns o s t) (bc, bs)) (g_law L xs n f 233 [(0, .inl (.retAddr 1)), (1, .inl (.ref 0)), (2, .inl (.ref 15)), (3, .inl (.ref 29)), (4, .inl (.int v)), (5, .inl (.int k)), (6, .inl (.int y))] [] (lH nf ns o s t) (bc, bs)) := fun f n => rfl
set_option maxRecDepth 20000 in
theorem b6_exec (L : Nat) (xs : Nat → Int32) (nf ns : Nat) (o : Nat → Int64) (s t : KS) (v k y z : Int32) (bc bs : Nat) : ∀ f n : Nat, g_law L xs n (f + 7) 233 [(0, .inl (.retAddr 1)), (1, .inl (.ref 0)), (2, .inl (.ref 15)), (3, .inl (.ref 29)), (4, .inl (.int v)), (5, .inl (.int k)), (6, .inl (.int y))] [] (lH nf ns o s t) (bc, bs) = cond (decide (lg_cmp (o 0) y.toInt64 = 0)) (g_law L xs n f 245 [(0, .inl (.retAddr 1)), (1, .inl (.ref 0)), (2, .inl (.ref 15)), (3, .inl (.ref 29)), (4, .inl (.int v)), (5, .inl (.int k)), (6, .inl (.int y))] [] (lH nf ns o s t) (bc, bs)) (g_law L xs n f 243 [(0, .inl (.retAddr 1)), (1, .inl (.ref 0)), (2, .inl (.ref 15)), (3, .inl (.ref 29)), (4, .inl (.int v)), (5, .inl (.int k)), (6, .inl (.int y))] [] (lH nf ns o s t) (bc, bs)) := fun f n => rfl
set_option maxRecDepth 20000 in
theorem b7_exec (L : Nat) (xs : Nat → Int32) (nf ns : Nat) (o : Nat → Int64) (s t : KS) (v k y z : Int32) (bc bs : Nat) : ∀ f n : Nat, g_law L xs n (f + 3) 245 [(0, .inl (.retAddr 1)), (1, .inl (.ref 0)), (2, .inl (.ref 15)), (3, .inl (.ref 29)), (4, .inl (.int v)), (5, .inl (.int k)), (6, .inl (.int y))] [] (lH nf ns o s t) (bc, bs) = j_law L xs n 43 [(0, .inl (.retAddr 1)), (1, .inl (.ref 0)), (2, .inl (.ref 15)), (3, .inl (.ref 29)), (4, .inl (.int (v + 4)))] [] (lH nf ns o s t) (bc, bs) := fun f n => rfl
set_option maxRecDepth 20000 in
theorem it_exec {L nf ns : Nat} {xs : Nat → Int32} {o : Nat → Int64} {s t : KS} {v : Int32} {bc bs : Nat} (R : RR nf ns s t) (h1 : am_in (v + 1) L = true) (h2 : am_in (v + 2) L = true) : ∃ o' s' t' c d, RR nf ns s' t' ∧ ∀ f n : Nat, g_law L xs n (f + 43) 180 [(0, .inl (.retAddr 1)), (1, .inl (.ref 0)), (2, .inl (.ref 15)), (3, .inl (.ref 29)), (4, .inl (.int v))] [] (lH nf ns o s t) (bc + 6, bs + 36) = j_law L xs n 43 [(0, .inl (.retAddr 1)), (1, .inl (.ref 0)), (2, .inl (.ref 15)), (3, .inl (.ref 29)), (4, .inl (.int (v + 4)))] [] (lH nf ns o' s' t') (bc + c, bs + d) := by
  obtain ⟨s', t', R', A⟩ := a_exec (xs (v + 1).toNatClampNeg) (xs (v + 2).toNatClampNeg) R
  have em : ∀ (s : KS) (o : Nat → Int64), F_X2_exec [.inl (.ref 15), .inl (.int (xs (v + 1).toNatClampNeg)), .inl (.int (xs (v + 2).toNatClampNeg))] (lH nf ns o s t) = am_lf (hM nf ns [.inr (.inr (.inr (1, o)))] s) (p_X2_exec (xs (v + 1).toNatClampNeg) (xs (v + 2).toNatClampNeg) t) := fun s o => e_X2_exec (xs (v + 1).toNatClampNeg) (xs (v + 2).toNatClampNeg) t
  have et : ∀ (s t : KS) (o : Nat → Int64), F_X2_thrown [.inl (.ref 15)] (lH nf ns o s t) = some (.inl (some (.inl (.int (t.1 15 0)))), lH nf ns o s t) := fun s t o => e_X2_thrown t
  rcases A with ⟨x, A1, A2, A3⟩ | ⟨e, c, y, hm, A1, A2, A3⟩
  · refine ⟨vp_updL o 0 x.toInt64, s', t', 3, 18, R', fun f n => ?_⟩
    refine (b1_exec L xs nf ns o s t v 0 0 0 bc bs (f + 30) n).trans ?_
    rw [h1, h2]
    refine (am_ri_i (w_L_exec_i A1)).trans ?_
    refine (b2_exec L xs nf ns _ s' t v 0 0 0 _ _ (f + 17) n).trans ?_
    rw [h1, h2]
    refine (am_ri_i ((em s' _).trans (congrArg (am_lf _) A2))).trans ?_
    refine (b3_exec L xs nf ns _ s' t' v 0 x 0 _ _ (f + 14) n).trans ?_
    refine (am_ri_i (et s' t' _)).trans ?_
    refine (b4_exec L xs nf ns _ s' t' v 0 x _ _ _ (f + 12) n).trans ?_
    rw [A3, show decide ((0 : Int32) = 0) = true from rfl]
    refine (b5_exec L xs nf ns _ s' t' v 0 x 0 _ _ (f + 10) n).trans ?_
    rw [show (!decide ((0 : Int32) = 0)) = false from rfl]
    refine (b6_exec L xs nf ns _ s' t' v 0 x 0 _ _ (f + 3) n).trans ?_
    rw [show decide (lg_cmp (vp_updL o 0 x.toInt64 0) x.toInt64 = 0) = true from decide_eq_true (lg_cmp_self _)]
    exact b7_exec L xs nf ns _ s' t' v 0 x 0 _ _ f n
  · obtain ⟨B1, B2⟩ := w_L_exec_x (o := o) (t := t) hm A1
    refine ⟨o, s', t', 3, 18, R', fun f n => ?_⟩
    rw [show f + 43 = (f + 30) + 13 by omega]
    refine (b1_exec L xs nf ns o s t v 0 0 0 bc bs (f + 30) n).trans ?_
    rw [h1, h2]
    refine (am_ri_i B1).trans ?_
    refine (b2_exec L xs nf ns _ s' t v c 0 0 _ _ (f + 17) n).trans ?_
    rw [h1, h2]
    refine (am_ri_i ((em s' _).trans (congrArg (am_lf _) A2))).trans ?_
    refine (b3_exec L xs nf ns _ s' t' v c y 0 _ _ (f + 14) n).trans ?_
    refine (am_ri_i (et s' t' _)).trans ?_
    refine (b4_exec L xs nf ns _ s' t' v c y _ _ _ (f + 12) n).trans ?_
    rw [A3, show decide (c = c) = true from decide_eq_true rfl]
    refine (b5_exec L xs nf ns _ s' t' v c y 0 _ _ (f + 10) n).trans ?_
    rw [show (!decide (c = 0)) = true from by rw [decide_eq_false B2]; rfl]
    exact b7_exec L xs nf ns _ s' t' v c y 0 _ _ (f + 7) n
set_option maxRecDepth 20000 in
theorem b1_exit (L : Nat) (xs : Nat → Int32) (nf ns : Nat) (o : Nat → Int64) (s t : KS) (v k y z : Int32) (bc bs : Nat) : ∀ f n : Nat, g_law L xs n (f + 13) 248 [(0, .inl (.retAddr 1)), (1, .inl (.ref 0)), (2, .inl (.ref 15)), (3, .inl (.ref 29)), (4, .inl (.int v))] [] (lH nf ns o s t) (bc + 6, bs + 36) = cond (am_in (v + 1) L) (cond (am_in (v + 2) L) (am_ri (F_L_exit [.inl (.ref 0), .inl (.int (xs (v + 1).toNatClampNeg)), .inl (.int (xs (v + 2).toNatClampNeg)), .inl (.ref 29)] (lH nf ns o s t)) (fun x h => g_law L xs n f 265 [(0, .inl (.retAddr 1)), (1, .inl (.ref 0)), (2, .inl (.ref 15)), (3, .inl (.ref 29)), (4, .inl (.int v))] [.inl (.int x)] h (bc + 3, bs + 18)) (fun x h => some (.inr x, h))) none) none := fun f n => rfl
set_option maxRecDepth 20000 in
theorem b2_exit (L : Nat) (xs : Nat → Int32) (nf ns : Nat) (o : Nat → Int64) (s t : KS) (v k y z : Int32) (bc bs : Nat) : ∀ f n : Nat, g_law L xs n (f + 13) 265 [(0, .inl (.retAddr 1)), (1, .inl (.ref 0)), (2, .inl (.ref 15)), (3, .inl (.ref 29)), (4, .inl (.int v))] [.inl (.int k)] (lH nf ns o s t) (bc, bs) = cond (am_in (v + 1) L) (cond (am_in (v + 2) L) (am_ri (F_X2_exit [.inl (.ref 15), .inl (.int (xs (v + 1).toNatClampNeg)), .inl (.int (xs (v + 2).toNatClampNeg))] (lH nf ns o s t)) (fun x h => g_law L xs n f 283 [(0, .inl (.retAddr 1)), (1, .inl (.ref 0)), (2, .inl (.ref 15)), (3, .inl (.ref 29)), (4, .inl (.int v)), (5, .inl (.int k))] [.inl (.int x)] h (bc, bs)) (fun x h => some (.inr x, h))) none) none := fun f n => rfl
set_option maxRecDepth 20000 in
theorem b3_exit (L : Nat) (xs : Nat → Int32) (nf ns : Nat) (o : Nat → Int64) (s t : KS) (v k y z : Int32) (bc bs : Nat) : ∀ f n : Nat, g_law L xs n (f + 3) 283 [(0, .inl (.retAddr 1)), (1, .inl (.ref 0)), (2, .inl (.ref 15)), (3, .inl (.ref 29)), (4, .inl (.int v)), (5, .inl (.int k))] [.inl (.int y)] (lH nf ns o s t) (bc, bs) = am_ri (F_X2_thrown [.inl (.ref 15)] (lH nf ns o s t)) (fun x h => g_law L xs n f 289 [(0, .inl (.retAddr 1)), (1, .inl (.ref 0)), (2, .inl (.ref 15)), (3, .inl (.ref 29)), (4, .inl (.int v)), (5, .inl (.int k)), (6, .inl (.int y))] [.inl (.int x)] h (bc, bs)) (fun x h => some (.inr x, h)) := fun f n => rfl
set_option maxRecDepth 20000 in
theorem b4_exit (L : Nat) (xs : Nat → Int32) (nf ns : Nat) (o : Nat → Int64) (s t : KS) (v k y z : Int32) (bc bs : Nat) : ∀ f n : Nat, g_law L xs n (f + 2) 289 [(0, .inl (.retAddr 1)), (1, .inl (.ref 0)), (2, .inl (.ref 15)), (3, .inl (.ref 29)), (4, .inl (.int v)), (5, .inl (.int k)), (6, .inl (.int y))] [.inl (.int z)] (lH nf ns o s t) (bc, bs) = cond (decide (z = k)) (g_law L xs n f 296 [(0, .inl (.retAddr 1)), (1, .inl (.ref 0)), (2, .inl (.ref 15)), (3, .inl (.ref 29)), (4, .inl (.int v)), (5, .inl (.int k)), (6, .inl (.int y))] [] (lH nf ns o s t) (bc, bs)) (g_law L xs n f 294 [(0, .inl (.retAddr 1)), (1, .inl (.ref 0)), (2, .inl (.ref 15)), (3, .inl (.ref 29)), (4, .inl (.int v)), (5, .inl (.int k)), (6, .inl (.int y))] [] (lH nf ns o s t) (bc, bs)) := fun f n => rfl
set_option maxRecDepth 20000 in
theorem b5_exit (L : Nat) (xs : Nat → Int32) (nf ns : Nat) (o : Nat → Int64) (s t : KS) (v k y z : Int32) (bc bs : Nat) : ∀ f n : Nat, g_law L xs n (f + 2) 296 [(0, .inl (.retAddr 1)), (1, .inl (.ref 0)), (2, .inl (.ref 15)), (3, .inl (.ref 29)), (4, .inl (.int v)), (5, .inl (.int k)), (6, .inl (.int y))] [] (lH nf ns o s t) (bc, bs) = cond (!decide (k = 0)) (g_law L xs n f 313 [(0, .inl (.retAddr 1)), (1, .inl (.ref 0)), (2, .inl (.ref 15)), (3, .inl (.ref 29)), (4, .inl (.int v)), (5, .inl (.int k)), (6, .inl (.int y))] [] (lH nf ns o s t) (bc, bs)) (g_law L xs n f 301 [(0, .inl (.retAddr 1)), (1, .inl (.ref 0)), (2, .inl (.ref 15)), (3, .inl (.ref 29)), (4, .inl (.int v)), (5, .inl (.int k)), (6, .inl (.int y))] [] (lH nf ns o s t) (bc, bs)) := fun f n => rfl
set_option maxRecDepth 20000 in
theorem b6_exit (L : Nat) (xs : Nat → Int32) (nf ns : Nat) (o : Nat → Int64) (s t : KS) (v k y z : Int32) (bc bs : Nat) : ∀ f n : Nat, g_law L xs n (f + 7) 301 [(0, .inl (.retAddr 1)), (1, .inl (.ref 0)), (2, .inl (.ref 15)), (3, .inl (.ref 29)), (4, .inl (.int v)), (5, .inl (.int k)), (6, .inl (.int y))] [] (lH nf ns o s t) (bc, bs) = cond (decide (lg_cmp (o 0) y.toInt64 = 0)) (g_law L xs n f 313 [(0, .inl (.retAddr 1)), (1, .inl (.ref 0)), (2, .inl (.ref 15)), (3, .inl (.ref 29)), (4, .inl (.int v)), (5, .inl (.int k)), (6, .inl (.int y))] [] (lH nf ns o s t) (bc, bs)) (g_law L xs n f 311 [(0, .inl (.retAddr 1)), (1, .inl (.ref 0)), (2, .inl (.ref 15)), (3, .inl (.ref 29)), (4, .inl (.int v)), (5, .inl (.int k)), (6, .inl (.int y))] [] (lH nf ns o s t) (bc, bs)) := fun f n => rfl
set_option maxRecDepth 20000 in
theorem b7_exit (L : Nat) (xs : Nat → Int32) (nf ns : Nat) (o : Nat → Int64) (s t : KS) (v k y z : Int32) (bc bs : Nat) : ∀ f n : Nat, g_law L xs n (f + 3) 313 [(0, .inl (.retAddr 1)), (1, .inl (.ref 0)), (2, .inl (.ref 15)), (3, .inl (.ref 29)), (4, .inl (.int v)), (5, .inl (.int k)), (6, .inl (.int y))] [] (lH nf ns o s t) (bc, bs) = j_law L xs n 43 [(0, .inl (.retAddr 1)), (1, .inl (.ref 0)), (2, .inl (.ref 15)), (3, .inl (.ref 29)), (4, .inl (.int (v + 4)))] [] (lH nf ns o s t) (bc, bs) := fun f n => rfl
set_option maxRecDepth 20000 in
theorem it_exit {L nf ns : Nat} {xs : Nat → Int32} {o : Nat → Int64} {s t : KS} {v : Int32} {bc bs : Nat} (R : RR nf ns s t) (h1 : am_in (v + 1) L = true) (h2 : am_in (v + 2) L = true) : ∃ o' s' t' c d, RR nf ns s' t' ∧ ∀ f n : Nat, g_law L xs n (f + 43) 248 [(0, .inl (.retAddr 1)), (1, .inl (.ref 0)), (2, .inl (.ref 15)), (3, .inl (.ref 29)), (4, .inl (.int v))] [] (lH nf ns o s t) (bc + 6, bs + 36) = j_law L xs n 43 [(0, .inl (.retAddr 1)), (1, .inl (.ref 0)), (2, .inl (.ref 15)), (3, .inl (.ref 29)), (4, .inl (.int (v + 4)))] [] (lH nf ns o' s' t') (bc + c, bs + d) := by
  obtain ⟨s', t', R', A⟩ := a_exit (xs (v + 1).toNatClampNeg) (xs (v + 2).toNatClampNeg) R
  have em : ∀ (s : KS) (o : Nat → Int64), F_X2_exit [.inl (.ref 15), .inl (.int (xs (v + 1).toNatClampNeg)), .inl (.int (xs (v + 2).toNatClampNeg))] (lH nf ns o s t) = am_lf (hM nf ns [.inr (.inr (.inr (1, o)))] s) (p_X2_exit (xs (v + 1).toNatClampNeg) (xs (v + 2).toNatClampNeg) t) := fun s o => e_X2_exit (xs (v + 1).toNatClampNeg) (xs (v + 2).toNatClampNeg) t
  have et : ∀ (s t : KS) (o : Nat → Int64), F_X2_thrown [.inl (.ref 15)] (lH nf ns o s t) = some (.inl (some (.inl (.int (t.1 15 0)))), lH nf ns o s t) := fun s t o => e_X2_thrown t
  rcases A with ⟨x, A1, A2, A3⟩ | ⟨e, c, y, hm, A1, A2, A3⟩
  · refine ⟨vp_updL o 0 x.toInt64, s', t', 3, 18, R', fun f n => ?_⟩
    refine (b1_exit L xs nf ns o s t v 0 0 0 bc bs (f + 30) n).trans ?_
    rw [h1, h2]
    refine (am_ri_i (w_L_exit_i A1)).trans ?_
    refine (b2_exit L xs nf ns _ s' t v 0 0 0 _ _ (f + 17) n).trans ?_
    rw [h1, h2]
    refine (am_ri_i ((em s' _).trans (congrArg (am_lf _) A2))).trans ?_
    refine (b3_exit L xs nf ns _ s' t' v 0 x 0 _ _ (f + 14) n).trans ?_
    refine (am_ri_i (et s' t' _)).trans ?_
    refine (b4_exit L xs nf ns _ s' t' v 0 x _ _ _ (f + 12) n).trans ?_
    rw [A3, show decide ((0 : Int32) = 0) = true from rfl]
    refine (b5_exit L xs nf ns _ s' t' v 0 x 0 _ _ (f + 10) n).trans ?_
    rw [show (!decide ((0 : Int32) = 0)) = false from rfl]
    refine (b6_exit L xs nf ns _ s' t' v 0 x 0 _ _ (f + 3) n).trans ?_
    rw [show decide (lg_cmp (vp_updL o 0 x.toInt64 0) x.toInt64 = 0) = true from decide_eq_true (lg_cmp_self _)]
    exact b7_exit L xs nf ns _ s' t' v 0 x 0 _ _ f n
  · obtain ⟨B1, B2⟩ := w_L_exit_x (o := o) (t := t) hm A1
    refine ⟨o, s', t', 3, 18, R', fun f n => ?_⟩
    rw [show f + 43 = (f + 30) + 13 by omega]
    refine (b1_exit L xs nf ns o s t v 0 0 0 bc bs (f + 30) n).trans ?_
    rw [h1, h2]
    refine (am_ri_i B1).trans ?_
    refine (b2_exit L xs nf ns _ s' t v c 0 0 _ _ (f + 17) n).trans ?_
    rw [h1, h2]
    refine (am_ri_i ((em s' _).trans (congrArg (am_lf _) A2))).trans ?_
    refine (b3_exit L xs nf ns _ s' t' v c y 0 _ _ (f + 14) n).trans ?_
    refine (am_ri_i (et s' t' _)).trans ?_
    refine (b4_exit L xs nf ns _ s' t' v c y _ _ _ (f + 12) n).trans ?_
    rw [A3, show decide (c = c) = true from decide_eq_true rfl]
    refine (b5_exit L xs nf ns _ s' t' v c y 0 _ _ (f + 10) n).trans ?_
    rw [show (!decide (c = 0)) = true from by rw [decide_eq_false B2]; rfl]
    exact b7_exit L xs nf ns _ s' t' v c y 0 _ _ (f + 7) n
set_option maxRecDepth 20000 in
theorem b1_await (L : Nat) (xs : Nat → Int32) (nf ns : Nat) (o : Nat → Int64) (s t : KS) (v k y z : Int32) (bc bs : Nat) : ∀ f n : Nat, g_law L xs n (f + 8) 316 [(0, .inl (.retAddr 1)), (1, .inl (.ref 0)), (2, .inl (.ref 15)), (3, .inl (.ref 29)), (4, .inl (.int v))] [] (lH nf ns o s t) (bc + 6, bs + 36) = cond (am_in (v + 1) L) (am_ri (F_L_await [.inl (.ref 0), .inl (.int (xs (v + 1).toNatClampNeg)), .inl (.ref 29)] (lH nf ns o s t)) (fun x h => g_law L xs n f 327 [(0, .inl (.retAddr 1)), (1, .inl (.ref 0)), (2, .inl (.ref 15)), (3, .inl (.ref 29)), (4, .inl (.int v))] [.inl (.int x)] h (bc + 2, bs + 12)) (fun x h => some (.inr x, h))) none := fun f n => rfl
set_option maxRecDepth 20000 in
theorem b2_await (L : Nat) (xs : Nat → Int32) (nf ns : Nat) (o : Nat → Int64) (s t : KS) (v k y z : Int32) (bc bs : Nat) : ∀ f n : Nat, g_law L xs n (f + 8) 327 [(0, .inl (.retAddr 1)), (1, .inl (.ref 0)), (2, .inl (.ref 15)), (3, .inl (.ref 29)), (4, .inl (.int v))] [.inl (.int k)] (lH nf ns o s t) (bc, bs) = cond (am_in (v + 1) L) (am_ri (F_X2_await [.inl (.ref 15), .inl (.int (xs (v + 1).toNatClampNeg))] (lH nf ns o s t)) (fun x h => g_law L xs n f 339 [(0, .inl (.retAddr 1)), (1, .inl (.ref 0)), (2, .inl (.ref 15)), (3, .inl (.ref 29)), (4, .inl (.int v)), (5, .inl (.int k))] [.inl (.int x)] h (bc, bs)) (fun x h => some (.inr x, h))) none := fun f n => rfl
set_option maxRecDepth 20000 in
theorem b3_await (L : Nat) (xs : Nat → Int32) (nf ns : Nat) (o : Nat → Int64) (s t : KS) (v k y z : Int32) (bc bs : Nat) : ∀ f n : Nat, g_law L xs n (f + 3) 339 [(0, .inl (.retAddr 1)), (1, .inl (.ref 0)), (2, .inl (.ref 15)), (3, .inl (.ref 29)), (4, .inl (.int v)), (5, .inl (.int k))] [.inl (.int y)] (lH nf ns o s t) (bc, bs) = am_ri (F_X2_thrown [.inl (.ref 15)] (lH nf ns o s t)) (fun x h => g_law L xs n f 345 [(0, .inl (.retAddr 1)), (1, .inl (.ref 0)), (2, .inl (.ref 15)), (3, .inl (.ref 29)), (4, .inl (.int v)), (5, .inl (.int k)), (6, .inl (.int y))] [.inl (.int x)] h (bc, bs)) (fun x h => some (.inr x, h)) := fun f n => rfl
set_option maxRecDepth 20000 in
theorem b4_await (L : Nat) (xs : Nat → Int32) (nf ns : Nat) (o : Nat → Int64) (s t : KS) (v k y z : Int32) (bc bs : Nat) : ∀ f n : Nat, g_law L xs n (f + 2) 345 [(0, .inl (.retAddr 1)), (1, .inl (.ref 0)), (2, .inl (.ref 15)), (3, .inl (.ref 29)), (4, .inl (.int v)), (5, .inl (.int k)), (6, .inl (.int y))] [.inl (.int z)] (lH nf ns o s t) (bc, bs) = cond (decide (z = k)) (g_law L xs n f 352 [(0, .inl (.retAddr 1)), (1, .inl (.ref 0)), (2, .inl (.ref 15)), (3, .inl (.ref 29)), (4, .inl (.int v)), (5, .inl (.int k)), (6, .inl (.int y))] [] (lH nf ns o s t) (bc, bs)) (g_law L xs n f 350 [(0, .inl (.retAddr 1)), (1, .inl (.ref 0)), (2, .inl (.ref 15)), (3, .inl (.ref 29)), (4, .inl (.int v)), (5, .inl (.int k)), (6, .inl (.int y))] [] (lH nf ns o s t) (bc, bs)) := fun f n => rfl
set_option maxRecDepth 20000 in
theorem b5_await (L : Nat) (xs : Nat → Int32) (nf ns : Nat) (o : Nat → Int64) (s t : KS) (v k y z : Int32) (bc bs : Nat) : ∀ f n : Nat, g_law L xs n (f + 2) 352 [(0, .inl (.retAddr 1)), (1, .inl (.ref 0)), (2, .inl (.ref 15)), (3, .inl (.ref 29)), (4, .inl (.int v)), (5, .inl (.int k)), (6, .inl (.int y))] [] (lH nf ns o s t) (bc, bs) = cond (!decide (k = 0)) (g_law L xs n f 369 [(0, .inl (.retAddr 1)), (1, .inl (.ref 0)), (2, .inl (.ref 15)), (3, .inl (.ref 29)), (4, .inl (.int v)), (5, .inl (.int k)), (6, .inl (.int y))] [] (lH nf ns o s t) (bc, bs)) (g_law L xs n f 357 [(0, .inl (.retAddr 1)), (1, .inl (.ref 0)), (2, .inl (.ref 15)), (3, .inl (.ref 29)), (4, .inl (.int v)), (5, .inl (.int k)), (6, .inl (.int y))] [] (lH nf ns o s t) (bc, bs)) := fun f n => rfl
set_option maxRecDepth 20000 in
theorem b6_await (L : Nat) (xs : Nat → Int32) (nf ns : Nat) (o : Nat → Int64) (s t : KS) (v k y z : Int32) (bc bs : Nat) : ∀ f n : Nat, g_law L xs n (f + 7) 357 [(0, .inl (.retAddr 1)), (1, .inl (.ref 0)), (2, .inl (.ref 15)), (3, .inl (.ref 29)), (4, .inl (.int v)), (5, .inl (.int k)), (6, .inl (.int y))] [] (lH nf ns o s t) (bc, bs) = cond (decide (lg_cmp (o 0) y.toInt64 = 0)) (g_law L xs n f 369 [(0, .inl (.retAddr 1)), (1, .inl (.ref 0)), (2, .inl (.ref 15)), (3, .inl (.ref 29)), (4, .inl (.int v)), (5, .inl (.int k)), (6, .inl (.int y))] [] (lH nf ns o s t) (bc, bs)) (g_law L xs n f 367 [(0, .inl (.retAddr 1)), (1, .inl (.ref 0)), (2, .inl (.ref 15)), (3, .inl (.ref 29)), (4, .inl (.int v)), (5, .inl (.int k)), (6, .inl (.int y))] [] (lH nf ns o s t) (bc, bs)) := fun f n => rfl
set_option maxRecDepth 20000 in
theorem b7_await (L : Nat) (xs : Nat → Int32) (nf ns : Nat) (o : Nat → Int64) (s t : KS) (v k y z : Int32) (bc bs : Nat) : ∀ f n : Nat, g_law L xs n (f + 3) 369 [(0, .inl (.retAddr 1)), (1, .inl (.ref 0)), (2, .inl (.ref 15)), (3, .inl (.ref 29)), (4, .inl (.int v)), (5, .inl (.int k)), (6, .inl (.int y))] [] (lH nf ns o s t) (bc, bs) = j_law L xs n 43 [(0, .inl (.retAddr 1)), (1, .inl (.ref 0)), (2, .inl (.ref 15)), (3, .inl (.ref 29)), (4, .inl (.int (v + 4)))] [] (lH nf ns o s t) (bc, bs) := fun f n => rfl
set_option maxRecDepth 20000 in
theorem it_await {L nf ns : Nat} {xs : Nat → Int32} {o : Nat → Int64} {s t : KS} {v : Int32} {bc bs : Nat} (R : RR nf ns s t) (h1 : am_in (v + 1) L = true) : ∃ o' s' t' c d, RR nf ns s' t' ∧ ∀ f n : Nat, g_law L xs n (f + 33) 316 [(0, .inl (.retAddr 1)), (1, .inl (.ref 0)), (2, .inl (.ref 15)), (3, .inl (.ref 29)), (4, .inl (.int v))] [] (lH nf ns o s t) (bc + 6, bs + 36) = j_law L xs n 43 [(0, .inl (.retAddr 1)), (1, .inl (.ref 0)), (2, .inl (.ref 15)), (3, .inl (.ref 29)), (4, .inl (.int (v + 4)))] [] (lH nf ns o' s' t') (bc + c, bs + d) := by
  obtain ⟨s', t', R', A⟩ := a_await (xs (v + 1).toNatClampNeg) R
  have em : ∀ (s : KS) (o : Nat → Int64), F_X2_await [.inl (.ref 15), .inl (.int (xs (v + 1).toNatClampNeg))] (lH nf ns o s t) = am_lf (hM nf ns [.inr (.inr (.inr (1, o)))] s) (p_X2_await (xs (v + 1).toNatClampNeg) t) := fun s o => e_X2_await (xs (v + 1).toNatClampNeg) t
  have et : ∀ (s t : KS) (o : Nat → Int64), F_X2_thrown [.inl (.ref 15)] (lH nf ns o s t) = some (.inl (some (.inl (.int (t.1 15 0)))), lH nf ns o s t) := fun s t o => e_X2_thrown t
  rcases A with ⟨x, A1, A2, A3⟩ | ⟨e, c, y, hm, A1, A2, A3⟩
  · refine ⟨vp_updL o 0 x.toInt64, s', t', 2, 12, R', fun f n => ?_⟩
    refine (b1_await L xs nf ns o s t v 0 0 0 bc bs (f + 25) n).trans ?_
    rw [h1]
    refine (am_ri_i (w_L_await_i A1)).trans ?_
    refine (b2_await L xs nf ns _ s' t v 0 0 0 _ _ (f + 17) n).trans ?_
    rw [h1]
    refine (am_ri_i ((em s' _).trans (congrArg (am_lf _) A2))).trans ?_
    refine (b3_await L xs nf ns _ s' t' v 0 x 0 _ _ (f + 14) n).trans ?_
    refine (am_ri_i (et s' t' _)).trans ?_
    refine (b4_await L xs nf ns _ s' t' v 0 x _ _ _ (f + 12) n).trans ?_
    rw [A3, show decide ((0 : Int32) = 0) = true from rfl]
    refine (b5_await L xs nf ns _ s' t' v 0 x 0 _ _ (f + 10) n).trans ?_
    rw [show (!decide ((0 : Int32) = 0)) = false from rfl]
    refine (b6_await L xs nf ns _ s' t' v 0 x 0 _ _ (f + 3) n).trans ?_
    rw [show decide (lg_cmp (vp_updL o 0 x.toInt64 0) x.toInt64 = 0) = true from decide_eq_true (lg_cmp_self _)]
    exact b7_await L xs nf ns _ s' t' v 0 x 0 _ _ f n
  · obtain ⟨B1, B2⟩ := w_L_await_x (o := o) (t := t) hm A1
    refine ⟨o, s', t', 2, 12, R', fun f n => ?_⟩
    rw [show f + 33 = (f + 25) + 8 by omega]
    refine (b1_await L xs nf ns o s t v 0 0 0 bc bs (f + 25) n).trans ?_
    rw [h1]
    refine (am_ri_i B1).trans ?_
    refine (b2_await L xs nf ns _ s' t v c 0 0 _ _ (f + 17) n).trans ?_
    rw [h1]
    refine (am_ri_i ((em s' _).trans (congrArg (am_lf _) A2))).trans ?_
    refine (b3_await L xs nf ns _ s' t' v c y 0 _ _ (f + 14) n).trans ?_
    refine (am_ri_i (et s' t' _)).trans ?_
    refine (b4_await L xs nf ns _ s' t' v c y _ _ _ (f + 12) n).trans ?_
    rw [A3, show decide (c = c) = true from decide_eq_true rfl]
    refine (b5_await L xs nf ns _ s' t' v c y 0 _ _ (f + 10) n).trans ?_
    rw [show (!decide (c = 0)) = true from by rw [decide_eq_false B2]; rfl]
    exact b7_await L xs nf ns _ s' t' v c y 0 _ _ (f + 7) n
set_option maxRecDepth 20000 in
theorem b1_grow (L : Nat) (xs : Nat → Int32) (nf ns : Nat) (o : Nat → Int64) (s t : KS) (v k y z : Int32) (bc bs : Nat) : ∀ f n : Nat, g_law L xs n (f + 13) 372 [(0, .inl (.retAddr 1)), (1, .inl (.ref 0)), (2, .inl (.ref 15)), (3, .inl (.ref 29)), (4, .inl (.int v))] [] (lH nf ns o s t) (bc + 6, bs + 36) = cond (am_in (v + 1) L) (cond (am_in (v + 2) L) (am_ri (F_L_grow [.inl (.ref 0), .inl (.int (xs (v + 1).toNatClampNeg)), .inl (.int (xs (v + 2).toNatClampNeg)), .inl (.ref 29)] (lH nf ns o s t)) (fun x h => g_law L xs n f 389 [(0, .inl (.retAddr 1)), (1, .inl (.ref 0)), (2, .inl (.ref 15)), (3, .inl (.ref 29)), (4, .inl (.int v))] [.inl (.int x)] h (bc + 2, bs + 12)) (fun x h => some (.inr x, h))) none) none := fun f n => rfl
set_option maxRecDepth 20000 in
theorem b2_grow (L : Nat) (xs : Nat → Int32) (nf ns : Nat) (o : Nat → Int64) (s t : KS) (v k y z : Int32) (bc bs : Nat) : ∀ f n : Nat, g_law L xs n (f + 13) 389 [(0, .inl (.retAddr 1)), (1, .inl (.ref 0)), (2, .inl (.ref 15)), (3, .inl (.ref 29)), (4, .inl (.int v))] [.inl (.int k)] (lH nf ns o s t) (bc, bs) = cond (am_in (v + 1) L) (cond (am_in (v + 2) L) (am_ri (F_X2_grow [.inl (.ref 15), .inl (.int (xs (v + 1).toNatClampNeg)), .inl (.int (xs (v + 2).toNatClampNeg))] (lH nf ns o s t)) (fun x h => g_law L xs n f 407 [(0, .inl (.retAddr 1)), (1, .inl (.ref 0)), (2, .inl (.ref 15)), (3, .inl (.ref 29)), (4, .inl (.int v)), (5, .inl (.int k))] [.inl (.int x)] h (bc, bs)) (fun x h => some (.inr x, h))) none) none := fun f n => rfl
set_option maxRecDepth 20000 in
theorem b3_grow (L : Nat) (xs : Nat → Int32) (nf ns : Nat) (o : Nat → Int64) (s t : KS) (v k y z : Int32) (bc bs : Nat) : ∀ f n : Nat, g_law L xs n (f + 3) 407 [(0, .inl (.retAddr 1)), (1, .inl (.ref 0)), (2, .inl (.ref 15)), (3, .inl (.ref 29)), (4, .inl (.int v)), (5, .inl (.int k))] [.inl (.int y)] (lH nf ns o s t) (bc, bs) = am_ri (F_X2_thrown [.inl (.ref 15)] (lH nf ns o s t)) (fun x h => g_law L xs n f 413 [(0, .inl (.retAddr 1)), (1, .inl (.ref 0)), (2, .inl (.ref 15)), (3, .inl (.ref 29)), (4, .inl (.int v)), (5, .inl (.int k)), (6, .inl (.int y))] [.inl (.int x)] h (bc, bs)) (fun x h => some (.inr x, h)) := fun f n => rfl
set_option maxRecDepth 20000 in
theorem b4_grow (L : Nat) (xs : Nat → Int32) (nf ns : Nat) (o : Nat → Int64) (s t : KS) (v k y z : Int32) (bc bs : Nat) : ∀ f n : Nat, g_law L xs n (f + 2) 413 [(0, .inl (.retAddr 1)), (1, .inl (.ref 0)), (2, .inl (.ref 15)), (3, .inl (.ref 29)), (4, .inl (.int v)), (5, .inl (.int k)), (6, .inl (.int y))] [.inl (.int z)] (lH nf ns o s t) (bc, bs) = cond (decide (z = k)) (g_law L xs n f 420 [(0, .inl (.retAddr 1)), (1, .inl (.ref 0)), (2, .inl (.ref 15)), (3, .inl (.ref 29)), (4, .inl (.int v)), (5, .inl (.int k)), (6, .inl (.int y))] [] (lH nf ns o s t) (bc, bs)) (g_law L xs n f 418 [(0, .inl (.retAddr 1)), (1, .inl (.ref 0)), (2, .inl (.ref 15)), (3, .inl (.ref 29)), (4, .inl (.int v)), (5, .inl (.int k)), (6, .inl (.int y))] [] (lH nf ns o s t) (bc, bs)) := fun f n => rfl
set_option maxRecDepth 20000 in
theorem b5_grow (L : Nat) (xs : Nat → Int32) (nf ns : Nat) (o : Nat → Int64) (s t : KS) (v k y z : Int32) (bc bs : Nat) : ∀ f n : Nat, g_law L xs n (f + 2) 420 [(0, .inl (.retAddr 1)), (1, .inl (.ref 0)), (2, .inl (.ref 15)), (3, .inl (.ref 29)), (4, .inl (.int v)), (5, .inl (.int k)), (6, .inl (.int y))] [] (lH nf ns o s t) (bc, bs) = cond (!decide (k = 0)) (g_law L xs n f 437 [(0, .inl (.retAddr 1)), (1, .inl (.ref 0)), (2, .inl (.ref 15)), (3, .inl (.ref 29)), (4, .inl (.int v)), (5, .inl (.int k)), (6, .inl (.int y))] [] (lH nf ns o s t) (bc, bs)) (g_law L xs n f 425 [(0, .inl (.retAddr 1)), (1, .inl (.ref 0)), (2, .inl (.ref 15)), (3, .inl (.ref 29)), (4, .inl (.int v)), (5, .inl (.int k)), (6, .inl (.int y))] [] (lH nf ns o s t) (bc, bs)) := fun f n => rfl
set_option maxRecDepth 20000 in
theorem b6_grow (L : Nat) (xs : Nat → Int32) (nf ns : Nat) (o : Nat → Int64) (s t : KS) (v k y z : Int32) (bc bs : Nat) : ∀ f n : Nat, g_law L xs n (f + 7) 425 [(0, .inl (.retAddr 1)), (1, .inl (.ref 0)), (2, .inl (.ref 15)), (3, .inl (.ref 29)), (4, .inl (.int v)), (5, .inl (.int k)), (6, .inl (.int y))] [] (lH nf ns o s t) (bc, bs) = cond (decide (lg_cmp (o 0) y.toInt64 = 0)) (g_law L xs n f 437 [(0, .inl (.retAddr 1)), (1, .inl (.ref 0)), (2, .inl (.ref 15)), (3, .inl (.ref 29)), (4, .inl (.int v)), (5, .inl (.int k)), (6, .inl (.int y))] [] (lH nf ns o s t) (bc, bs)) (g_law L xs n f 435 [(0, .inl (.retAddr 1)), (1, .inl (.ref 0)), (2, .inl (.ref 15)), (3, .inl (.ref 29)), (4, .inl (.int v)), (5, .inl (.int k)), (6, .inl (.int y))] [] (lH nf ns o s t) (bc, bs)) := fun f n => rfl
set_option maxRecDepth 20000 in
theorem b7_grow (L : Nat) (xs : Nat → Int32) (nf ns : Nat) (o : Nat → Int64) (s t : KS) (v k y z : Int32) (bc bs : Nat) : ∀ f n : Nat, g_law L xs n (f + 3) 437 [(0, .inl (.retAddr 1)), (1, .inl (.ref 0)), (2, .inl (.ref 15)), (3, .inl (.ref 29)), (4, .inl (.int v)), (5, .inl (.int k)), (6, .inl (.int y))] [] (lH nf ns o s t) (bc, bs) = j_law L xs n 43 [(0, .inl (.retAddr 1)), (1, .inl (.ref 0)), (2, .inl (.ref 15)), (3, .inl (.ref 29)), (4, .inl (.int (v + 4)))] [] (lH nf ns o s t) (bc, bs) := fun f n => rfl
set_option maxRecDepth 20000 in
theorem it_grow {L nf ns : Nat} {xs : Nat → Int32} {o : Nat → Int64} {s t : KS} {v : Int32} {bc bs : Nat} (R : RR nf ns s t) (h1 : am_in (v + 1) L = true) (h2 : am_in (v + 2) L = true) : ∃ o' s' t' c d, RR nf ns s' t' ∧ ∀ f n : Nat, g_law L xs n (f + 43) 372 [(0, .inl (.retAddr 1)), (1, .inl (.ref 0)), (2, .inl (.ref 15)), (3, .inl (.ref 29)), (4, .inl (.int v))] [] (lH nf ns o s t) (bc + 6, bs + 36) = j_law L xs n 43 [(0, .inl (.retAddr 1)), (1, .inl (.ref 0)), (2, .inl (.ref 15)), (3, .inl (.ref 29)), (4, .inl (.int (v + 4)))] [] (lH nf ns o' s' t') (bc + c, bs + d) := by
  obtain ⟨s', t', R', A⟩ := a_grow (xs (v + 1).toNatClampNeg) (xs (v + 2).toNatClampNeg) R
  have em : ∀ (s : KS) (o : Nat → Int64), F_X2_grow [.inl (.ref 15), .inl (.int (xs (v + 1).toNatClampNeg)), .inl (.int (xs (v + 2).toNatClampNeg))] (lH nf ns o s t) = am_lf (hM nf ns [.inr (.inr (.inr (1, o)))] s) (p_X2_grow (xs (v + 1).toNatClampNeg) (xs (v + 2).toNatClampNeg) t) := fun s o => e_X2_grow (xs (v + 1).toNatClampNeg) (xs (v + 2).toNatClampNeg) t
  have et : ∀ (s t : KS) (o : Nat → Int64), F_X2_thrown [.inl (.ref 15)] (lH nf ns o s t) = some (.inl (some (.inl (.int (t.1 15 0)))), lH nf ns o s t) := fun s t o => e_X2_thrown t
  rcases A with ⟨x, A1, A2, A3⟩ | ⟨e, c, y, hm, A1, A2, A3⟩
  · refine ⟨vp_updL o 0 x.toInt64, s', t', 2, 12, R', fun f n => ?_⟩
    refine (b1_grow L xs nf ns o s t v 0 0 0 bc bs (f + 30) n).trans ?_
    rw [h1, h2]
    refine (am_ri_i (w_L_grow_i A1)).trans ?_
    refine (b2_grow L xs nf ns _ s' t v 0 0 0 _ _ (f + 17) n).trans ?_
    rw [h1, h2]
    refine (am_ri_i ((em s' _).trans (congrArg (am_lf _) A2))).trans ?_
    refine (b3_grow L xs nf ns _ s' t' v 0 x 0 _ _ (f + 14) n).trans ?_
    refine (am_ri_i (et s' t' _)).trans ?_
    refine (b4_grow L xs nf ns _ s' t' v 0 x _ _ _ (f + 12) n).trans ?_
    rw [A3, show decide ((0 : Int32) = 0) = true from rfl]
    refine (b5_grow L xs nf ns _ s' t' v 0 x 0 _ _ (f + 10) n).trans ?_
    rw [show (!decide ((0 : Int32) = 0)) = false from rfl]
    refine (b6_grow L xs nf ns _ s' t' v 0 x 0 _ _ (f + 3) n).trans ?_
    rw [show decide (lg_cmp (vp_updL o 0 x.toInt64 0) x.toInt64 = 0) = true from decide_eq_true (lg_cmp_self _)]
    exact b7_grow L xs nf ns _ s' t' v 0 x 0 _ _ f n
  · obtain ⟨B1, B2⟩ := w_L_grow_x (o := o) (t := t) hm A1
    refine ⟨o, s', t', 2, 12, R', fun f n => ?_⟩
    rw [show f + 43 = (f + 30) + 13 by omega]
    refine (b1_grow L xs nf ns o s t v 0 0 0 bc bs (f + 30) n).trans ?_
    rw [h1, h2]
    refine (am_ri_i B1).trans ?_
    refine (b2_grow L xs nf ns _ s' t v c 0 0 _ _ (f + 17) n).trans ?_
    rw [h1, h2]
    refine (am_ri_i ((em s' _).trans (congrArg (am_lf _) A2))).trans ?_
    refine (b3_grow L xs nf ns _ s' t' v c y 0 _ _ (f + 14) n).trans ?_
    refine (am_ri_i (et s' t' _)).trans ?_
    refine (b4_grow L xs nf ns _ s' t' v c y _ _ _ (f + 12) n).trans ?_
    rw [A3, show decide (c = c) = true from decide_eq_true rfl]
    refine (b5_grow L xs nf ns _ s' t' v c y 0 _ _ (f + 10) n).trans ?_
    rw [show (!decide (c = 0)) = true from by rw [decide_eq_false B2]; rfl]
    exact b7_grow L xs nf ns _ s' t' v c y 0 _ _ (f + 7) n
set_option maxRecDepth 20000 in
theorem b1_read (L : Nat) (xs : Nat → Int32) (nf ns : Nat) (o : Nat → Int64) (s t : KS) (v k y z : Int32) (bc bs : Nat) : ∀ f n : Nat, g_law L xs n (f + 13) 440 [(0, .inl (.retAddr 1)), (1, .inl (.ref 0)), (2, .inl (.ref 15)), (3, .inl (.ref 29)), (4, .inl (.int v))] [] (lH nf ns o s t) (bc + 6, bs + 36) = cond (am_in (v + 1) L) (cond (am_in (v + 2) L) (am_ri (F_L_read [.inl (.ref 0), .inl (.int (xs (v + 1).toNatClampNeg)), .inl (.int (xs (v + 2).toNatClampNeg)), .inl (.ref 29)] (lH nf ns o s t)) (fun x h => g_law L xs n f 457 [(0, .inl (.retAddr 1)), (1, .inl (.ref 0)), (2, .inl (.ref 15)), (3, .inl (.ref 29)), (4, .inl (.int v))] [.inl (.int x)] h (bc + 1, bs + 6)) (fun x h => some (.inr x, h))) none) none := fun f n => rfl
set_option maxRecDepth 20000 in
theorem b2_read (L : Nat) (xs : Nat → Int32) (nf ns : Nat) (o : Nat → Int64) (s t : KS) (v k y z : Int32) (bc bs : Nat) : ∀ f n : Nat, g_law L xs n (f + 13) 457 [(0, .inl (.retAddr 1)), (1, .inl (.ref 0)), (2, .inl (.ref 15)), (3, .inl (.ref 29)), (4, .inl (.int v))] [.inl (.int k)] (lH nf ns o s t) (bc, bs) = cond (am_in (v + 1) L) (cond (am_in (v + 2) L) (am_ri (F_X2_read [.inl (.ref 15), .inl (.int (xs (v + 1).toNatClampNeg)), .inl (.int (xs (v + 2).toNatClampNeg))] (lH nf ns o s t)) (fun x h => g_law L xs n f 475 [(0, .inl (.retAddr 1)), (1, .inl (.ref 0)), (2, .inl (.ref 15)), (3, .inl (.ref 29)), (4, .inl (.int v)), (5, .inl (.int k))] [.inl (.int x)] h (bc, bs)) (fun x h => some (.inr x, h))) none) none := fun f n => rfl
set_option maxRecDepth 20000 in
theorem b3_read (L : Nat) (xs : Nat → Int32) (nf ns : Nat) (o : Nat → Int64) (s t : KS) (v k y z : Int32) (bc bs : Nat) : ∀ f n : Nat, g_law L xs n (f + 3) 475 [(0, .inl (.retAddr 1)), (1, .inl (.ref 0)), (2, .inl (.ref 15)), (3, .inl (.ref 29)), (4, .inl (.int v)), (5, .inl (.int k))] [.inl (.int y)] (lH nf ns o s t) (bc, bs) = am_ri (F_X2_thrown [.inl (.ref 15)] (lH nf ns o s t)) (fun x h => g_law L xs n f 481 [(0, .inl (.retAddr 1)), (1, .inl (.ref 0)), (2, .inl (.ref 15)), (3, .inl (.ref 29)), (4, .inl (.int v)), (5, .inl (.int k)), (6, .inl (.int y))] [.inl (.int x)] h (bc, bs)) (fun x h => some (.inr x, h)) := fun f n => rfl
set_option maxRecDepth 20000 in
theorem b4_read (L : Nat) (xs : Nat → Int32) (nf ns : Nat) (o : Nat → Int64) (s t : KS) (v k y z : Int32) (bc bs : Nat) : ∀ f n : Nat, g_law L xs n (f + 2) 481 [(0, .inl (.retAddr 1)), (1, .inl (.ref 0)), (2, .inl (.ref 15)), (3, .inl (.ref 29)), (4, .inl (.int v)), (5, .inl (.int k)), (6, .inl (.int y))] [.inl (.int z)] (lH nf ns o s t) (bc, bs) = cond (decide (z = k)) (g_law L xs n f 488 [(0, .inl (.retAddr 1)), (1, .inl (.ref 0)), (2, .inl (.ref 15)), (3, .inl (.ref 29)), (4, .inl (.int v)), (5, .inl (.int k)), (6, .inl (.int y))] [] (lH nf ns o s t) (bc, bs)) (g_law L xs n f 486 [(0, .inl (.retAddr 1)), (1, .inl (.ref 0)), (2, .inl (.ref 15)), (3, .inl (.ref 29)), (4, .inl (.int v)), (5, .inl (.int k)), (6, .inl (.int y))] [] (lH nf ns o s t) (bc, bs)) := fun f n => rfl
set_option maxRecDepth 20000 in
theorem b5_read (L : Nat) (xs : Nat → Int32) (nf ns : Nat) (o : Nat → Int64) (s t : KS) (v k y z : Int32) (bc bs : Nat) : ∀ f n : Nat, g_law L xs n (f + 2) 488 [(0, .inl (.retAddr 1)), (1, .inl (.ref 0)), (2, .inl (.ref 15)), (3, .inl (.ref 29)), (4, .inl (.int v)), (5, .inl (.int k)), (6, .inl (.int y))] [] (lH nf ns o s t) (bc, bs) = cond (!decide (k = 0)) (g_law L xs n f 505 [(0, .inl (.retAddr 1)), (1, .inl (.ref 0)), (2, .inl (.ref 15)), (3, .inl (.ref 29)), (4, .inl (.int v)), (5, .inl (.int k)), (6, .inl (.int y))] [] (lH nf ns o s t) (bc, bs)) (g_law L xs n f 493 [(0, .inl (.retAddr 1)), (1, .inl (.ref 0)), (2, .inl (.ref 15)), (3, .inl (.ref 29)), (4, .inl (.int v)), (5, .inl (.int k)), (6, .inl (.int y))] [] (lH nf ns o s t) (bc, bs)) := fun f n => rfl
set_option maxRecDepth 20000 in
theorem b6_read (L : Nat) (xs : Nat → Int32) (nf ns : Nat) (o : Nat → Int64) (s t : KS) (v k y z : Int32) (bc bs : Nat) : ∀ f n : Nat, g_law L xs n (f + 7) 493 [(0, .inl (.retAddr 1)), (1, .inl (.ref 0)), (2, .inl (.ref 15)), (3, .inl (.ref 29)), (4, .inl (.int v)), (5, .inl (.int k)), (6, .inl (.int y))] [] (lH nf ns o s t) (bc, bs) = cond (decide (lg_cmp (o 0) y.toInt64 = 0)) (g_law L xs n f 505 [(0, .inl (.retAddr 1)), (1, .inl (.ref 0)), (2, .inl (.ref 15)), (3, .inl (.ref 29)), (4, .inl (.int v)), (5, .inl (.int k)), (6, .inl (.int y))] [] (lH nf ns o s t) (bc, bs)) (g_law L xs n f 503 [(0, .inl (.retAddr 1)), (1, .inl (.ref 0)), (2, .inl (.ref 15)), (3, .inl (.ref 29)), (4, .inl (.int v)), (5, .inl (.int k)), (6, .inl (.int y))] [] (lH nf ns o s t) (bc, bs)) := fun f n => rfl
set_option maxRecDepth 20000 in
theorem b7_read (L : Nat) (xs : Nat → Int32) (nf ns : Nat) (o : Nat → Int64) (s t : KS) (v k y z : Int32) (bc bs : Nat) : ∀ f n : Nat, g_law L xs n (f + 3) 505 [(0, .inl (.retAddr 1)), (1, .inl (.ref 0)), (2, .inl (.ref 15)), (3, .inl (.ref 29)), (4, .inl (.int v)), (5, .inl (.int k)), (6, .inl (.int y))] [] (lH nf ns o s t) (bc, bs) = j_law L xs n 43 [(0, .inl (.retAddr 1)), (1, .inl (.ref 0)), (2, .inl (.ref 15)), (3, .inl (.ref 29)), (4, .inl (.int (v + 4)))] [] (lH nf ns o s t) (bc, bs) := fun f n => rfl
set_option maxRecDepth 20000 in
theorem it_read {L nf ns : Nat} {xs : Nat → Int32} {o : Nat → Int64} {s t : KS} {v : Int32} {bc bs : Nat} (R : RR nf ns s t) (h1 : am_in (v + 1) L = true) (h2 : am_in (v + 2) L = true) : ∃ o' s' t' c d, RR nf ns s' t' ∧ ∀ f n : Nat, g_law L xs n (f + 43) 440 [(0, .inl (.retAddr 1)), (1, .inl (.ref 0)), (2, .inl (.ref 15)), (3, .inl (.ref 29)), (4, .inl (.int v))] [] (lH nf ns o s t) (bc + 6, bs + 36) = j_law L xs n 43 [(0, .inl (.retAddr 1)), (1, .inl (.ref 0)), (2, .inl (.ref 15)), (3, .inl (.ref 29)), (4, .inl (.int (v + 4)))] [] (lH nf ns o' s' t') (bc + c, bs + d) := by
  obtain ⟨s', t', R', A⟩ := a_read (xs (v + 1).toNatClampNeg) (xs (v + 2).toNatClampNeg) R
  have em : ∀ (s : KS) (o : Nat → Int64), F_X2_read [.inl (.ref 15), .inl (.int (xs (v + 1).toNatClampNeg)), .inl (.int (xs (v + 2).toNatClampNeg))] (lH nf ns o s t) = am_lf (hM nf ns [.inr (.inr (.inr (1, o)))] s) (p_X2_read (xs (v + 1).toNatClampNeg) (xs (v + 2).toNatClampNeg) t) := fun s o => e_X2_read (xs (v + 1).toNatClampNeg) (xs (v + 2).toNatClampNeg) t
  have et : ∀ (s t : KS) (o : Nat → Int64), F_X2_thrown [.inl (.ref 15)] (lH nf ns o s t) = some (.inl (some (.inl (.int (t.1 15 0)))), lH nf ns o s t) := fun s t o => e_X2_thrown t
  rcases A with ⟨x, A1, A2, A3⟩ | ⟨e, c, y, hm, A1, A2, A3⟩
  · refine ⟨vp_updL o 0 x.toInt64, s', t', 1, 6, R', fun f n => ?_⟩
    refine (b1_read L xs nf ns o s t v 0 0 0 bc bs (f + 30) n).trans ?_
    rw [h1, h2]
    refine (am_ri_i (w_L_read_i A1)).trans ?_
    refine (b2_read L xs nf ns _ s' t v 0 0 0 _ _ (f + 17) n).trans ?_
    rw [h1, h2]
    refine (am_ri_i ((em s' _).trans (congrArg (am_lf _) A2))).trans ?_
    refine (b3_read L xs nf ns _ s' t' v 0 x 0 _ _ (f + 14) n).trans ?_
    refine (am_ri_i (et s' t' _)).trans ?_
    refine (b4_read L xs nf ns _ s' t' v 0 x _ _ _ (f + 12) n).trans ?_
    rw [A3, show decide ((0 : Int32) = 0) = true from rfl]
    refine (b5_read L xs nf ns _ s' t' v 0 x 0 _ _ (f + 10) n).trans ?_
    rw [show (!decide ((0 : Int32) = 0)) = false from rfl]
    refine (b6_read L xs nf ns _ s' t' v 0 x 0 _ _ (f + 3) n).trans ?_
    rw [show decide (lg_cmp (vp_updL o 0 x.toInt64 0) x.toInt64 = 0) = true from decide_eq_true (lg_cmp_self _)]
    exact b7_read L xs nf ns _ s' t' v 0 x 0 _ _ f n
  · obtain ⟨B1, B2⟩ := w_L_read_x (o := o) (t := t) hm A1
    refine ⟨o, s', t', 1, 6, R', fun f n => ?_⟩
    rw [show f + 43 = (f + 30) + 13 by omega]
    refine (b1_read L xs nf ns o s t v 0 0 0 bc bs (f + 30) n).trans ?_
    rw [h1, h2]
    refine (am_ri_i B1).trans ?_
    refine (b2_read L xs nf ns _ s' t v c 0 0 _ _ (f + 17) n).trans ?_
    rw [h1, h2]
    refine (am_ri_i ((em s' _).trans (congrArg (am_lf _) A2))).trans ?_
    refine (b3_read L xs nf ns _ s' t' v c y 0 _ _ (f + 14) n).trans ?_
    refine (am_ri_i (et s' t' _)).trans ?_
    refine (b4_read L xs nf ns _ s' t' v c y _ _ _ (f + 12) n).trans ?_
    rw [A3, show decide (c = c) = true from decide_eq_true rfl]
    refine (b5_read L xs nf ns _ s' t' v c y 0 _ _ (f + 10) n).trans ?_
    rw [show (!decide (c = 0)) = true from by rw [decide_eq_false B2]; rfl]
    exact b7_read L xs nf ns _ s' t' v c y 0 _ _ (f + 7) n
set_option maxRecDepth 20000 in
theorem b1_write (L : Nat) (xs : Nat → Int32) (nf ns : Nat) (o : Nat → Int64) (s t : KS) (v k y z : Int32) (bc bs : Nat) : ∀ f n : Nat, g_law L xs n (f + 18) 508 [(0, .inl (.retAddr 1)), (1, .inl (.ref 0)), (2, .inl (.ref 15)), (3, .inl (.ref 29)), (4, .inl (.int v))] [] (lH nf ns o s t) (bc + 6, bs + 36) = cond (am_in (v + 1) L) (cond (am_in (v + 2) L) (cond (am_in (v + 3) L) (am_ri (F_L_write [.inl (.ref 0), .inl (.int (xs (v + 1).toNatClampNeg)), .inl (.int (xs (v + 2).toNatClampNeg)), .inl (.int (xs (v + 3).toNatClampNeg)), .inl (.ref 29)] (lH nf ns o s t)) (fun x h => g_law L xs n f 531 [(0, .inl (.retAddr 1)), (1, .inl (.ref 0)), (2, .inl (.ref 15)), (3, .inl (.ref 29)), (4, .inl (.int v))] [.inl (.int x)] h (bc + 0, bs + 0)) (fun x h => some (.inr x, h))) none) none) none := fun f n => rfl
set_option maxRecDepth 20000 in
theorem b2_write (L : Nat) (xs : Nat → Int32) (nf ns : Nat) (o : Nat → Int64) (s t : KS) (v k y z : Int32) (bc bs : Nat) : ∀ f n : Nat, g_law L xs n (f + 18) 531 [(0, .inl (.retAddr 1)), (1, .inl (.ref 0)), (2, .inl (.ref 15)), (3, .inl (.ref 29)), (4, .inl (.int v))] [.inl (.int k)] (lH nf ns o s t) (bc, bs) = cond (am_in (v + 1) L) (cond (am_in (v + 2) L) (cond (am_in (v + 3) L) (am_ri (F_X2_write [.inl (.ref 15), .inl (.int (xs (v + 1).toNatClampNeg)), .inl (.int (xs (v + 2).toNatClampNeg)), .inl (.int (xs (v + 3).toNatClampNeg))] (lH nf ns o s t)) (fun x h => g_law L xs n f 555 [(0, .inl (.retAddr 1)), (1, .inl (.ref 0)), (2, .inl (.ref 15)), (3, .inl (.ref 29)), (4, .inl (.int v)), (5, .inl (.int k))] [.inl (.int x)] h (bc, bs)) (fun x h => some (.inr x, h))) none) none) none := fun f n => rfl
set_option maxRecDepth 20000 in
theorem b3_write (L : Nat) (xs : Nat → Int32) (nf ns : Nat) (o : Nat → Int64) (s t : KS) (v k y z : Int32) (bc bs : Nat) : ∀ f n : Nat, g_law L xs n (f + 3) 555 [(0, .inl (.retAddr 1)), (1, .inl (.ref 0)), (2, .inl (.ref 15)), (3, .inl (.ref 29)), (4, .inl (.int v)), (5, .inl (.int k))] [.inl (.int y)] (lH nf ns o s t) (bc, bs) = am_ri (F_X2_thrown [.inl (.ref 15)] (lH nf ns o s t)) (fun x h => g_law L xs n f 561 [(0, .inl (.retAddr 1)), (1, .inl (.ref 0)), (2, .inl (.ref 15)), (3, .inl (.ref 29)), (4, .inl (.int v)), (5, .inl (.int k)), (6, .inl (.int y))] [.inl (.int x)] h (bc, bs)) (fun x h => some (.inr x, h)) := fun f n => rfl
set_option maxRecDepth 20000 in
theorem b4_write (L : Nat) (xs : Nat → Int32) (nf ns : Nat) (o : Nat → Int64) (s t : KS) (v k y z : Int32) (bc bs : Nat) : ∀ f n : Nat, g_law L xs n (f + 2) 561 [(0, .inl (.retAddr 1)), (1, .inl (.ref 0)), (2, .inl (.ref 15)), (3, .inl (.ref 29)), (4, .inl (.int v)), (5, .inl (.int k)), (6, .inl (.int y))] [.inl (.int z)] (lH nf ns o s t) (bc, bs) = cond (decide (z = k)) (g_law L xs n f 568 [(0, .inl (.retAddr 1)), (1, .inl (.ref 0)), (2, .inl (.ref 15)), (3, .inl (.ref 29)), (4, .inl (.int v)), (5, .inl (.int k)), (6, .inl (.int y))] [] (lH nf ns o s t) (bc, bs)) (g_law L xs n f 566 [(0, .inl (.retAddr 1)), (1, .inl (.ref 0)), (2, .inl (.ref 15)), (3, .inl (.ref 29)), (4, .inl (.int v)), (5, .inl (.int k)), (6, .inl (.int y))] [] (lH nf ns o s t) (bc, bs)) := fun f n => rfl
set_option maxRecDepth 20000 in
theorem b5_write (L : Nat) (xs : Nat → Int32) (nf ns : Nat) (o : Nat → Int64) (s t : KS) (v k y z : Int32) (bc bs : Nat) : ∀ f n : Nat, g_law L xs n (f + 2) 568 [(0, .inl (.retAddr 1)), (1, .inl (.ref 0)), (2, .inl (.ref 15)), (3, .inl (.ref 29)), (4, .inl (.int v)), (5, .inl (.int k)), (6, .inl (.int y))] [] (lH nf ns o s t) (bc, bs) = cond (!decide (k = 0)) (g_law L xs n f 585 [(0, .inl (.retAddr 1)), (1, .inl (.ref 0)), (2, .inl (.ref 15)), (3, .inl (.ref 29)), (4, .inl (.int v)), (5, .inl (.int k)), (6, .inl (.int y))] [] (lH nf ns o s t) (bc, bs)) (g_law L xs n f 573 [(0, .inl (.retAddr 1)), (1, .inl (.ref 0)), (2, .inl (.ref 15)), (3, .inl (.ref 29)), (4, .inl (.int v)), (5, .inl (.int k)), (6, .inl (.int y))] [] (lH nf ns o s t) (bc, bs)) := fun f n => rfl
set_option maxRecDepth 20000 in
theorem b6_write (L : Nat) (xs : Nat → Int32) (nf ns : Nat) (o : Nat → Int64) (s t : KS) (v k y z : Int32) (bc bs : Nat) : ∀ f n : Nat, g_law L xs n (f + 7) 573 [(0, .inl (.retAddr 1)), (1, .inl (.ref 0)), (2, .inl (.ref 15)), (3, .inl (.ref 29)), (4, .inl (.int v)), (5, .inl (.int k)), (6, .inl (.int y))] [] (lH nf ns o s t) (bc, bs) = cond (decide (lg_cmp (o 0) y.toInt64 = 0)) (g_law L xs n f 585 [(0, .inl (.retAddr 1)), (1, .inl (.ref 0)), (2, .inl (.ref 15)), (3, .inl (.ref 29)), (4, .inl (.int v)), (5, .inl (.int k)), (6, .inl (.int y))] [] (lH nf ns o s t) (bc, bs)) (g_law L xs n f 583 [(0, .inl (.retAddr 1)), (1, .inl (.ref 0)), (2, .inl (.ref 15)), (3, .inl (.ref 29)), (4, .inl (.int v)), (5, .inl (.int k)), (6, .inl (.int y))] [] (lH nf ns o s t) (bc, bs)) := fun f n => rfl
set_option maxRecDepth 20000 in
theorem b7_write (L : Nat) (xs : Nat → Int32) (nf ns : Nat) (o : Nat → Int64) (s t : KS) (v k y z : Int32) (bc bs : Nat) : ∀ f n : Nat, g_law L xs n (f + 3) 585 [(0, .inl (.retAddr 1)), (1, .inl (.ref 0)), (2, .inl (.ref 15)), (3, .inl (.ref 29)), (4, .inl (.int v)), (5, .inl (.int k)), (6, .inl (.int y))] [] (lH nf ns o s t) (bc, bs) = j_law L xs n 43 [(0, .inl (.retAddr 1)), (1, .inl (.ref 0)), (2, .inl (.ref 15)), (3, .inl (.ref 29)), (4, .inl (.int (v + 4)))] [] (lH nf ns o s t) (bc, bs) := fun f n => rfl
set_option maxRecDepth 20000 in
theorem it_write {L nf ns : Nat} {xs : Nat → Int32} {o : Nat → Int64} {s t : KS} {v : Int32} {bc bs : Nat} (R : RR nf ns s t) (h1 : am_in (v + 1) L = true) (h2 : am_in (v + 2) L = true) (h3 : am_in (v + 3) L = true) : ∃ o' s' t' c d, RR nf ns s' t' ∧ ∀ f n : Nat, g_law L xs n (f + 53) 508 [(0, .inl (.retAddr 1)), (1, .inl (.ref 0)), (2, .inl (.ref 15)), (3, .inl (.ref 29)), (4, .inl (.int v))] [] (lH nf ns o s t) (bc + 6, bs + 36) = j_law L xs n 43 [(0, .inl (.retAddr 1)), (1, .inl (.ref 0)), (2, .inl (.ref 15)), (3, .inl (.ref 29)), (4, .inl (.int (v + 4)))] [] (lH nf ns o' s' t') (bc + c, bs + d) := by
  obtain ⟨s', t', R', A⟩ := a_write (xs (v + 1).toNatClampNeg) (xs (v + 2).toNatClampNeg) (xs (v + 3).toNatClampNeg) R
  have em : ∀ (s : KS) (o : Nat → Int64), F_X2_write [.inl (.ref 15), .inl (.int (xs (v + 1).toNatClampNeg)), .inl (.int (xs (v + 2).toNatClampNeg)), .inl (.int (xs (v + 3).toNatClampNeg))] (lH nf ns o s t) = am_lf (hM nf ns [.inr (.inr (.inr (1, o)))] s) (p_X2_write (xs (v + 1).toNatClampNeg) (xs (v + 2).toNatClampNeg) (xs (v + 3).toNatClampNeg) t) := fun s o => e_X2_write (xs (v + 1).toNatClampNeg) (xs (v + 2).toNatClampNeg) (xs (v + 3).toNatClampNeg) t
  have et : ∀ (s t : KS) (o : Nat → Int64), F_X2_thrown [.inl (.ref 15)] (lH nf ns o s t) = some (.inl (some (.inl (.int (t.1 15 0)))), lH nf ns o s t) := fun s t o => e_X2_thrown t
  rcases A with ⟨x, A1, A2, A3⟩ | ⟨e, c, y, hm, A1, A2, A3⟩
  · refine ⟨vp_updL o 0 x.toInt64, s', t', 0, 0, R', fun f n => ?_⟩
    refine (b1_write L xs nf ns o s t v 0 0 0 bc bs (f + 35) n).trans ?_
    rw [h1, h2, h3]
    refine (am_ri_i (w_L_write_i A1)).trans ?_
    refine (b2_write L xs nf ns _ s' t v 0 0 0 _ _ (f + 17) n).trans ?_
    rw [h1, h2, h3]
    refine (am_ri_i ((em s' _).trans (congrArg (am_lf _) A2))).trans ?_
    refine (b3_write L xs nf ns _ s' t' v 0 x 0 _ _ (f + 14) n).trans ?_
    refine (am_ri_i (et s' t' _)).trans ?_
    refine (b4_write L xs nf ns _ s' t' v 0 x _ _ _ (f + 12) n).trans ?_
    rw [A3, show decide ((0 : Int32) = 0) = true from rfl]
    refine (b5_write L xs nf ns _ s' t' v 0 x 0 _ _ (f + 10) n).trans ?_
    rw [show (!decide ((0 : Int32) = 0)) = false from rfl]
    refine (b6_write L xs nf ns _ s' t' v 0 x 0 _ _ (f + 3) n).trans ?_
    rw [show decide (lg_cmp (vp_updL o 0 x.toInt64 0) x.toInt64 = 0) = true from decide_eq_true (lg_cmp_self _)]
    exact b7_write L xs nf ns _ s' t' v 0 x 0 _ _ f n
  · obtain ⟨B1, B2⟩ := w_L_write_x (o := o) (t := t) hm A1
    refine ⟨o, s', t', 0, 0, R', fun f n => ?_⟩
    rw [show f + 53 = (f + 35) + 18 by omega]
    refine (b1_write L xs nf ns o s t v 0 0 0 bc bs (f + 35) n).trans ?_
    rw [h1, h2, h3]
    refine (am_ri_i B1).trans ?_
    refine (b2_write L xs nf ns _ s' t v c 0 0 _ _ (f + 17) n).trans ?_
    rw [h1, h2, h3]
    refine (am_ri_i ((em s' _).trans (congrArg (am_lf _) A2))).trans ?_
    refine (b3_write L xs nf ns _ s' t' v c y 0 _ _ (f + 14) n).trans ?_
    refine (am_ri_i (et s' t' _)).trans ?_
    refine (b4_write L xs nf ns _ s' t' v c y _ _ _ (f + 12) n).trans ?_
    rw [A3, show decide (c = c) = true from decide_eq_true rfl]
    refine (b5_write L xs nf ns _ s' t' v c y 0 _ _ (f + 10) n).trans ?_
    rw [show (!decide (c = 0)) = true from by rw [decide_eq_false B2]; rfl]
    exact b7_write L xs nf ns _ s' t' v c y 0 _ _ (f + 7) n
set_option maxRecDepth 20000 in
theorem b1_sweep (L : Nat) (xs : Nat → Int32) (nf ns : Nat) (o : Nat → Int64) (s t : KS) (v k y z : Int32) (bc bs : Nat) : ∀ f n : Nat, g_law L xs n (f + 8) 588 [(0, .inl (.retAddr 1)), (1, .inl (.ref 0)), (2, .inl (.ref 15)), (3, .inl (.ref 29)), (4, .inl (.int v))] [] (lH nf ns o s t) (bc + 6, bs + 36) = cond (am_in (v + 1) L) (am_ri (F_L_sweep [.inl (.ref 0), .inl (.int (xs (v + 1).toNatClampNeg)), .inl (.ref 29)] (lH nf ns o s t)) (fun x h => g_law L xs n f 599 [(0, .inl (.retAddr 1)), (1, .inl (.ref 0)), (2, .inl (.ref 15)), (3, .inl (.ref 29)), (4, .inl (.int v))] [.inl (.int x)] h (bc + 5, bs + 30)) (fun x h => some (.inr x, h))) none := fun f n => rfl
set_option maxRecDepth 20000 in
theorem b2_sweep (L : Nat) (xs : Nat → Int32) (nf ns : Nat) (o : Nat → Int64) (s t : KS) (v k y z : Int32) (bc bs : Nat) : ∀ f n : Nat, g_law L xs n (f + 8) 599 [(0, .inl (.retAddr 1)), (1, .inl (.ref 0)), (2, .inl (.ref 15)), (3, .inl (.ref 29)), (4, .inl (.int v))] [.inl (.int k)] (lH nf ns o s t) (bc, bs) = cond (am_in (v + 1) L) (am_ri (F_X2_sweep [.inl (.ref 15), .inl (.int (xs (v + 1).toNatClampNeg))] (lH nf ns o s t)) (fun x h => g_law L xs n f 611 [(0, .inl (.retAddr 1)), (1, .inl (.ref 0)), (2, .inl (.ref 15)), (3, .inl (.ref 29)), (4, .inl (.int v)), (5, .inl (.int k))] [.inl (.int x)] h (bc, bs)) (fun x h => some (.inr x, h))) none := fun f n => rfl
set_option maxRecDepth 20000 in
theorem b3_sweep (L : Nat) (xs : Nat → Int32) (nf ns : Nat) (o : Nat → Int64) (s t : KS) (v k y z : Int32) (bc bs : Nat) : ∀ f n : Nat, g_law L xs n (f + 3) 611 [(0, .inl (.retAddr 1)), (1, .inl (.ref 0)), (2, .inl (.ref 15)), (3, .inl (.ref 29)), (4, .inl (.int v)), (5, .inl (.int k))] [.inl (.int y)] (lH nf ns o s t) (bc, bs) = am_ri (F_X2_thrown [.inl (.ref 15)] (lH nf ns o s t)) (fun x h => g_law L xs n f 617 [(0, .inl (.retAddr 1)), (1, .inl (.ref 0)), (2, .inl (.ref 15)), (3, .inl (.ref 29)), (4, .inl (.int v)), (5, .inl (.int k)), (6, .inl (.int y))] [.inl (.int x)] h (bc, bs)) (fun x h => some (.inr x, h)) := fun f n => rfl
set_option maxRecDepth 20000 in
theorem b4_sweep (L : Nat) (xs : Nat → Int32) (nf ns : Nat) (o : Nat → Int64) (s t : KS) (v k y z : Int32) (bc bs : Nat) : ∀ f n : Nat, g_law L xs n (f + 2) 617 [(0, .inl (.retAddr 1)), (1, .inl (.ref 0)), (2, .inl (.ref 15)), (3, .inl (.ref 29)), (4, .inl (.int v)), (5, .inl (.int k)), (6, .inl (.int y))] [.inl (.int z)] (lH nf ns o s t) (bc, bs) = cond (decide (z = k)) (g_law L xs n f 624 [(0, .inl (.retAddr 1)), (1, .inl (.ref 0)), (2, .inl (.ref 15)), (3, .inl (.ref 29)), (4, .inl (.int v)), (5, .inl (.int k)), (6, .inl (.int y))] [] (lH nf ns o s t) (bc, bs)) (g_law L xs n f 622 [(0, .inl (.retAddr 1)), (1, .inl (.ref 0)), (2, .inl (.ref 15)), (3, .inl (.ref 29)), (4, .inl (.int v)), (5, .inl (.int k)), (6, .inl (.int y))] [] (lH nf ns o s t) (bc, bs)) := fun f n => rfl
set_option maxRecDepth 20000 in
theorem b5_sweep (L : Nat) (xs : Nat → Int32) (nf ns : Nat) (o : Nat → Int64) (s t : KS) (v k y z : Int32) (bc bs : Nat) : ∀ f n : Nat, g_law L xs n (f + 2) 624 [(0, .inl (.retAddr 1)), (1, .inl (.ref 0)), (2, .inl (.ref 15)), (3, .inl (.ref 29)), (4, .inl (.int v)), (5, .inl (.int k)), (6, .inl (.int y))] [] (lH nf ns o s t) (bc, bs) = cond (!decide (k = 0)) (g_law L xs n f 641 [(0, .inl (.retAddr 1)), (1, .inl (.ref 0)), (2, .inl (.ref 15)), (3, .inl (.ref 29)), (4, .inl (.int v)), (5, .inl (.int k)), (6, .inl (.int y))] [] (lH nf ns o s t) (bc, bs)) (g_law L xs n f 629 [(0, .inl (.retAddr 1)), (1, .inl (.ref 0)), (2, .inl (.ref 15)), (3, .inl (.ref 29)), (4, .inl (.int v)), (5, .inl (.int k)), (6, .inl (.int y))] [] (lH nf ns o s t) (bc, bs)) := fun f n => rfl
set_option maxRecDepth 20000 in
theorem b6_sweep (L : Nat) (xs : Nat → Int32) (nf ns : Nat) (o : Nat → Int64) (s t : KS) (v k y z : Int32) (bc bs : Nat) : ∀ f n : Nat, g_law L xs n (f + 7) 629 [(0, .inl (.retAddr 1)), (1, .inl (.ref 0)), (2, .inl (.ref 15)), (3, .inl (.ref 29)), (4, .inl (.int v)), (5, .inl (.int k)), (6, .inl (.int y))] [] (lH nf ns o s t) (bc, bs) = cond (decide (lg_cmp (o 0) y.toInt64 = 0)) (g_law L xs n f 641 [(0, .inl (.retAddr 1)), (1, .inl (.ref 0)), (2, .inl (.ref 15)), (3, .inl (.ref 29)), (4, .inl (.int v)), (5, .inl (.int k)), (6, .inl (.int y))] [] (lH nf ns o s t) (bc, bs)) (g_law L xs n f 639 [(0, .inl (.retAddr 1)), (1, .inl (.ref 0)), (2, .inl (.ref 15)), (3, .inl (.ref 29)), (4, .inl (.int v)), (5, .inl (.int k)), (6, .inl (.int y))] [] (lH nf ns o s t) (bc, bs)) := fun f n => rfl
set_option maxRecDepth 20000 in
theorem b7_sweep (L : Nat) (xs : Nat → Int32) (nf ns : Nat) (o : Nat → Int64) (s t : KS) (v k y z : Int32) (bc bs : Nat) : ∀ f n : Nat, g_law L xs n (f + 3) 641 [(0, .inl (.retAddr 1)), (1, .inl (.ref 0)), (2, .inl (.ref 15)), (3, .inl (.ref 29)), (4, .inl (.int v)), (5, .inl (.int k)), (6, .inl (.int y))] [] (lH nf ns o s t) (bc, bs) = j_law L xs n 43 [(0, .inl (.retAddr 1)), (1, .inl (.ref 0)), (2, .inl (.ref 15)), (3, .inl (.ref 29)), (4, .inl (.int (v + 4)))] [] (lH nf ns o s t) (bc, bs) := fun f n => rfl
set_option maxRecDepth 20000 in
theorem it_sweep {L nf ns : Nat} {xs : Nat → Int32} {o : Nat → Int64} {s t : KS} {v : Int32} {bc bs : Nat} (R : RR nf ns s t) (h1 : am_in (v + 1) L = true) : ∃ o' s' t' c d, RR nf ns s' t' ∧ ∀ f n : Nat, g_law L xs n (f + 33) 588 [(0, .inl (.retAddr 1)), (1, .inl (.ref 0)), (2, .inl (.ref 15)), (3, .inl (.ref 29)), (4, .inl (.int v))] [] (lH nf ns o s t) (bc + 6, bs + 36) = j_law L xs n 43 [(0, .inl (.retAddr 1)), (1, .inl (.ref 0)), (2, .inl (.ref 15)), (3, .inl (.ref 29)), (4, .inl (.int (v + 4)))] [] (lH nf ns o' s' t') (bc + c, bs + d) := by
  obtain ⟨s', t', R', A⟩ := a_sweep (xs (v + 1).toNatClampNeg) R
  have em : ∀ (s : KS) (o : Nat → Int64), F_X2_sweep [.inl (.ref 15), .inl (.int (xs (v + 1).toNatClampNeg))] (lH nf ns o s t) = am_lf (hM nf ns [.inr (.inr (.inr (1, o)))] s) (p_X2_sweep (xs (v + 1).toNatClampNeg) t) := fun s o => e_X2_sweep (xs (v + 1).toNatClampNeg) t
  have et : ∀ (s t : KS) (o : Nat → Int64), F_X2_thrown [.inl (.ref 15)] (lH nf ns o s t) = some (.inl (some (.inl (.int (t.1 15 0)))), lH nf ns o s t) := fun s t o => e_X2_thrown t
  rcases A with ⟨x, A1, A2, A3⟩ | ⟨e, c, y, hm, A1, A2, A3⟩
  · refine ⟨vp_updL o 0 x.toInt64, s', t', 5, 30, R', fun f n => ?_⟩
    refine (b1_sweep L xs nf ns o s t v 0 0 0 bc bs (f + 25) n).trans ?_
    rw [h1]
    refine (am_ri_i (w_L_sweep_i A1)).trans ?_
    refine (b2_sweep L xs nf ns _ s' t v 0 0 0 _ _ (f + 17) n).trans ?_
    rw [h1]
    refine (am_ri_i ((em s' _).trans (congrArg (am_lf _) A2))).trans ?_
    refine (b3_sweep L xs nf ns _ s' t' v 0 x 0 _ _ (f + 14) n).trans ?_
    refine (am_ri_i (et s' t' _)).trans ?_
    refine (b4_sweep L xs nf ns _ s' t' v 0 x _ _ _ (f + 12) n).trans ?_
    rw [A3, show decide ((0 : Int32) = 0) = true from rfl]
    refine (b5_sweep L xs nf ns _ s' t' v 0 x 0 _ _ (f + 10) n).trans ?_
    rw [show (!decide ((0 : Int32) = 0)) = false from rfl]
    refine (b6_sweep L xs nf ns _ s' t' v 0 x 0 _ _ (f + 3) n).trans ?_
    rw [show decide (lg_cmp (vp_updL o 0 x.toInt64 0) x.toInt64 = 0) = true from decide_eq_true (lg_cmp_self _)]
    exact b7_sweep L xs nf ns _ s' t' v 0 x 0 _ _ f n
  · obtain ⟨B1, B2⟩ := w_L_sweep_x (o := o) (t := t) hm A1
    refine ⟨o, s', t', 5, 30, R', fun f n => ?_⟩
    rw [show f + 33 = (f + 25) + 8 by omega]
    refine (b1_sweep L xs nf ns o s t v 0 0 0 bc bs (f + 25) n).trans ?_
    rw [h1]
    refine (am_ri_i B1).trans ?_
    refine (b2_sweep L xs nf ns _ s' t v c 0 0 _ _ (f + 17) n).trans ?_
    rw [h1]
    refine (am_ri_i ((em s' _).trans (congrArg (am_lf _) A2))).trans ?_
    refine (b3_sweep L xs nf ns _ s' t' v c y 0 _ _ (f + 14) n).trans ?_
    refine (am_ri_i (et s' t' _)).trans ?_
    refine (b4_sweep L xs nf ns _ s' t' v c y _ _ _ (f + 12) n).trans ?_
    rw [A3, show decide (c = c) = true from decide_eq_true rfl]
    refine (b5_sweep L xs nf ns _ s' t' v c y 0 _ _ (f + 10) n).trans ?_
    rw [show (!decide (c = 0)) = true from by rw [decide_eq_false B2]; rfl]
    exact b7_sweep L xs nf ns _ s' t' v c y 0 _ _ (f + 7) n
set_option maxRecDepth 20000 in
theorem b1_swapOut (L : Nat) (xs : Nat → Int32) (nf ns : Nat) (o : Nat → Int64) (s t : KS) (v k y z : Int32) (bc bs : Nat) : ∀ f n : Nat, g_law L xs n (f + 8) 644 [(0, .inl (.retAddr 1)), (1, .inl (.ref 0)), (2, .inl (.ref 15)), (3, .inl (.ref 29)), (4, .inl (.int v))] [] (lH nf ns o s t) (bc + 6, bs + 36) = cond (am_in (v + 1) L) (am_ri (F_L_swapOut [.inl (.ref 0), .inl (.int (xs (v + 1).toNatClampNeg)), .inl (.ref 29)] (lH nf ns o s t)) (fun x h => g_law L xs n f 655 [(0, .inl (.retAddr 1)), (1, .inl (.ref 0)), (2, .inl (.ref 15)), (3, .inl (.ref 29)), (4, .inl (.int v))] [.inl (.int x)] h (bc + 4, bs + 24)) (fun x h => some (.inr x, h))) none := fun f n => rfl
set_option maxRecDepth 20000 in
theorem b2_swapOut (L : Nat) (xs : Nat → Int32) (nf ns : Nat) (o : Nat → Int64) (s t : KS) (v k y z : Int32) (bc bs : Nat) : ∀ f n : Nat, g_law L xs n (f + 8) 655 [(0, .inl (.retAddr 1)), (1, .inl (.ref 0)), (2, .inl (.ref 15)), (3, .inl (.ref 29)), (4, .inl (.int v))] [.inl (.int k)] (lH nf ns o s t) (bc, bs) = cond (am_in (v + 1) L) (am_ri (F_X2_swapOut [.inl (.ref 15), .inl (.int (xs (v + 1).toNatClampNeg))] (lH nf ns o s t)) (fun x h => g_law L xs n f 667 [(0, .inl (.retAddr 1)), (1, .inl (.ref 0)), (2, .inl (.ref 15)), (3, .inl (.ref 29)), (4, .inl (.int v)), (5, .inl (.int k))] [.inl (.int x)] h (bc, bs)) (fun x h => some (.inr x, h))) none := fun f n => rfl
set_option maxRecDepth 20000 in
theorem b3_swapOut (L : Nat) (xs : Nat → Int32) (nf ns : Nat) (o : Nat → Int64) (s t : KS) (v k y z : Int32) (bc bs : Nat) : ∀ f n : Nat, g_law L xs n (f + 3) 667 [(0, .inl (.retAddr 1)), (1, .inl (.ref 0)), (2, .inl (.ref 15)), (3, .inl (.ref 29)), (4, .inl (.int v)), (5, .inl (.int k))] [.inl (.int y)] (lH nf ns o s t) (bc, bs) = am_ri (F_X2_thrown [.inl (.ref 15)] (lH nf ns o s t)) (fun x h => g_law L xs n f 673 [(0, .inl (.retAddr 1)), (1, .inl (.ref 0)), (2, .inl (.ref 15)), (3, .inl (.ref 29)), (4, .inl (.int v)), (5, .inl (.int k)), (6, .inl (.int y))] [.inl (.int x)] h (bc, bs)) (fun x h => some (.inr x, h)) := fun f n => rfl
set_option maxRecDepth 20000 in
theorem b4_swapOut (L : Nat) (xs : Nat → Int32) (nf ns : Nat) (o : Nat → Int64) (s t : KS) (v k y z : Int32) (bc bs : Nat) : ∀ f n : Nat, g_law L xs n (f + 2) 673 [(0, .inl (.retAddr 1)), (1, .inl (.ref 0)), (2, .inl (.ref 15)), (3, .inl (.ref 29)), (4, .inl (.int v)), (5, .inl (.int k)), (6, .inl (.int y))] [.inl (.int z)] (lH nf ns o s t) (bc, bs) = cond (decide (z = k)) (g_law L xs n f 680 [(0, .inl (.retAddr 1)), (1, .inl (.ref 0)), (2, .inl (.ref 15)), (3, .inl (.ref 29)), (4, .inl (.int v)), (5, .inl (.int k)), (6, .inl (.int y))] [] (lH nf ns o s t) (bc, bs)) (g_law L xs n f 678 [(0, .inl (.retAddr 1)), (1, .inl (.ref 0)), (2, .inl (.ref 15)), (3, .inl (.ref 29)), (4, .inl (.int v)), (5, .inl (.int k)), (6, .inl (.int y))] [] (lH nf ns o s t) (bc, bs)) := fun f n => rfl
set_option maxRecDepth 20000 in
theorem b5_swapOut (L : Nat) (xs : Nat → Int32) (nf ns : Nat) (o : Nat → Int64) (s t : KS) (v k y z : Int32) (bc bs : Nat) : ∀ f n : Nat, g_law L xs n (f + 2) 680 [(0, .inl (.retAddr 1)), (1, .inl (.ref 0)), (2, .inl (.ref 15)), (3, .inl (.ref 29)), (4, .inl (.int v)), (5, .inl (.int k)), (6, .inl (.int y))] [] (lH nf ns o s t) (bc, bs) = cond (!decide (k = 0)) (g_law L xs n f 697 [(0, .inl (.retAddr 1)), (1, .inl (.ref 0)), (2, .inl (.ref 15)), (3, .inl (.ref 29)), (4, .inl (.int v)), (5, .inl (.int k)), (6, .inl (.int y))] [] (lH nf ns o s t) (bc, bs)) (g_law L xs n f 685 [(0, .inl (.retAddr 1)), (1, .inl (.ref 0)), (2, .inl (.ref 15)), (3, .inl (.ref 29)), (4, .inl (.int v)), (5, .inl (.int k)), (6, .inl (.int y))] [] (lH nf ns o s t) (bc, bs)) := fun f n => rfl
set_option maxRecDepth 20000 in
theorem b6_swapOut (L : Nat) (xs : Nat → Int32) (nf ns : Nat) (o : Nat → Int64) (s t : KS) (v k y z : Int32) (bc bs : Nat) : ∀ f n : Nat, g_law L xs n (f + 7) 685 [(0, .inl (.retAddr 1)), (1, .inl (.ref 0)), (2, .inl (.ref 15)), (3, .inl (.ref 29)), (4, .inl (.int v)), (5, .inl (.int k)), (6, .inl (.int y))] [] (lH nf ns o s t) (bc, bs) = cond (decide (lg_cmp (o 0) y.toInt64 = 0)) (g_law L xs n f 697 [(0, .inl (.retAddr 1)), (1, .inl (.ref 0)), (2, .inl (.ref 15)), (3, .inl (.ref 29)), (4, .inl (.int v)), (5, .inl (.int k)), (6, .inl (.int y))] [] (lH nf ns o s t) (bc, bs)) (g_law L xs n f 695 [(0, .inl (.retAddr 1)), (1, .inl (.ref 0)), (2, .inl (.ref 15)), (3, .inl (.ref 29)), (4, .inl (.int v)), (5, .inl (.int k)), (6, .inl (.int y))] [] (lH nf ns o s t) (bc, bs)) := fun f n => rfl
set_option maxRecDepth 20000 in
theorem b7_swapOut (L : Nat) (xs : Nat → Int32) (nf ns : Nat) (o : Nat → Int64) (s t : KS) (v k y z : Int32) (bc bs : Nat) : ∀ f n : Nat, g_law L xs n (f + 3) 697 [(0, .inl (.retAddr 1)), (1, .inl (.ref 0)), (2, .inl (.ref 15)), (3, .inl (.ref 29)), (4, .inl (.int v)), (5, .inl (.int k)), (6, .inl (.int y))] [] (lH nf ns o s t) (bc, bs) = j_law L xs n 43 [(0, .inl (.retAddr 1)), (1, .inl (.ref 0)), (2, .inl (.ref 15)), (3, .inl (.ref 29)), (4, .inl (.int (v + 4)))] [] (lH nf ns o s t) (bc, bs) := fun f n => rfl
set_option maxRecDepth 20000 in
theorem it_swapOut {L nf ns : Nat} {xs : Nat → Int32} {o : Nat → Int64} {s t : KS} {v : Int32} {bc bs : Nat} (R : RR nf ns s t) (h1 : am_in (v + 1) L = true) : ∃ o' s' t' c d, RR nf ns s' t' ∧ ∀ f n : Nat, g_law L xs n (f + 33) 644 [(0, .inl (.retAddr 1)), (1, .inl (.ref 0)), (2, .inl (.ref 15)), (3, .inl (.ref 29)), (4, .inl (.int v))] [] (lH nf ns o s t) (bc + 6, bs + 36) = j_law L xs n 43 [(0, .inl (.retAddr 1)), (1, .inl (.ref 0)), (2, .inl (.ref 15)), (3, .inl (.ref 29)), (4, .inl (.int (v + 4)))] [] (lH nf ns o' s' t') (bc + c, bs + d) := by
  obtain ⟨s', t', R', A⟩ := a_swapOut (xs (v + 1).toNatClampNeg) R
  have em : ∀ (s : KS) (o : Nat → Int64), F_X2_swapOut [.inl (.ref 15), .inl (.int (xs (v + 1).toNatClampNeg))] (lH nf ns o s t) = am_lf (hM nf ns [.inr (.inr (.inr (1, o)))] s) (p_X2_swapOut (xs (v + 1).toNatClampNeg) t) := fun s o => e_X2_swapOut (xs (v + 1).toNatClampNeg) t
  have et : ∀ (s t : KS) (o : Nat → Int64), F_X2_thrown [.inl (.ref 15)] (lH nf ns o s t) = some (.inl (some (.inl (.int (t.1 15 0)))), lH nf ns o s t) := fun s t o => e_X2_thrown t
  rcases A with ⟨x, A1, A2, A3⟩ | ⟨e, c, y, hm, A1, A2, A3⟩
  · refine ⟨vp_updL o 0 x.toInt64, s', t', 4, 24, R', fun f n => ?_⟩
    refine (b1_swapOut L xs nf ns o s t v 0 0 0 bc bs (f + 25) n).trans ?_
    rw [h1]
    refine (am_ri_i (w_L_swapOut_i A1)).trans ?_
    refine (b2_swapOut L xs nf ns _ s' t v 0 0 0 _ _ (f + 17) n).trans ?_
    rw [h1]
    refine (am_ri_i ((em s' _).trans (congrArg (am_lf _) A2))).trans ?_
    refine (b3_swapOut L xs nf ns _ s' t' v 0 x 0 _ _ (f + 14) n).trans ?_
    refine (am_ri_i (et s' t' _)).trans ?_
    refine (b4_swapOut L xs nf ns _ s' t' v 0 x _ _ _ (f + 12) n).trans ?_
    rw [A3, show decide ((0 : Int32) = 0) = true from rfl]
    refine (b5_swapOut L xs nf ns _ s' t' v 0 x 0 _ _ (f + 10) n).trans ?_
    rw [show (!decide ((0 : Int32) = 0)) = false from rfl]
    refine (b6_swapOut L xs nf ns _ s' t' v 0 x 0 _ _ (f + 3) n).trans ?_
    rw [show decide (lg_cmp (vp_updL o 0 x.toInt64 0) x.toInt64 = 0) = true from decide_eq_true (lg_cmp_self _)]
    exact b7_swapOut L xs nf ns _ s' t' v 0 x 0 _ _ f n
  · obtain ⟨B1, B2⟩ := w_L_swapOut_x (o := o) (t := t) hm A1
    refine ⟨o, s', t', 4, 24, R', fun f n => ?_⟩
    rw [show f + 33 = (f + 25) + 8 by omega]
    refine (b1_swapOut L xs nf ns o s t v 0 0 0 bc bs (f + 25) n).trans ?_
    rw [h1]
    refine (am_ri_i B1).trans ?_
    refine (b2_swapOut L xs nf ns _ s' t v c 0 0 _ _ (f + 17) n).trans ?_
    rw [h1]
    refine (am_ri_i ((em s' _).trans (congrArg (am_lf _) A2))).trans ?_
    refine (b3_swapOut L xs nf ns _ s' t' v c y 0 _ _ (f + 14) n).trans ?_
    refine (am_ri_i (et s' t' _)).trans ?_
    refine (b4_swapOut L xs nf ns _ s' t' v c y _ _ _ (f + 12) n).trans ?_
    rw [A3, show decide (c = c) = true from decide_eq_true rfl]
    refine (b5_swapOut L xs nf ns _ s' t' v c y 0 _ _ (f + 10) n).trans ?_
    rw [show (!decide (c = 0)) = true from by rw [decide_eq_false B2]; rfl]
    exact b7_swapOut L xs nf ns _ s' t' v c y 0 _ _ (f + 7) n
set_option maxRecDepth 20000 in
theorem b1_where (L : Nat) (xs : Nat → Int32) (nf ns : Nat) (o : Nat → Int64) (s t : KS) (v k y z : Int32) (bc bs : Nat) : ∀ f n : Nat, g_law L xs n (f + 13) 700 [(0, .inl (.retAddr 1)), (1, .inl (.ref 0)), (2, .inl (.ref 15)), (3, .inl (.ref 29)), (4, .inl (.int v))] [] (lH nf ns o s t) (bc + 6, bs + 36) = cond (am_in (v + 1) L) (cond (am_in (v + 2) L) (am_ri (F_L_where [.inl (.ref 0), .inl (.int (xs (v + 1).toNatClampNeg)), .inl (.int (xs (v + 2).toNatClampNeg)), .inl (.ref 29)] (lH nf ns o s t)) (fun x h => g_law L xs n f 717 [(0, .inl (.retAddr 1)), (1, .inl (.ref 0)), (2, .inl (.ref 15)), (3, .inl (.ref 29)), (4, .inl (.int v))] [.inl (.int x)] h (bc + 2, bs + 12)) (fun x h => some (.inr x, h))) none) none := fun f n => rfl
set_option maxRecDepth 20000 in
theorem b2_where (L : Nat) (xs : Nat → Int32) (nf ns : Nat) (o : Nat → Int64) (s t : KS) (v k y z : Int32) (bc bs : Nat) : ∀ f n : Nat, g_law L xs n (f + 13) 717 [(0, .inl (.retAddr 1)), (1, .inl (.ref 0)), (2, .inl (.ref 15)), (3, .inl (.ref 29)), (4, .inl (.int v))] [.inl (.int k)] (lH nf ns o s t) (bc, bs) = cond (am_in (v + 1) L) (cond (am_in (v + 2) L) (am_ri (F_X2_where [.inl (.ref 15), .inl (.int (xs (v + 1).toNatClampNeg)), .inl (.int (xs (v + 2).toNatClampNeg))] (lH nf ns o s t)) (fun x h => g_law L xs n f 735 [(0, .inl (.retAddr 1)), (1, .inl (.ref 0)), (2, .inl (.ref 15)), (3, .inl (.ref 29)), (4, .inl (.int v)), (5, .inl (.int k))] [.inl (.int x)] h (bc, bs)) (fun x h => some (.inr x, h))) none) none := fun f n => rfl
set_option maxRecDepth 20000 in
theorem b3_where (L : Nat) (xs : Nat → Int32) (nf ns : Nat) (o : Nat → Int64) (s t : KS) (v k y z : Int32) (bc bs : Nat) : ∀ f n : Nat, g_law L xs n (f + 3) 735 [(0, .inl (.retAddr 1)), (1, .inl (.ref 0)), (2, .inl (.ref 15)), (3, .inl (.ref 29)), (4, .inl (.int v)), (5, .inl (.int k))] [.inl (.int y)] (lH nf ns o s t) (bc, bs) = am_ri (F_X2_thrown [.inl (.ref 15)] (lH nf ns o s t)) (fun x h => g_law L xs n f 741 [(0, .inl (.retAddr 1)), (1, .inl (.ref 0)), (2, .inl (.ref 15)), (3, .inl (.ref 29)), (4, .inl (.int v)), (5, .inl (.int k)), (6, .inl (.int y))] [.inl (.int x)] h (bc, bs)) (fun x h => some (.inr x, h)) := fun f n => rfl
set_option maxRecDepth 20000 in
theorem b4_where (L : Nat) (xs : Nat → Int32) (nf ns : Nat) (o : Nat → Int64) (s t : KS) (v k y z : Int32) (bc bs : Nat) : ∀ f n : Nat, g_law L xs n (f + 2) 741 [(0, .inl (.retAddr 1)), (1, .inl (.ref 0)), (2, .inl (.ref 15)), (3, .inl (.ref 29)), (4, .inl (.int v)), (5, .inl (.int k)), (6, .inl (.int y))] [.inl (.int z)] (lH nf ns o s t) (bc, bs) = cond (decide (z = k)) (g_law L xs n f 748 [(0, .inl (.retAddr 1)), (1, .inl (.ref 0)), (2, .inl (.ref 15)), (3, .inl (.ref 29)), (4, .inl (.int v)), (5, .inl (.int k)), (6, .inl (.int y))] [] (lH nf ns o s t) (bc, bs)) (g_law L xs n f 746 [(0, .inl (.retAddr 1)), (1, .inl (.ref 0)), (2, .inl (.ref 15)), (3, .inl (.ref 29)), (4, .inl (.int v)), (5, .inl (.int k)), (6, .inl (.int y))] [] (lH nf ns o s t) (bc, bs)) := fun f n => rfl
set_option maxRecDepth 20000 in
theorem b5_where (L : Nat) (xs : Nat → Int32) (nf ns : Nat) (o : Nat → Int64) (s t : KS) (v k y z : Int32) (bc bs : Nat) : ∀ f n : Nat, g_law L xs n (f + 2) 748 [(0, .inl (.retAddr 1)), (1, .inl (.ref 0)), (2, .inl (.ref 15)), (3, .inl (.ref 29)), (4, .inl (.int v)), (5, .inl (.int k)), (6, .inl (.int y))] [] (lH nf ns o s t) (bc, bs) = cond (!decide (k = 0)) (g_law L xs n f 765 [(0, .inl (.retAddr 1)), (1, .inl (.ref 0)), (2, .inl (.ref 15)), (3, .inl (.ref 29)), (4, .inl (.int v)), (5, .inl (.int k)), (6, .inl (.int y))] [] (lH nf ns o s t) (bc, bs)) (g_law L xs n f 753 [(0, .inl (.retAddr 1)), (1, .inl (.ref 0)), (2, .inl (.ref 15)), (3, .inl (.ref 29)), (4, .inl (.int v)), (5, .inl (.int k)), (6, .inl (.int y))] [] (lH nf ns o s t) (bc, bs)) := fun f n => rfl
set_option maxRecDepth 20000 in
theorem b6_where (L : Nat) (xs : Nat → Int32) (nf ns : Nat) (o : Nat → Int64) (s t : KS) (v k y z : Int32) (bc bs : Nat) : ∀ f n : Nat, g_law L xs n (f + 7) 753 [(0, .inl (.retAddr 1)), (1, .inl (.ref 0)), (2, .inl (.ref 15)), (3, .inl (.ref 29)), (4, .inl (.int v)), (5, .inl (.int k)), (6, .inl (.int y))] [] (lH nf ns o s t) (bc, bs) = cond (decide (lg_cmp (o 0) y.toInt64 = 0)) (g_law L xs n f 765 [(0, .inl (.retAddr 1)), (1, .inl (.ref 0)), (2, .inl (.ref 15)), (3, .inl (.ref 29)), (4, .inl (.int v)), (5, .inl (.int k)), (6, .inl (.int y))] [] (lH nf ns o s t) (bc, bs)) (g_law L xs n f 763 [(0, .inl (.retAddr 1)), (1, .inl (.ref 0)), (2, .inl (.ref 15)), (3, .inl (.ref 29)), (4, .inl (.int v)), (5, .inl (.int k)), (6, .inl (.int y))] [] (lH nf ns o s t) (bc, bs)) := fun f n => rfl
set_option maxRecDepth 20000 in
theorem b7_where (L : Nat) (xs : Nat → Int32) (nf ns : Nat) (o : Nat → Int64) (s t : KS) (v k y z : Int32) (bc bs : Nat) : ∀ f n : Nat, g_law L xs n (f + 3) 765 [(0, .inl (.retAddr 1)), (1, .inl (.ref 0)), (2, .inl (.ref 15)), (3, .inl (.ref 29)), (4, .inl (.int v)), (5, .inl (.int k)), (6, .inl (.int y))] [] (lH nf ns o s t) (bc, bs) = j_law L xs n 43 [(0, .inl (.retAddr 1)), (1, .inl (.ref 0)), (2, .inl (.ref 15)), (3, .inl (.ref 29)), (4, .inl (.int (v + 4)))] [] (lH nf ns o s t) (bc, bs) := fun f n => rfl
set_option maxRecDepth 20000 in
theorem it_where {L nf ns : Nat} {xs : Nat → Int32} {o : Nat → Int64} {s t : KS} {v : Int32} {bc bs : Nat} (R : RR nf ns s t) (h1 : am_in (v + 1) L = true) (h2 : am_in (v + 2) L = true) : ∃ o' s' t' c d, RR nf ns s' t' ∧ ∀ f n : Nat, g_law L xs n (f + 43) 700 [(0, .inl (.retAddr 1)), (1, .inl (.ref 0)), (2, .inl (.ref 15)), (3, .inl (.ref 29)), (4, .inl (.int v))] [] (lH nf ns o s t) (bc + 6, bs + 36) = j_law L xs n 43 [(0, .inl (.retAddr 1)), (1, .inl (.ref 0)), (2, .inl (.ref 15)), (3, .inl (.ref 29)), (4, .inl (.int (v + 4)))] [] (lH nf ns o' s' t') (bc + c, bs + d) := by
  obtain ⟨s', t', R', A⟩ := a_where (xs (v + 1).toNatClampNeg) (xs (v + 2).toNatClampNeg) R
  have em : ∀ (s : KS) (o : Nat → Int64), F_X2_where [.inl (.ref 15), .inl (.int (xs (v + 1).toNatClampNeg)), .inl (.int (xs (v + 2).toNatClampNeg))] (lH nf ns o s t) = am_lf (hM nf ns [.inr (.inr (.inr (1, o)))] s) (p_X2_where (xs (v + 1).toNatClampNeg) (xs (v + 2).toNatClampNeg) t) := fun s o => e_X2_where (xs (v + 1).toNatClampNeg) (xs (v + 2).toNatClampNeg) t
  have et : ∀ (s t : KS) (o : Nat → Int64), F_X2_thrown [.inl (.ref 15)] (lH nf ns o s t) = some (.inl (some (.inl (.int (t.1 15 0)))), lH nf ns o s t) := fun s t o => e_X2_thrown t
  rcases A with ⟨x, A1, A2, A3⟩ | ⟨e, c, y, hm, A1, A2, A3⟩
  · refine ⟨vp_updL o 0 x.toInt64, s', t', 2, 12, R', fun f n => ?_⟩
    refine (b1_where L xs nf ns o s t v 0 0 0 bc bs (f + 30) n).trans ?_
    rw [h1, h2]
    refine (am_ri_i (w_L_where_i A1)).trans ?_
    refine (b2_where L xs nf ns _ s' t v 0 0 0 _ _ (f + 17) n).trans ?_
    rw [h1, h2]
    refine (am_ri_i ((em s' _).trans (congrArg (am_lf _) A2))).trans ?_
    refine (b3_where L xs nf ns _ s' t' v 0 x 0 _ _ (f + 14) n).trans ?_
    refine (am_ri_i (et s' t' _)).trans ?_
    refine (b4_where L xs nf ns _ s' t' v 0 x _ _ _ (f + 12) n).trans ?_
    rw [A3, show decide ((0 : Int32) = 0) = true from rfl]
    refine (b5_where L xs nf ns _ s' t' v 0 x 0 _ _ (f + 10) n).trans ?_
    rw [show (!decide ((0 : Int32) = 0)) = false from rfl]
    refine (b6_where L xs nf ns _ s' t' v 0 x 0 _ _ (f + 3) n).trans ?_
    rw [show decide (lg_cmp (vp_updL o 0 x.toInt64 0) x.toInt64 = 0) = true from decide_eq_true (lg_cmp_self _)]
    exact b7_where L xs nf ns _ s' t' v 0 x 0 _ _ f n
  · obtain ⟨B1, B2⟩ := w_L_where_x (o := o) (t := t) hm A1
    refine ⟨o, s', t', 2, 12, R', fun f n => ?_⟩
    rw [show f + 43 = (f + 30) + 13 by omega]
    refine (b1_where L xs nf ns o s t v 0 0 0 bc bs (f + 30) n).trans ?_
    rw [h1, h2]
    refine (am_ri_i B1).trans ?_
    refine (b2_where L xs nf ns _ s' t v c 0 0 _ _ (f + 17) n).trans ?_
    rw [h1, h2]
    refine (am_ri_i ((em s' _).trans (congrArg (am_lf _) A2))).trans ?_
    refine (b3_where L xs nf ns _ s' t' v c y 0 _ _ (f + 14) n).trans ?_
    refine (am_ri_i (et s' t' _)).trans ?_
    refine (b4_where L xs nf ns _ s' t' v c y _ _ _ (f + 12) n).trans ?_
    rw [A3, show decide (c = c) = true from decide_eq_true rfl]
    refine (b5_where L xs nf ns _ s' t' v c y 0 _ _ (f + 10) n).trans ?_
    rw [show (!decide (c = 0)) = true from by rw [decide_eq_false B2]; rfl]
    exact b7_where L xs nf ns _ s' t' v c y 0 _ _ (f + 7) n
set_option maxRecDepth 20000 in
theorem b1_sharers (L : Nat) (xs : Nat → Int32) (nf ns : Nat) (o : Nat → Int64) (s t : KS) (v k y z : Int32) (bc bs : Nat) : ∀ f n : Nat, g_law L xs n (f + 13) 768 [(0, .inl (.retAddr 1)), (1, .inl (.ref 0)), (2, .inl (.ref 15)), (3, .inl (.ref 29)), (4, .inl (.int v))] [] (lH nf ns o s t) (bc + 6, bs + 36) = cond (am_in (v + 1) L) (cond (am_in (v + 2) L) (am_ri (F_L_sharers [.inl (.ref 0), .inl (.int (xs (v + 1).toNatClampNeg)), .inl (.int (xs (v + 2).toNatClampNeg)), .inl (.ref 29)] (lH nf ns o s t)) (fun x h => g_law L xs n f 785 [(0, .inl (.retAddr 1)), (1, .inl (.ref 0)), (2, .inl (.ref 15)), (3, .inl (.ref 29)), (4, .inl (.int v))] [.inl (.int x)] h (bc + 2, bs + 12)) (fun x h => some (.inr x, h))) none) none := fun f n => rfl
set_option maxRecDepth 20000 in
theorem b2_sharers (L : Nat) (xs : Nat → Int32) (nf ns : Nat) (o : Nat → Int64) (s t : KS) (v k y z : Int32) (bc bs : Nat) : ∀ f n : Nat, g_law L xs n (f + 13) 785 [(0, .inl (.retAddr 1)), (1, .inl (.ref 0)), (2, .inl (.ref 15)), (3, .inl (.ref 29)), (4, .inl (.int v))] [.inl (.int k)] (lH nf ns o s t) (bc, bs) = cond (am_in (v + 1) L) (cond (am_in (v + 2) L) (am_ri (F_X2_sharers [.inl (.ref 15), .inl (.int (xs (v + 1).toNatClampNeg)), .inl (.int (xs (v + 2).toNatClampNeg))] (lH nf ns o s t)) (fun x h => g_law L xs n f 803 [(0, .inl (.retAddr 1)), (1, .inl (.ref 0)), (2, .inl (.ref 15)), (3, .inl (.ref 29)), (4, .inl (.int v)), (5, .inl (.int k))] [.inl (.int x)] h (bc, bs)) (fun x h => some (.inr x, h))) none) none := fun f n => rfl
set_option maxRecDepth 20000 in
theorem b3_sharers (L : Nat) (xs : Nat → Int32) (nf ns : Nat) (o : Nat → Int64) (s t : KS) (v k y z : Int32) (bc bs : Nat) : ∀ f n : Nat, g_law L xs n (f + 3) 803 [(0, .inl (.retAddr 1)), (1, .inl (.ref 0)), (2, .inl (.ref 15)), (3, .inl (.ref 29)), (4, .inl (.int v)), (5, .inl (.int k))] [.inl (.int y)] (lH nf ns o s t) (bc, bs) = am_ri (F_X2_thrown [.inl (.ref 15)] (lH nf ns o s t)) (fun x h => g_law L xs n f 809 [(0, .inl (.retAddr 1)), (1, .inl (.ref 0)), (2, .inl (.ref 15)), (3, .inl (.ref 29)), (4, .inl (.int v)), (5, .inl (.int k)), (6, .inl (.int y))] [.inl (.int x)] h (bc, bs)) (fun x h => some (.inr x, h)) := fun f n => rfl
set_option maxRecDepth 20000 in
theorem b4_sharers (L : Nat) (xs : Nat → Int32) (nf ns : Nat) (o : Nat → Int64) (s t : KS) (v k y z : Int32) (bc bs : Nat) : ∀ f n : Nat, g_law L xs n (f + 2) 809 [(0, .inl (.retAddr 1)), (1, .inl (.ref 0)), (2, .inl (.ref 15)), (3, .inl (.ref 29)), (4, .inl (.int v)), (5, .inl (.int k)), (6, .inl (.int y))] [.inl (.int z)] (lH nf ns o s t) (bc, bs) = cond (decide (z = k)) (g_law L xs n f 816 [(0, .inl (.retAddr 1)), (1, .inl (.ref 0)), (2, .inl (.ref 15)), (3, .inl (.ref 29)), (4, .inl (.int v)), (5, .inl (.int k)), (6, .inl (.int y))] [] (lH nf ns o s t) (bc, bs)) (g_law L xs n f 814 [(0, .inl (.retAddr 1)), (1, .inl (.ref 0)), (2, .inl (.ref 15)), (3, .inl (.ref 29)), (4, .inl (.int v)), (5, .inl (.int k)), (6, .inl (.int y))] [] (lH nf ns o s t) (bc, bs)) := fun f n => rfl
set_option maxRecDepth 20000 in
theorem b5_sharers (L : Nat) (xs : Nat → Int32) (nf ns : Nat) (o : Nat → Int64) (s t : KS) (v k y z : Int32) (bc bs : Nat) : ∀ f n : Nat, g_law L xs n (f + 2) 816 [(0, .inl (.retAddr 1)), (1, .inl (.ref 0)), (2, .inl (.ref 15)), (3, .inl (.ref 29)), (4, .inl (.int v)), (5, .inl (.int k)), (6, .inl (.int y))] [] (lH nf ns o s t) (bc, bs) = cond (!decide (k = 0)) (g_law L xs n f 833 [(0, .inl (.retAddr 1)), (1, .inl (.ref 0)), (2, .inl (.ref 15)), (3, .inl (.ref 29)), (4, .inl (.int v)), (5, .inl (.int k)), (6, .inl (.int y))] [] (lH nf ns o s t) (bc, bs)) (g_law L xs n f 821 [(0, .inl (.retAddr 1)), (1, .inl (.ref 0)), (2, .inl (.ref 15)), (3, .inl (.ref 29)), (4, .inl (.int v)), (5, .inl (.int k)), (6, .inl (.int y))] [] (lH nf ns o s t) (bc, bs)) := fun f n => rfl
set_option maxRecDepth 20000 in
theorem b6_sharers (L : Nat) (xs : Nat → Int32) (nf ns : Nat) (o : Nat → Int64) (s t : KS) (v k y z : Int32) (bc bs : Nat) : ∀ f n : Nat, g_law L xs n (f + 7) 821 [(0, .inl (.retAddr 1)), (1, .inl (.ref 0)), (2, .inl (.ref 15)), (3, .inl (.ref 29)), (4, .inl (.int v)), (5, .inl (.int k)), (6, .inl (.int y))] [] (lH nf ns o s t) (bc, bs) = cond (decide (lg_cmp (o 0) y.toInt64 = 0)) (g_law L xs n f 833 [(0, .inl (.retAddr 1)), (1, .inl (.ref 0)), (2, .inl (.ref 15)), (3, .inl (.ref 29)), (4, .inl (.int v)), (5, .inl (.int k)), (6, .inl (.int y))] [] (lH nf ns o s t) (bc, bs)) (g_law L xs n f 831 [(0, .inl (.retAddr 1)), (1, .inl (.ref 0)), (2, .inl (.ref 15)), (3, .inl (.ref 29)), (4, .inl (.int v)), (5, .inl (.int k)), (6, .inl (.int y))] [] (lH nf ns o s t) (bc, bs)) := fun f n => rfl
set_option maxRecDepth 20000 in
theorem b7_sharers (L : Nat) (xs : Nat → Int32) (nf ns : Nat) (o : Nat → Int64) (s t : KS) (v k y z : Int32) (bc bs : Nat) : ∀ f n : Nat, g_law L xs n (f + 3) 833 [(0, .inl (.retAddr 1)), (1, .inl (.ref 0)), (2, .inl (.ref 15)), (3, .inl (.ref 29)), (4, .inl (.int v)), (5, .inl (.int k)), (6, .inl (.int y))] [] (lH nf ns o s t) (bc, bs) = j_law L xs n 43 [(0, .inl (.retAddr 1)), (1, .inl (.ref 0)), (2, .inl (.ref 15)), (3, .inl (.ref 29)), (4, .inl (.int (v + 4)))] [] (lH nf ns o s t) (bc, bs) := fun f n => rfl
set_option maxRecDepth 20000 in
theorem it_sharers {L nf ns : Nat} {xs : Nat → Int32} {o : Nat → Int64} {s t : KS} {v : Int32} {bc bs : Nat} (R : RR nf ns s t) (h1 : am_in (v + 1) L = true) (h2 : am_in (v + 2) L = true) : ∃ o' s' t' c d, RR nf ns s' t' ∧ ∀ f n : Nat, g_law L xs n (f + 43) 768 [(0, .inl (.retAddr 1)), (1, .inl (.ref 0)), (2, .inl (.ref 15)), (3, .inl (.ref 29)), (4, .inl (.int v))] [] (lH nf ns o s t) (bc + 6, bs + 36) = j_law L xs n 43 [(0, .inl (.retAddr 1)), (1, .inl (.ref 0)), (2, .inl (.ref 15)), (3, .inl (.ref 29)), (4, .inl (.int (v + 4)))] [] (lH nf ns o' s' t') (bc + c, bs + d) := by
  obtain ⟨s', t', R', A⟩ := a_sharers (xs (v + 1).toNatClampNeg) (xs (v + 2).toNatClampNeg) R
  have em : ∀ (s : KS) (o : Nat → Int64), F_X2_sharers [.inl (.ref 15), .inl (.int (xs (v + 1).toNatClampNeg)), .inl (.int (xs (v + 2).toNatClampNeg))] (lH nf ns o s t) = am_lf (hM nf ns [.inr (.inr (.inr (1, o)))] s) (p_X2_sharers (xs (v + 1).toNatClampNeg) (xs (v + 2).toNatClampNeg) t) := fun s o => e_X2_sharers (xs (v + 1).toNatClampNeg) (xs (v + 2).toNatClampNeg) t
  have et : ∀ (s t : KS) (o : Nat → Int64), F_X2_thrown [.inl (.ref 15)] (lH nf ns o s t) = some (.inl (some (.inl (.int (t.1 15 0)))), lH nf ns o s t) := fun s t o => e_X2_thrown t
  rcases A with ⟨x, A1, A2, A3⟩ | ⟨e, c, y, hm, A1, A2, A3⟩
  · refine ⟨vp_updL o 0 x.toInt64, s', t', 2, 12, R', fun f n => ?_⟩
    refine (b1_sharers L xs nf ns o s t v 0 0 0 bc bs (f + 30) n).trans ?_
    rw [h1, h2]
    refine (am_ri_i (w_L_sharers_i A1)).trans ?_
    refine (b2_sharers L xs nf ns _ s' t v 0 0 0 _ _ (f + 17) n).trans ?_
    rw [h1, h2]
    refine (am_ri_i ((em s' _).trans (congrArg (am_lf _) A2))).trans ?_
    refine (b3_sharers L xs nf ns _ s' t' v 0 x 0 _ _ (f + 14) n).trans ?_
    refine (am_ri_i (et s' t' _)).trans ?_
    refine (b4_sharers L xs nf ns _ s' t' v 0 x _ _ _ (f + 12) n).trans ?_
    rw [A3, show decide ((0 : Int32) = 0) = true from rfl]
    refine (b5_sharers L xs nf ns _ s' t' v 0 x 0 _ _ (f + 10) n).trans ?_
    rw [show (!decide ((0 : Int32) = 0)) = false from rfl]
    refine (b6_sharers L xs nf ns _ s' t' v 0 x 0 _ _ (f + 3) n).trans ?_
    rw [show decide (lg_cmp (vp_updL o 0 x.toInt64 0) x.toInt64 = 0) = true from decide_eq_true (lg_cmp_self _)]
    exact b7_sharers L xs nf ns _ s' t' v 0 x 0 _ _ f n
  · obtain ⟨B1, B2⟩ := w_L_sharers_x (o := o) (t := t) hm A1
    refine ⟨o, s', t', 2, 12, R', fun f n => ?_⟩
    rw [show f + 43 = (f + 30) + 13 by omega]
    refine (b1_sharers L xs nf ns o s t v 0 0 0 bc bs (f + 30) n).trans ?_
    rw [h1, h2]
    refine (am_ri_i B1).trans ?_
    refine (b2_sharers L xs nf ns _ s' t v c 0 0 _ _ (f + 17) n).trans ?_
    rw [h1, h2]
    refine (am_ri_i ((em s' _).trans (congrArg (am_lf _) A2))).trans ?_
    refine (b3_sharers L xs nf ns _ s' t' v c y 0 _ _ (f + 14) n).trans ?_
    refine (am_ri_i (et s' t' _)).trans ?_
    refine (b4_sharers L xs nf ns _ s' t' v c y _ _ _ (f + 12) n).trans ?_
    rw [A3, show decide (c = c) = true from decide_eq_true rfl]
    refine (b5_sharers L xs nf ns _ s' t' v c y 0 _ _ (f + 10) n).trans ?_
    rw [show (!decide (c = 0)) = true from by rw [decide_eq_false B2]; rfl]
    exact b7_sharers L xs nf ns _ s' t' v c y 0 _ _ (f + 7) n
set_option maxRecDepth 20000 in
theorem b1_fact (L : Nat) (xs : Nat → Int32) (nf ns : Nat) (o : Nat → Int64) (s t : KS) (v k y z : Int32) (bc bs : Nat) : ∀ f n : Nat, g_law L xs n (f + 13) 836 [(0, .inl (.retAddr 1)), (1, .inl (.ref 0)), (2, .inl (.ref 15)), (3, .inl (.ref 29)), (4, .inl (.int v))] [] (lH nf ns o s t) (bc + 6, bs + 36) = cond (am_in (v + 1) L) (cond (am_in (v + 2) L) (am_ri (F_L_fact [.inl (.ref 0), .inl (.int (xs (v + 1).toNatClampNeg)), .inl (.int (xs (v + 2).toNatClampNeg)), .inl (.ref 29)] (lH nf ns o s t)) (fun x h => g_law L xs n f 853 [(0, .inl (.retAddr 1)), (1, .inl (.ref 0)), (2, .inl (.ref 15)), (3, .inl (.ref 29)), (4, .inl (.int v))] [.inl (.int x)] h (bc + 4, bs + 24)) (fun x h => some (.inr x, h))) none) none := fun f n => rfl
set_option maxRecDepth 20000 in
theorem b2_fact (L : Nat) (xs : Nat → Int32) (nf ns : Nat) (o : Nat → Int64) (s t : KS) (v k y z : Int32) (bc bs : Nat) : ∀ f n : Nat, g_law L xs n (f + 13) 853 [(0, .inl (.retAddr 1)), (1, .inl (.ref 0)), (2, .inl (.ref 15)), (3, .inl (.ref 29)), (4, .inl (.int v))] [.inl (.int k)] (lH nf ns o s t) (bc, bs) = cond (am_in (v + 1) L) (cond (am_in (v + 2) L) (am_ri (F_X2_fact [.inl (.ref 15), .inl (.int (xs (v + 1).toNatClampNeg)), .inl (.int (xs (v + 2).toNatClampNeg))] (lH nf ns o s t)) (fun x h => g_law L xs n f 871 [(0, .inl (.retAddr 1)), (1, .inl (.ref 0)), (2, .inl (.ref 15)), (3, .inl (.ref 29)), (4, .inl (.int v)), (5, .inl (.int k))] [.inl (.int x)] h (bc, bs)) (fun x h => some (.inr x, h))) none) none := fun f n => rfl
set_option maxRecDepth 20000 in
theorem b3_fact (L : Nat) (xs : Nat → Int32) (nf ns : Nat) (o : Nat → Int64) (s t : KS) (v k y z : Int32) (bc bs : Nat) : ∀ f n : Nat, g_law L xs n (f + 3) 871 [(0, .inl (.retAddr 1)), (1, .inl (.ref 0)), (2, .inl (.ref 15)), (3, .inl (.ref 29)), (4, .inl (.int v)), (5, .inl (.int k))] [.inl (.int y)] (lH nf ns o s t) (bc, bs) = am_ri (F_X2_thrown [.inl (.ref 15)] (lH nf ns o s t)) (fun x h => g_law L xs n f 877 [(0, .inl (.retAddr 1)), (1, .inl (.ref 0)), (2, .inl (.ref 15)), (3, .inl (.ref 29)), (4, .inl (.int v)), (5, .inl (.int k)), (6, .inl (.int y))] [.inl (.int x)] h (bc, bs)) (fun x h => some (.inr x, h)) := fun f n => rfl
set_option maxRecDepth 20000 in
theorem b4_fact (L : Nat) (xs : Nat → Int32) (nf ns : Nat) (o : Nat → Int64) (s t : KS) (v k y z : Int32) (bc bs : Nat) : ∀ f n : Nat, g_law L xs n (f + 2) 877 [(0, .inl (.retAddr 1)), (1, .inl (.ref 0)), (2, .inl (.ref 15)), (3, .inl (.ref 29)), (4, .inl (.int v)), (5, .inl (.int k)), (6, .inl (.int y))] [.inl (.int z)] (lH nf ns o s t) (bc, bs) = cond (decide (z = k)) (g_law L xs n f 884 [(0, .inl (.retAddr 1)), (1, .inl (.ref 0)), (2, .inl (.ref 15)), (3, .inl (.ref 29)), (4, .inl (.int v)), (5, .inl (.int k)), (6, .inl (.int y))] [] (lH nf ns o s t) (bc, bs)) (g_law L xs n f 882 [(0, .inl (.retAddr 1)), (1, .inl (.ref 0)), (2, .inl (.ref 15)), (3, .inl (.ref 29)), (4, .inl (.int v)), (5, .inl (.int k)), (6, .inl (.int y))] [] (lH nf ns o s t) (bc, bs)) := fun f n => rfl
set_option maxRecDepth 20000 in
theorem b5_fact (L : Nat) (xs : Nat → Int32) (nf ns : Nat) (o : Nat → Int64) (s t : KS) (v k y z : Int32) (bc bs : Nat) : ∀ f n : Nat, g_law L xs n (f + 2) 884 [(0, .inl (.retAddr 1)), (1, .inl (.ref 0)), (2, .inl (.ref 15)), (3, .inl (.ref 29)), (4, .inl (.int v)), (5, .inl (.int k)), (6, .inl (.int y))] [] (lH nf ns o s t) (bc, bs) = cond (!decide (k = 0)) (g_law L xs n f 901 [(0, .inl (.retAddr 1)), (1, .inl (.ref 0)), (2, .inl (.ref 15)), (3, .inl (.ref 29)), (4, .inl (.int v)), (5, .inl (.int k)), (6, .inl (.int y))] [] (lH nf ns o s t) (bc, bs)) (g_law L xs n f 889 [(0, .inl (.retAddr 1)), (1, .inl (.ref 0)), (2, .inl (.ref 15)), (3, .inl (.ref 29)), (4, .inl (.int v)), (5, .inl (.int k)), (6, .inl (.int y))] [] (lH nf ns o s t) (bc, bs)) := fun f n => rfl
set_option maxRecDepth 20000 in
theorem b6_fact (L : Nat) (xs : Nat → Int32) (nf ns : Nat) (o : Nat → Int64) (s t : KS) (v k y z : Int32) (bc bs : Nat) : ∀ f n : Nat, g_law L xs n (f + 7) 889 [(0, .inl (.retAddr 1)), (1, .inl (.ref 0)), (2, .inl (.ref 15)), (3, .inl (.ref 29)), (4, .inl (.int v)), (5, .inl (.int k)), (6, .inl (.int y))] [] (lH nf ns o s t) (bc, bs) = cond (decide (lg_cmp (o 0) y.toInt64 = 0)) (g_law L xs n f 901 [(0, .inl (.retAddr 1)), (1, .inl (.ref 0)), (2, .inl (.ref 15)), (3, .inl (.ref 29)), (4, .inl (.int v)), (5, .inl (.int k)), (6, .inl (.int y))] [] (lH nf ns o s t) (bc, bs)) (g_law L xs n f 899 [(0, .inl (.retAddr 1)), (1, .inl (.ref 0)), (2, .inl (.ref 15)), (3, .inl (.ref 29)), (4, .inl (.int v)), (5, .inl (.int k)), (6, .inl (.int y))] [] (lH nf ns o s t) (bc, bs)) := fun f n => rfl
set_option maxRecDepth 20000 in
theorem b7_fact (L : Nat) (xs : Nat → Int32) (nf ns : Nat) (o : Nat → Int64) (s t : KS) (v k y z : Int32) (bc bs : Nat) : ∀ f n : Nat, g_law L xs n (f + 3) 901 [(0, .inl (.retAddr 1)), (1, .inl (.ref 0)), (2, .inl (.ref 15)), (3, .inl (.ref 29)), (4, .inl (.int v)), (5, .inl (.int k)), (6, .inl (.int y))] [] (lH nf ns o s t) (bc, bs) = j_law L xs n 43 [(0, .inl (.retAddr 1)), (1, .inl (.ref 0)), (2, .inl (.ref 15)), (3, .inl (.ref 29)), (4, .inl (.int (v + 4)))] [] (lH nf ns o s t) (bc, bs) := fun f n => rfl
set_option maxRecDepth 20000 in
theorem it_fact {L nf ns : Nat} {xs : Nat → Int32} {o : Nat → Int64} {s t : KS} {v : Int32} {bc bs : Nat} (R : RR nf ns s t) (h1 : am_in (v + 1) L = true) (h2 : am_in (v + 2) L = true) : ∃ o' s' t' c d, RR nf ns s' t' ∧ ∀ f n : Nat, g_law L xs n (f + 43) 836 [(0, .inl (.retAddr 1)), (1, .inl (.ref 0)), (2, .inl (.ref 15)), (3, .inl (.ref 29)), (4, .inl (.int v))] [] (lH nf ns o s t) (bc + 6, bs + 36) = j_law L xs n 43 [(0, .inl (.retAddr 1)), (1, .inl (.ref 0)), (2, .inl (.ref 15)), (3, .inl (.ref 29)), (4, .inl (.int (v + 4)))] [] (lH nf ns o' s' t') (bc + c, bs + d) := by
  obtain ⟨s', t', R', A⟩ := a_fact (xs (v + 1).toNatClampNeg) (xs (v + 2).toNatClampNeg) R
  have em : ∀ (s : KS) (o : Nat → Int64), F_X2_fact [.inl (.ref 15), .inl (.int (xs (v + 1).toNatClampNeg)), .inl (.int (xs (v + 2).toNatClampNeg))] (lH nf ns o s t) = am_lf (hM nf ns [.inr (.inr (.inr (1, o)))] s) (p_X2_fact (xs (v + 1).toNatClampNeg) (xs (v + 2).toNatClampNeg) t) := fun s o => e_X2_fact (xs (v + 1).toNatClampNeg) (xs (v + 2).toNatClampNeg) t
  have et : ∀ (s t : KS) (o : Nat → Int64), F_X2_thrown [.inl (.ref 15)] (lH nf ns o s t) = some (.inl (some (.inl (.int (t.1 15 0)))), lH nf ns o s t) := fun s t o => e_X2_thrown t
  rcases A with ⟨x, A1, A2, A3⟩ | ⟨e, c, y, hm, A1, A2, A3⟩
  · refine ⟨vp_updL o 0 x.toInt64, s', t', 4, 24, R', fun f n => ?_⟩
    refine (b1_fact L xs nf ns o s t v 0 0 0 bc bs (f + 30) n).trans ?_
    rw [h1, h2]
    refine (am_ri_i (w_L_fact_i A1)).trans ?_
    refine (b2_fact L xs nf ns _ s' t v 0 0 0 _ _ (f + 17) n).trans ?_
    rw [h1, h2]
    refine (am_ri_i ((em s' _).trans (congrArg (am_lf _) A2))).trans ?_
    refine (b3_fact L xs nf ns _ s' t' v 0 x 0 _ _ (f + 14) n).trans ?_
    refine (am_ri_i (et s' t' _)).trans ?_
    refine (b4_fact L xs nf ns _ s' t' v 0 x _ _ _ (f + 12) n).trans ?_
    rw [A3, show decide ((0 : Int32) = 0) = true from rfl]
    refine (b5_fact L xs nf ns _ s' t' v 0 x 0 _ _ (f + 10) n).trans ?_
    rw [show (!decide ((0 : Int32) = 0)) = false from rfl]
    refine (b6_fact L xs nf ns _ s' t' v 0 x 0 _ _ (f + 3) n).trans ?_
    rw [show decide (lg_cmp (vp_updL o 0 x.toInt64 0) x.toInt64 = 0) = true from decide_eq_true (lg_cmp_self _)]
    exact b7_fact L xs nf ns _ s' t' v 0 x 0 _ _ f n
  · obtain ⟨B1, B2⟩ := w_L_fact_x (o := o) (t := t) hm A1
    refine ⟨o, s', t', 4, 24, R', fun f n => ?_⟩
    rw [show f + 43 = (f + 30) + 13 by omega]
    refine (b1_fact L xs nf ns o s t v 0 0 0 bc bs (f + 30) n).trans ?_
    rw [h1, h2]
    refine (am_ri_i B1).trans ?_
    refine (b2_fact L xs nf ns _ s' t v c 0 0 _ _ (f + 17) n).trans ?_
    rw [h1, h2]
    refine (am_ri_i ((em s' _).trans (congrArg (am_lf _) A2))).trans ?_
    refine (b3_fact L xs nf ns _ s' t' v c y 0 _ _ (f + 14) n).trans ?_
    refine (am_ri_i (et s' t' _)).trans ?_
    refine (b4_fact L xs nf ns _ s' t' v c y _ _ _ (f + 12) n).trans ?_
    rw [A3, show decide (c = c) = true from decide_eq_true rfl]
    refine (b5_fact L xs nf ns _ s' t' v c y 0 _ _ (f + 10) n).trans ?_
    rw [show (!decide (c = 0)) = true from by rw [decide_eq_false B2]; rfl]
    exact b7_fact L xs nf ns _ s' t' v c y 0 _ _ (f + 7) n
set_option maxRecDepth 20000 in
theorem b1_count (L : Nat) (xs : Nat → Int32) (nf ns : Nat) (o : Nat → Int64) (s t : KS) (v k y z : Int32) (bc bs : Nat) : ∀ f n : Nat, g_law L xs n (f + 8) 904 [(0, .inl (.retAddr 1)), (1, .inl (.ref 0)), (2, .inl (.ref 15)), (3, .inl (.ref 29)), (4, .inl (.int v))] [] (lH nf ns o s t) (bc + 6, bs + 36) = cond (am_in (v + 1) L) (am_ri (F_L_count [.inl (.ref 0), .inl (.int (xs (v + 1).toNatClampNeg)), .inl (.ref 29)] (lH nf ns o s t)) (fun x h => g_law L xs n f 915 [(0, .inl (.retAddr 1)), (1, .inl (.ref 0)), (2, .inl (.ref 15)), (3, .inl (.ref 29)), (4, .inl (.int v))] [.inl (.int x)] h (bc + 5, bs + 30)) (fun x h => some (.inr x, h))) none := fun f n => rfl
set_option maxRecDepth 20000 in
theorem b2_count (L : Nat) (xs : Nat → Int32) (nf ns : Nat) (o : Nat → Int64) (s t : KS) (v k y z : Int32) (bc bs : Nat) : ∀ f n : Nat, g_law L xs n (f + 8) 915 [(0, .inl (.retAddr 1)), (1, .inl (.ref 0)), (2, .inl (.ref 15)), (3, .inl (.ref 29)), (4, .inl (.int v))] [.inl (.int k)] (lH nf ns o s t) (bc, bs) = cond (am_in (v + 1) L) (am_ri (F_X2_count [.inl (.ref 15), .inl (.int (xs (v + 1).toNatClampNeg))] (lH nf ns o s t)) (fun x h => g_law L xs n f 927 [(0, .inl (.retAddr 1)), (1, .inl (.ref 0)), (2, .inl (.ref 15)), (3, .inl (.ref 29)), (4, .inl (.int v)), (5, .inl (.int k))] [.inl (.int x)] h (bc, bs)) (fun x h => some (.inr x, h))) none := fun f n => rfl
set_option maxRecDepth 20000 in
theorem b3_count (L : Nat) (xs : Nat → Int32) (nf ns : Nat) (o : Nat → Int64) (s t : KS) (v k y z : Int32) (bc bs : Nat) : ∀ f n : Nat, g_law L xs n (f + 3) 927 [(0, .inl (.retAddr 1)), (1, .inl (.ref 0)), (2, .inl (.ref 15)), (3, .inl (.ref 29)), (4, .inl (.int v)), (5, .inl (.int k))] [.inl (.int y)] (lH nf ns o s t) (bc, bs) = am_ri (F_X2_thrown [.inl (.ref 15)] (lH nf ns o s t)) (fun x h => g_law L xs n f 933 [(0, .inl (.retAddr 1)), (1, .inl (.ref 0)), (2, .inl (.ref 15)), (3, .inl (.ref 29)), (4, .inl (.int v)), (5, .inl (.int k)), (6, .inl (.int y))] [.inl (.int x)] h (bc, bs)) (fun x h => some (.inr x, h)) := fun f n => rfl
set_option maxRecDepth 20000 in
theorem b4_count (L : Nat) (xs : Nat → Int32) (nf ns : Nat) (o : Nat → Int64) (s t : KS) (v k y z : Int32) (bc bs : Nat) : ∀ f n : Nat, g_law L xs n (f + 2) 933 [(0, .inl (.retAddr 1)), (1, .inl (.ref 0)), (2, .inl (.ref 15)), (3, .inl (.ref 29)), (4, .inl (.int v)), (5, .inl (.int k)), (6, .inl (.int y))] [.inl (.int z)] (lH nf ns o s t) (bc, bs) = cond (decide (z = k)) (g_law L xs n f 940 [(0, .inl (.retAddr 1)), (1, .inl (.ref 0)), (2, .inl (.ref 15)), (3, .inl (.ref 29)), (4, .inl (.int v)), (5, .inl (.int k)), (6, .inl (.int y))] [] (lH nf ns o s t) (bc, bs)) (g_law L xs n f 938 [(0, .inl (.retAddr 1)), (1, .inl (.ref 0)), (2, .inl (.ref 15)), (3, .inl (.ref 29)), (4, .inl (.int v)), (5, .inl (.int k)), (6, .inl (.int y))] [] (lH nf ns o s t) (bc, bs)) := fun f n => rfl
set_option maxRecDepth 20000 in
theorem b5_count (L : Nat) (xs : Nat → Int32) (nf ns : Nat) (o : Nat → Int64) (s t : KS) (v k y z : Int32) (bc bs : Nat) : ∀ f n : Nat, g_law L xs n (f + 2) 940 [(0, .inl (.retAddr 1)), (1, .inl (.ref 0)), (2, .inl (.ref 15)), (3, .inl (.ref 29)), (4, .inl (.int v)), (5, .inl (.int k)), (6, .inl (.int y))] [] (lH nf ns o s t) (bc, bs) = cond (!decide (k = 0)) (g_law L xs n f 957 [(0, .inl (.retAddr 1)), (1, .inl (.ref 0)), (2, .inl (.ref 15)), (3, .inl (.ref 29)), (4, .inl (.int v)), (5, .inl (.int k)), (6, .inl (.int y))] [] (lH nf ns o s t) (bc, bs)) (g_law L xs n f 945 [(0, .inl (.retAddr 1)), (1, .inl (.ref 0)), (2, .inl (.ref 15)), (3, .inl (.ref 29)), (4, .inl (.int v)), (5, .inl (.int k)), (6, .inl (.int y))] [] (lH nf ns o s t) (bc, bs)) := fun f n => rfl
set_option maxRecDepth 20000 in
theorem b6_count (L : Nat) (xs : Nat → Int32) (nf ns : Nat) (o : Nat → Int64) (s t : KS) (v k y z : Int32) (bc bs : Nat) : ∀ f n : Nat, g_law L xs n (f + 7) 945 [(0, .inl (.retAddr 1)), (1, .inl (.ref 0)), (2, .inl (.ref 15)), (3, .inl (.ref 29)), (4, .inl (.int v)), (5, .inl (.int k)), (6, .inl (.int y))] [] (lH nf ns o s t) (bc, bs) = cond (decide (lg_cmp (o 0) y.toInt64 = 0)) (g_law L xs n f 957 [(0, .inl (.retAddr 1)), (1, .inl (.ref 0)), (2, .inl (.ref 15)), (3, .inl (.ref 29)), (4, .inl (.int v)), (5, .inl (.int k)), (6, .inl (.int y))] [] (lH nf ns o s t) (bc, bs)) (g_law L xs n f 955 [(0, .inl (.retAddr 1)), (1, .inl (.ref 0)), (2, .inl (.ref 15)), (3, .inl (.ref 29)), (4, .inl (.int v)), (5, .inl (.int k)), (6, .inl (.int y))] [] (lH nf ns o s t) (bc, bs)) := fun f n => rfl
set_option maxRecDepth 20000 in
theorem b7_count (L : Nat) (xs : Nat → Int32) (nf ns : Nat) (o : Nat → Int64) (s t : KS) (v k y z : Int32) (bc bs : Nat) : ∀ f n : Nat, g_law L xs n (f + 3) 957 [(0, .inl (.retAddr 1)), (1, .inl (.ref 0)), (2, .inl (.ref 15)), (3, .inl (.ref 29)), (4, .inl (.int v)), (5, .inl (.int k)), (6, .inl (.int y))] [] (lH nf ns o s t) (bc, bs) = j_law L xs n 43 [(0, .inl (.retAddr 1)), (1, .inl (.ref 0)), (2, .inl (.ref 15)), (3, .inl (.ref 29)), (4, .inl (.int (v + 4)))] [] (lH nf ns o s t) (bc, bs) := fun f n => rfl
set_option maxRecDepth 20000 in
theorem it_count {L nf ns : Nat} {xs : Nat → Int32} {o : Nat → Int64} {s t : KS} {v : Int32} {bc bs : Nat} (R : RR nf ns s t) (h1 : am_in (v + 1) L = true) : ∃ o' s' t' c d, RR nf ns s' t' ∧ ∀ f n : Nat, g_law L xs n (f + 33) 904 [(0, .inl (.retAddr 1)), (1, .inl (.ref 0)), (2, .inl (.ref 15)), (3, .inl (.ref 29)), (4, .inl (.int v))] [] (lH nf ns o s t) (bc + 6, bs + 36) = j_law L xs n 43 [(0, .inl (.retAddr 1)), (1, .inl (.ref 0)), (2, .inl (.ref 15)), (3, .inl (.ref 29)), (4, .inl (.int (v + 4)))] [] (lH nf ns o' s' t') (bc + c, bs + d) := by
  obtain ⟨s', t', R', A⟩ := a_count (xs (v + 1).toNatClampNeg) R
  have em : ∀ (s : KS) (o : Nat → Int64), F_X2_count [.inl (.ref 15), .inl (.int (xs (v + 1).toNatClampNeg))] (lH nf ns o s t) = am_lf (hM nf ns [.inr (.inr (.inr (1, o)))] s) (p_X2_count (xs (v + 1).toNatClampNeg) t) := fun s o => e_X2_count (xs (v + 1).toNatClampNeg) t
  have et : ∀ (s t : KS) (o : Nat → Int64), F_X2_thrown [.inl (.ref 15)] (lH nf ns o s t) = some (.inl (some (.inl (.int (t.1 15 0)))), lH nf ns o s t) := fun s t o => e_X2_thrown t
  rcases A with ⟨x, A1, A2, A3⟩ | ⟨e, c, y, hm, A1, A2, A3⟩
  · refine ⟨vp_updL o 0 x.toInt64, s', t', 5, 30, R', fun f n => ?_⟩
    refine (b1_count L xs nf ns o s t v 0 0 0 bc bs (f + 25) n).trans ?_
    rw [h1]
    refine (am_ri_i (w_L_count_i A1)).trans ?_
    refine (b2_count L xs nf ns _ s' t v 0 0 0 _ _ (f + 17) n).trans ?_
    rw [h1]
    refine (am_ri_i ((em s' _).trans (congrArg (am_lf _) A2))).trans ?_
    refine (b3_count L xs nf ns _ s' t' v 0 x 0 _ _ (f + 14) n).trans ?_
    refine (am_ri_i (et s' t' _)).trans ?_
    refine (b4_count L xs nf ns _ s' t' v 0 x _ _ _ (f + 12) n).trans ?_
    rw [A3, show decide ((0 : Int32) = 0) = true from rfl]
    refine (b5_count L xs nf ns _ s' t' v 0 x 0 _ _ (f + 10) n).trans ?_
    rw [show (!decide ((0 : Int32) = 0)) = false from rfl]
    refine (b6_count L xs nf ns _ s' t' v 0 x 0 _ _ (f + 3) n).trans ?_
    rw [show decide (lg_cmp (vp_updL o 0 x.toInt64 0) x.toInt64 = 0) = true from decide_eq_true (lg_cmp_self _)]
    exact b7_count L xs nf ns _ s' t' v 0 x 0 _ _ f n
  · obtain ⟨B1, B2⟩ := w_L_count_x (o := o) (t := t) hm A1
    refine ⟨o, s', t', 5, 30, R', fun f n => ?_⟩
    rw [show f + 33 = (f + 25) + 8 by omega]
    refine (b1_count L xs nf ns o s t v 0 0 0 bc bs (f + 25) n).trans ?_
    rw [h1]
    refine (am_ri_i B1).trans ?_
    refine (b2_count L xs nf ns _ s' t v c 0 0 _ _ (f + 17) n).trans ?_
    rw [h1]
    refine (am_ri_i ((em s' _).trans (congrArg (am_lf _) A2))).trans ?_
    refine (b3_count L xs nf ns _ s' t' v c y 0 _ _ (f + 14) n).trans ?_
    refine (am_ri_i (et s' t' _)).trans ?_
    refine (b4_count L xs nf ns _ s' t' v c y _ _ _ (f + 12) n).trans ?_
    rw [A3, show decide (c = c) = true from decide_eq_true rfl]
    refine (b5_count L xs nf ns _ s' t' v c y 0 _ _ (f + 10) n).trans ?_
    rw [show (!decide (c = 0)) = true from by rw [decide_eq_false B2]; rfl]
    exact b7_count L xs nf ns _ s' t' v c y 0 _ _ (f + 7) n
