/-! the law's wrappers -/
theorem am_ri_i {o : Option am_O} {K : Int32 → am_H → Option am_O} {KX : Nat → am_H → Option am_O} {x : Int32} {h : am_H} (e : o = some (.inl (some (.inl (.int x))), h)) : am_ri o K KX = K x h := by rw [e]; rfl
theorem am_ri_x {o : Option am_O} {K : Int32 → am_H → Option am_O} {KX : Nat → am_H → Option am_O} {x : Nat} {h : am_H} (e : o = some (.inr x, h)) : am_ri o K KX = KX x h := by rw [e]; rfl
def am_xk (X : am_X) (nL : Nat) (rt : Option FieldType) (rs : Nat → Option (Nat × (Nat → Int32))) (hs : am_Hs) (kp : am_Kp) (jmp : am_Kj) (f pc : Nat) (is : am_I) (lv : am_Lv) (b' : Nat × Nat) (x : Nat) (h' : am_H) : Option am_O := match am_fh hs pc x with
  | none => some (.inr x, h')
  | some t => (match am_from t is with
    | (_, .astore k, n9) :: is' => if n9 = 2 then (if k < nL then am_go X nL rt rs hs kp jmp f is' (am_rm lv k) [] h' b' else none) else none
    | (_, .astore_n k, n9) :: is' => if n9 = 1 then (if k.val < nL then am_go X nL rt rs hs kp jmp f is' (am_rm lv k.val) [] h' b' else none) else none
    | _ => none)
/-- the heap of the law -/
def lH (nf ns : Nat) (o : Nat → Int64) (s t : KS) : am_H := kH nf ns (mH [.inr (.inr (.inr (1, o)))] t) s
set_option maxRecDepth 20000 in
def g_L_fork (n f pc : Nat) (lv : am_Lv) (st : List am_V) (h : am_H) (b : Nat × Nat) : Option am_O := am_go X_L_fork 4 (some .int) am_rs0 H_L_fork [] (am_lp T_L_fork X_L_fork 4 (some .int) am_rs0 H_L_fork [] n) f (am_from pc T_L_fork) lv st h b
set_option maxRecDepth 20000 in
theorem c_L_fork (nf ns : Nat) (o : Nat → Int64) (s t : KS) (a1 : Int32) : ∀ f n : Nat, g_L_fork n (f + 5) 0 [(0, .inl (.ref 0)), (1, .inl (.int a1)), (2, .inl (.ref 29))] [] (lH nf ns o s t) (3, 18) = am_ri (F_X1_fork [.inl (.ref 0), .inl (.int a1)] (lH nf ns o s t)) (fun x h => g_L_fork n f 7 [(0, .inl (.ref 0)), (1, .inl (.int a1)), (2, .inl (.ref 29))] [.inl (.int x), .inl (.int 0), .inl (.ref 29)] h (0, 0)) (fun x h => am_xk X_L_fork 4 (some .int) am_rs0 H_L_fork [] (am_lp T_L_fork X_L_fork 4 (some .int) am_rs0 H_L_fork [] n) f 4 (am_from 7 T_L_fork) [(0, .inl (.ref 0)), (1, .inl (.int a1)), (2, .inl (.ref 29))] (0, 0) x h) := fun f n => rfl
set_option maxRecDepth 20000 in
theorem w_L_fork_i {nf ns : Nat} {o : Nat → Int64} {s s' t : KS} {a1 x : Int32} (h : p_X1_fork nf ns a1 s = some (.inl (some x), s')) : F_L_fork [.inl (.ref 0), .inl (.int a1), .inl (.ref 29)] (lH nf ns o s t) = some (.inl (some (.inl (.int 0))), lH nf ns (vp_updL o 0 x.toInt64) s' t) := by
  refine (show _ = g_L_fork 399 1000 0 [(0, .inl (.ref 0)), (1, .inl (.int a1)), (2, .inl (.ref 29))] [] (lH nf ns o s t) (3, 18) from am_fn_g (Nat.le_of_ble_eq_true rfl)).trans ?_
  refine (c_L_fork nf ns o s t a1 995 399).trans ?_
  refine (am_ri_i ((e_X1_fork a1 s).trans (congrArg (am_lf _) h))).trans ?_
  exact (show ∀ f n : Nat, g_L_fork n (f + 5) 7 [(0, .inl (.ref 0)), (1, .inl (.int a1)), (2, .inl (.ref 29))] [.inl (.int x), .inl (.int 0), .inl (.ref 29)] (lH nf ns o s' t) (0, 0) = some (.inl (some (.inl (.int 0))), lH nf ns (vp_updL o 0 x.toInt64) s' t) from fun f n => rfl) 990 399
set_option maxRecDepth 20000 in
theorem w_L_fork_x {nf ns : Nat} {o : Nat → Int64} {s s' t : KS} {a1 : Int32} {e : Nat} {c : Int32} (hm : (e, c) ∈ [((0 : Nat), (1 : Int32)), (1, 2), (2, 3)]) (h : p_X1_fork nf ns a1 s = some (.inr e, s')) : F_L_fork [.inl (.ref 0), .inl (.int a1), .inl (.ref 29)] (lH nf ns o s t) = some (.inl (some (.inl (.int c))), lH nf ns o s' t) ∧ ¬ c = 0 := by
  have k : ∀ e c, (e, c) ∈ [((0 : Nat), (1 : Int32)), (1, 2), (2, 3)] → (∀ f n : Nat, am_xk X_L_fork 4 (some .int) am_rs0 H_L_fork [] (am_lp T_L_fork X_L_fork 4 (some .int) am_rs0 H_L_fork [] n) (f + 2) 4 (am_from 7 T_L_fork) [(0, .inl (.ref 0)), (1, .inl (.int a1)), (2, .inl (.ref 29))] (0, 0) e (lH nf ns o s' t) = some (.inl (some (.inl (.int c))), lH nf ns o s' t)) ∧ ¬ c = 0 := fun e c hm => by
    simp only [List.mem_cons, Prod.mk.injEq, List.not_mem_nil, or_false] at hm
    rcases hm with ⟨rfl, rfl⟩ | ⟨rfl, rfl⟩ | ⟨rfl, rfl⟩
    · exact ⟨fun f n => rfl, by decide⟩
    · exact ⟨fun f n => rfl, by decide⟩
    · exact ⟨fun f n => rfl, by decide⟩
  refine ⟨?_, (k e c hm).2⟩
  refine (show _ = g_L_fork 399 1000 0 [(0, .inl (.ref 0)), (1, .inl (.int a1)), (2, .inl (.ref 29))] [] (lH nf ns o s t) (3, 18) from am_fn_g (Nat.le_of_ble_eq_true rfl)).trans ?_
  refine (c_L_fork nf ns o s t a1 995 399).trans ?_
  refine (am_ri_x ((e_X1_fork a1 s).trans (congrArg (am_lf _) h))).trans ?_
  exact (k e c hm).1 993 399
set_option maxRecDepth 20000 in
def g_L_exec (n f pc : Nat) (lv : am_Lv) (st : List am_V) (h : am_H) (b : Nat × Nat) : Option am_O := am_go X_L_exec 5 (some .int) am_rs0 H_L_exec [] (am_lp T_L_exec X_L_exec 5 (some .int) am_rs0 H_L_exec [] n) f (am_from pc T_L_exec) lv st h b
set_option maxRecDepth 20000 in
theorem c_L_exec (nf ns : Nat) (o : Nat → Int64) (s t : KS) (a1 a2 : Int32) : ∀ f n : Nat, g_L_exec n (f + 6) 0 [(0, .inl (.ref 0)), (1, .inl (.int a1)), (2, .inl (.int a2)), (3, .inl (.ref 29))] [] (lH nf ns o s t) (3, 18) = am_ri (F_X1_exec [.inl (.ref 0), .inl (.int a1), .inl (.int a2)] (lH nf ns o s t)) (fun x h => g_L_exec n f 8 [(0, .inl (.ref 0)), (1, .inl (.int a1)), (2, .inl (.int a2)), (3, .inl (.ref 29))] [.inl (.int x), .inl (.int 0), .inl (.ref 29)] h (0, 0)) (fun x h => am_xk X_L_exec 5 (some .int) am_rs0 H_L_exec [] (am_lp T_L_exec X_L_exec 5 (some .int) am_rs0 H_L_exec [] n) f 5 (am_from 8 T_L_exec) [(0, .inl (.ref 0)), (1, .inl (.int a1)), (2, .inl (.int a2)), (3, .inl (.ref 29))] (0, 0) x h) := fun f n => rfl
set_option maxRecDepth 20000 in
theorem w_L_exec_i {nf ns : Nat} {o : Nat → Int64} {s s' t : KS} {a1 a2 x : Int32} (h : p_X1_exec nf ns a1 a2 s = some (.inl (some x), s')) : F_L_exec [.inl (.ref 0), .inl (.int a1), .inl (.int a2), .inl (.ref 29)] (lH nf ns o s t) = some (.inl (some (.inl (.int 0))), lH nf ns (vp_updL o 0 x.toInt64) s' t) := by
  refine (show _ = g_L_exec 399 1000 0 [(0, .inl (.ref 0)), (1, .inl (.int a1)), (2, .inl (.int a2)), (3, .inl (.ref 29))] [] (lH nf ns o s t) (3, 18) from am_fn_g (Nat.le_of_ble_eq_true rfl)).trans ?_
  refine (c_L_exec nf ns o s t a1 a2 994 399).trans ?_
  refine (am_ri_i ((e_X1_exec a1 a2 s).trans (congrArg (am_lf _) h))).trans ?_
  exact (show ∀ f n : Nat, g_L_exec n (f + 5) 8 [(0, .inl (.ref 0)), (1, .inl (.int a1)), (2, .inl (.int a2)), (3, .inl (.ref 29))] [.inl (.int x), .inl (.int 0), .inl (.ref 29)] (lH nf ns o s' t) (0, 0) = some (.inl (some (.inl (.int 0))), lH nf ns (vp_updL o 0 x.toInt64) s' t) from fun f n => rfl) 989 399
set_option maxRecDepth 20000 in
theorem w_L_exec_x {nf ns : Nat} {o : Nat → Int64} {s s' t : KS} {a1 a2 : Int32} {e : Nat} {c : Int32} (hm : (e, c) ∈ [((0 : Nat), (1 : Int32)), (1, 2)]) (h : p_X1_exec nf ns a1 a2 s = some (.inr e, s')) : F_L_exec [.inl (.ref 0), .inl (.int a1), .inl (.int a2), .inl (.ref 29)] (lH nf ns o s t) = some (.inl (some (.inl (.int c))), lH nf ns o s' t) ∧ ¬ c = 0 := by
  have k : ∀ e c, (e, c) ∈ [((0 : Nat), (1 : Int32)), (1, 2)] → (∀ f n : Nat, am_xk X_L_exec 5 (some .int) am_rs0 H_L_exec [] (am_lp T_L_exec X_L_exec 5 (some .int) am_rs0 H_L_exec [] n) (f + 2) 5 (am_from 8 T_L_exec) [(0, .inl (.ref 0)), (1, .inl (.int a1)), (2, .inl (.int a2)), (3, .inl (.ref 29))] (0, 0) e (lH nf ns o s' t) = some (.inl (some (.inl (.int c))), lH nf ns o s' t)) ∧ ¬ c = 0 := fun e c hm => by
    simp only [List.mem_cons, Prod.mk.injEq, List.not_mem_nil, or_false] at hm
    rcases hm with ⟨rfl, rfl⟩ | ⟨rfl, rfl⟩
    · exact ⟨fun f n => rfl, by decide⟩
    · exact ⟨fun f n => rfl, by decide⟩
  refine ⟨?_, (k e c hm).2⟩
  refine (show _ = g_L_exec 399 1000 0 [(0, .inl (.ref 0)), (1, .inl (.int a1)), (2, .inl (.int a2)), (3, .inl (.ref 29))] [] (lH nf ns o s t) (3, 18) from am_fn_g (Nat.le_of_ble_eq_true rfl)).trans ?_
  refine (c_L_exec nf ns o s t a1 a2 994 399).trans ?_
  refine (am_ri_x ((e_X1_exec a1 a2 s).trans (congrArg (am_lf _) h))).trans ?_
  exact (k e c hm).1 992 399
set_option maxRecDepth 20000 in
def g_L_exit (n f pc : Nat) (lv : am_Lv) (st : List am_V) (h : am_H) (b : Nat × Nat) : Option am_O := am_go X_L_exit 5 (some .int) am_rs0 H_L_exit [] (am_lp T_L_exit X_L_exit 5 (some .int) am_rs0 H_L_exit [] n) f (am_from pc T_L_exit) lv st h b
set_option maxRecDepth 20000 in
theorem c_L_exit (nf ns : Nat) (o : Nat → Int64) (s t : KS) (a1 a2 : Int32) : ∀ f n : Nat, g_L_exit n (f + 6) 0 [(0, .inl (.ref 0)), (1, .inl (.int a1)), (2, .inl (.int a2)), (3, .inl (.ref 29))] [] (lH nf ns o s t) (3, 18) = am_ri (F_X1_exit [.inl (.ref 0), .inl (.int a1), .inl (.int a2)] (lH nf ns o s t)) (fun x h => g_L_exit n f 8 [(0, .inl (.ref 0)), (1, .inl (.int a1)), (2, .inl (.int a2)), (3, .inl (.ref 29))] [.inl (.int x), .inl (.int 0), .inl (.ref 29)] h (0, 0)) (fun x h => am_xk X_L_exit 5 (some .int) am_rs0 H_L_exit [] (am_lp T_L_exit X_L_exit 5 (some .int) am_rs0 H_L_exit [] n) f 5 (am_from 8 T_L_exit) [(0, .inl (.ref 0)), (1, .inl (.int a1)), (2, .inl (.int a2)), (3, .inl (.ref 29))] (0, 0) x h) := fun f n => rfl
set_option maxRecDepth 20000 in
theorem w_L_exit_i {nf ns : Nat} {o : Nat → Int64} {s s' t : KS} {a1 a2 x : Int32} (h : p_X1_exit nf ns a1 a2 s = some (.inl (some x), s')) : F_L_exit [.inl (.ref 0), .inl (.int a1), .inl (.int a2), .inl (.ref 29)] (lH nf ns o s t) = some (.inl (some (.inl (.int 0))), lH nf ns (vp_updL o 0 x.toInt64) s' t) := by
  refine (show _ = g_L_exit 399 1000 0 [(0, .inl (.ref 0)), (1, .inl (.int a1)), (2, .inl (.int a2)), (3, .inl (.ref 29))] [] (lH nf ns o s t) (3, 18) from am_fn_g (Nat.le_of_ble_eq_true rfl)).trans ?_
  refine (c_L_exit nf ns o s t a1 a2 994 399).trans ?_
  refine (am_ri_i ((e_X1_exit a1 a2 s).trans (congrArg (am_lf _) h))).trans ?_
  exact (show ∀ f n : Nat, g_L_exit n (f + 5) 8 [(0, .inl (.ref 0)), (1, .inl (.int a1)), (2, .inl (.int a2)), (3, .inl (.ref 29))] [.inl (.int x), .inl (.int 0), .inl (.ref 29)] (lH nf ns o s' t) (0, 0) = some (.inl (some (.inl (.int 0))), lH nf ns (vp_updL o 0 x.toInt64) s' t) from fun f n => rfl) 989 399
set_option maxRecDepth 20000 in
theorem w_L_exit_x {nf ns : Nat} {o : Nat → Int64} {s s' t : KS} {a1 a2 : Int32} {e : Nat} {c : Int32} (hm : (e, c) ∈ [((0 : Nat), (1 : Int32)), (1, 2)]) (h : p_X1_exit nf ns a1 a2 s = some (.inr e, s')) : F_L_exit [.inl (.ref 0), .inl (.int a1), .inl (.int a2), .inl (.ref 29)] (lH nf ns o s t) = some (.inl (some (.inl (.int c))), lH nf ns o s' t) ∧ ¬ c = 0 := by
  have k : ∀ e c, (e, c) ∈ [((0 : Nat), (1 : Int32)), (1, 2)] → (∀ f n : Nat, am_xk X_L_exit 5 (some .int) am_rs0 H_L_exit [] (am_lp T_L_exit X_L_exit 5 (some .int) am_rs0 H_L_exit [] n) (f + 2) 5 (am_from 8 T_L_exit) [(0, .inl (.ref 0)), (1, .inl (.int a1)), (2, .inl (.int a2)), (3, .inl (.ref 29))] (0, 0) e (lH nf ns o s' t) = some (.inl (some (.inl (.int c))), lH nf ns o s' t)) ∧ ¬ c = 0 := fun e c hm => by
    simp only [List.mem_cons, Prod.mk.injEq, List.not_mem_nil, or_false] at hm
    rcases hm with ⟨rfl, rfl⟩ | ⟨rfl, rfl⟩
    · exact ⟨fun f n => rfl, by decide⟩
    · exact ⟨fun f n => rfl, by decide⟩
  refine ⟨?_, (k e c hm).2⟩
  refine (show _ = g_L_exit 399 1000 0 [(0, .inl (.ref 0)), (1, .inl (.int a1)), (2, .inl (.int a2)), (3, .inl (.ref 29))] [] (lH nf ns o s t) (3, 18) from am_fn_g (Nat.le_of_ble_eq_true rfl)).trans ?_
  refine (c_L_exit nf ns o s t a1 a2 994 399).trans ?_
  refine (am_ri_x ((e_X1_exit a1 a2 s).trans (congrArg (am_lf _) h))).trans ?_
  exact (k e c hm).1 992 399
set_option maxRecDepth 20000 in
def g_L_await (n f pc : Nat) (lv : am_Lv) (st : List am_V) (h : am_H) (b : Nat × Nat) : Option am_O := am_go X_L_await 4 (some .int) am_rs0 H_L_await [] (am_lp T_L_await X_L_await 4 (some .int) am_rs0 H_L_await [] n) f (am_from pc T_L_await) lv st h b
set_option maxRecDepth 20000 in
theorem c_L_await (nf ns : Nat) (o : Nat → Int64) (s t : KS) (a1 : Int32) : ∀ f n : Nat, g_L_await n (f + 5) 0 [(0, .inl (.ref 0)), (1, .inl (.int a1)), (2, .inl (.ref 29))] [] (lH nf ns o s t) (4, 24) = am_ri (F_X1_await [.inl (.ref 0), .inl (.int a1)] (lH nf ns o s t)) (fun x h => g_L_await n f 7 [(0, .inl (.ref 0)), (1, .inl (.int a1)), (2, .inl (.ref 29))] [.inl (.int x), .inl (.int 0), .inl (.ref 29)] h (0, 0)) (fun x h => am_xk X_L_await 4 (some .int) am_rs0 H_L_await [] (am_lp T_L_await X_L_await 4 (some .int) am_rs0 H_L_await [] n) f 4 (am_from 7 T_L_await) [(0, .inl (.ref 0)), (1, .inl (.int a1)), (2, .inl (.ref 29))] (0, 0) x h) := fun f n => rfl
set_option maxRecDepth 20000 in
theorem w_L_await_i {nf ns : Nat} {o : Nat → Int64} {s s' t : KS} {a1 x : Int32} (h : p_X1_await nf ns a1 s = some (.inl (some x), s')) : F_L_await [.inl (.ref 0), .inl (.int a1), .inl (.ref 29)] (lH nf ns o s t) = some (.inl (some (.inl (.int 0))), lH nf ns (vp_updL o 0 x.toInt64) s' t) := by
  refine (show _ = g_L_await 399 1000 0 [(0, .inl (.ref 0)), (1, .inl (.int a1)), (2, .inl (.ref 29))] [] (lH nf ns o s t) (4, 24) from am_fn_g (Nat.le_of_ble_eq_true rfl)).trans ?_
  refine (c_L_await nf ns o s t a1 995 399).trans ?_
  refine (am_ri_i ((e_X1_await a1 s).trans (congrArg (am_lf _) h))).trans ?_
  exact (show ∀ f n : Nat, g_L_await n (f + 5) 7 [(0, .inl (.ref 0)), (1, .inl (.int a1)), (2, .inl (.ref 29))] [.inl (.int x), .inl (.int 0), .inl (.ref 29)] (lH nf ns o s' t) (0, 0) = some (.inl (some (.inl (.int 0))), lH nf ns (vp_updL o 0 x.toInt64) s' t) from fun f n => rfl) 990 399
set_option maxRecDepth 20000 in
theorem w_L_await_x {nf ns : Nat} {o : Nat → Int64} {s s' t : KS} {a1 : Int32} {e : Nat} {c : Int32} (hm : (e, c) ∈ [((0 : Nat), (1 : Int32)), (1, 2), (2, 3), (3, 4)]) (h : p_X1_await nf ns a1 s = some (.inr e, s')) : F_L_await [.inl (.ref 0), .inl (.int a1), .inl (.ref 29)] (lH nf ns o s t) = some (.inl (some (.inl (.int c))), lH nf ns o s' t) ∧ ¬ c = 0 := by
  have k : ∀ e c, (e, c) ∈ [((0 : Nat), (1 : Int32)), (1, 2), (2, 3), (3, 4)] → (∀ f n : Nat, am_xk X_L_await 4 (some .int) am_rs0 H_L_await [] (am_lp T_L_await X_L_await 4 (some .int) am_rs0 H_L_await [] n) (f + 2) 4 (am_from 7 T_L_await) [(0, .inl (.ref 0)), (1, .inl (.int a1)), (2, .inl (.ref 29))] (0, 0) e (lH nf ns o s' t) = some (.inl (some (.inl (.int c))), lH nf ns o s' t)) ∧ ¬ c = 0 := fun e c hm => by
    simp only [List.mem_cons, Prod.mk.injEq, List.not_mem_nil, or_false] at hm
    rcases hm with ⟨rfl, rfl⟩ | ⟨rfl, rfl⟩ | ⟨rfl, rfl⟩ | ⟨rfl, rfl⟩
    · exact ⟨fun f n => rfl, by decide⟩
    · exact ⟨fun f n => rfl, by decide⟩
    · exact ⟨fun f n => rfl, by decide⟩
    · exact ⟨fun f n => rfl, by decide⟩
  refine ⟨?_, (k e c hm).2⟩
  refine (show _ = g_L_await 399 1000 0 [(0, .inl (.ref 0)), (1, .inl (.int a1)), (2, .inl (.ref 29))] [] (lH nf ns o s t) (4, 24) from am_fn_g (Nat.le_of_ble_eq_true rfl)).trans ?_
  refine (c_L_await nf ns o s t a1 995 399).trans ?_
  refine (am_ri_x ((e_X1_await a1 s).trans (congrArg (am_lf _) h))).trans ?_
  exact (k e c hm).1 993 399
set_option maxRecDepth 20000 in
def g_L_grow (n f pc : Nat) (lv : am_Lv) (st : List am_V) (h : am_H) (b : Nat × Nat) : Option am_O := am_go X_L_grow 5 (some .int) am_rs0 H_L_grow [] (am_lp T_L_grow X_L_grow 5 (some .int) am_rs0 H_L_grow [] n) f (am_from pc T_L_grow) lv st h b
set_option maxRecDepth 20000 in
theorem c_L_grow (nf ns : Nat) (o : Nat → Int64) (s t : KS) (a1 a2 : Int32) : ∀ f n : Nat, g_L_grow n (f + 6) 0 [(0, .inl (.ref 0)), (1, .inl (.int a1)), (2, .inl (.int a2)), (3, .inl (.ref 29))] [] (lH nf ns o s t) (4, 24) = am_ri (F_X1_grow [.inl (.ref 0), .inl (.int a1), .inl (.int a2)] (lH nf ns o s t)) (fun x h => g_L_grow n f 8 [(0, .inl (.ref 0)), (1, .inl (.int a1)), (2, .inl (.int a2)), (3, .inl (.ref 29))] [.inl (.int x), .inl (.int 0), .inl (.ref 29)] h (0, 0)) (fun x h => am_xk X_L_grow 5 (some .int) am_rs0 H_L_grow [] (am_lp T_L_grow X_L_grow 5 (some .int) am_rs0 H_L_grow [] n) f 5 (am_from 8 T_L_grow) [(0, .inl (.ref 0)), (1, .inl (.int a1)), (2, .inl (.int a2)), (3, .inl (.ref 29))] (0, 0) x h) := fun f n => rfl
set_option maxRecDepth 20000 in
theorem w_L_grow_i {nf ns : Nat} {o : Nat → Int64} {s s' t : KS} {a1 a2 x : Int32} (h : p_X1_grow nf ns a1 a2 s = some (.inl (some x), s')) : F_L_grow [.inl (.ref 0), .inl (.int a1), .inl (.int a2), .inl (.ref 29)] (lH nf ns o s t) = some (.inl (some (.inl (.int 0))), lH nf ns (vp_updL o 0 x.toInt64) s' t) := by
  refine (show _ = g_L_grow 399 1000 0 [(0, .inl (.ref 0)), (1, .inl (.int a1)), (2, .inl (.int a2)), (3, .inl (.ref 29))] [] (lH nf ns o s t) (4, 24) from am_fn_g (Nat.le_of_ble_eq_true rfl)).trans ?_
  refine (c_L_grow nf ns o s t a1 a2 994 399).trans ?_
  refine (am_ri_i ((e_X1_grow a1 a2 s).trans (congrArg (am_lf _) h))).trans ?_
  exact (show ∀ f n : Nat, g_L_grow n (f + 5) 8 [(0, .inl (.ref 0)), (1, .inl (.int a1)), (2, .inl (.int a2)), (3, .inl (.ref 29))] [.inl (.int x), .inl (.int 0), .inl (.ref 29)] (lH nf ns o s' t) (0, 0) = some (.inl (some (.inl (.int 0))), lH nf ns (vp_updL o 0 x.toInt64) s' t) from fun f n => rfl) 989 399
set_option maxRecDepth 20000 in
theorem w_L_grow_x {nf ns : Nat} {o : Nat → Int64} {s s' t : KS} {a1 a2 : Int32} {e : Nat} {c : Int32} (hm : (e, c) ∈ [((0 : Nat), (1 : Int32)), (1, 2), (2, 3)]) (h : p_X1_grow nf ns a1 a2 s = some (.inr e, s')) : F_L_grow [.inl (.ref 0), .inl (.int a1), .inl (.int a2), .inl (.ref 29)] (lH nf ns o s t) = some (.inl (some (.inl (.int c))), lH nf ns o s' t) ∧ ¬ c = 0 := by
  have k : ∀ e c, (e, c) ∈ [((0 : Nat), (1 : Int32)), (1, 2), (2, 3)] → (∀ f n : Nat, am_xk X_L_grow 5 (some .int) am_rs0 H_L_grow [] (am_lp T_L_grow X_L_grow 5 (some .int) am_rs0 H_L_grow [] n) (f + 2) 5 (am_from 8 T_L_grow) [(0, .inl (.ref 0)), (1, .inl (.int a1)), (2, .inl (.int a2)), (3, .inl (.ref 29))] (0, 0) e (lH nf ns o s' t) = some (.inl (some (.inl (.int c))), lH nf ns o s' t)) ∧ ¬ c = 0 := fun e c hm => by
    simp only [List.mem_cons, Prod.mk.injEq, List.not_mem_nil, or_false] at hm
    rcases hm with ⟨rfl, rfl⟩ | ⟨rfl, rfl⟩ | ⟨rfl, rfl⟩
    · exact ⟨fun f n => rfl, by decide⟩
    · exact ⟨fun f n => rfl, by decide⟩
    · exact ⟨fun f n => rfl, by decide⟩
  refine ⟨?_, (k e c hm).2⟩
  refine (show _ = g_L_grow 399 1000 0 [(0, .inl (.ref 0)), (1, .inl (.int a1)), (2, .inl (.int a2)), (3, .inl (.ref 29))] [] (lH nf ns o s t) (4, 24) from am_fn_g (Nat.le_of_ble_eq_true rfl)).trans ?_
  refine (c_L_grow nf ns o s t a1 a2 994 399).trans ?_
  refine (am_ri_x ((e_X1_grow a1 a2 s).trans (congrArg (am_lf _) h))).trans ?_
  exact (k e c hm).1 992 399
set_option maxRecDepth 20000 in
def g_L_read (n f pc : Nat) (lv : am_Lv) (st : List am_V) (h : am_H) (b : Nat × Nat) : Option am_O := am_go X_L_read 5 (some .int) am_rs0 H_L_read [] (am_lp T_L_read X_L_read 5 (some .int) am_rs0 H_L_read [] n) f (am_from pc T_L_read) lv st h b
set_option maxRecDepth 20000 in
theorem c_L_read (nf ns : Nat) (o : Nat → Int64) (s t : KS) (a1 a2 : Int32) : ∀ f n : Nat, g_L_read n (f + 6) 0 [(0, .inl (.ref 0)), (1, .inl (.int a1)), (2, .inl (.int a2)), (3, .inl (.ref 29))] [] (lH nf ns o s t) (5, 30) = am_ri (F_X1_read [.inl (.ref 0), .inl (.int a1), .inl (.int a2)] (lH nf ns o s t)) (fun x h => g_L_read n f 8 [(0, .inl (.ref 0)), (1, .inl (.int a1)), (2, .inl (.int a2)), (3, .inl (.ref 29))] [.inl (.int x), .inl (.int 0), .inl (.ref 29)] h (0, 0)) (fun x h => am_xk X_L_read 5 (some .int) am_rs0 H_L_read [] (am_lp T_L_read X_L_read 5 (some .int) am_rs0 H_L_read [] n) f 5 (am_from 8 T_L_read) [(0, .inl (.ref 0)), (1, .inl (.int a1)), (2, .inl (.int a2)), (3, .inl (.ref 29))] (0, 0) x h) := fun f n => rfl
set_option maxRecDepth 20000 in
theorem w_L_read_i {nf ns : Nat} {o : Nat → Int64} {s s' t : KS} {a1 a2 x : Int32} (h : p_X1_read nf ns a1 a2 s = some (.inl (some x), s')) : F_L_read [.inl (.ref 0), .inl (.int a1), .inl (.int a2), .inl (.ref 29)] (lH nf ns o s t) = some (.inl (some (.inl (.int 0))), lH nf ns (vp_updL o 0 x.toInt64) s' t) := by
  refine (show _ = g_L_read 399 1000 0 [(0, .inl (.ref 0)), (1, .inl (.int a1)), (2, .inl (.int a2)), (3, .inl (.ref 29))] [] (lH nf ns o s t) (5, 30) from am_fn_g (Nat.le_of_ble_eq_true rfl)).trans ?_
  refine (c_L_read nf ns o s t a1 a2 994 399).trans ?_
  refine (am_ri_i ((e_X1_read a1 a2 s).trans (congrArg (am_lf _) h))).trans ?_
  exact (show ∀ f n : Nat, g_L_read n (f + 5) 8 [(0, .inl (.ref 0)), (1, .inl (.int a1)), (2, .inl (.int a2)), (3, .inl (.ref 29))] [.inl (.int x), .inl (.int 0), .inl (.ref 29)] (lH nf ns o s' t) (0, 0) = some (.inl (some (.inl (.int 0))), lH nf ns (vp_updL o 0 x.toInt64) s' t) from fun f n => rfl) 989 399
set_option maxRecDepth 20000 in
theorem w_L_read_x {nf ns : Nat} {o : Nat → Int64} {s s' t : KS} {a1 a2 : Int32} {e : Nat} {c : Int32} (hm : (e, c) ∈ [((0 : Nat), (1 : Int32)), (1, 2), (4, 3), (3, 4)]) (h : p_X1_read nf ns a1 a2 s = some (.inr e, s')) : F_L_read [.inl (.ref 0), .inl (.int a1), .inl (.int a2), .inl (.ref 29)] (lH nf ns o s t) = some (.inl (some (.inl (.int c))), lH nf ns o s' t) ∧ ¬ c = 0 := by
  have k : ∀ e c, (e, c) ∈ [((0 : Nat), (1 : Int32)), (1, 2), (4, 3), (3, 4)] → (∀ f n : Nat, am_xk X_L_read 5 (some .int) am_rs0 H_L_read [] (am_lp T_L_read X_L_read 5 (some .int) am_rs0 H_L_read [] n) (f + 2) 5 (am_from 8 T_L_read) [(0, .inl (.ref 0)), (1, .inl (.int a1)), (2, .inl (.int a2)), (3, .inl (.ref 29))] (0, 0) e (lH nf ns o s' t) = some (.inl (some (.inl (.int c))), lH nf ns o s' t)) ∧ ¬ c = 0 := fun e c hm => by
    simp only [List.mem_cons, Prod.mk.injEq, List.not_mem_nil, or_false] at hm
    rcases hm with ⟨rfl, rfl⟩ | ⟨rfl, rfl⟩ | ⟨rfl, rfl⟩ | ⟨rfl, rfl⟩
    · exact ⟨fun f n => rfl, by decide⟩
    · exact ⟨fun f n => rfl, by decide⟩
    · exact ⟨fun f n => rfl, by decide⟩
    · exact ⟨fun f n => rfl, by decide⟩
  refine ⟨?_, (k e c hm).2⟩
  refine (show _ = g_L_read 399 1000 0 [(0, .inl (.ref 0)), (1, .inl (.int a1)), (2, .inl (.int a2)), (3, .inl (.ref 29))] [] (lH nf ns o s t) (5, 30) from am_fn_g (Nat.le_of_ble_eq_true rfl)).trans ?_
  refine (c_L_read nf ns o s t a1 a2 994 399).trans ?_
  refine (am_ri_x ((e_X1_read a1 a2 s).trans (congrArg (am_lf _) h))).trans ?_
  exact (k e c hm).1 992 399
set_option maxRecDepth 20000 in
def g_L_write (n f pc : Nat) (lv : am_Lv) (st : List am_V) (h : am_H) (b : Nat × Nat) : Option am_O := am_go X_L_write 6 (some .int) am_rs0 H_L_write [] (am_lp T_L_write X_L_write 6 (some .int) am_rs0 H_L_write [] n) f (am_from pc T_L_write) lv st h b
set_option maxRecDepth 20000 in
theorem c_L_write (nf ns : Nat) (o : Nat → Int64) (s t : KS) (a1 a2 a3 : Int32) : ∀ f n : Nat, g_L_write n (f + 7) 0 [(0, .inl (.ref 0)), (1, .inl (.int a1)), (2, .inl (.int a2)), (3, .inl (.int a3)), (4, .inl (.ref 29))] [] (lH nf ns o s t) (6, 36) = am_ri (F_X1_write [.inl (.ref 0), .inl (.int a1), .inl (.int a2), .inl (.int a3)] (lH nf ns o s t)) (fun x h => g_L_write n f 10 [(0, .inl (.ref 0)), (1, .inl (.int a1)), (2, .inl (.int a2)), (3, .inl (.int a3)), (4, .inl (.ref 29))] [.inl (.int x), .inl (.int 0), .inl (.ref 29)] h (0, 0)) (fun x h => am_xk X_L_write 6 (some .int) am_rs0 H_L_write [] (am_lp T_L_write X_L_write 6 (some .int) am_rs0 H_L_write [] n) f 7 (am_from 10 T_L_write) [(0, .inl (.ref 0)), (1, .inl (.int a1)), (2, .inl (.int a2)), (3, .inl (.int a3)), (4, .inl (.ref 29))] (0, 0) x h) := fun f n => rfl
set_option maxRecDepth 20000 in
theorem w_L_write_i {nf ns : Nat} {o : Nat → Int64} {s s' t : KS} {a1 a2 a3 x : Int32} (h : p_X1_write nf ns a1 a2 a3 s = some (.inl (some x), s')) : F_L_write [.inl (.ref 0), .inl (.int a1), .inl (.int a2), .inl (.int a3), .inl (.ref 29)] (lH nf ns o s t) = some (.inl (some (.inl (.int 0))), lH nf ns (vp_updL o 0 x.toInt64) s' t) := by
  refine (show _ = g_L_write 399 1000 0 [(0, .inl (.ref 0)), (1, .inl (.int a1)), (2, .inl (.int a2)), (3, .inl (.int a3)), (4, .inl (.ref 29))] [] (lH nf ns o s t) (6, 36) from am_fn_g (Nat.le_of_ble_eq_true rfl)).trans ?_
  refine (c_L_write nf ns o s t a1 a2 a3 993 399).trans ?_
  refine (am_ri_i ((e_X1_write a1 a2 a3 s).trans (congrArg (am_lf _) h))).trans ?_
  exact (show ∀ f n : Nat, g_L_write n (f + 5) 10 [(0, .inl (.ref 0)), (1, .inl (.int a1)), (2, .inl (.int a2)), (3, .inl (.int a3)), (4, .inl (.ref 29))] [.inl (.int x), .inl (.int 0), .inl (.ref 29)] (lH nf ns o s' t) (0, 0) = some (.inl (some (.inl (.int 0))), lH nf ns (vp_updL o 0 x.toInt64) s' t) from fun f n => rfl) 988 399
set_option maxRecDepth 20000 in
theorem w_L_write_x {nf ns : Nat} {o : Nat → Int64} {s s' t : KS} {a1 a2 a3 : Int32} {e : Nat} {c : Int32} (hm : (e, c) ∈ [((0 : Nat), (1 : Int32)), (1, 2), (4, 3), (2, 4), (3, 5)]) (h : p_X1_write nf ns a1 a2 a3 s = some (.inr e, s')) : F_L_write [.inl (.ref 0), .inl (.int a1), .inl (.int a2), .inl (.int a3), .inl (.ref 29)] (lH nf ns o s t) = some (.inl (some (.inl (.int c))), lH nf ns o s' t) ∧ ¬ c = 0 := by
  have k : ∀ e c, (e, c) ∈ [((0 : Nat), (1 : Int32)), (1, 2), (4, 3), (2, 4), (3, 5)] → (∀ f n : Nat, am_xk X_L_write 6 (some .int) am_rs0 H_L_write [] (am_lp T_L_write X_L_write 6 (some .int) am_rs0 H_L_write [] n) (f + 2) 7 (am_from 10 T_L_write) [(0, .inl (.ref 0)), (1, .inl (.int a1)), (2, .inl (.int a2)), (3, .inl (.int a3)), (4, .inl (.ref 29))] (0, 0) e (lH nf ns o s' t) = some (.inl (some (.inl (.int c))), lH nf ns o s' t)) ∧ ¬ c = 0 := fun e c hm => by
    simp only [List.mem_cons, Prod.mk.injEq, List.not_mem_nil, or_false] at hm
    rcases hm with ⟨rfl, rfl⟩ | ⟨rfl, rfl⟩ | ⟨rfl, rfl⟩ | ⟨rfl, rfl⟩ | ⟨rfl, rfl⟩
    · exact ⟨fun f n => rfl, by decide⟩
    · exact ⟨fun f n => rfl, by decide⟩
    · exact ⟨fun f n => rfl, by decide⟩
    · exact ⟨fun f n => rfl, by decide⟩
    · exact ⟨fun f n => rfl, by decide⟩
  refine ⟨?_, (k e c hm).2⟩
  refine (show _ = g_L_write 399 1000 0 [(0, .inl (.ref 0)), (1, .inl (.int a1)), (2, .inl (.int a2)), (3, .inl (.int a3)), (4, .inl (.ref 29))] [] (lH nf ns o s t) (6, 36) from am_fn_g (Nat.le_of_ble_eq_true rfl)).trans ?_
  refine (c_L_write nf ns o s t a1 a2 a3 993 399).trans ?_
  refine (am_ri_x ((e_X1_write a1 a2 a3 s).trans (congrArg (am_lf _) h))).trans ?_
  exact (k e c hm).1 991 399
set_option maxRecDepth 20000 in
def g_L_sweep (n f pc : Nat) (lv : am_Lv) (st : List am_V) (h : am_H) (b : Nat × Nat) : Option am_O := am_go X_L_sweep 4 (some .int) am_rs0 H_L_sweep [] (am_lp T_L_sweep X_L_sweep 4 (some .int) am_rs0 H_L_sweep [] n) f (am_from pc T_L_sweep) lv st h b
set_option maxRecDepth 20000 in
theorem c_L_sweep (nf ns : Nat) (o : Nat → Int64) (s t : KS) (a1 : Int32) : ∀ f n : Nat, g_L_sweep n (f + 5) 0 [(0, .inl (.ref 0)), (1, .inl (.int a1)), (2, .inl (.ref 29))] [] (lH nf ns o s t) (1, 6) = am_ri (F_X1_sweep [.inl (.ref 0), .inl (.int a1)] (lH nf ns o s t)) (fun x h => g_L_sweep n f 7 [(0, .inl (.ref 0)), (1, .inl (.int a1)), (2, .inl (.ref 29))] [.inl (.int x), .inl (.int 0), .inl (.ref 29)] h (0, 0)) (fun x h => am_xk X_L_sweep 4 (some .int) am_rs0 H_L_sweep [] (am_lp T_L_sweep X_L_sweep 4 (some .int) am_rs0 H_L_sweep [] n) f 4 (am_from 7 T_L_sweep) [(0, .inl (.ref 0)), (1, .inl (.int a1)), (2, .inl (.ref 29))] (0, 0) x h) := fun f n => rfl
set_option maxRecDepth 20000 in
theorem w_L_sweep_i {nf ns : Nat} {o : Nat → Int64} {s s' t : KS} {a1 x : Int32} (h : p_X1_sweep nf ns a1 s = some (.inl (some x), s')) : F_L_sweep [.inl (.ref 0), .inl (.int a1), .inl (.ref 29)] (lH nf ns o s t) = some (.inl (some (.inl (.int 0))), lH nf ns (vp_updL o 0 x.toInt64) s' t) := by
  refine (show _ = g_L_sweep 399 1000 0 [(0, .inl (.ref 0)), (1, .inl (.int a1)), (2, .inl (.ref 29))] [] (lH nf ns o s t) (1, 6) from am_fn_g (Nat.le_of_ble_eq_true rfl)).trans ?_
  refine (c_L_sweep nf ns o s t a1 995 399).trans ?_
  refine (am_ri_i ((e_X1_sweep a1 s).trans (congrArg (am_lf _) h))).trans ?_
  exact (show ∀ f n : Nat, g_L_sweep n (f + 5) 7 [(0, .inl (.ref 0)), (1, .inl (.int a1)), (2, .inl (.ref 29))] [.inl (.int x), .inl (.int 0), .inl (.ref 29)] (lH nf ns o s' t) (0, 0) = some (.inl (some (.inl (.int 0))), lH nf ns (vp_updL o 0 x.toInt64) s' t) from fun f n => rfl) 990 399
set_option maxRecDepth 20000 in
theorem w_L_sweep_x {nf ns : Nat} {o : Nat → Int64} {s s' t : KS} {a1 : Int32} {e : Nat} {c : Int32} (hm : (e, c) ∈ [((0 : Nat), (1 : Int32))]) (h : p_X1_sweep nf ns a1 s = some (.inr e, s')) : F_L_sweep [.inl (.ref 0), .inl (.int a1), .inl (.ref 29)] (lH nf ns o s t) = some (.inl (some (.inl (.int c))), lH nf ns o s' t) ∧ ¬ c = 0 := by
  have k : ∀ e c, (e, c) ∈ [((0 : Nat), (1 : Int32))] → (∀ f n : Nat, am_xk X_L_sweep 4 (some .int) am_rs0 H_L_sweep [] (am_lp T_L_sweep X_L_sweep 4 (some .int) am_rs0 H_L_sweep [] n) (f + 2) 4 (am_from 7 T_L_sweep) [(0, .inl (.ref 0)), (1, .inl (.int a1)), (2, .inl (.ref 29))] (0, 0) e (lH nf ns o s' t) = some (.inl (some (.inl (.int c))), lH nf ns o s' t)) ∧ ¬ c = 0 := fun e c hm => by
    simp only [List.mem_cons, Prod.mk.injEq, List.not_mem_nil, or_false] at hm
    rcases hm with ⟨rfl, rfl⟩
    · exact ⟨fun f n => rfl, by decide⟩
  refine ⟨?_, (k e c hm).2⟩
  refine (show _ = g_L_sweep 399 1000 0 [(0, .inl (.ref 0)), (1, .inl (.int a1)), (2, .inl (.ref 29))] [] (lH nf ns o s t) (1, 6) from am_fn_g (Nat.le_of_ble_eq_true rfl)).trans ?_
  refine (c_L_sweep nf ns o s t a1 995 399).trans ?_
  refine (am_ri_x ((e_X1_sweep a1 s).trans (congrArg (am_lf _) h))).trans ?_
  exact (k e c hm).1 993 399
set_option maxRecDepth 20000 in
def g_L_swapOut (n f pc : Nat) (lv : am_Lv) (st : List am_V) (h : am_H) (b : Nat × Nat) : Option am_O := am_go X_L_swapOut 4 (some .int) am_rs0 H_L_swapOut [] (am_lp T_L_swapOut X_L_swapOut 4 (some .int) am_rs0 H_L_swapOut [] n) f (am_from pc T_L_swapOut) lv st h b
set_option maxRecDepth 20000 in
theorem c_L_swapOut (nf ns : Nat) (o : Nat → Int64) (s t : KS) (a1 : Int32) : ∀ f n : Nat, g_L_swapOut n (f + 5) 0 [(0, .inl (.ref 0)), (1, .inl (.int a1)), (2, .inl (.ref 29))] [] (lH nf ns o s t) (2, 12) = am_ri (F_X1_swapOut [.inl (.ref 0), .inl (.int a1)] (lH nf ns o s t)) (fun x h => g_L_swapOut n f 7 [(0, .inl (.ref 0)), (1, .inl (.int a1)), (2, .inl (.ref 29))] [.inl (.int x), .inl (.int 0), .inl (.ref 29)] h (0, 0)) (fun x h => am_xk X_L_swapOut 4 (some .int) am_rs0 H_L_swapOut [] (am_lp T_L_swapOut X_L_swapOut 4 (some .int) am_rs0 H_L_swapOut [] n) f 4 (am_from 7 T_L_swapOut) [(0, .inl (.ref 0)), (1, .inl (.int a1)), (2, .inl (.ref 29))] (0, 0) x h) := fun f n => rfl
set_option maxRecDepth 20000 in
theorem w_L_swapOut_i {nf ns : Nat} {o : Nat → Int64} {s s' t : KS} {a1 x : Int32} (h : p_X1_swapOut nf ns a1 s = some (.inl (some x), s')) : F_L_swapOut [.inl (.ref 0), .inl (.int a1), .inl (.ref 29)] (lH nf ns o s t) = some (.inl (some (.inl (.int 0))), lH nf ns (vp_updL o 0 x.toInt64) s' t) := by
  refine (show _ = g_L_swapOut 399 1000 0 [(0, .inl (.ref 0)), (1, .inl (.int a1)), (2, .inl (.ref 29))] [] (lH nf ns o s t) (2, 12) from am_fn_g (Nat.le_of_ble_eq_true rfl)).trans ?_
  refine (c_L_swapOut nf ns o s t a1 995 399).trans ?_
  refine (am_ri_i ((e_X1_swapOut a1 s).trans (congrArg (am_lf _) h))).trans ?_
  exact (show ∀ f n : Nat, g_L_swapOut n (f + 5) 7 [(0, .inl (.ref 0)), (1, .inl (.int a1)), (2, .inl (.ref 29))] [.inl (.int x), .inl (.int 0), .inl (.ref 29)] (lH nf ns o s' t) (0, 0) = some (.inl (some (.inl (.int 0))), lH nf ns (vp_updL o 0 x.toInt64) s' t) from fun f n => rfl) 990 399
set_option maxRecDepth 20000 in
theorem w_L_swapOut_x {nf ns : Nat} {o : Nat → Int64} {s s' t : KS} {a1 : Int32} {e : Nat} {c : Int32} (hm : (e, c) ∈ [((0 : Nat), (1 : Int32)), (1, 2)]) (h : p_X1_swapOut nf ns a1 s = some (.inr e, s')) : F_L_swapOut [.inl (.ref 0), .inl (.int a1), .inl (.ref 29)] (lH nf ns o s t) = some (.inl (some (.inl (.int c))), lH nf ns o s' t) ∧ ¬ c = 0 := by
  have k : ∀ e c, (e, c) ∈ [((0 : Nat), (1 : Int32)), (1, 2)] → (∀ f n : Nat, am_xk X_L_swapOut 4 (some .int) am_rs0 H_L_swapOut [] (am_lp T_L_swapOut X_L_swapOut 4 (some .int) am_rs0 H_L_swapOut [] n) (f + 2) 4 (am_from 7 T_L_swapOut) [(0, .inl (.ref 0)), (1, .inl (.int a1)), (2, .inl (.ref 29))] (0, 0) e (lH nf ns o s' t) = some (.inl (some (.inl (.int c))), lH nf ns o s' t)) ∧ ¬ c = 0 := fun e c hm => by
    simp only [List.mem_cons, Prod.mk.injEq, List.not_mem_nil, or_false] at hm
    rcases hm with ⟨rfl, rfl⟩ | ⟨rfl, rfl⟩
    · exact ⟨fun f n => rfl, by decide⟩
    · exact ⟨fun f n => rfl, by decide⟩
  refine ⟨?_, (k e c hm).2⟩
  refine (show _ = g_L_swapOut 399 1000 0 [(0, .inl (.ref 0)), (1, .inl (.int a1)), (2, .inl (.ref 29))] [] (lH nf ns o s t) (2, 12) from am_fn_g (Nat.le_of_ble_eq_true rfl)).trans ?_
  refine (c_L_swapOut nf ns o s t a1 995 399).trans ?_
  refine (am_ri_x ((e_X1_swapOut a1 s).trans (congrArg (am_lf _) h))).trans ?_
  exact (k e c hm).1 993 399
set_option maxRecDepth 20000 in
def g_L_where (n f pc : Nat) (lv : am_Lv) (st : List am_V) (h : am_H) (b : Nat × Nat) : Option am_O := am_go X_L_where 5 (some .int) am_rs0 H_L_where [] (am_lp T_L_where X_L_where 5 (some .int) am_rs0 H_L_where [] n) f (am_from pc T_L_where) lv st h b
set_option maxRecDepth 20000 in
theorem c_L_where (nf ns : Nat) (o : Nat → Int64) (s t : KS) (a1 a2 : Int32) : ∀ f n : Nat, g_L_where n (f + 6) 0 [(0, .inl (.ref 0)), (1, .inl (.int a1)), (2, .inl (.int a2)), (3, .inl (.ref 29))] [] (lH nf ns o s t) (4, 24) = am_ri (F_X1_where [.inl (.ref 0), .inl (.int a1), .inl (.int a2)] (lH nf ns o s t)) (fun x h => g_L_where n f 8 [(0, .inl (.ref 0)), (1, .inl (.int a1)), (2, .inl (.int a2)), (3, .inl (.ref 29))] [.inl (.int x), .inl (.int 0), .inl (.ref 29)] h (0, 0)) (fun x h => am_xk X_L_where 5 (some .int) am_rs0 H_L_where [] (am_lp T_L_where X_L_where 5 (some .int) am_rs0 H_L_where [] n) f 5 (am_from 8 T_L_where) [(0, .inl (.ref 0)), (1, .inl (.int a1)), (2, .inl (.int a2)), (3, .inl (.ref 29))] (0, 0) x h) := fun f n => rfl
set_option maxRecDepth 20000 in
theorem w_L_where_i {nf ns : Nat} {o : Nat → Int64} {s s' t : KS} {a1 a2 x : Int32} (h : p_X1_where nf ns a1 a2 s = some (.inl (some x), s')) : F_L_where [.inl (.ref 0), .inl (.int a1), .inl (.int a2), .inl (.ref 29)] (lH nf ns o s t) = some (.inl (some (.inl (.int 0))), lH nf ns (vp_updL o 0 x.toInt64) s' t) := by
  refine (show _ = g_L_where 399 1000 0 [(0, .inl (.ref 0)), (1, .inl (.int a1)), (2, .inl (.int a2)), (3, .inl (.ref 29))] [] (lH nf ns o s t) (4, 24) from am_fn_g (Nat.le_of_ble_eq_true rfl)).trans ?_
  refine (c_L_where nf ns o s t a1 a2 994 399).trans ?_
  refine (am_ri_i ((e_X1_where a1 a2 s).trans (congrArg (am_lf _) h))).trans ?_
  exact (show ∀ f n : Nat, g_L_where n (f + 5) 8 [(0, .inl (.ref 0)), (1, .inl (.int a1)), (2, .inl (.int a2)), (3, .inl (.ref 29))] [.inl (.int x), .inl (.int 0), .inl (.ref 29)] (lH nf ns o s' t) (0, 0) = some (.inl (some (.inl (.int 0))), lH nf ns (vp_updL o 0 x.toInt64) s' t) from fun f n => rfl) 989 399
set_option maxRecDepth 20000 in
theorem w_L_where_x {nf ns : Nat} {o : Nat → Int64} {s s' t : KS} {a1 a2 : Int32} {e : Nat} {c : Int32} (hm : (e, c) ∈ [((0 : Nat), (1 : Int32)), (1, 2), (4, 3)]) (h : p_X1_where nf ns a1 a2 s = some (.inr e, s')) : F_L_where [.inl (.ref 0), .inl (.int a1), .inl (.int a2), .inl (.ref 29)] (lH nf ns o s t) = some (.inl (some (.inl (.int c))), lH nf ns o s' t) ∧ ¬ c = 0 := by
  have k : ∀ e c, (e, c) ∈ [((0 : Nat), (1 : Int32)), (1, 2), (4, 3)] → (∀ f n : Nat, am_xk X_L_where 5 (some .int) am_rs0 H_L_where [] (am_lp T_L_where X_L_where 5 (some .int) am_rs0 H_L_where [] n) (f + 2) 5 (am_from 8 T_L_where) [(0, .inl (.ref 0)), (1, .inl (.int a1)), (2, .inl (.int a2)), (3, .inl (.ref 29))] (0, 0) e (lH nf ns o s' t) = some (.inl (some (.inl (.int c))), lH nf ns o s' t)) ∧ ¬ c = 0 := fun e c hm => by
    simp only [List.mem_cons, Prod.mk.injEq, List.not_mem_nil, or_false] at hm
    rcases hm with ⟨rfl, rfl⟩ | ⟨rfl, rfl⟩ | ⟨rfl, rfl⟩
    · exact ⟨fun f n => rfl, by decide⟩
    · exact ⟨fun f n => rfl, by decide⟩
    · exact ⟨fun f n => rfl, by decide⟩
  refine ⟨?_, (k e c hm).2⟩
  refine (show _ = g_L_where 399 1000 0 [(0, .inl (.ref 0)), (1, .inl (.int a1)), (2, .inl (.int a2)), (3, .inl (.ref 29))] [] (lH nf ns o s t) (4, 24) from am_fn_g (Nat.le_of_ble_eq_true rfl)).trans ?_
  refine (c_L_where nf ns o s t a1 a2 994 399).trans ?_
  refine (am_ri_x ((e_X1_where a1 a2 s).trans (congrArg (am_lf _) h))).trans ?_
  exact (k e c hm).1 992 399
set_option maxRecDepth 20000 in
def g_L_sharers (n f pc : Nat) (lv : am_Lv) (st : List am_V) (h : am_H) (b : Nat × Nat) : Option am_O := am_go X_L_sharers 5 (some .int) am_rs0 H_L_sharers [] (am_lp T_L_sharers X_L_sharers 5 (some .int) am_rs0 H_L_sharers [] n) f (am_from pc T_L_sharers) lv st h b
set_option maxRecDepth 20000 in
theorem c_L_sharers (nf ns : Nat) (o : Nat → Int64) (s t : KS) (a1 a2 : Int32) : ∀ f n : Nat, g_L_sharers n (f + 6) 0 [(0, .inl (.ref 0)), (1, .inl (.int a1)), (2, .inl (.int a2)), (3, .inl (.ref 29))] [] (lH nf ns o s t) (4, 24) = am_ri (F_X1_sharers [.inl (.ref 0), .inl (.int a1), .inl (.int a2)] (lH nf ns o s t)) (fun x h => g_L_sharers n f 8 [(0, .inl (.ref 0)), (1, .inl (.int a1)), (2, .inl (.int a2)), (3, .inl (.ref 29))] [.inl (.int x), .inl (.int 0), .inl (.ref 29)] h (0, 0)) (fun x h => am_xk X_L_sharers 5 (some .int) am_rs0 H_L_sharers [] (am_lp T_L_sharers X_L_sharers 5 (some .int) am_rs0 H_L_sharers [] n) f 5 (am_from 8 T_L_sharers) [(0, .inl (.ref 0)), (1, .inl (.int a1)), (2, .inl (.int a2)), (3, .inl (.ref 29))] (0, 0) x h) := fun f n => rfl
set_option maxRecDepth 20000 in
theorem w_L_sharers_i {nf ns : Nat} {o : Nat → Int64} {s s' t : KS} {a1 a2 x : Int32} (h : p_X1_sharers nf ns a1 a2 s = some (.inl (some x), s')) : F_L_sharers [.inl (.ref 0), .inl (.int a1), .inl (.int a2), .inl (.ref 29)] (lH nf ns o s t) = some (.inl (some (.inl (.int 0))), lH nf ns (vp_updL o 0 x.toInt64) s' t) := by
  refine (show _ = g_L_sharers 399 1000 0 [(0, .inl (.ref 0)), (1, .inl (.int a1)), (2, .inl (.int a2)), (3, .inl (.ref 29))] [] (lH nf ns o s t) (4, 24) from am_fn_g (Nat.le_of_ble_eq_true rfl)).trans ?_
  refine (c_L_sharers nf ns o s t a1 a2 994 399).trans ?_
  refine (am_ri_i ((e_X1_sharers a1 a2 s).trans (congrArg (am_lf _) h))).trans ?_
  exact (show ∀ f n : Nat, g_L_sharers n (f + 5) 8 [(0, .inl (.ref 0)), (1, .inl (.int a1)), (2, .inl (.int a2)), (3, .inl (.ref 29))] [.inl (.int x), .inl (.int 0), .inl (.ref 29)] (lH nf ns o s' t) (0, 0) = some (.inl (some (.inl (.int 0))), lH nf ns (vp_updL o 0 x.toInt64) s' t) from fun f n => rfl) 989 399
set_option maxRecDepth 20000 in
theorem w_L_sharers_x {nf ns : Nat} {o : Nat → Int64} {s s' t : KS} {a1 a2 : Int32} {e : Nat} {c : Int32} (hm : (e, c) ∈ [((0 : Nat), (1 : Int32)), (1, 2), (4, 3)]) (h : p_X1_sharers nf ns a1 a2 s = some (.inr e, s')) : F_L_sharers [.inl (.ref 0), .inl (.int a1), .inl (.int a2), .inl (.ref 29)] (lH nf ns o s t) = some (.inl (some (.inl (.int c))), lH nf ns o s' t) ∧ ¬ c = 0 := by
  have k : ∀ e c, (e, c) ∈ [((0 : Nat), (1 : Int32)), (1, 2), (4, 3)] → (∀ f n : Nat, am_xk X_L_sharers 5 (some .int) am_rs0 H_L_sharers [] (am_lp T_L_sharers X_L_sharers 5 (some .int) am_rs0 H_L_sharers [] n) (f + 2) 5 (am_from 8 T_L_sharers) [(0, .inl (.ref 0)), (1, .inl (.int a1)), (2, .inl (.int a2)), (3, .inl (.ref 29))] (0, 0) e (lH nf ns o s' t) = some (.inl (some (.inl (.int c))), lH nf ns o s' t)) ∧ ¬ c = 0 := fun e c hm => by
    simp only [List.mem_cons, Prod.mk.injEq, List.not_mem_nil, or_false] at hm
    rcases hm with ⟨rfl, rfl⟩ | ⟨rfl, rfl⟩ | ⟨rfl, rfl⟩
    · exact ⟨fun f n => rfl, by decide⟩
    · exact ⟨fun f n => rfl, by decide⟩
    · exact ⟨fun f n => rfl, by decide⟩
  refine ⟨?_, (k e c hm).2⟩
  refine (show _ = g_L_sharers 399 1000 0 [(0, .inl (.ref 0)), (1, .inl (.int a1)), (2, .inl (.int a2)), (3, .inl (.ref 29))] [] (lH nf ns o s t) (4, 24) from am_fn_g (Nat.le_of_ble_eq_true rfl)).trans ?_
  refine (c_L_sharers nf ns o s t a1 a2 994 399).trans ?_
  refine (am_ri_x ((e_X1_sharers a1 a2 s).trans (congrArg (am_lf _) h))).trans ?_
  exact (k e c hm).1 992 399
set_option maxRecDepth 20000 in
def g_L_fact (n f pc : Nat) (lv : am_Lv) (st : List am_V) (h : am_H) (b : Nat × Nat) : Option am_O := am_go X_L_fact 5 (some .int) am_rs0 H_L_fact [] (am_lp T_L_fact X_L_fact 5 (some .int) am_rs0 H_L_fact [] n) f (am_from pc T_L_fact) lv st h b
set_option maxRecDepth 20000 in
theorem c_L_fact (nf ns : Nat) (o : Nat → Int64) (s t : KS) (a1 a2 : Int32) : ∀ f n : Nat, g_L_fact n (f + 6) 0 [(0, .inl (.ref 0)), (1, .inl (.int a1)), (2, .inl (.int a2)), (3, .inl (.ref 29))] [] (lH nf ns o s t) (2, 12) = am_ri (F_X1_fact [.inl (.ref 0), .inl (.int a1), .inl (.int a2)] (lH nf ns o s t)) (fun x h => g_L_fact n f 8 [(0, .inl (.ref 0)), (1, .inl (.int a1)), (2, .inl (.int a2)), (3, .inl (.ref 29))] [.inl (.int x), .inl (.int 0), .inl (.ref 29)] h (0, 0)) (fun x h => am_xk X_L_fact 5 (some .int) am_rs0 H_L_fact [] (am_lp T_L_fact X_L_fact 5 (some .int) am_rs0 H_L_fact [] n) f 5 (am_from 8 T_L_fact) [(0, .inl (.ref 0)), (1, .inl (.int a1)), (2, .inl (.int a2)), (3, .inl (.ref 29))] (0, 0) x h) := fun f n => rfl
set_option maxRecDepth 20000 in
theorem w_L_fact_i {nf ns : Nat} {o : Nat → Int64} {s s' t : KS} {a1 a2 x : Int32} (h : p_X1_fact nf ns a1 a2 s = some (.inl (some x), s')) : F_L_fact [.inl (.ref 0), .inl (.int a1), .inl (.int a2), .inl (.ref 29)] (lH nf ns o s t) = some (.inl (some (.inl (.int 0))), lH nf ns (vp_updL o 0 x.toInt64) s' t) := by
  refine (show _ = g_L_fact 399 1000 0 [(0, .inl (.ref 0)), (1, .inl (.int a1)), (2, .inl (.int a2)), (3, .inl (.ref 29))] [] (lH nf ns o s t) (2, 12) from am_fn_g (Nat.le_of_ble_eq_true rfl)).trans ?_
  refine (c_L_fact nf ns o s t a1 a2 994 399).trans ?_
  refine (am_ri_i ((e_X1_fact a1 a2 s).trans (congrArg (am_lf _) h))).trans ?_
  exact (show ∀ f n : Nat, g_L_fact n (f + 5) 8 [(0, .inl (.ref 0)), (1, .inl (.int a1)), (2, .inl (.int a2)), (3, .inl (.ref 29))] [.inl (.int x), .inl (.int 0), .inl (.ref 29)] (lH nf ns o s' t) (0, 0) = some (.inl (some (.inl (.int 0))), lH nf ns (vp_updL o 0 x.toInt64) s' t) from fun f n => rfl) 989 399
set_option maxRecDepth 20000 in
theorem w_L_fact_x {nf ns : Nat} {o : Nat → Int64} {s s' t : KS} {a1 a2 : Int32} {e : Nat} {c : Int32} (hm : (e, c) ∈ [((0 : Nat), (1 : Int32))]) (h : p_X1_fact nf ns a1 a2 s = some (.inr e, s')) : F_L_fact [.inl (.ref 0), .inl (.int a1), .inl (.int a2), .inl (.ref 29)] (lH nf ns o s t) = some (.inl (some (.inl (.int c))), lH nf ns o s' t) ∧ ¬ c = 0 := by
  have k : ∀ e c, (e, c) ∈ [((0 : Nat), (1 : Int32))] → (∀ f n : Nat, am_xk X_L_fact 5 (some .int) am_rs0 H_L_fact [] (am_lp T_L_fact X_L_fact 5 (some .int) am_rs0 H_L_fact [] n) (f + 2) 5 (am_from 8 T_L_fact) [(0, .inl (.ref 0)), (1, .inl (.int a1)), (2, .inl (.int a2)), (3, .inl (.ref 29))] (0, 0) e (lH nf ns o s' t) = some (.inl (some (.inl (.int c))), lH nf ns o s' t)) ∧ ¬ c = 0 := fun e c hm => by
    simp only [List.mem_cons, Prod.mk.injEq, List.not_mem_nil, or_false] at hm
    rcases hm with ⟨rfl, rfl⟩
    · exact ⟨fun f n => rfl, by decide⟩
  refine ⟨?_, (k e c hm).2⟩
  refine (show _ = g_L_fact 399 1000 0 [(0, .inl (.ref 0)), (1, .inl (.int a1)), (2, .inl (.int a2)), (3, .inl (.ref 29))] [] (lH nf ns o s t) (2, 12) from am_fn_g (Nat.le_of_ble_eq_true rfl)).trans ?_
  refine (c_L_fact nf ns o s t a1 a2 994 399).trans ?_
  refine (am_ri_x ((e_X1_fact a1 a2 s).trans (congrArg (am_lf _) h))).trans ?_
  exact (k e c hm).1 992 399
set_option maxRecDepth 20000 in
def g_L_count (n f pc : Nat) (lv : am_Lv) (st : List am_V) (h : am_H) (b : Nat × Nat) : Option am_O := am_go X_L_count 4 (some .int) am_rs0 H_L_count [] (am_lp T_L_count X_L_count 4 (some .int) am_rs0 H_L_count [] n) f (am_from pc T_L_count) lv st h b
set_option maxRecDepth 20000 in
theorem c_L_count (nf ns : Nat) (o : Nat → Int64) (s t : KS) (a1 : Int32) : ∀ f n : Nat, g_L_count n (f + 5) 0 [(0, .inl (.ref 0)), (1, .inl (.int a1)), (2, .inl (.ref 29))] [] (lH nf ns o s t) (1, 6) = am_ri (F_X1_count [.inl (.ref 0), .inl (.int a1)] (lH nf ns o s t)) (fun x h => g_L_count n f 7 [(0, .inl (.ref 0)), (1, .inl (.int a1)), (2, .inl (.ref 29))] [.inl (.int x), .inl (.int 0), .inl (.ref 29)] h (0, 0)) (fun x h => am_xk X_L_count 4 (some .int) am_rs0 H_L_count [] (am_lp T_L_count X_L_count 4 (some .int) am_rs0 H_L_count [] n) f 4 (am_from 7 T_L_count) [(0, .inl (.ref 0)), (1, .inl (.int a1)), (2, .inl (.ref 29))] (0, 0) x h) := fun f n => rfl
set_option maxRecDepth 20000 in
theorem w_L_count_i {nf ns : Nat} {o : Nat → Int64} {s s' t : KS} {a1 x : Int32} (h : p_X1_count nf ns a1 s = some (.inl (some x), s')) : F_L_count [.inl (.ref 0), .inl (.int a1), .inl (.ref 29)] (lH nf ns o s t) = some (.inl (some (.inl (.int 0))), lH nf ns (vp_updL o 0 x.toInt64) s' t) := by
  refine (show _ = g_L_count 399 1000 0 [(0, .inl (.ref 0)), (1, .inl (.int a1)), (2, .inl (.ref 29))] [] (lH nf ns o s t) (1, 6) from am_fn_g (Nat.le_of_ble_eq_true rfl)).trans ?_
  refine (c_L_count nf ns o s t a1 995 399).trans ?_
  refine (am_ri_i ((e_X1_count a1 s).trans (congrArg (am_lf _) h))).trans ?_
  exact (show ∀ f n : Nat, g_L_count n (f + 5) 7 [(0, .inl (.ref 0)), (1, .inl (.int a1)), (2, .inl (.ref 29))] [.inl (.int x), .inl (.int 0), .inl (.ref 29)] (lH nf ns o s' t) (0, 0) = some (.inl (some (.inl (.int 0))), lH nf ns (vp_updL o 0 x.toInt64) s' t) from fun f n => rfl) 990 399
set_option maxRecDepth 20000 in
theorem w_L_count_x {nf ns : Nat} {o : Nat → Int64} {s s' t : KS} {a1 : Int32} {e : Nat} {c : Int32} (hm : (e, c) ∈ [((0 : Nat), (1 : Int32))]) (h : p_X1_count nf ns a1 s = some (.inr e, s')) : F_L_count [.inl (.ref 0), .inl (.int a1), .inl (.ref 29)] (lH nf ns o s t) = some (.inl (some (.inl (.int c))), lH nf ns o s' t) ∧ ¬ c = 0 := by
  have k : ∀ e c, (e, c) ∈ [((0 : Nat), (1 : Int32))] → (∀ f n : Nat, am_xk X_L_count 4 (some .int) am_rs0 H_L_count [] (am_lp T_L_count X_L_count 4 (some .int) am_rs0 H_L_count [] n) (f + 2) 4 (am_from 7 T_L_count) [(0, .inl (.ref 0)), (1, .inl (.int a1)), (2, .inl (.ref 29))] (0, 0) e (lH nf ns o s' t) = some (.inl (some (.inl (.int c))), lH nf ns o s' t)) ∧ ¬ c = 0 := fun e c hm => by
    simp only [List.mem_cons, Prod.mk.injEq, List.not_mem_nil, or_false] at hm
    rcases hm with ⟨rfl, rfl⟩
    · exact ⟨fun f n => rfl, by decide⟩
  refine ⟨?_, (k e c hm).2⟩
  refine (show _ = g_L_count 399 1000 0 [(0, .inl (.ref 0)), (1, .inl (.int a1)), (2, .inl (.ref 29))] [] (lH nf ns o s t) (1, 6) from am_fn_g (Nat.le_of_ble_eq_true rfl)).trans ?_
  refine (c_L_count nf ns o s t a1 995 399).trans ?_
  refine (am_ri_x ((e_X1_count a1 s).trans (congrArg (am_lf _) h))).trans ?_
  exact (k e c hm).1 993 399
