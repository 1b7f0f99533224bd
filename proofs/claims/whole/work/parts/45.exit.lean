theorem tp_p {nf ns q k : Nat} {s : KS} : p_X0_textPage nf ns (nn q) (nn k) s = some (.inl (some (nn (2 * q + k))), s) := by
  simp only [p_X0_textPage, nn_2m, nn_add, Nat.mul_comm q 2]
theorem nn_2g {a : Nat} (h : a < 2147483648) : (2 ≤ nn a) = (2 ≤ a) := nn_le (a := 2) (b := a) (by omega) h
theorem sp_join {nf ns f p q k : Nat} {s : KS} (hq : q < 3) (hk : k < 2) : p_X1_startProgram_L2 nf ns (f + 1) (nn p) (nn q) (nn k) s = p_X1_startProgram_L2 nf ns f (nn p) (nn q) (nn (k + 1)) (kS s 10 (2 * q + k) (s.1 10 (2 * q + k) + 1)) := by
  simp (disch := omega) only [p_X1_startProgram_L2, nn_2g, (fF (by omega) : (2 ≤ k) = False), tp_p, kbi, join_p (show 2 * q + k < 60 by omega), kbv, nn_p1, decide_false, cond_false]
theorem sp_leave {nf ns f p q k : Nat} {s s1 : KS} (hk : k = 2) (h : p_X1_leavePages nf ns (nn p) 0 11 s = some (.inl none, s1)) : p_X1_startProgram_L2 nf ns (f + 1) (nn p) (nn q) (nn k) s = p_X1_startProgram_L35 nf ns (f + 1) (nn p) (nn q) (nn 0) s1 := by
  have : (0 : Int32) = nn 0 := rfl
  rw [← this]
  generalize hW : p_X1_startProgram_L35 nf ns (f + 1) = W
  simp (disch := omega) only [p_X1_startProgram_L2, nn_2g, (eq_true (by omega) : (2 ≤ k) = True), h, kbv, decide_true, cond_true, hW]
theorem sp_bind {nf ns f p q k : Nat} {s : KS} (hp : p < 6) (hk : k < 2) : p_X1_startProgram_L35 nf ns (f + 1) (nn p) (nn q) (nn k) s = p_X1_startProgram_L35 nf ns f (nn p) (nn q) (nn (k + 1)) (kG s p k (nn (2 * q + k))) := by
  simp (disch := omega) only [p_X1_startProgram_L35, nn_2g, (fF (by omega) : (2 ≤ k) = False), nn_in, nn_tn, hp, tp_p, kbi, (by omega : k < 11), nn_p1, Bool.and_self, decide_true, decide_false, cond_true, cond_false]
theorem dq_i (q : Nat) : (if q = 0 then 1 else if q = 1 then 2 else 4 : Int32) = nn (dq q) := by
  unfold dq
  by_cases h : q = 0
  · rw [if_pos h, if_pos h]; rfl
  · rw [if_neg h, if_neg h]
    by_cases h' : q = 1
    · rw [if_pos h', if_pos h']; rfl
    · rw [if_neg h', if_neg h']; rfl
theorem sp_end {nf ns f p q k : Nat} {s s6 s7 : KS} (hp : p < 6) (hq : q < 3) (hk : k = 2) (h1 : p_X1_addPages nf ns (nn p) 2 (nn (2 + dq q)) (kS (kS (kS s 2 p (nn q)) 5 p (nn (dq q))) 6 p 1) = some (.inl none, s6)) (h2 : p_X1_addPages nf ns (nn p) 10 11 s6 = some (.inl none, s7)) : p_X1_startProgram_L35 nf ns (f + 1) (nn p) (nn q) (nn k) s = some (.inl none, s7) := by
  have e5 : (kS (kS (kS s 2 p (nn q)) 5 p (nn (dq q))) 6 p 1).1 5 p = nn (dq q) := upd_a _ _ _
  simp (disch := omega) only [p_X1_startProgram_L35, nn_2g, (eq_true (by omega) : (2 ≤ k) = True), nn_in, nn_tn, hp, hq, dq_i, e5, nn_2p, h1, h2, kbv, decide_true, cond_true]
theorem sp_p {nf ns p q : Nat} {s s3 s6 s7 : KS} (hp : p < 6) (hq : q < 3) (h0 : p_X1_leavePages nf ns (nn p) 0 11 (kS (kS s 10 (2 * q + 0) (s.1 10 (2 * q + 0) + 1)) 10 (2 * q + 1) ((kS s 10 (2 * q + 0) (s.1 10 (2 * q + 0) + 1)).1 10 (2 * q + 1) + 1)) = some (.inl none, s3)) (h1 : p_X1_addPages nf ns (nn p) 2 (nn (2 + dq q)) (kS (kS (kS (kG (kG s3 p 0 (nn (2 * q + 0))) p 1 (nn (2 * q + 1))) 2 p (nn q)) 5 p (nn (dq q))) 6 p 1) = some (.inl none, s6)) (h2 : p_X1_addPages nf ns (nn p) 10 11 s6 = some (.inl none, s7)) : p_X1_startProgram nf ns (nn p) (nn q) s = some (.inl none, s7) := by
  have e : p_X1_startProgram nf ns (nn p) (nn q) s = p_X1_startProgram_L2 nf ns (395 + 2 + 1 + 1 + 1) (nn p) (nn q) (nn 0) s := rfl
  rw [e]
  generalize 395 = v
  rw [sp_join hq (by omega), sp_join hq (by omega), sp_leave rfl h0, sp_bind hp (by omega), sp_bind (f := v + 1) hp (by omega)]
  exact sp_end hp hq rfl h1 h2
/-- a process starts a program, in class and reference -/
theorem exec_pair {nf ns p q : Nat} {φ : Nat → Nat} {L : Nat → Prop} {s t : KS} (R : RQ nf ns φ L s t) (hp : p < 6) (hr : s.1 1 p = 1) (hq : q < 3) : ∃ s' t1 t2 t3, p_X1_startProgram nf ns (nn p) (nn q) s = some (.inl none, s') ∧ p_X2_drop (nn p) t = some (.inl none, t1) ∧ p_X2_clean (kS t1 17 p (nn q)) = some (.inl none, t2) ∧ p_X2_begin (nn p) (nn q) t2 = some (.inl none, t3) ∧ RR nf ns s' t3 ∧ s'.1 5 p = nn (dq q) ∧ t3.1 20 p = nn (dq q) ∧ t3.1 15 = t.1 15 := by
  obtain ⟨r1, r2, _⟩ := rq_run R hp hr
  have J1 := rx_join R.1 (show 2 * q + 0 < 6 by omega) rfl
  have J2 := rx_join J1 (show 2 * q + 1 < 6 by omega) (by rw [eS_n (by omega)]; rfl)
  obtain ⟨t1, d1, d2, d3, d4⟩ := md_p hp J2
  obtain ⟨s3, L3, G3, b1, b2, b3, b4⟩ := lp_loop hp (show 11 ≤ 11 by omega) 11 0 400 _ _ _ (by omega) (by omega) (fun _ _ _ _ => rfl) d2
  have B1 := rx_bind (k := 0) b2 hp (by omega) (show 2 * q + 0 < 6 by omega) (by rw [eS_n (by omega), eS_a]) (by rw [b3, if_pos (by omega)])
  have B2 := rx_bind (k := 1) B1 hp (by omega) (show 2 * q + 1 < 6 by omega) (by rw [eS_n (by omega), eS_a]) (by
    show tS s3.2 p 0 _ p 1 = -1
    rw [tS_e, if_neg (by omega), b3, if_pos (by omega)])
  have B3 := rx_ext (ext' := no0) B2 (fun Q => by
    by_cases c1 : Q = 2 * q + 1
    · rw [c1, eS_a]; rfl
    · rw [eS_n c1]
      by_cases c0 : Q = 2 * q + 0
      · rw [c0, eS_a]; rfl
      · rw [eS_n c0, eS_n c1, eS_n c0])
  have g4 : ∀ r j, (kG (kG s3 p 0 (nn (2 * q + 0))) p 1 (nn (2 * q + 1))).2 r j = if r = p then (if j = 1 then nn (2 * q + 1) else if j = 0 then nn (2 * q) else if j < 11 then -1 else s.2 r j) else s.2 r j := fun r j => by
    show tS (tS s3.2 p 0 (nn (2 * q + 0))) p 1 (nn (2 * q + 1)) r j = _
    rw [tS_e, tS_e, b3]
    by_cases c : r = p
    · rw [if_pos c]
      by_cases c1 : j = 1
      · rw [if_pos ⟨c, c1⟩, if_pos c1]
      · rw [if_neg (fun x => c1 x.2), if_neg c1]
        by_cases c0 : j = 0
        · rw [if_pos ⟨c, c0⟩, if_pos c0]; rfl
        · rw [if_neg (fun x => c0 x.2), if_neg c0]
          by_cases c2 : j < 11
          · rw [if_pos ⟨c, Nat.zero_le _, c2⟩, if_pos c2]
          · rw [if_neg (fun x => c2 x.2.2), if_neg c2]
            rfl
    · rw [if_neg (fun x => c x.1), if_neg (fun x => c x.1), if_neg (fun x => c x.1), if_neg c]; rfl
  have B4 := rx_X noX B3 (fun r k _ hk x _ => by
    have x : r = p := x
    subst x
    refine Or.inl ⟨?_, d4 k hk⟩
    rw [g4, if_pos rfl, if_neg (by omega), if_neg (by omega), if_pos (by omega)])
  have B5 : RX nf ns φ L3 no0 G3 noX (kG (kG s3 p 0 (nn (2 * q + 0))) p 1 (nn (2 * q + 1))) (kS t1 17 p (nn q)) := B4
  obtain ⟨t2, c1, c2, c3, c4⟩ := clean_p B5 (fun r hrr => by
    by_cases c : r = p
    · subst c
      refine Or.inl ⟨?_, q, hq, upd_a _ _ _, ?_, ?_⟩
      · show t1.1 16 r = 1
        rw [d3.2 16 (by omega) (by omega)]; exact r1
      · rw [g4, if_pos rfl, if_neg (by omega), if_pos rfl]
      · rw [g4, if_pos rfl, if_pos rfl]
    · have h := pa_ta (R.2.1 r hrr)
      have z0 : (kG (kG s3 p 0 (nn (2 * q + 0))) p 1 (nn (2 * q + 1))).2 r 0 = s.2 r 0 := by rw [g4, if_neg c]
      have z1 : (kG (kG s3 p 0 (nn (2 * q + 0))) p 1 (nn (2 * q + 1))).2 r 1 = s.2 r 1 := by rw [g4, if_neg c]
      have z2 : (kS t1 17 p (nn q)).1 16 r = t.1 16 r := by show t1.1 16 r = _; rw [d3.2 16 (by omega) (by omega)]
      have z3 : (kS t1 17 p (nn q)).1 17 r = t.1 17 r := by rw [kS_n c, d3.2 17 (by omega) (by omega)]
      unfold TA
      rw [z0, z1, z2, z3]; exact h)
  obtain ⟨φ', L', s6, s7, t3, e1, e2, e3, e4, e5, e6, e7, e8⟩ := begin_pair c2 hp hq (by rw [g4, if_pos rfl, if_neg (by omega), if_pos rfl]) (by rw [g4, if_pos rfl, if_pos rfl]) (fun k hk => by rw [g4, if_pos rfl, if_neg (by omega), if_neg (by omega), if_pos (by omega)])
  have k3 : ∀ c, c < 8 → s3.1 c = s.1 c := fun c hc => (b4 c hc).trans (by rw [kS_m (by omega), kS_m (by omega)])
  have n2 : ∀ c, 16 ≤ c → c < 22 → c ≠ 17 → t2.1 c = t.1 c := fun c h1 h2 h3 => by rw [c3.2 c h1 h2, kS_m h3, d3.2 c h1 h2]
  have n217 : t2.1 17 = upd (t.1 17) p (nn q) := by
    rw [c3.2 17 (by omega) (by omega)]
    show upd (t1.1 17) p (nn q) = _
    rw [d3.2 17 (by omega) (by omega)]
  refine ⟨s7, t1, t2, t3, sp_p hp hq b1 e1 e2, d1, c1, e3, ⟨φ', L', e4, fun r hrr => ?_, ?_, ?_⟩, ?_, ?_, ?_⟩
  · by_cases c : r = p
    · subst c
      refine ⟨?_, Or.inl ⟨?_, ?_, q, dq q, 1, hq, by have := dq_le q; omega, by omega, by omega, ?_, ?_, ?_, ?_, ?_, ?_, e8⟩⟩
      · rw [e5 1 (by omega), e6.2 16 (by omega) (by omega)]
        show s3.1 1 r = t2.1 16 r
        rw [k3 1 (by omega), n2 16 (by omega) (by omega) (by omega)]; exact (R.2.1 r hp).1
      · rw [e5 1 (by omega)]
        show s3.1 1 r = 1
        rw [k3 1 (by omega)]; exact hr
      · rw [e5 3 (by omega), e6.2 18 (by omega) (by omega)]
        show s3.1 3 r = t2.1 18 r
        rw [k3 3 (by omega), n2 18 (by omega) (by omega) (by omega)]; exact r2
      · rw [e5 2 (by omega)]
        exact upd_a _ _ _
      · rw [e6.2 17 (by omega) (by omega)]
        exact upd_a _ _ _
      · rw [e5 5 (by omega)]
        exact upd_a _ _ _
      · rw [e6.2 20 (by omega) (by omega)]
        exact upd_a _ _ _
      · rw [e5 6 (by omega)]
        exact upd_a _ _ _
      · rw [e6.2 21 (by omega) (by omega)]
        exact upd_a _ _ _
    · refine pa_of (R.2.1 r hrr) (fun c' h1 h2 => ?_) ?_ (fun c' h1 h2 => ?_)
      · rw [e5 c' (by omega), kS_n c, kS_n c, kS_n c]
        show s3.1 c' r = s.1 c' r
        rw [k3 c' (by omega)]
      · rw [e7 r c]
        funext j
        rw [g4, if_neg c]
      · rw [e6.2 c' h1 h2, kS_n c, kS_n c, kS_n c]
        by_cases z : c' = 17
        · subst z; rw [n217, upd_n c]
        · rw [n2 c' h1 h2 z]
  · rw [e5 1 (by omega)]
    show s3.1 1 0 = 1
    rw [k3 1 (by omega)]; exact R.2.2.1
  · rw [e5 3 (by omega)]
    show s3.1 3 0 = -1
    rw [k3 3 (by omega)]; exact R.2.2.2
  · rw [e5 5 (by omega)]
    exact upd_a _ _ _
  · rw [e6.2 20 (by omega) (by omega)]
    exact upd_a _ _ _
  · rw [e6.1]
    show t2.1 15 = t.1 15
    rw [c3.1]
    show t1.1 15 = t.1 15
    rw [d3.1]
theorem a_exec {nf ns : Nat} {s t : KS} (x y : Int32) (R : RR nf ns s t) : AG nf ns [(0, 1), (1, 2)] (p_X1_exec nf ns x y s) (p_X2_exec x y t) := by
  have e10 : ¬ (1 : Int32) = 0 := by decide
  rcases split x 6 (by omega) with ⟨p, hp, rfl⟩ | hx
  · have o1 : ∀ t, p_X2_out (nn p) 6 t = some (.inl (some 0), t) := fun t => out_in (n := 6) hp (by omega)
    rcases split y 3 (by omega) with ⟨q, hq, rfl⟩ | hy
    · have o2 : ∀ t, p_X2_out (nn q) 3 t = some (.inl (some 0), t) := fun t => out_in (n := 3) hq (by omega)
      have cr : p_X1_checkRange nf ns (nn q) 0 2 s = _ := cr_in (n := 3) hq (by omega)
      obtain ⟨φ, L, R⟩ := R
      have R0 := rq_f 0 R
      by_cases hr : s.1 1 p = 1
      · have nr := nr_ok hp (rq_run R0 hp hr).1
        obtain ⟨s', t1, t2, t3, a1, a2, a3, a4, a5, a6, a7, a8⟩ := exec_pair R0 hp hr hq
        refine ag_ok (x := nn (4 * dq q)) a5 ?_ ?_ (by rw [a8]; rfl)
        · simp (disch := omega) only [p_X1_exec, cp_in hp, cr, ru_ok hp hr, a1, kbv, nn_in, nn_tn, hp, a6, nn_m4, decide_true, cond_true]
        · simp (disch := omega) only [p_X2_exec, o1, o2, kbi, kbv, nr, a2, a3, a4, nn_in, nn_tn, hp, a7, nn_m4, decide_true, cond_true, cond_false, Bool.not_true]
      · have nr := nr_no hp (rq_nrun R0 hp hr)
        refine ag_ex (e := 1) (c := 2) (y := 0) ⟨φ, L, rq_f 2 R0⟩ (List.mem_of_getElem? (i := 1) rfl) ?_ ?_ rfl
        · simp only [p_X1_exec, cp_in hp, cr, ru_no hp hr, kbv]
        · simp only [p_X2_exec, o1, o2, kbi, nr, p_X2_fail, fF e10, decide_true, decide_false, cond_true, cond_false, Bool.not_true]
    · have o2 : ∀ t, p_X2_out y 3 t = some (.inl (some 1), t) := fun t => out_out hy
      have cr : p_X1_checkRange nf ns y 0 2 s = _ := cr_out (n := 3) (by omega) (by omega) hy
      refine ag_ex (e := 0) (c := 1) (y := 0) (rr_f 1 (rr_f 0 R)) (List.mem_of_getElem? (i := 0) rfl) ?_ ?_ rfl
      · simp only [p_X1_exec, cp_in hp, cr, kbv]
      · simp only [p_X2_exec, o1, o2, kbi, p_X2_fail, fF e10, decide_true, decide_false, cond_true, cond_false, Bool.not_true]
  · have o1 : ∀ t, p_X2_out x 6 t = some (.inl (some 1), t) := fun t => out_out hx
    refine ag_ex (e := 0) (c := 1) (y := 0) (rr_f 1 (rr_f 0 R)) (List.mem_of_getElem? (i := 0) rfl) ?_ ?_ rfl
    · simp only [p_X1_exec, cp_out hx, kbv]
    · simp only [p_X2_exec, o1, kbi, p_X2_fail, fF e10, decide_true, decide_false, cond_true, cond_false, Bool.not_false]
/-! exit -/
theorem or_step {nf ns p j : Nat} {φ : Nat → Nat} {L : Nat → Prop} {s t : KS} (R : RQ nf ns φ L s t) (hj : j < 6) (hj1 : 1 ≤ j) (h : ¬ t.1 16 j = 0) (h2 : t.1 18 j = nn p) : RQ nf ns φ L (kS s 3 j 0) (kS t 18 j 0) := by
  obtain ⟨a, b, c, d⟩ := R
  refine ⟨a, fun r hr => ?_, c, ?_⟩
  · by_cases z : r = j
    · subst z
      obtain ⟨e, x⟩ := b r hr
      refine ⟨e, ?_⟩
      rcases x with ⟨x1, x2, x3⟩ | ⟨x1, _⟩ | ⟨x1, x2, x3⟩
      · exact Or.inl ⟨x1, (upd_a _ _ _).trans (upd_a _ _ _).symm, x3⟩
      · rw [e] at x1; exact absurd x1 h
      · exact Or.inr (Or.inr ⟨x1, (upd_a _ _ _).trans (upd_a _ _ _).symm, x3⟩)
    · exact pa_of (b r hr) (fun c' _ _ => kS_n z) rfl (fun c' _ _ => kS_n z)
  · show upd (s.1 3) j 0 0 = -1
    rw [upd_n (by omega)]; exact d
theorem or_loop {nf ns p : Nat} {φ : Nat → Nat} {L : Nat → Prop} (hp : p < 6) : ∀ (m j n n' c : Nat) (s t : KS), j + m = 6 → 1 ≤ j → m < n → m < n' → RQ nf ns φ L s t → ∃ r s' t', p_X1_orphansToFirst_L4 nf ns n (nn p) (nn c) (nn j) s = some (.inl (some r), s') ∧ p_X2_exit_L74 n' (nn p) (nn c) (nn j) t = some (.inl (some r), t') ∧ RQ nf ns φ L s' t' ∧ t'.1 15 = t.1 15
  | 0, j, n + 1, n' + 1, c, s, t, h1, hj, h2, h3, R => by
    refine ⟨nn c, s, t, ?_, ?_, R, rfl⟩
    · simp (disch := omega) only [p_X1_orphansToFirst_L4, nn_6g, (eq_true (by omega) : (6 ≤ j) = True), decide_true, cond_true]
    · simp (disch := omega) only [p_X2_exit_L74, nn_6g, (eq_true (by omega) : (6 ≤ j) = True), decide_true, cond_true]
  | m + 1, j, n + 1, n' + 1, c, s, t, h1, hj, h2, h3, R => by
    have hj6 : j < 6 := by omega
    obtain ⟨e, x⟩ := R.2.1 j hj6
    have skip : ¬ s.1 3 j = nn p → (t.1 16 j = 0 ∨ ¬ t.1 18 j = nn p) → ∃ r s' t', p_X1_orphansToFirst_L4 nf ns (n + 1) (nn p) (nn c) (nn j) s = some (.inl (some r), s') ∧ p_X2_exit_L74 (n' + 1) (nn p) (nn c) (nn j) t = some (.inl (some r), t') ∧ RQ nf ns φ L s' t' ∧ t'.1 15 = t.1 15 := fun z1 z2 => by
      obtain ⟨r, s', t', a1, a2, a3, a4⟩ := or_loop hp m (j + 1) n n' c s t (by omega) (by omega) (by omega) (by omega) R
      refine ⟨r, s', t', ?_, ?_, a3, a4⟩
      · simp (disch := omega) only [p_X1_orphansToFirst_L4, nn_6g, (fF (by omega) : (6 ≤ j) = False), nn_in, nn_tn, hj6, fF z1, nn_p1, a1, decide_true, decide_false, Bool.not_false, cond_true, cond_false]
      · by_cases z3 : t.1 16 j = 0
        · simp (disch := omega) only [p_X2_exit_L74, nn_6g, (fF (by omega) : (6 ≤ j) = False), nn_in, nn_tn, hj6, z3, nn_p1, a2, decide_true, decide_false, cond_true, cond_false]
        · simp (disch := omega) only [p_X2_exit_L74, nn_6g, (fF (by omega) : (6 ≤ j) = False), nn_in, nn_tn, hj6, fF z3, fF (z2.resolve_left z3), nn_p1, a2, decide_true, decide_false, Bool.not_false, cond_true, cond_false]
    have go : s.1 3 j = nn p → ¬ t.1 16 j = 0 → t.1 18 j = nn p → ∃ r s' t', p_X1_orphansToFirst_L4 nf ns (n + 1) (nn p) (nn c) (nn j) s = some (.inl (some r), s') ∧ p_X2_exit_L74 (n' + 1) (nn p) (nn c) (nn j) t = some (.inl (some r), t') ∧ RQ nf ns φ L s' t' ∧ t'.1 15 = t.1 15 := fun z1 z2 z3 => by
      obtain ⟨r, s', t', a1, a2, a3, a4⟩ := or_loop hp m (j + 1) n n' (c + 1) _ _ (by omega) (by omega) (by omega) (by omega) (or_step (p := p) R hj6 hj z2 z3)
      refine ⟨r, s', t', ?_, ?_, a3, a4⟩
      · simp (disch := omega) only [p_X1_orphansToFirst_L4, nn_6g, (fF (by omega) : (6 ≤ j) = False), nn_in, nn_tn, hj6, z1, nn_p1, a1, decide_true, decide_false, Bool.not_true, cond_true, cond_false]
      · simp (disch := omega) only [p_X2_exit_L74, nn_6g, (fF (by omega) : (6 ≤ j) = False), nn_in, nn_tn, hj6, fF z2, z3, nn_p1, a2, decide_true, decide_false, Bool.not_true, cond_true, cond_false]
    have n0 : ∀ y : Int32, y = 1 ∨ y = 2 → ¬ y = 0 := fun y h => by rcases h with rfl | rfl <;> decide
    rcases x with ⟨x1, x2, _⟩ | ⟨x1, x2, _⟩ | ⟨x1, x2, _⟩
    · by_cases z : s.1 3 j = nn p
      · exact go z (n0 _ (Or.inl (e ▸ x1))) (x2 ▸ z)
      · exact skip z (Or.inr (x2 ▸ z))
    · exact skip (by rw [x2]; exact fun z => nnm (by omega) z.symm) (Or.inl (e ▸ x1))
    · by_cases z : s.1 3 j = nn p
      · exact go z (n0 _ (Or.inr (e ▸ x1))) (x2 ▸ z)
      · exact skip z (Or.inr (x2 ▸ z))
theorem or_p {nf ns p : Nat} {φ : Nat → Nat} {L : Nat → Prop} {s t : KS} (hp : p < 6) (R : RQ nf ns φ L s t) : ∃ r s' t', p_X1_orphansToFirst nf ns (nn p) s = some (.inl (some r), s') ∧ p_X2_exit_L74 400 (nn p) (nn 0) (nn 1) t = some (.inl (some r), t') ∧ RQ nf ns φ L s' t' ∧ t'.1 15 = t.1 15 := by
  obtain ⟨r, s', t', a1, a2, a3, a4⟩ := or_loop hp 5 1 399 400 0 s t (by omega) (by omega) (by omega) (by omega) R
  refine ⟨r, s', t', ?_, a2, a3, a4⟩
  have e : p_X1_orphansToFirst nf ns (nn p) s = p_X1_orphansToFirst_L4 nf ns (399 + 1) (nn p) (nn 0) (nn 0) s := rfl
  rw [e]
  generalize 399 = v at a1 ⊢
  have z : ¬ s.1 3 0 = nn p := by rw [R.2.2.2]; exact fun z => nnm (by omega) z.symm
  have st : ∀ k, k = 0 → p_X1_orphansToFirst_L4 nf ns (v + 1) (nn p) (nn 0) (nn k) s = p_X1_orphansToFirst_L4 nf ns v (nn p) (nn 0) (nn (k + 1)) s := fun k hk => by
    have z' : ¬ s.1 3 k = nn p := hk ▸ z
    generalize nn 0 = y0
    simp (disch := omega) only [p_X1_orphansToFirst_L4, nn_6g, (fF (by omega) : (6 ≤ k) = False), nn_in, nn_tn, (by omega : k < 6), fF z', nn_p1, decide_true, decide_false, Bool.not_false, cond_true, cond_false]
  rw [st 0 rfl]; exact a1
theorem exit_pair {nf ns p : Nat} {c : Int32} {φ : Nat → Nat} {L : Nat → Prop} {s t : KS} (R : RQ nf ns φ L s t) (hp : p < 6) (hp1 : 1 ≤ p) (hr : s.1 1 p = 1) : ∃ s2 t1 t2, p_X1_leavePages nf ns (nn p) 0 11 (kS (kS s 1 p 2) 4 p c) = some (.inl none, s2) ∧ p_X2_drop (nn p) (kS (kS t 16 p 2) 19 p c) = some (.inl none, t1) ∧ p_X2_clean t1 = some (.inl none, t2) ∧ RR nf ns s2 t2 ∧ t2.1 15 = t.1 15 := by
  obtain ⟨r1, r2, _⟩ := rq_run R hp hr
  have R1 : RX nf ns φ L no0 noG noX (kS (kS s 1 p 2) 4 p c) (kS (kS t 16 p 2) 19 p c) := R.1
  obtain ⟨t1, d1, d2, d3, d4⟩ := md_p hp R1
  obtain ⟨s2, L2, G2, b1, b2, b3, b4⟩ := lp_loop hp (show 11 ≤ 11 by omega) 11 0 400 _ _ _ (by omega) (by omega) (fun _ _ _ _ => rfl) d2
  have g2 : ∀ r j, s2.2 r j = if r = p ∧ j < 11 then -1 else s.2 r j := fun r j => by
    rw [b3]
    by_cases z : r = p ∧ j < 11
    · rw [if_pos ⟨z.1, Nat.zero_le _, z.2⟩, if_pos z]
    · rw [if_neg (fun x => z ⟨x.1, x.2.2⟩), if_neg z]; rfl
  have B4 := rx_X noX b2 (fun r k _ hk x _ => by
    have x : r = p := x
    subst x
    refine Or.inl ⟨?_, d4 k hk⟩
    rw [g2, if_pos (by omega)])
  have t16 : t1.1 16 = upd (t.1 16) p 2 := d3.2 16 (by omega) (by omega)
  have t17 : t1.1 17 = t.1 17 := d3.2 17 (by omega) (by omega)
  obtain ⟨t2, c1, c2, c3, c4⟩ := clean_p B4 (fun r hrr => by
    by_cases z : r = p
    · subst z
      refine Or.inr ⟨?_, ?_, ?_⟩
      · rw [t16, upd_a]; decide
      · rw [g2, if_pos (by omega)]
      · rw [g2, if_pos (by omega)]
    · have h := pa_ta (R.2.1 r hrr)
      unfold TA
      rw [t16, t17, upd_n z, g2, g2, if_neg (fun x => z x.1), if_neg (fun x => z x.1)]; exact h)
  refine ⟨s2, t1, t2, b1, d1, c1, ⟨φ, L2, c2, fun r hrr => ?_, ?_, ?_⟩, ?_⟩
  · by_cases z : r = p
    · subst z
      refine ⟨?_, Or.inr (Or.inr ⟨?_, ?_, ?_, fun k hk => ?_⟩)⟩
      · rw [b4 1 (by omega), c3.2 16 (by omega) (by omega), t16, upd_a]
        exact upd_a _ _ _
      · rw [b4 1 (by omega)]
        exact upd_a _ _ _
      · rw [b4 3 (by omega), c3.2 18 (by omega) (by omega), d3.2 18 (by omega) (by omega)]
        exact r2
      · rw [b4 4 (by omega), c3.2 19 (by omega) (by omega), d3.2 19 (by omega) (by omega)]
        exact (upd_a _ _ _).trans (upd_a _ _ _).symm
      · rw [g2, if_pos (by omega)]
    · refine pa_of (R.2.1 r hrr) (fun c' h1 h2 => ?_) ?_ (fun c' h1 h2 => ?_)
      · rw [b4 c' (by omega), kS_n z, kS_n z]
      · funext j
        rw [g2, if_neg (fun x => z x.1)]
      · rw [c3.2 c' h1 h2, d3.2 c' h1 h2, kS_n z, kS_n z]
  · rw [b4 1 (by omega)]
    show upd (s.1 1) p 2 0 = 1
    rw [upd_n (by omega)]; exact R.2.2.1
  · rw [b4 3 (by omega)]; exact R.2.2.2
  · rw [c3.1, d3.1]; rfl
theorem nn_5l {a : Nat} (h : a < 2147483648) : (nn a ≤ 5) = (a ≤ 5) := nn_le (a := a) (b := 5) h (by omega)
theorem nn_l5 {a : Nat} (h : a < 2147483648) : (5 < nn a) = (5 < a) := nn_lt (a := 5) (b := a) (by omega) h
theorem a_exit {nf ns : Nat} {s t : KS} (x y : Int32) (R : RR nf ns s t) : AG nf ns [(0, 1), (1, 2)] (p_X1_exit nf ns x y s) (p_X2_exit x y t) := by
  have e10 : ¬ (1 : Int32) = 0 := by decide
  by_cases x1 : x < 1
  · refine ag_ex (e := 0) (c := 1) (y := 0) (rr_f 1 (rr_f 0 R)) (List.mem_of_getElem? (i := 0) rfl) ?_ ?_ rfl
    · simp only [p_X1_exit, cr_no (nf := nf) (ns := ns) (s := s) (Or.inl x1 : x < 1 ∨ ¬ x ≤ 5), kbv]
    · simp only [p_X2_exit, eq_true x1, p_X2_fail, kbi, decide_true, cond_true]
  · by_cases x5 : 5 < x
    · refine ag_ex (e := 0) (c := 1) (y := 0) (rr_f 1 (rr_f 0 R)) (List.mem_of_getElem? (i := 0) rfl) ?_ ?_ rfl
      · simp only [p_X1_exit, cr_no (nf := nf) (ns := ns) (s := s) (Or.inr (Int32.not_le.mpr x5) : x < 1 ∨ ¬ x ≤ 5), kbv]
      · simp only [p_X2_exit, fF x1, eq_true x5, p_X2_fail, kbi, decide_true, decide_false, cond_true, cond_false]
    · have cx : p_X1_checkRange nf ns x 1 5 s = _ := cr_ok x1 (Int32.not_lt.mp x5)
      have x0 : ¬ x < 0 := fun h => x1 (Int32.lt_trans h (by decide))
      obtain ⟨f1, f2⟩ := nn_of (Int32.not_lt.mp x0)
      generalize x.toNatClampNeg = p at f1 f2
      subst f1
      have hp : p < 6 := by rw [nn_l5 f2] at x5; omega
      have hp1 : 1 ≤ p := by rw [nn_1g f2] at x1; omega
      rcases split y 256 (by omega) with ⟨c, hc, rfl⟩ | hy
      · have o2 : ∀ t, p_X2_out (nn c) 256 t = some (.inl (some 0), t) := fun t => out_in (n := 256) hc (by omega)
        have cr : p_X1_checkRange nf ns (nn c) 0 255 s = _ := cr_in (n := 256) hc (by omega)
        obtain ⟨φ, L, R⟩ := R
        have R0 := rq_f 0 R
        by_cases hr : s.1 1 p = 1
        · have nr := nr_ok hp (rq_run R0 hp hr).1
          obtain ⟨s2, t1, t2, a1, a2, a3, ⟨φ2, L2, a4⟩, a5⟩ := exit_pair (c := nn c) R0 hp hp1 hr
          obtain ⟨r, s3, t3, b1, b2, b3, b4⟩ := or_p hp a4
          have b2' : p_X2_exit_L74 400 (nn p) 0 1 t2 = _ := b2
          refine ag_ok (x := r) ⟨φ2, L2, b3⟩ ?_ ?_ (by rw [b4, a5]; rfl)
          · simp (disch := omega) only [p_X1_exit, cx, cr, ru_ok hp hr, kbv, nn_in, nn_tn, hp, a1, b1, kbi, decide_true, cond_true]
          · simp (disch := omega) only [p_X2_exit, fF x1, fF x5, o2, kbi, kbv, nr, nn_in, nn_tn, hp, a2, a3, b2', decide_true, decide_false, cond_true, cond_false]
        · have nr := nr_no hp (rq_nrun R0 hp hr)
          refine ag_ex (e := 1) (c := 2) (y := 0) ⟨φ, L, rq_f 2 R0⟩ (List.mem_of_getElem? (i := 1) rfl) ?_ ?_ rfl
          · simp only [p_X1_exit, cx, cr, ru_no hp hr, kbv]
          · simp only [p_X2_exit, fF x1, fF x5, o2, kbi, nr, p_X2_fail, fF e10, decide_true, decide_false, cond_true, cond_false]
      · have o2 : ∀ t, p_X2_out y 256 t = some (.inl (some 1), t) := fun t => out_out hy
        have cr : p_X1_checkRange nf ns y 0 255 s = _ := cr_out (n := 256) (by omega) (by omega) hy
        refine ag_ex (e := 0) (c := 1) (y := 0) (rr_f 1 (rr_f 0 R)) (List.mem_of_getElem? (i := 0) rfl) ?_ ?_ rfl
        · simp only [p_X1_exit, cx, cr, kbv]
        · simp only [p_X2_exit, fF x1, fF x5, o2, kbi, p_X2_fail, fF e10, decide_true, decide_false, cond_true, cond_false]
