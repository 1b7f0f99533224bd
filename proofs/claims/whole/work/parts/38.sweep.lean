theorem nn_1g {a : Nat} (h : a < 2147483648) : (nn a < 1) = (a = 0) := (nn_lt (a := a) (b := 1) h (by omega)).trans (propext (by omega))
theorem nn_20g {a : Nat} (h : a < 2147483648) : (nn a ≤ 20) = (a ≤ 20) := nn_le (a := a) (b := 20) h (by omega)
theorem sw_loop {nf ns w : Nat} {φ : Nat → Nat} {L : Nat → Prop} (hw : w < 1000) : ∀ (m i n n' c : Nat) (s t : KS), i + m = w → m < n → m < n' → RQ nf ns φ L s t → ∃ r s' t', p_X1_sweep_L11 nf ns n (nn w) (nn c) (nn i) s = some (.inl (some r), s') ∧ p_X2_sweep_L26 n' (nn w) (nn c) (nn i) t = some (.inl (some r), t') ∧ RQ nf ns φ L s' t' ∧ t'.1 15 0 = t.1 15 0
  | 0, i, n + 1, n' + 1, c, s, t, h1, h2, h3, R => by
    refine ⟨nn c, s, t, ?_, ?_, R, rfl⟩
    · simp (disch := omega) [p_X1_sweep_L11, nn_le, (by omega : w ≤ i)]
    · simp (disch := omega) [p_X2_sweep_L26, nn_le, (by omega : w ≤ i)]
  | m + 1, i, n + 1, n' + 1, c, s, t, h1, h2, h3, R => by
    obtain ⟨g, s1, t1, e1, e2, R1, f1, f2, hg, _⟩ := look_pair (rx_mr R.1)
    have R2 := rq_mr R R1 f1 f2
    have e10 : ¬ (1 : Int32) = 0 := by decide
    rcases hg with rfl | ⟨rfl, _⟩
    · obtain ⟨r, s', t', a1, a2, a3, a4⟩ := sw_loop hw m (i + 1) n n' c s1 t1 (by omega) (by omega) (by omega) R2
      refine ⟨r, s', t', ?_, ?_, a3, a4.trans f2.1⟩
      · simp (disch := omega) only [p_X1_sweep_L11, nn_le, (fF (by omega) : (w ≤ i) = False), e1, kbi, nn_p1, a1, decide_true, decide_false, cond_true, cond_false]
      · simp (disch := omega) only [p_X2_sweep_L26, nn_le, (fF (by omega) : (w ≤ i) = False), e2, kbi, nn_p1, a2, decide_true, decide_false, cond_true, cond_false]
    · obtain ⟨r, s', t', a1, a2, a3, a4⟩ := sw_loop hw m (i + 1) n n' (c + 1) s1 t1 (by omega) (by omega) (by omega) R2
      refine ⟨r, s', t', ?_, ?_, a3, a4.trans f2.1⟩
      · simp (disch := omega) only [p_X1_sweep_L11, nn_le, (fF (by omega) : (w ≤ i) = False), e1, kbi, nn_p1, a1, decide_true, decide_false, cond_true, cond_false, fF e10]
      · simp (disch := omega) only [p_X2_sweep_L26, nn_le, (fF (by omega) : (w ≤ i) = False), e2, kbi, nn_p1, a2, decide_true, decide_false, cond_true, cond_false, fF e10]
theorem a_sweep {nf ns : Nat} {s t : KS} (x : Int32) (R : RR nf ns s t) : AG nf ns [(0, 1)] (p_X1_sweep nf ns x s) (p_X2_sweep x t) := by
  rcases split x 21 (by omega) with ⟨w, hw, rfl⟩ | hx
  · by_cases h0 : w = 0
    · subst h0
      refine ag_ex (e := 0) (c := 1) (y := 0) (rr_f 1 (rr_f 0 R)) (List.mem_of_getElem? (i := 0) rfl) ?_ ?_ rfl
      · rw [p_X1_sweep, cr_no (Or.inl (by decide : nn 0 < 1))]; rfl
      · simp (disch := omega) [p_X2_sweep, nn_1g, p_X2_fail, kbi]
    · obtain ⟨φ, L, R⟩ := R
      have R0 := rq_f 0 R
      obtain ⟨r, s', t', a1, a2, a3, a4⟩ := sw_loop (show w < 1000 by omega) w 0 400 400 0 s (kS t 15 0 0) (by omega) (by omega) (by omega) R0
      have c2 : p_X1_checkRange nf ns (nn w) 1 20 s = some (.inl none, s) := cr_ok (by rw [nn_1g (by omega)]; exact h0) (by rw [nn_20g (by omega)]; omega)
      have b1 : p_X1_sweep_L11 nf ns 400 (nn w) 0 0 s = _ := a1
      have b2 : p_X2_sweep_L26 400 (nn w) 0 0 (kS t 15 0 0) = _ := a2
      refine ag_ok ⟨φ, L, a3⟩ (x := r) ?_ ?_ a4
      · rw [p_X1_sweep, c2]; exact b1
      · rw [p_X2_sweep]
        simp (disch := omega) only [nn_1g, (fF h0), nn_20g, (eq_true (by omega) : (w ≤ 20) = True), decide_false, decide_true, cond_false, cond_true]
        exact b2
  · refine ag_ex (e := 0) (c := 1) (y := 0) (rr_f 1 (rr_f 0 R)) (List.mem_of_getElem? (i := 0) rfl) ?_ ?_ rfl
    · have : p_X1_checkRange nf ns x 1 20 s = some (.inr 0, s) := cr_no (by
        rcases hx with h | ⟨h, h'⟩
        · exact Or.inl (Int32.lt_trans h (by decide))
        · right
          obtain ⟨a, b⟩ := nn_of (Int32.not_lt.mp h)
          rw [a, nn_le (by omega) b] at h'
          rw [a, nn_20g b]; omega)
      rw [p_X1_sweep, this]; rfl
    · rcases hx with h | ⟨h, h'⟩
      · simp [p_X2_sweep, (Int32.lt_trans h (by decide) : x < 1), p_X2_fail, kbi]
      · obtain ⟨a, b⟩ := nn_of (Int32.not_lt.mp h)
        rw [a, nn_le (by omega) b] at h'
        have q1 : ¬ x < 1 := by rw [a, nn_1g b]; omega
        have q2 : ¬ x ≤ 20 := by rw [a, nn_20g b]; omega
        simp [p_X2_sweep, q1, q2, p_X2_fail, kbi]
/-- an own page in a frame is sent out, both in step -/
theorem mr_send {nf ns P f j : Nat} {φ : Nat → Nat} {L : Nat → Prop} {s t : KS} (R : MR nf ns φ L s t) (lP : L P) (h6 : 6 ≤ P) (hf : f < nf) (e3 : s.1 11 P = nn f) (hj : j < ns) (hl : lf (fun j => decide (s.1 14 j = -1)) ns 0 = nn j) : p_X0_sendOut nf ns (nn P) s = some (.inl none, kS (kS (kS (kS (kS s 12 f (-1)) 11 P (-1)) 14 j (nn P)) 11 P (nn (100 + j))) 8 9 (s.1 8 9 + 1)) ∧ p_X2_sendOut (nn (φ P)) t = some (.inl none, kS (kS (kS (kS t 26 f (-1)) 15 19 (t.1 15 19 + 1)) 28 j 1) 25 (φ P) (nn (100 + j))) ∧ MR nf ns φ L (kS (kS (kS (kS (kS s 12 f (-1)) 11 P (-1)) 14 j (nn P)) 11 P (nn (100 + j))) 8 9 (s.1 8 9 + 1)) (kS (kS (kS (kS t 26 f (-1)) 15 19 (t.1 15 19 + 1)) 28 j 1) 25 (φ P) (nn (100 + j))) := by
  have hs := mr_lfs R
  have R' := R
  obtain ⟨hb, hC, hM, hL, ⟨⟨h, hh, ch, th⟩, t1, t2, x1, x2, x3⟩⟩ := R'
  have hn := hb.2.1
  have hm := hb.2.2
  have hP := (hL.1 P lP).1
  have hp : φ P < 64 := (hL.1 P lP).2.2.2 h6
  have hk := (hL.1 P lP).2.1
  have e4 : t.1 25 (φ P) = nn f := (hL.2.1 P lP).trans e3
  have a7 : s.1 14 j = -1 := by
    rcases lf_spec (fun j => decide (s.1 14 j = -1)) ns 0 with ⟨a1, _⟩ | ⟨i, a1, a2, a3, a4⟩
    · rw [a1] at hl; exact absurd hl.symm (nnm (by omega))
    · have := nni (by omega) (by omega) (a4.symm.trans hl)
      subst this
      exact of_decide_eq_true a3
  have a8 : t.1 28 j = 0 := of_decide_eq_true ((mr_sl R hj).symm.trans (decide_eq_true a7))
  have k1 := ci_vac hn hm hC hP hf e3
  have k2 := ci_slo hn hm k1 hP h6 hj (upd_a _ _ _) a7
  have k3 := mi_slo hn hm (mi_vac hn hm hM hk hf e4) hp hj (upd_a _ _ _) a8
  rw [upd_upd] at k3
  have k4 : LK nf φ L (upd (s.1 11) P (nn (100 + j))) (upd (s.1 12) f (-1)) (s.1 13) (upd (t.1 25) (φ P) (nn (100 + j))) (t.1 27) := lk_ho (lk_pf hL) lP
  rw [← upd_upd (s.1 11) P (-1)] at k4
  exact ⟨sendOut_o hP h6 hf hn hm e3 hj hl, sendOut_mo hp (by omega) hm t2 e4 hj (hs.trans hl), hb, k2, k3, k4, ⟨h, hh, ch, th⟩, t1, t2, x1, x2, congrArg (· + 1) x3⟩
theorem so_loop {nf ns p : Nat} {φ : Nat → Nat} {L : Nat → Prop} (hp : p < 6) : ∀ (m k n n' c : Nat) (s t : KS), k + m = 9 → m < n → m < n' → RQ nf ns φ L s t → ∃ r s' t', p_X1_swapOut_L13 nf ns n (nn p) (nn c) (nn (2 + k)) s = some (.inl (some r), s') ∧ p_X2_swapOut_L39 n' (nn p) (nn c) (nn k) t = some (.inl (some r), t') ∧ RQ nf ns φ L s' t' ∧ t'.1 15 0 = t.1 15 0
  | 0, k, n + 1, n' + 1, c, s, t, h1, h2, h3, R => by
    refine ⟨nn c, s, t, ?_, ?_, R, rfl⟩
    · simp (disch := omega) [p_X1_swapOut_L13, nn_11g, (by omega : 11 ≤ 2 + k)]
    · simp (disch := omega) [p_X2_swapOut_L39, nn_9g, (by omega : 9 ≤ k)]
  | m + 1, k, n + 1, n' + 1, c, s, t, h1, h2, h3, R => by
    have e10 : ¬ (1 : Int32) = 0 := by decide
    have hb := R.1.1
    obtain ⟨r, s', t', a1, a2, a3, a4⟩ := so_loop hp m (k + 1) n n' c s t (by omega) (by omega) (by omega) R
    rcases R.1.2.2.2.2.2.2.2.2.2 p k hp (by omega) id with ⟨x, y⟩ | ⟨P, lP, h6, hP, x, y⟩
    · refine ⟨r, s', t', ?_, ?_, a3, a4⟩
      · simp (disch := omega) only [p_X1_swapOut_L13, nn_11g, (fF (by omega) : (11 ≤ 2 + k) = False), nn_in, nn_tn, hp, (by omega : 2 + k < 11), x, nn_p1, decide_true, decide_false, cond_true, cond_false, Bool.and_self, show 2 + k + 1 = 2 + (k + 1) by omega, a1]
      · simp (disch := omega) only [p_X2_swapOut_L39, nn_9g, (fF (by omega) : (9 ≤ k) = False), nn_m9, nn_add, nn_in, nn_tn, (by omega : 9 * p + k < 54), y, m1_l0, nn_p1, decide_true, decide_false, cond_true, cond_false, a2]
    · obtain ⟨_, hk, ea, hh⟩ := mr_home (rx_mr R.1) lP
      have hf64 := (R.1.2.2.2.1.1 P lP).2.2.1 h6
      obtain ⟨o1, o2⟩ := own_pair R lP
      have hU := uc_le s.2 P
      have stayC : p_X0_sendOutIfUnshared nf ns (nn P) s = some (.inl (some 0), s) → p_X1_swapOut_L13 nf ns (n + 1) (nn p) (nn c) (nn (2 + k)) s = some (.inl (some r), s') := fun z => by
        simp (disch := omega) only [p_X1_swapOut_L13, nn_11g, (fF (by omega) : (11 ≤ 2 + k) = False), nn_in, nn_tn, hp, (by omega : 2 + k < 11), x, nn_m1, z, kbi, nn_p1, decide_true, decide_false, cond_true, cond_false, Bool.and_self, show 2 + k + 1 = 2 + (k + 1) by omega, a1]
      rcases hh with e | ⟨f, hf, e⟩ | ⟨_, i, hi, e⟩
      · refine ⟨r, s', t', stayC ?_, ?_, a3, a4⟩
        · simp [p_X0_sendOutIfUnshared, isIn_new hP e, kbi]
        · rw [e] at ea
          simp (disch := omega) only [p_X2_swapOut_L39, nn_9g, (fF (by omega) : (9 ≤ k) = False), nn_m9, nn_add, nn_in, nn_tn, (by omega : 9 * p + k < 54), y, nn_l0, hk, ea, m1_l0, nn_p1, decide_true, decide_false, cond_true, cond_false, a2]
      · rw [e] at ea
        by_cases u1 : uc s.2 P = 1
        · have o3 : s.1 10 P = 1 := by rw [o2, u1]; rfl
          rw [o3] at o1
          have hcg := canGo_o (nf := nf) (s := s) hb.2.2 hP h6
          have hfs := freeSlot_p (t := t) hb.2.2 R.1.2.2.2.2.1.2.2.1
          rw [mr_lfs (rx_mr R.1)] at hfs
          rcases lf_spec (fun j => decide (s.1 14 j = -1)) ns 0 with ⟨b1, _⟩ | ⟨j, _, b2, b3, b4⟩
          · rw [if_pos b1] at hcg
            rw [b1] at hfs
            refine ⟨r, s', t', stayC ?_, ?_, a3, a4⟩
            · simp (disch := omega) [p_X0_sendOutIfUnshared, isIn_fr hP (by omega : f < 10) e, kbi, nn_in, nn_tn, hP, o3, hcg]
            · simp (disch := omega) only [p_X2_swapOut_L39, nn_9g, (fF (by omega) : (9 ≤ k) = False), nn_m9, nn_add, nn_in, nn_tn, (by omega : 9 * p + k < 54), y, nn_l0, hk, ea, nn_100g, (fF (by omega) : (100 ≤ f) = False), o1, kbi, hfs, m1_g0, nn_p1, decide_true, decide_false, cond_true, cond_false, Bool.not_true, a2]
          · rw [b4, if_neg (nnm (by omega))] at hcg
            rw [b4] at hfs
            obtain ⟨d1, d2, d3⟩ := mr_send (rx_mr R.1) lP h6 hf e (by omega) b4
            have R2 := rq_mr R d3 (fixC_s (fixC_s (fixC_s (fixC_s (fixC_s (fixC_r s) 12 _ _ (by omega)) 11 _ _ (by omega)) 14 _ _ (by omega)) 11 _ _ (by omega)) 8 _ _ (by omega)) (fixM_s (fixM_s (fixM_s (fixM_s (fixM_r t) 26 _ _ (by omega)) 15 _ _ (by omega)) 28 _ _ (by omega)) 25 _ _ (by omega))
            obtain ⟨r, s', t', a1, a2, a3, a4⟩ := so_loop hp m (k + 1) n n' (c + 1) _ _ (by omega) (by omega) (by omega) R2
            refine ⟨r, s', t', ?_, ?_, a3, a4⟩
            · have z : p_X0_sendOutIfUnshared nf ns (nn P) s = some (.inl (some 1), kS (kS (kS (kS (kS s 12 f (-1)) 11 P (-1)) 14 j (nn P)) 11 P (nn (100 + j))) 8 9 (s.1 8 9 + 1)) := by
                simp (disch := omega) only [p_X0_sendOutIfUnshared, isIn_fr hP (by omega : f < 10) e, kbi, kbv, nn_in, nn_tn, hP, o3, hcg, d1, fF e10, decide_true, decide_false, cond_true, cond_false, Bool.not_true]
              simp (disch := omega) only [p_X1_swapOut_L13, nn_11g, (fF (by omega) : (11 ≤ 2 + k) = False), nn_in, nn_tn, hp, (by omega : 2 + k < 11), x, nn_m1, z, kbi, fF e10, nn_p1, decide_true, decide_false, cond_true, cond_false, Bool.and_self, show 2 + k + 1 = 2 + (k + 1) by omega, a1]
            · simp (disch := omega) only [p_X2_swapOut_L39, nn_9g, (fF (by omega) : (9 ≤ k) = False), nn_m9, nn_add, nn_in, nn_tn, (by omega : 9 * p + k < 54), y, nn_l0, hk, ea, nn_100g, (fF (by omega) : (100 ≤ f) = False), o1, kbi, kbv, hfs, nn_g0, d2, nn_p1, decide_true, decide_false, cond_true, cond_false, Bool.not_true, a2]
        · have o3 : ¬ s.1 10 P = 1 := by rw [o2, nn_e1 (by omega)]; exact u1
          refine ⟨r, s', t', stayC ?_, ?_, a3, a4⟩
          · simp (disch := omega) [p_X0_sendOutIfUnshared, isIn_fr hP (by omega : f < 10) e, kbi, nn_in, nn_tn, hP, o3]
          · simp (disch := omega) only [p_X2_swapOut_L39, nn_9g, (fF (by omega) : (9 ≤ k) = False), nn_m9, nn_add, nn_in, nn_tn, (by omega : 9 * p + k < 54), y, nn_l0, hk, ea, nn_100g, (fF (by omega) : (100 ≤ f) = False), o1, kbi, fF o3, nn_p1, decide_true, decide_false, cond_true, cond_false, Bool.not_false, a2]
      · rw [e] at ea
        refine ⟨r, s', t', stayC ?_, ?_, a3, a4⟩
        · simp [p_X0_sendOutIfUnshared, isIn_sl hP (by omega) e, kbi]
        · simp (disch := omega) only [p_X2_swapOut_L39, nn_9g, (fF (by omega) : (9 ≤ k) = False), nn_m9, nn_add, nn_in, nn_tn, (by omega : 9 * p + k < 54), y, nn_l0, hk, ea, nn_100g, (eq_true (by omega) : (100 ≤ 100 + i) = True), nn_p1, decide_true, decide_false, cond_true, cond_false, a2]
theorem a_swapOut {nf ns : Nat} {s t : KS} (x : Int32) (R : RR nf ns s t) : AG nf ns [(0, 1), (1, 2)] (p_X1_swapOut nf ns x s) (p_X2_swapOut x t) := by
  rcases split x 6 (by omega) with ⟨p, hp, rfl⟩ | hx
  · have o1 : ∀ t, p_X2_out (nn p) 6 t = some (.inl (some 0), t) := fun t => out_in (n := 6) hp (by omega)
    obtain ⟨φ, L, R⟩ := R
    have R0 := rq_f 0 R
    by_cases hr : s.1 1 p = 1
    · obtain ⟨r, s', t', a1, a2, a3, a4⟩ := so_loop hp 9 0 400 400 0 s (kS t 15 0 0) (by omega) (by omega) (by omega) R0
      have b1 : p_X1_swapOut_L13 nf ns 400 (nn p) 0 2 s = _ := a1
      have b2 : p_X2_swapOut_L39 400 (nn p) 0 0 (kS t 15 0 0) = _ := a2
      refine ag_ok ⟨φ, L, a3⟩ (x := r) ?_ ?_ a4
      · rw [p_X1_swapOut, cp_in hp]
        show kbv (p_X1_checkRunning nf ns (nn p) s) _ = _
        rw [ru_ok hp hr]; exact b1
      · rw [p_X2_swapOut, o1]
        simp only [kbi, decide_true, cond_true]
        rw [nr_ok hp (rq_run R0 hp hr).1]; exact b2
    · refine ag_ex (e := 1) (c := 2) (y := 0) ⟨φ, L, rq_f 2 R0⟩ (List.mem_of_getElem? (i := 1) rfl) ?_ ?_ rfl
      · rw [p_X1_swapOut, cp_in hp]
        show kbv (p_X1_checkRunning nf ns (nn p) s) _ = _
        rw [ru_no hp hr]; rfl
      · simp [p_X2_swapOut, o1, kbi, nr_no hp (rq_nrun R0 hp hr), p_X2_fail]
  · have o1 : ∀ t, p_X2_out x 6 t = some (.inl (some 1), t) := fun t => out_out hx
    refine ag_ex (e := 0) (c := 1) (y := 0) (rr_f 1 (rr_f 0 R)) (List.mem_of_getElem? (i := 0) rfl) ?_ ?_ rfl
    · simp [p_X1_swapOut, cp_out hx, kbv]
    · simp [p_X2_swapOut, o1, kbi, p_X2_fail]
