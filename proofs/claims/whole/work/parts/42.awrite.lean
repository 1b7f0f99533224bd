theorem a_write {nf ns : Nat} {s t : KS} (x y v : Int32) (R : RR nf ns s t) : AG nf ns [(0, 1), (1, 2), (4, 3), (2, 4), (3, 5)] (p_X1_write nf ns x y v s) (p_X2_write x y v t) := by
  have e10 : ¬ (1 : Int32) = 0 := by decide
  have n2g : ∀ a : Nat, a < 1000 → ((2 : Int32) ≤ nn a) = (2 ≤ a) := fun a h => nn_le (a := 2) (b := a) (by omega) (by omega)
  rcases split x 6 (by omega) with ⟨p, hp, rfl⟩ | hx
  · have o1 : ∀ t, p_X2_out (nn p) 6 t = some (.inl (some 0), t) := fun t => out_in (n := 6) hp (by omega)
    rcases split y 44 (by omega) with ⟨a, ha, rfl⟩ | hy
    · have o2 : ∀ t, p_X2_out (nn a) 44 t = some (.inl (some 0), t) := fun t => out_in (n := 44) ha (by omega)
      obtain ⟨φ, L, R⟩ := R
      have R0 := rq_f 0 R
      by_cases hr : s.1 1 p = 1
      · have nr := nr_ok hp (rq_run R0 hp hr).1
        obtain ⟨φ', L', s1, t1, g1, g2, R1, g3, g4⟩ := gs_pair R0 hp hr ha
        have hr1 : s1.1 1 p = 1 := by rw [g3]; exact hr
        have f1 : t1.1 15 0 = 0 := by rw [g4]; rfl
        rcases page_pair R1 hp hr1 ha with ⟨_, q1, q2⟩ | ⟨P, lP, hP, hk, ep, q1, q2, q3⟩
        · refine ag_ex (e := 4) (c := 3) (y := 0) ⟨φ', L', rq_f 3 R1⟩ (List.mem_of_getElem? (i := 2) rfl) ?_ ?_ rfl
          · simp (disch := omega) only [p_X1_write, ca_ok hp ha hr, kbv, nn_d4, g1, q1, kbi]
          · simp (disch := omega) only [p_X2_write, o1, o2, kbi, kbv, nr, g2, q2, m1_g0, p_X2_fail, decide_true, decide_false, cond_true, cond_false, Bool.not_true]
        · rcases q3 with ⟨h8, h6, hφ⟩ | ⟨h8, h6, hφ, e22⟩
          · refine ag_ex (e := 2) (c := 4) (y := 0) ⟨φ', L', rq_f 4 R1⟩ (List.mem_of_getElem? (i := 3) rfl) ?_ ?_ rfl
            · simp (disch := omega) only [p_X1_write, ca_ok hp ha hr, kbv, nn_d4, g1, q1, kbi, n2g, (fF (by omega) : (2 ≤ a / 4) = False), decide_false, cond_false]
            · rw [hφ] at q2
              simp (disch := omega) only [p_X2_write, o1, o2, kbi, kbv, nr, g2, q2, nn_g0, nn_64l, (fF (by omega) : (64 + P < 64) = False), p_X2_fail, decide_true, decide_false, cond_true, cond_false, Bool.not_true]
          · have cls : ∀ r : KR, p_X0_touchOwn nf ns (nn P) s1 = r → p_X1_write nf ns (nn p) (nn a) v s = kbi r (fun x6 s5 => cond (!decide (x6 = (-1 : Int32))) (kbi (p_X0_replaceWord nf ns x6 (nn (a % 4)) v (kG s5 p (a / 4) x6)) (fun x8 s7 => some (.inl (some x8), s7))) (some (.inr 3, s5))) := fun r hr' => by
              simp (disch := omega) only [p_X1_write, ca_ok hp ha hr, kbv, nn_d4, g1, q1, kbi, n2g, (eq_true (by omega) : (2 ≤ a / 4) = True), hr', nn_in, nn_tn, hp, (by omega : a / 4 < 11), nn_r4, decide_true, cond_true, Bool.and_self]
            have mdl : p_X2_write (nn p) (nn a) v t = kbi (p_X2_touch (nn (φ' P)) t1) (fun x13 s12 => cond (!decide (x13 = (0 : Int32))) (kbi (p_X2_owners (nn (φ' P)) s12) (fun x15 s14 => cond (decide (x15 ≤ (1 : Int32))) (kbi (p_X2_wordOf (nn (φ' P)) (nn a) s14) (fun x17 s16 => some (.inl (some x17), (kS s16 23 (4 * φ' P + a % 4) v)))) (kbi (p_X2_getFrame s14) (fun x19 s18 => cond (decide ((0 : Int32) ≤ x19)) (kbi (p_X2_newPage s18) (fun x21 s20 => p_X2_write_L134 400 (nn p) (nn a) v (nn (φ' P)) x19 x21 (0 : Int32) s20)) (some (.inl (some 0), kS s18 15 0 5)))))) (some (.inl (some 0), kS s12 15 0 5))) := by
              simp (disch := omega) only [p_X2_write, o1, o2, kbi, kbv, nr, g2, q2, nn_g0, nn_64l, hφ, p_X2_fail, nn_m4, nn_d4, nn_r4, nn_add, nn_in, nn_tn, (by omega : 4 * φ' P + a % 4 < 256), decide_true, decide_false, cond_true, cond_false, Bool.not_true]
            obtain ⟨g, s2, t2, u1, u2, R2, v1, v2, hg⟩ := touch_pair (rx_mr R1.1) lP
            have R2 := rq_mr R1 R2 v1 v2
            have f2 : t2.1 15 0 = 0 := v2.1.trans f1
            rcases hg with rfl | rfl
            · refine ag_ex (e := 3) (c := 5) (y := 0) ⟨φ', L', rq_f 5 R2⟩ (List.mem_of_getElem? (i := 4) rfl) ((cls _ (to_no u1)).trans ?_) (mdl.trans ?_) rfl
              · simp only [kbi, decide_true, Bool.not_true, cond_false]
              · simp only [u2, kbi, decide_true, Bool.not_true, cond_false]
            · obtain ⟨w1, w2⟩ := own_pair R2 lP
              have hle := uc_le s2.2 P
              have ep2 : s2.2 p (a / 4) = nn P := by rw [v1.1]; exact ep
              have hpos : 0 < uc s2.2 P := uc_pos.mpr ⟨p, a / 4, hp, by omega, ep2⟩
              have e22' : t2.1 22 (9 * p + (a / 4 - 2)) = nn (φ' P) := by
                rw [v2.2 22 (by omega) (by omega) (by omega) (by omega) (by omega)]; exact e22
              have hr2 : s2.1 1 p = 1 := by rw [v1.2 1 (by omega) (by omega) (by omega) (by omega) (by omega)]; exact hr1
              by_cases one : uc s2.2 P = 1
              · have w3 : s2.1 10 P = 1 := by rw [w2, one]; rfl
                rw [w3] at w1
                refine ag_ok (x := s2.1 9 (P * 4 + a % 4)) ⟨φ', L', rq_word v R2 lP h6 (show a % 4 < 4 by omega)⟩ ((cls _ (to_one hP u1 w3)).trans ?_) (mdl.trans ?_) f2
                · simp (disch := omega) only [kbi, nn_m1, kG_id ep2, rw_p hP (show a % 4 < 4 by omega), decide_false, Bool.not_false, cond_true]
                · simp (disch := omega) only [u2, kbi, fF e10, w1, Int32.le_refl, word_pair R2 lP ha, decide_true, decide_false, Bool.not_false, cond_true]
              · have w3 : ¬ s2.1 10 P = 1 := by rw [w2, nn_e1 (by omega)]; exact one
                have w4 : ¬ s2.1 10 P ≤ 1 := by rw [w2, nn_le1 (by omega)]; omega
                obtain ⟨r, s3, t3, c1, c2, R3, d1, d2, hr', _⟩ := gf_pair (rx_mr R2.1)
                have R3 := rq_mr R2 R3 d1 d2
                have f3 : t3.1 15 0 = 0 := d2.1.trans f2
                rcases hr' with rfl | ⟨f, hf, rfl, h12⟩
                · refine ag_ex (e := 3) (c := 5) (y := 0) ⟨φ', L', rq_f 5 R3⟩ (List.mem_of_getElem? (i := 4) rfl) ((cls _ (to_nof hP u1 w3 c1)).trans ?_) (mdl.trans ?_) rfl
                  · simp only [kbi, decide_true, Bool.not_true, cond_false]
                  · simp only [u2, kbi, fF e10, w1, fF w4, c2, m1_g0, decide_true, decide_false, Bool.not_false, cond_true, cond_false]
                · have hb := R3.1.1
                  have ep3 : s3.2 p (a / 4) = nn P := by rw [d1.1]; exact ep2
                  have u3 : uc s3.2 P = uc s2.2 P := by rw [d1.1]
                  have hr3 : s3.1 1 p = 1 := by rw [d1.2 1 (by omega) (by omega) (by omega) (by omega) (by omega)]; exact hr2
                  obtain ⟨C, K, t4, φ4, L4, k1, k2, k3, k4, k5, k6, k7, k8, k9, k10⟩ := rq_copy R3 hp hr3 h8 ha lP h6 ep3 (by omega) hf h12
                  have hu4 : (kS (zw s3 9 (C * 4)) 10 C 1).1 10 P = nn (uc s3.2 P) := by
                    show upd (s3.1 10) C 1 P = _
                    rw [upd_n (fun z => k4 z.symm)]
                    exact (own_pair R3 lP).2
                  have tc := to_copy hP k2 hf hb.2.1 u1 w3 c1 k7 hu4 (by omega) (by omega)
                  have wl := wl_all (n := 395) (v := v) (t := t4) hp h8 ha hφ k3 (show f < 10 by omega)
                  have wl' : p_X2_write_L134 400 (nn p) (nn a) v (nn (φ' P)) (nn f) (nn K) 0 t4 = _ := wl
                  have R5 := rq_word v k10 k6 k1 (show a % 4 < 4 by omega)
                  rw [k5] at R5
                  have ww : (kW t4 (4 * φ' P) (4 * K)).1 23 (4 * K + a % 4) = va_cpy (u4 (s3.1 9) (C * 4)) (u4 (s3.1 9) (C * 4)) (P * 4) (C * 4) 4 (C * 4 + a % 4) := by
                    have := k10.1.2.2.2.2.2.2.2.1.1 C (a % 4) k6 k1 (by omega)
                    rw [k5] at this
                    exact this.symm
                  rw [ww] at wl'
                  refine ag_ok (x := va_cpy (u4 (s3.1 9) (C * 4)) (u4 (s3.1 9) (C * 4)) (P * 4) (C * 4) 4 (C * 4 + a % 4)) ⟨φ4, L4, R5⟩ ((cls _ tc).trans ?_) (mdl.trans ?_) ?_
                  · simp (disch := omega) only [kbi, nn_m1, rw_p k2 (show a % 4 < 4 by omega), decide_false, Bool.not_false, cond_true]
                    rfl
                  · simp (disch := omega) only [u2, kbi, fF e10, w1, fF w4, c2, nn_g0, k8, wl', decide_true, decide_false, Bool.not_false, cond_true, cond_false]
                  · show t4.1 15 0 = 0
                    rw [k9]; exact f3
      · have nr := nr_no hp (rq_nrun R0 hp hr)
        refine ag_ex (e := 1) (c := 2) (y := 0) ⟨φ, L, rq_f 2 R0⟩ (List.mem_of_getElem? (i := 1) rfl) ?_ ?_ rfl
        · simp only [p_X1_write, ca_ru hp ha hr, kbv]
        · simp only [p_X2_write, o1, o2, kbi, nr, p_X2_fail, fF e10, decide_true, decide_false, cond_true, cond_false, Bool.not_true]
    · have o2 : ∀ t, p_X2_out y 44 t = some (.inl (some 1), t) := fun t => out_out hy
      refine ag_ex (e := 0) (c := 1) (y := 0) (rr_f 1 (rr_f 0 R)) (List.mem_of_getElem? (i := 0) rfl) ?_ ?_ rfl
      · simp only [p_X1_write, ca_a hp hy, kbv]
      · simp only [p_X2_write, o1, o2, kbi, p_X2_fail, fF e10, decide_true, decide_false, cond_true, cond_false, Bool.not_true]
  · have o1 : ∀ t, p_X2_out x 6 t = some (.inl (some 1), t) := fun t => out_out hx
    refine ag_ex (e := 0) (c := 1) (y := 0) (rr_f 1 (rr_f 0 R)) (List.mem_of_getElem? (i := 0) rfl) ?_ ?_ rfl
    · simp only [p_X1_write, ca_p hx, kbv]
    · simp only [p_X2_write, o1, kbi, p_X2_fail, fF e10, decide_true, decide_false, cond_true, cond_false, Bool.not_false]
