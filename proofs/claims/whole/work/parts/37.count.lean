theorem hm12 {nf ns : Nat} {s : KS} (hn : nf ≤ 10) : ∀ (m i n c : Nat), i + m = nf → m < n → p_X0_howManyFree_12_L4 nf ns n (nn c) (nn i) s = some (.inl (some (nn (c + cnt (fun j => decide (s.1 12 (i + j) = -1)) m))), s)
  | 0, i, n + 1, c, h1, h2 => by
    simp (disch := omega) [p_X0_howManyFree_12_L4, nn_lit, nn_le, (by omega : nf ≤ i), cnt]
  | m + 1, i, n + 1, c, h1, h2 => by
    rw [cnt_s (fun j => decide (s.1 12 j = -1)) i m]
    by_cases h : s.1 12 i = -1
    · have ih := hm12 (ns := ns) (s := s) hn m (i + 1) n (c + 1) (by omega) (by omega)
      simp (disch := omega) [p_X0_howManyFree_12_L4, nn_lit, nn_le, (fF (by omega) : (nf ≤ i) = False), nn_in, nn_tn, (by omega : i < nf), h, nn_p1, ih]
      congr 1; omega
    · have ih := hm12 (ns := ns) (s := s) hn m (i + 1) n c (by omega) (by omega)
      simp (disch := omega) [p_X0_howManyFree_12_L4, nn_lit, nn_le, (fF (by omega) : (nf ≤ i) = False), nn_in, nn_tn, (by omega : i < nf), h, nn_p1, ih]
theorem hm14 {nf ns : Nat} {s : KS} (hn : ns ≤ 20) : ∀ (m i n c : Nat), i + m = ns → m < n → p_X0_howManyFree_14_L4 nf ns n (nn c) (nn i) s = some (.inl (some (nn (c + cnt (fun j => decide (s.1 14 (i + j) = -1)) m))), s)
  | 0, i, n + 1, c, h1, h2 => by
    simp (disch := omega) [p_X0_howManyFree_14_L4, nn_lit, nn_le, (by omega : ns ≤ i), cnt]
  | m + 1, i, n + 1, c, h1, h2 => by
    rw [cnt_s (fun j => decide (s.1 14 j = -1)) i m]
    by_cases h : s.1 14 i = -1
    · have ih := hm14 (nf := nf) (s := s) hn m (i + 1) n (c + 1) (by omega) (by omega)
      simp (disch := omega) [p_X0_howManyFree_14_L4, nn_lit, nn_le, (fF (by omega) : (ns ≤ i) = False), nn_in, nn_tn, (by omega : i < ns), h, nn_p1, ih]
      congr 1; omega
    · have ih := hm14 (nf := nf) (s := s) hn m (i + 1) n c (by omega) (by omega)
      simp (disch := omega) [p_X0_howManyFree_14_L4, nn_lit, nn_le, (fF (by omega) : (ns ≤ i) = False), nn_in, nn_tn, (by omega : i < ns), h, nn_p1, ih]
theorem ff_p {nf ns : Nat} {s : KS} (hn : nf ≤ 10) : p_X0_freeFrames nf ns s = some (.inl (some (nn (cnt (fun j => decide (s.1 12 j = -1)) nf))), s) := by
  have h := hm12 (ns := ns) (s := s) hn nf 0 400 0 (by omega) (by omega)
  rw [cnt_z (fun j => decide (s.1 12 j = -1)), Nat.zero_add] at h
  have h' : p_X0_howManyFree_12_L4 nf ns 400 0 0 s = _ := h
  rw [p_X0_freeFrames, p_X0_howManyFree_12, h']; rfl
theorem fs_p {nf ns : Nat} {s : KS} (hn : ns ≤ 20) : p_X0_freeSlots nf ns s = some (.inl (some (nn (cnt (fun j => decide (s.1 14 j = -1)) ns))), s) := by
  have h := hm14 (nf := nf) (s := s) hn ns 0 400 0 (by omega) (by omega)
  rw [cnt_z (fun j => decide (s.1 14 j = -1)), Nat.zero_add] at h
  have h' : p_X0_howManyFree_14_L4 nf ns 400 0 0 s = _ := h
  rw [p_X0_freeSlots, p_X0_howManyFree_14, h']; rfl
theorem mc1 {nf : Nat} {t : KS} {x l3 : Int32} (hn : nf ≤ 10) (h15 : t.1 15 1 = nn nf) (hM : ∀ f, f < nf → t.1 26 f = -1 ∨ ∃ k, k < 70 ∧ t.1 26 f = nn k) : ∀ (m i n c : Nat), i + m = nf → p_X2_count_L28 (m + n + 1) x (nn c) l3 (nn i) t = p_X2_count_L64 (n + 1) x (nn (c + cnt (fun j => decide (t.1 26 (i + j) = -1)) m)) l3 0 t
  | 0, i, n, c, h1 => by
    rw [show 0 + n + 1 = n + 1 by omega]
    simp (disch := omega) only [p_X2_count_L28, h15, nn_le, (eq_true (by omega) : (nf ≤ i) = True), cnt, decide_true, cond_true, Nat.add_zero]
  | m + 1, i, n, c, h1 => by
    rw [cnt_s (fun j => decide (t.1 26 j = -1)) i m, show m + 1 + n + 1 = (m + n + 1) + 1 by omega]
    rcases hM i (by omega) with h | ⟨k, hk, h⟩
    · have ih := mc1 (x := x) (l3 := l3) hn h15 hM m (i + 1) n (c + 1) (by omega)
      generalize m + n + 1 = v at ih ⊢
      simp (disch := omega) only [p_X2_count_L28, h15, nn_le, (fF (by omega) : (nf ≤ i) = False), nn_in, nn_tn, (by omega : i < 10), h, m1_g0, nn_p1, ih, decide_true, decide_false, cond_true, cond_false, if_true]
      rw [Nat.add_assoc]
    · have ih := mc1 (x := x) (l3 := l3) hn h15 hM m (i + 1) n c (by omega)
      generalize m + n + 1 = v at ih ⊢
      simp (disch := omega) only [p_X2_count_L28, h15, nn_le, (fF (by omega) : (nf ≤ i) = False), nn_in, nn_tn, (by omega : i < 10), h, nn_g0, nn_m1, nn_p0, nn_p1, ih, decide_true, decide_false, cond_true, cond_false, if_false, Bool.false_eq_true, Nat.zero_add]
theorem mc2 {ns : Nat} {t : KS} {x l2 : Int32} (hn : ns ≤ 20) (h15 : t.1 15 2 = nn ns) (hM : ∀ i, i < ns → t.1 28 i = 0 ∨ t.1 28 i = 1) : ∀ (m i n c : Nat), i + m = ns → p_X2_count_L64 (m + n + 1) x l2 (nn c) (nn i) t = p_X2_count_L64 1 x l2 (nn (c + cnt (fun j => decide (t.1 28 (i + j) = 0)) m)) (nn ns) t
  | 0, i, n, c, h1 => by
    rw [show 0 + n + 1 = n + 1 by omega]
    simp (disch := omega) only [p_X2_count_L64, h15, nn_le, (eq_true (by omega) : (ns ≤ i) = True), Nat.le_refl, cnt, decide_true, cond_true, Nat.add_zero]
  | m + 1, i, n, c, h1 => by
    rw [cnt_s (fun j => decide (t.1 28 j = 0)) i m, show m + 1 + n + 1 = (m + n + 1) + 1 by omega]
    have e10 : ((1 : Int32) = 0) = False := by decide
    rcases hM i (by omega) with h | h
    · have ih := mc2 (x := x) (l2 := l2) hn h15 hM m (i + 1) n (c + 1) (by omega)
      generalize p_X2_count_L64 1 = W at ih ⊢
      generalize m + n + 1 = v at ih ⊢
      simp (disch := omega) only [p_X2_count_L64, h15, nn_le, (fF (by omega) : (ns ≤ i) = False), nn_in, nn_tn, (by omega : i < 20), h, nn_p1, ih, decide_true, decide_false, cond_true, cond_false, if_true]
      rw [Nat.add_assoc]
    · have ih := mc2 (x := x) (l2 := l2) hn h15 hM m (i + 1) n c (by omega)
      generalize p_X2_count_L64 1 = W at ih ⊢
      generalize m + n + 1 = v at ih ⊢
      simp (disch := omega) only [p_X2_count_L64, h15, nn_le, (fF (by omega) : (ns ≤ i) = False), nn_in, nn_tn, (by omega : i < 20), h, e10, nn_p0, nn_p1, ih, decide_true, decide_false, cond_true, cond_false, if_false, Bool.false_eq_true, Nat.zero_add]
theorem mcount {nf ns w : Nat} {t : KS} (hn : nf ≤ 10) (hm : ns ≤ 20) (hw : w < 16) (h1 : t.1 15 1 = nn nf) (h2 : t.1 15 2 = nn ns) (hM : MI nf ns (t.1 25) (t.1 26) (t.1 28)) : p_X2_count (nn w) t = p_X2_count_L64 1 (nn w) (nn (cnt (fun j => decide (t.1 26 j = -1)) nf)) (nn (cnt (fun j => decide (t.1 28 j = 0)) ns)) (nn ns) (kS t 15 0 0) := by
  have a := mc1 (t := kS t 15 0 0) (x := nn w) (l3 := 0) hn h1 hM.2.2.2.1 nf 0 (399 - nf) 0 (by omega)
  rw [show nf + (399 - nf) + 1 = 400 by omega, cnt_z (fun j => decide ((kS t 15 0 0).1 26 j = -1)), Nat.zero_add] at a
  have b := mc2 (t := kS t 15 0 0) (x := nn w) (l2 := nn (cnt (fun j => decide ((kS t 15 0 0).1 26 j = -1)) nf)) hm h2 hM.2.2.2.2.1 ns 0 (399 - nf - ns) 0 (by omega)
  rw [show ns + (399 - nf - ns) + 1 = 399 - nf + 1 by omega, cnt_z (fun j => decide ((kS t 15 0 0).1 28 j = 0)), Nat.zero_add] at b
  rw [p_X2_count, show p_X2_out (nn w) 16 (kS t 15 0 0) = _ from out_in (n := 16) hw (by omega)]
  simp only [kbi, decide_true, cond_true]
  have a' : p_X2_count_L28 400 (nn w) 0 0 0 (kS t 15 0 0) = p_X2_count_L64 (399 - nf + 1) (nn w) (nn (cnt (fun j => decide ((kS t 15 0 0).1 26 j = -1)) nf)) 0 0 (kS t 15 0 0) := a
  have b' : p_X2_count_L64 (399 - nf + 1) (nn w) (nn (cnt (fun j => decide ((kS t 15 0 0).1 26 j = -1)) nf)) 0 0 (kS t 15 0 0) = _ := b
  rw [a', b']
  rfl
theorem nn_6s {a : Nat} (h : 6 ≤ a) : nn a - 6 = nn (a - 6) := nn_sub (a := a) (b := 6) h
theorem a_count {nf ns : Nat} {s t : KS} (x : Int32) (R : RR nf ns s t) : AG nf ns [(0, 1)] (p_X1_count nf ns x s) (p_X2_count x t) := by
  rcases split x 16 (by omega) with ⟨w, hw, rfl⟩ | hx
  · have c2 : p_X1_checkRange nf ns (nn w) 0 15 s = _ := cr_in (n := 16) hw (by omega)
    obtain ⟨φ, L, R⟩ := R
    have R0 : RR nf ns s (kS t 15 0 0) := ⟨φ, L, R⟩
    have M := rx_mr R.1
    obtain ⟨⟨hb0, hb, hb'⟩, hC, hM, hL, ⟨⟨h, hh, ch, th⟩, t1, t2, x1, x2, x3⟩⟩ := M
    have mc := mcount hb hb' hw t1 t2 hM
    have kf : cnt (fun j => decide (t.1 26 j = -1)) nf = cnt (fun j => decide (s.1 12 j = -1)) nf := cnt_cong nf (fun f hf => by
      rcases mr_fr (rx_mr R.1) hf with ⟨a, b⟩ | ⟨P, hP, _, hk, a, b, _⟩
      · rw [a, b]
      · rw [a, b, decide_eq_false (nnm (by omega)), decide_eq_false (nnm (by omega))])
    have ks : cnt (fun j => decide (t.1 28 j = 0)) ns = cnt (fun j => decide (s.1 14 j = -1)) ns := cnt_cong ns (fun f hf => (mr_sl (rx_mr R.1) hf).symm)
    rw [kf, ks] at mc
    have k1 : (kS t 15 0 0).1 15 2 = nn ns := t2
    have k17 : (kS t 15 0 0).1 15 17 = s.1 8 7 := x1.symm
    have k18 : (kS t 15 0 0).1 15 18 = s.1 8 8 := x2.symm
    have k19 : (kS t 15 0 0).1 15 19 = s.1 8 9 := x3.symm
    have k16 : (kS t 15 0 0).1 15 16 = s.1 8 6 := th.trans ch.symm
    have ti : (nn w).toInt = (w : Int) := nn_toInt (by omega)
    have hw' : w = 0 ∨ w = 1 ∨ w = 2 ∨ w = 3 ∨ w = 4 ∨ w = 5 ∨ 6 ≤ w := by omega
    rcases hw' with rfl | rfl | rfl | rfl | rfl | rfl | h6
    · exact ag_ok (x := nn (cnt (fun j => decide (s.1 12 j = -1)) nf)) R0 (by rw [p_X1_count, c2, ti]; show kbi (p_X0_freeFrames nf ns s) (fun x s => some (.inl (some x), s)) = _; rw [ff_p hb]; rfl) (mc.trans (by rw [p_X2_count_L64, k1]; simp (disch := omega) [nn_le, ti])) rfl
    · exact ag_ok (x := nn (cnt (fun j => decide (s.1 14 j = -1)) ns)) R0 (by rw [p_X1_count, c2, ti]; show kbi (p_X0_freeSlots nf ns s) (fun x s => some (.inl (some x), s)) = _; rw [fs_p hb']; rfl) (mc.trans (by rw [p_X2_count_L64, k1]; simp (disch := omega) [nn_le, ti])) rfl
    · exact ag_ok (x := s.1 8 7) R0 (by rw [p_X1_count, c2, ti]; rfl) (mc.trans (by rw [p_X2_count_L64, k1]; simp (disch := omega) [nn_le, ti, k17])) rfl
    · exact ag_ok (x := s.1 8 8) R0 (by rw [p_X1_count, c2, ti]; rfl) (mc.trans (by rw [p_X2_count_L64, k1]; simp (disch := omega) [nn_le, ti, k18])) rfl
    · exact ag_ok (x := s.1 8 6) R0 (by rw [p_X1_count, c2, ti]; rfl) (mc.trans (by rw [p_X2_count_L64, k1]; simp (disch := omega) [nn_le, ti, k16])) rfl
    · exact ag_ok (x := s.1 8 9) R0 (by rw [p_X1_count, c2, ti]; rfl) (mc.trans (by rw [p_X2_count_L64, k1]; simp (disch := omega) [nn_le, ti, k19])) rfl
    · have z : ∀ c : Nat, c < 6 → decide ((w : Int) = (c : Int)) = false := fun c hc => decide_eq_false (by omega)
      have z0 := z 0 (by omega); have z1 := z 1 (by omega); have z2 := z 2 (by omega); have z3 := z 3 (by omega); have z4 := z 4 (by omega); have z5 := z 5 (by omega)
      have cl2 : p_X1_count nf ns (nn w) s = p_X0_markOf nf ns (nn (w - 6)) s := by
        rw [p_X1_count, c2]
        simp only [kbv, ti]
        rw [show decide ((w : Int) = 0) = false from z0, show decide ((w : Int) = 1) = false from z1, show decide ((w : Int) = 2) = false from z2, show decide ((w : Int) = 3) = false from z3, show decide ((w : Int) = 4) = false from z4, show decide ((w : Int) = 5) = false from z5, nn_6s h6]
        simp only [cond_false]
        rw [p_X0_markOf]
        by_cases q1 : (Int32.ofNat nf) ≤ nn (w - 6)
        · simp [q1, kbi]
        · by_cases q2 : am_in (nn (w - 6)) nf = true
          · by_cases q3 : s.1 12 (nn (w - 6)).toNatClampNeg = -1
            · simp [q1, q2, q3, kbi]
            · by_cases q4 : s.1 13 (nn (w - 6)).toNatClampNeg = 0
              · simp [q1, q2, q3, q4, kbi]
              · simp [q1, q2, q3, q4, kbi]
          · simp [q1, q2, kbi]
      have fin2 : p_X2_count_L64 1 (nn w) (nn (cnt (fun j => decide (s.1 12 j = -1)) nf)) (nn (cnt (fun j => decide (s.1 14 j = -1)) ns)) (nn ns) (kS t 15 0 0) = cond (decide ((0 : Int32) ≤ t.1 26 (w - 6))) (cond (decide (t.1 27 (w - 6) = 0)) (some (.inl (some 0), kS t 15 0 0)) (some (.inl (some 1), kS t 15 0 0))) (some (.inl (some (-1)), kS t 15 0 0)) := by
        rw [p_X2_count_L64, k1]
        simp (disch := omega) only [nn_le, Nat.le_refl, decide_true, cond_true, ti]
        rw [show decide ((w : Int) = 0) = false from z0, show decide ((w : Int) = 1) = false from z1, show decide ((w : Int) = 2) = false from z2, show decide ((w : Int) = 3) = false from z3, show decide ((w : Int) = 4) = false from z4, show decide ((w : Int) = 5) = false from z5, nn_6s h6]
        simp (disch := omega) only [cond_false, nn_in, nn_tn, (by omega : w - 6 < 10), decide_true, cond_true]
        rfl
      by_cases c : w - 6 < nf
      · rcases mr_fr (rx_mr R.1) c with ⟨a, b⟩ | ⟨P, hP, lP, hk, a, b, _, _, e5, e6⟩
        · refine ag_ok (x := -1) R0 (cl2.trans ?_) (mc.trans (fin2.trans ?_)) rfl
          · simp (disch := omega) [p_X0_markOf, nn_lit, nn_le, (fF (by omega) : (nf ≤ w - 6) = False), nn_in, nn_tn, c, a]
          · rw [b]; simp [m1_g0]
        · rcases e6 with e6 | e6
          · refine ag_ok (x := 0) R0 (cl2.trans ?_) (mc.trans (fin2.trans ?_)) rfl
            · simp (disch := omega) [p_X0_markOf, nn_lit, nn_le, (fF (by omega) : (nf ≤ w - 6) = False), nn_in, nn_tn, c, a, nn_m1, e6]
            · rw [b, ← e5, e6]; simp (disch := omega) [nn_g0]
          · refine ag_ok (x := 1) R0 (cl2.trans ?_) (mc.trans (fin2.trans ?_)) rfl
            · simp (disch := omega) [p_X0_markOf, nn_lit, nn_le, (fF (by omega) : (nf ≤ w - 6) = False), nn_in, nn_tn, c, a, nn_m1, e6]
            · rw [b, ← e5, e6]; simp (disch := omega) [nn_g0]
      · refine ag_ok (x := -1) R0 (cl2.trans ?_) (mc.trans (fin2.trans ?_)) rfl
        · simp (disch := omega) [p_X0_markOf, nn_lit, nn_le, (by omega : nf ≤ w - 6)]
        · rw [hM.2.2.2.2.2.2.2 (w - 6) (by omega) (by omega)]; simp [m1_g0]
  · have c2 : p_X1_checkRange nf ns x 0 15 s = _ := cr_out (n := 16) (by omega) (by omega) hx
    have o1 : ∀ t, p_X2_out x 16 t = some (.inl (some 1), t) := fun t => out_out hx
    refine ag_ex (e := 0) (c := 1) (y := 0) (rr_f 1 (rr_f 0 R)) (List.mem_of_getElem? (i := 0) rfl) ?_ ?_ rfl
    · simp [p_X1_count, c2, kbv]
    · simp [p_X2_count, o1, kbi, p_X2_fail]
