theorem nn_100m (a : Nat) : 100 * nn a = nn (100 * a) := nn_mul 100 a
theorem nn_10m (a : Nat) : 10 * nn a = nn (10 * a) := nn_mul 10 a
theorem nn_r2 {a : Nat} (h : a < 2147483648) : nn a - nn (a / 2) * 2 = nn (a % 2) := by
  have := nn_rem (a := a) (b := 2) h (by omega)
  rw [nn_div h (by omega)] at this; exact this
theorem cw_p {nf ns P i : Nat} {s : KS} (hP : P < 60) (hi : i < 4) : p_X0_wordOf nf ns (nn P) (nn i) s = some (.inl (some (s.1 9 (P * 4 + i))), s) := by
  simp (disch := omega) only [p_X0_wordOf, nn_4m, nn_add, nn_in, nn_tn, (by omega : P * 4 + i < 240), decide_true, cond_true]
theorem mw_o {K a : Nat} {t : KS} (hK : K < 64) (ha : a < 44) : p_X2_wordOf (nn K) (nn a) t = some (.inl (some (t.1 23 (4 * K + a % 4))), t) := by
  simp (disch := omega) only [p_X2_wordOf, nn_64l, hK, nn_m4, nn_d4, nn_r4, nn_add, nn_in, nn_tn, (by omega : 4 * K + a % 4 < 256), decide_true, cond_true]
theorem mw_t {P a : Nat} {t : KS} (hP : P < 6) (ha : a < 44) : p_X2_wordOf (nn (64 + P)) (nn a) t = some (.inl (some (nn (100 * (P / 2) + 10 * (P % 2) + a % 4))), t) := by
  have e : (64 + P) % 2 = P % 2 := by omega
  simp (disch := omega) only [p_X2_wordOf, nn_64l, (fF (by omega) : (64 + P < 64) = False), nn_64s, nn_d2, nn_r2, e, nn_100m, nn_10m, nn_d4, nn_r4, nn_add, decide_false, cond_false]
theorem word_pair {nf ns P a : Nat} {φ : Nat → Nat} {L : Nat → Prop} {s t : KS} (R : RQ nf ns φ L s t) (lP : L P) (ha : a < 44) : p_X2_wordOf (nn (φ P)) (nn a) t = some (.inl (some (s.1 9 (P * 4 + a % 4))), t) := by
  obtain ⟨⟨hb, hC, hM, hL, hT, hU, hD, hW, hI, hE⟩, hA, _⟩ := R
  by_cases c : P < 6
  · rw [hL.2.2.2.2.2.2.1 P c, mw_t c ha, hW.2 P (a % 4) c (by omega)]
  · rw [mw_o ((hL.1 P lP).2.2.1 (by omega)) ha, hW.1 P (a % 4) lP (by omega) (by omega)]
theorem a_read {nf ns : Nat} {s t : KS} (x y : Int32) (R : RR nf ns s t) : AG nf ns [(0, 1), (1, 2), (4, 3), (3, 4)] (p_X1_read nf ns x y s) (p_X2_read x y t) := by
  have e10 : ¬ (1 : Int32) = 0 := by decide
  rcases split x 6 (by omega) with ⟨p, hp, rfl⟩ | hx
  · have o1 : ∀ t, p_X2_out (nn p) 6 t = some (.inl (some 0), t) := fun t => out_in (n := 6) hp (by omega)
    rcases split y 44 (by omega) with ⟨a, ha, rfl⟩ | hy
    · have o2 : ∀ t, p_X2_out (nn a) 44 t = some (.inl (some 0), t) := fun t => out_in (n := 44) ha (by omega)
      obtain ⟨φ, L, R⟩ := R
      have R0 := rq_f 0 R
      by_cases hr : s.1 1 p = 1
      · have nr := nr_ok hp (rq_run R0 hp hr).1
        obtain ⟨φ', L', s1, t1, g1, g2, R1, g3, g4⟩ := gs_pair R0 hp hr ha
        have hr1 : s1.1 1 p = 1 := by rw [g3]; exact hr
        have f1 : t1.1 15 0 = 0 := by rw [g4]; rfl
        rcases page_pair R1 hp hr1 ha with ⟨_, q1, q2⟩ | ⟨P, lP, hP, hk, _, q1, q2, _⟩
        · refine ag_ex (e := 4) (c := 3) (y := 0) ⟨φ', L', rq_f 3 R1⟩ (List.mem_of_getElem? (i := 2) rfl) ?_ ?_ rfl
          · simp (disch := omega) only [p_X1_read, ca_ok hp ha hr, kbv, nn_d4, g1, q1, kbi]
          · simp (disch := omega) only [p_X2_read, o1, o2, kbi, kbv, nr, g2, q2, m1_g0, p_X2_fail, decide_true, decide_false, cond_true, cond_false, Bool.not_true]
        · obtain ⟨g, s2, t2, u1, u2, R2, v1, v2, hg⟩ := touch_pair (rx_mr R1.1) lP
          have R2 := rq_mr R1 R2 v1 v2
          rcases hg with rfl | rfl
          · refine ag_ex (e := 3) (c := 4) (y := 0) ⟨φ', L', rq_f 4 R2⟩ (List.mem_of_getElem? (i := 3) rfl) ?_ ?_ rfl
            · simp (disch := omega) only [p_X1_read, ca_ok hp ha hr, kbv, nn_d4, g1, q1, kbi, u1, decide_true, Bool.not_true, cond_false]
            · simp (disch := omega) only [p_X2_read, o1, o2, kbi, kbv, nr, g2, q2, nn_g0, u2, p_X2_fail, decide_true, decide_false, cond_true, cond_false, Bool.not_true]
          · refine ag_ok (x := s2.1 9 (P * 4 + a % 4)) ⟨φ', L', R2⟩ ?_ ?_ (v2.1.trans f1)
            · simp (disch := omega) only [p_X1_read, ca_ok hp ha hr, kbv, nn_d4, g1, q1, kbi, u1, fF e10, decide_false, Bool.not_false, cond_true, nn_r4, cw_p hP (show a % 4 < 4 by omega)]
            · simp (disch := omega) only [p_X2_read, o1, o2, kbi, kbv, nr, g2, q2, nn_g0, u2, fF e10, word_pair R2 lP ha, decide_true, decide_false, cond_true, cond_false, Bool.not_true]
      · have nr := nr_no hp (rq_nrun R0 hp hr)
        refine ag_ex (e := 1) (c := 2) (y := 0) ⟨φ, L, rq_f 2 R0⟩ (List.mem_of_getElem? (i := 1) rfl) ?_ ?_ rfl
        · simp only [p_X1_read, ca_ru hp ha hr, kbv]
        · simp only [p_X2_read, o1, o2, kbi, nr, p_X2_fail, fF e10, decide_true, decide_false, cond_true, cond_false, Bool.not_true]
    · have o2 : ∀ t, p_X2_out y 44 t = some (.inl (some 1), t) := fun t => out_out hy
      refine ag_ex (e := 0) (c := 1) (y := 0) (rr_f 1 (rr_f 0 R)) (List.mem_of_getElem? (i := 0) rfl) ?_ ?_ rfl
      · simp only [p_X1_read, ca_a hp hy, kbv]
      · simp only [p_X2_read, o1, o2, kbi, p_X2_fail, fF e10, decide_true, decide_false, cond_true, cond_false, Bool.not_true]
  · have o1 : ∀ t, p_X2_out x 6 t = some (.inl (some 1), t) := fun t => out_out hx
    refine ag_ex (e := 0) (c := 1) (y := 0) (rr_f 1 (rr_f 0 R)) (List.mem_of_getElem? (i := 0) rfl) ?_ ?_ rfl
    · simp only [p_X1_read, ca_p hx, kbv]
    · simp only [p_X2_read, o1, kbi, p_X2_fail, fF e10, decide_true, decide_false, cond_true, cond_false, Bool.not_false]
/-! write -/
theorem kG_id {s : KS} {p k : Nat} {x : Int32} (h : s.2 p k = x) : kG s p k x = s := by
  have : tS s.2 p k x = s.2 := funext fun q => funext fun j => by
    rw [tS_e]
    split
    · rename_i c; rw [c.1, c.2, h]
    · rfl
  show (s.1, tS s.2 p k x) = s
  rw [this]
theorem wr_set {P i : Nat} {φ : Nat → Nat} {L : Nat → Prop} {w w' : Nat → Int32} {v : Int32} (h : WR φ L w w') (inj : ∀ Q, L Q → φ Q = φ P → Q = P) (h6 : 6 ≤ P) (hi : i < 4) : WR φ L (upd w (P * 4 + i) v) (upd w' (4 * φ P + i) v) := ⟨fun Q j a b c => by
  rw [upd_e, upd_e]
  by_cases e : Q = P ∧ j = i
  · obtain ⟨rfl, rfl⟩ := e
    rw [if_pos rfl, if_pos rfl]
  · have n1 : ¬ (Q * 4 + j = P * 4 + i) := by omega
    have n2 : ¬ (4 * φ Q + j = 4 * φ P + i) := fun z => by
      have : φ Q = φ P := by omega
      have := inj Q a this
      omega
    rw [if_neg n1, if_neg n2]; exact h.1 Q j a b c, fun Q j a b => by rw [upd_n (by omega)]; exact h.2 Q j a b⟩
theorem rq_word {nf ns P i : Nat} {φ : Nat → Nat} {L : Nat → Prop} {s t : KS} (v : Int32) (R : RQ nf ns φ L s t) (lP : L P) (h6 : 6 ≤ P) (hi : i < 4) : RQ nf ns φ L (kS s 9 (P * 4 + i) v) (kS t 23 (4 * φ P + i) v) := by
  obtain ⟨⟨hb, hC, hM, hL, hT, hU, hD, hW, hI, hE⟩, hA⟩ := R
  exact ⟨⟨hb, hC, hM, hL, hT, hU, hD, wr_set hW (fun Q a b => hL.2.2.1 Q P a lP b) h6 hi, hI, hE⟩, hA⟩
theorem rw_p {nf ns P i : Nat} {s : KS} {v : Int32} (hP : P < 60) (hi : i < 4) : p_X0_replaceWord nf ns (nn P) (nn i) v s = some (.inl (some (s.1 9 (P * 4 + i))), kS s 9 (P * 4 + i) v) := by
  simp (disch := omega) only [p_X0_replaceWord, nn_4m, nn_add, nn_in, nn_tn, (by omega : P * 4 + i < 240), decide_true, cond_true]
theorem cpy_e (g : Nat → Int32) (sp dp j : Nat) : va_cpy g g sp dp 4 j = if dp ≤ j ∧ j < dp + 4 then g (sp + (j - dp)) else g j := by
  simp [va_cpy]
def c4 (w : Nat → Int32) (a b : Nat) : Nat → Int32 := upd (upd (upd (upd w b (w a)) (b + 1) (upd w b (w a) (a + 1))) (b + 2) (upd (upd w b (w a)) (b + 1) (upd w b (w a) (a + 1)) (a + 2))) (b + 3) (upd (upd (upd w b (w a)) (b + 1) (upd w b (w a) (a + 1))) (b + 2) (upd (upd w b (w a)) (b + 1) (upd w b (w a) (a + 1)) (a + 2)) (a + 3))
theorem c4_e {w : Nat → Int32} {a b : Nat} (h : a + 4 ≤ b ∨ b + 4 ≤ a) (j : Nat) : c4 w a b j = if b ≤ j ∧ j < b + 4 then w (a + (j - b)) else w j := by
  have n : ∀ x, x < 4 → ∀ y, y < 4 → ¬ (a + x = b + y) := fun x hx y hy => by omega
  have n0 : ¬ a + 1 = b := by omega
  have n1 : ¬ a + 2 = b + 1 := by omega
  have n2 : ¬ a + 2 = b := by omega
  have n3 : ¬ a + 3 = b + 2 := by omega
  have n4 : ¬ a + 3 = b + 1 := by omega
  have n5 : ¬ a + 3 = b := by omega
  simp only [c4, upd_e]
  by_cases h0 : j = b
  · subst h0
    rw [if_neg (by omega), if_neg (by omega), if_neg (by omega), if_pos rfl, if_pos (by omega)]; congr 1; omega
  · by_cases h1 : j = b + 1
    · subst h1
      rw [if_neg (by omega), if_neg (by omega), if_pos rfl, if_neg n0, if_pos (by omega)]; congr 1; omega
    · by_cases h2 : j = b + 2
      · subst h2
        rw [if_neg (by omega), if_pos rfl, if_neg n1, if_neg n2, if_pos (by omega)]; congr 1; omega
      · by_cases h3 : j = b + 3
        · subst h3
          rw [if_pos rfl, if_neg n3, if_neg n4, if_neg n5, if_pos (by omega)]; congr 1; omega
        · rw [if_neg h3, if_neg h2, if_neg h1, if_neg h0, if_neg (by omega)]
def kW (t : KS) (a b : Nat) : KS := kS (kS (kS (kS t 23 b (t.1 23 a)) 23 (b + 1) ((kS t 23 b (t.1 23 a)).1 23 (a + 1))) 23 (b + 2) ((kS (kS t 23 b (t.1 23 a)) 23 (b + 1) ((kS t 23 b (t.1 23 a)).1 23 (a + 1))).1 23 (a + 2))) 23 (b + 3) ((kS (kS (kS t 23 b (t.1 23 a)) 23 (b + 1) ((kS t 23 b (t.1 23 a)).1 23 (a + 1))) 23 (b + 2) ((kS (kS t 23 b (t.1 23 a)) 23 (b + 1) ((kS t 23 b (t.1 23 a)).1 23 (a + 1))).1 23 (a + 2))).1 23 (a + 3))
theorem wl_step {n i K C : Nat} {x y v z : Int32} {t : KS} (hi : i < 4) (hK : K < 64) (hC : C < 64) : p_X2_write_L134 (n + 1) x y v (nn K) z (nn C) (nn i) t = p_X2_write_L134 n x y v (nn K) z (nn C) (nn (i + 1)) (kS t 23 (4 * C + i) (t.1 23 (4 * K + i))) := by
  simp (disch := omega) only [p_X2_write_L134, nn_4g, (fF (by omega) : (4 ≤ i) = False), nn_m4, nn_add, nn_in, nn_tn, (by omega : 4 * K + i < 256), (by omega : 4 * C + i < 256), nn_p1, decide_true, decide_false, cond_true, cond_false]
theorem wl_end {n p a C f : Nat} {k v : Int32} {t : KS} (hp : p < 6) (h8 : 8 ≤ a) (ha : a < 44) (hC : C < 64) (hf : f < 10) : p_X2_write_L134 (n + 1) (nn p) (nn a) v k (nn f) (nn C) (nn 4) t = some (.inl (some (t.1 23 (4 * C + a % 4))), kS (kS (kS (kS (kS (kS t 25 C (nn f)) 26 f (nn C)) 27 f 1) 15 18 (t.1 15 18 + 1)) 22 (9 * p + (a / 4 - 2)) (nn C)) 23 (4 * C + a % 4) v) := by
  have e18 : (kS (kS (kS t 25 C (nn f)) 26 f (nn C)) 27 f 1).1 15 18 = t.1 15 18 := rfl
  by_cases c : 32 ≤ a
  · rw [show 9 * p + (a / 4 - 2) = 9 * p + (6 + (a - 32) / 4) by omega]
    simp (disch := omega) only [p_X2_write_L134, nn_4g, Nat.le_refl, putIn_p (show C < 70 by omega) hf, kbv, kbi, nn_32g, c, nn_32s, nn_d4, nn_6p, nn_m9, nn_add, nn_in, nn_tn, (by omega : 9 * p + (6 + (a - 32) / 4) < 54), e18, mw_o hC ha, nn_m4, nn_r4, (by omega : 4 * C + a % 4 < 256), decide_true, cond_true]
    rfl
  · rw [show 9 * p + (a / 4 - 2) = 9 * p + (a - 8) / 4 by omega]
    simp (disch := omega) only [p_X2_write_L134, nn_4g, Nat.le_refl, putIn_p (show C < 70 by omega) hf, kbv, kbi, nn_32g, (fF c), nn_8s, nn_d4, nn_m9, nn_add, nn_in, nn_tn, (by omega : 9 * p + (a - 8) / 4 < 54), e18, mw_o hC ha, nn_m4, nn_r4, (by omega : 4 * C + a % 4 < 256), decide_true, decide_false, cond_true, cond_false]
    rfl
theorem wl_all {n p a K C f : Nat} {v : Int32} {t : KS} (hp : p < 6) (h8 : 8 ≤ a) (ha : a < 44) (hK : K < 64) (hC : C < 64) (hf : f < 10) : p_X2_write_L134 (n + 5) (nn p) (nn a) v (nn K) (nn f) (nn C) (nn 0) t = some (.inl (some ((kW t (4 * K) (4 * C)).1 23 (4 * C + a % 4))), kS (kS (kS (kS (kS (kS (kW t (4 * K) (4 * C)) 25 C (nn f)) 26 f (nn C)) 27 f 1) 15 18 (t.1 15 18 + 1)) 22 (9 * p + (a / 4 - 2)) (nn C)) 23 (4 * C + a % 4) v) := by
  rw [show n + 5 = ((((n + 1) + 1) + 1) + 1) + 1 by omega, wl_step (by omega) hK hC, wl_step (by omega) hK hC, wl_step (by omega) hK hC, wl_step (by omega) hK hC, wl_end hp h8 ha hC hf]
  rfl
