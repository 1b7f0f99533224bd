theorem lfp_loop {nf ns : Nat} {s : KS} : ∀ (m k n : Nat), k + m = 6 → m < n → p_X1_leastFreeProcess_L2 nf ns n (nn k) s = some (.inl (some (lf (fun j => decide (s.1 1 j = 0)) m k)), s)
  | 0, k, n + 1, h1, h2 => by
    simp (disch := omega) only [p_X1_leastFreeProcess_L2, nn_6g, (eq_true (by omega) : (6 ≤ k) = True), lf, decide_true, cond_true]
  | m + 1, k, n + 1, h1, h2 => by
    have ih := lfp_loop (nf := nf) (ns := ns) (s := s) m (k + 1) n (by omega) (by omega)
    by_cases h : s.1 1 k = 0
    · simp (disch := omega) only [p_X1_leastFreeProcess_L2, nn_6g, (fF (by omega) : (6 ≤ k) = False), nn_in, nn_tn, (by omega : k < 6), h, lf, decide_true, decide_false, Bool.not_true, cond_true, cond_false, if_true]
    · simp (disch := omega) only [p_X1_leastFreeProcess_L2, nn_6g, (fF (by omega) : (6 ≤ k) = False), nn_in, nn_tn, (by omega : k < 6), fF h, lf, nn_p1, ih, decide_true, decide_false, Bool.not_false, Bool.false_eq_true, cond_true, cond_false, if_false]
def kF (t : KS) (p c : Nat) : KS := kS (kS (kS (kS (kS t 16 c 1) 18 c (nn p)) 17 c (t.1 17 p)) 20 c (t.1 20 p)) 21 c (t.1 21 p)
theorem mf_next {n p k : Nat} {t : KS} (hk : k < 6) (h : ¬ t.1 16 k = 0) : p_X2_fork_L37 (n + 1) (nn p) (nn k) t = p_X2_fork_L37 n (nn p) (nn (k + 1)) t := by
  rw [p_X2_fork_L37]
  simp (disch := omega) only [nn_6g, (fF (by omega) : (6 ≤ k) = False), decide_false, cond_false, nn_in, nn_tn, hk, decide_true, cond_true, fF h, nn_p1]
theorem nn_e6 {a : Nat} (h : a < 2147483648) : (nn a = 6) = (a = 6) := nn_eq (a := a) (b := 6) h (by omega)
theorem mf_none {n p k : Nat} {t : KS} (hk : k = 6) : p_X2_fork_L37 (n + 1) (nn p) (nn k) t = some (.inl (some 0), kS t 15 0 3) := by
  rw [p_X2_fork_L37]
  simp (disch := omega) only [nn_6g, (eq_true (by omega) : (6 ≤ k) = True), decide_true, cond_true, nn_e6, eq_true hk, Bool.not_true, cond_false, p_X2_fail, kbi]
theorem mf_here {n p k : Nat} {t : KS} (hp : p < 6) (hk : k < 6) (h : t.1 16 k = 0) : p_X2_fork_L37 (n + 1) (nn p) (nn k) t = p_X2_fork_L122 (n + 1) (nn p) (nn k) 0 (kF t p k) := by
  have r17 : (kS (kS t 16 k 1) 18 k (nn p)).1 17 p = t.1 17 p := rfl
  have r20 : (kS (kS (kS t 16 k 1) 18 k (nn p)) 17 k (t.1 17 p)).1 20 p = t.1 20 p := rfl
  have r21 : (kS (kS (kS (kS t 16 k 1) 18 k (nn p)) 17 k (t.1 17 p)) 20 k (t.1 20 p)).1 21 p = t.1 21 p := rfl
  rw [p_X2_fork_L37]
  generalize p_X2_fork_L122 (n + 1) = W
  simp (disch := omega) only [nn_6g, (fF (by omega) : (6 ≤ k) = False), decide_false, cond_false, nn_in, nn_tn, hk, hp, decide_true, cond_true, h, nn_e6, (fF (by omega) : (k = 6) = False), Bool.not_false, r17, r20, r21, kF]
theorem mf_loop {p : Nat} {t : KS} (hp : p < 6) : ∀ (m k n : Nat), k + m = 6 → (lf (fun j => decide (t.1 16 j = 0)) m k = -1 ∧ p_X2_fork_L37 (m + n + 1) (nn p) (nn k) t = some (.inl (some 0), kS t 15 0 3)) ∨ ∃ j f, j < 6 ∧ t.1 16 j = 0 ∧ lf (fun j => decide (t.1 16 j = 0)) m k = nn j ∧ p_X2_fork_L37 (m + n + 1) (nn p) (nn k) t = p_X2_fork_L122 (f + n + 1) (nn p) (nn j) 0 (kF t p j)
  | 0, k, n, h1 => Or.inl ⟨rfl, mf_none (by omega)⟩
  | m + 1, k, n, h1 => by
    by_cases h : t.1 16 k = 0
    · refine Or.inr ⟨k, m + 1, by omega, h, ?_, mf_here hp (by omega) h⟩
      rw [lf, if_pos (decide_eq_true h)]
    · have e : lf (fun j => decide (t.1 16 j = 0)) (m + 1) k = lf (fun j => decide (t.1 16 j = 0)) m (k + 1) := by rw [lf, if_neg (by simp [h])]
      rw [e, show m + 1 + n + 1 = (m + n + 1) + 1 by omega, mf_next (by omega) h]
      exact mf_loop hp m (k + 1) n (by omega)
theorem mcp_step {n p c k : Nat} {t : KS} (hp : p < 6) (hc : c < 6) (hk : k < 9) : p_X2_fork_L122 (n + 1) (nn p) (nn c) (nn k) t = p_X2_fork_L122 n (nn p) (nn c) (nn (k + 1)) (kS t 22 (9 * c + k) (t.1 22 (9 * p + k))) := by
  simp (disch := omega) only [p_X2_fork_L122, nn_9g, (fF (by omega) : (9 ≤ k) = False), nn_m9, nn_add, nn_in, nn_tn, (by omega : 9 * p + k < 54), (by omega : 9 * c + k < 54), nn_p1, decide_true, decide_false, cond_true, cond_false]
theorem mcp_loop {nf ns p c : Nat} {φ : Nat → Nat} {L : Nat → Prop} {s : KS} (hp : p < 6) (hc : c < 6) (hpc : p ≠ c) : ∀ (m k n : Nat) (t : KS), k + m = 9 → RX nf ns φ L no0 noG (rowX c) s t → ∃ t', p_X2_fork_L122 (m + n + 1) (nn p) (nn c) (nn k) t = some (.inl (some (nn c)), t') ∧ RX nf ns φ L no0 noG (rowX c) s t' ∧ fixN t t' ∧ (∀ j, k ≤ j → j < 9 → t'.1 22 (9 * c + j) = t.1 22 (9 * p + j)) ∧ (∀ i, i < 9 * c + k ∨ 9 * c + 9 ≤ i → t'.1 22 i = t.1 22 i)
  | 0, k, n, t, h1, R => by
    refine ⟨t, ?_, R, fixN_r t, fun j x y => absurd y (by omega), fun _ _ => rfl⟩
    simp (disch := omega) only [p_X2_fork_L122, nn_9g, (eq_true (by omega) : (9 ≤ k) = True), decide_true, cond_true]
  | m + 1, k, n, t, h1, R => by
    obtain ⟨t', a1, a2, a3, a4, a5⟩ := mcp_loop hp hc hpc m (k + 1) n (kS t 22 (9 * c + k) (t.1 22 (9 * p + k))) (by omega) (rx_tp R (by omega) rfl)
    refine ⟨t', ?_, a2, fixN_t (fixN_s (fixN_r t) 22 _ _ (by omega)) a3, fun j x y => ?_, fun i x => ?_⟩
    · rw [show m + 1 + n + 1 = (m + n + 1) + 1 by omega, mcp_step hp hc (by omega)]; exact a1
    · by_cases z : j = k
      · subst z
        rw [a5 _ (by omega)]; exact upd_a _ _ _
      · rw [a4 j (by omega) y]
        exact upd_n (by omega)
    · rw [a5 i (by omega)]
      exact upd_n (by omega)
theorem rx_share {nf ns P p c k : Nat} {φ : Nat → Nat} {L : Nat → Prop} {X : Nat → Nat → Prop} {s t : KS} (R : RX nf ns φ L no0 noG X s t) (hp : p < 6) (hc : c < 6) (hk : k < 11) (hP : P < 60) (e : s.2 c k = -1) (e2 : s.2 p k = nn P) (h1 : k < 2 → P < 6) (h2 : 2 ≤ k → 6 ≤ P) (hX : 2 ≤ k → X c (k - 2)) : RX nf ns φ L no0 noG X (kG (kS s 10 P (s.1 10 P + 1)) c k (nn P)) t := by
  obtain ⟨hb, hC, hM, hL, hT, hU, hD, hW, hI, hE⟩ := R
  refine ⟨hb, hC, hM, hL, hT, fun Q hQ => ?_, hD, hW, fun q j hq hj => ?_, fun q j hq hj hx => ?_⟩
  · show upd (s.1 10) P (s.1 10 P + 1) Q = nn (uc (tS s.2 c k (nn P)) Q + 0) ∧ (_ ↔ 0 < uc (tS s.2 c k (nn P)) Q + 0) ∧ _
    have h := uc_set (g := s.2) (P := Q) (x := nn P) hc hk
    rw [e, if_neg (fun z : (-1 : Int32) = nn Q => nnm (by omega) z.symm)] at h
    obtain ⟨u1, u2, u3⟩ := hU Q hQ
    by_cases z : Q = P
    · subst z
      have hpos := uc_pos.mpr ⟨p, k, hp, hk, e2⟩
      rw [if_pos rfl] at h
      rw [upd_a, u1, nn_p1, show uc (tS s.2 c k (nn Q)) Q + 0 = uc s.2 Q + no0 Q + 1 from by show _ = uc s.2 Q + 0 + 1; omega]
      exact ⟨rfl, u2.trans ⟨fun _ => by omega, fun _ => Nat.lt_of_lt_of_le hpos (Nat.le_add_right _ _)⟩, u3⟩
    · rw [if_neg (fun y => z (nni (by omega) (by omega) y).symm)] at h
      have h' : uc (tS s.2 c k (nn P)) Q = uc s.2 Q := h
      rw [h', upd_n z]
      exact ⟨u1, u2, u3⟩
  · show tS s.2 c k (nn P) q j = -1 ∨ _
    have : (kG (kS s 10 P (s.1 10 P + 1)) c k (nn P)).2 q j = tS s.2 c k (nn P) q j := rfl
    rw [this, tS_e]
    by_cases z : q = c ∧ j = k
    · rw [if_pos z]
      exact Or.inr ⟨P, hP, rfl, fun x => h1 (z.2 ▸ x), fun x => h2 (z.2 ▸ x)⟩
    · rw [if_neg z]; exact hI q j hq hj
  · show EE φ L (tS s.2 c k (nn P) q (2 + j)) _
    rw [tS_e, if_neg (fun z => hx (by obtain ⟨rfl, z⟩ := z; have := hX (by omega); rwa [show k - 2 = j by omega] at this))]
    exact hE q j hq hj hx
theorem sh_loop {nf ns p c : Nat} {φ : Nat → Nat} {L : Nat → Prop} {t : KS} (hp : p < 6) (hc : c < 6) (hpc : p ≠ c) : ∀ (m k n : Nat) (s : KS), k + m = 11 → m < n → RX nf ns φ L no0 noG (rowX c) s t → (∀ j, k ≤ j → j < 11 → s.2 c j = -1) → ∃ s', p_X1_sharePages_L2 nf ns n (nn p) (nn c) (nn k) s = some (.inl none, s') ∧ RX nf ns φ L no0 noG (rowX c) s' t ∧ fixK s s' ∧ (∀ q j, s'.2 q j = if q = c ∧ k ≤ j ∧ j < 11 then s.2 p j else s.2 q j)
  | 0, k, n + 1, s, h1, h2, R, h => by
    refine ⟨s, ?_, R, fixK_r s, fun q j => by rw [if_neg (by omega)]⟩
    simp (disch := omega) only [p_X1_sharePages_L2, nn_11g, (eq_true (by omega) : (11 ≤ k) = True), decide_true, cond_true]
  | m + 1, k, n + 1, s, h1, h2, R, h => by
    have hI := R.2.2.2.2.2.2.2.2.1
    rcases hI p k hp (by omega) with e | ⟨P, hP, e, e1, e2⟩
    · obtain ⟨s', a1, a2, a3, a4⟩ := sh_loop hp hc hpc m (k + 1) n s (by omega) (by omega) R (fun j x y => h j (by omega) y)
      refine ⟨s', ?_, a2, a3, fun q j => ?_⟩
      · have kid : kG s c k (-1) = s := kG_id (h k (by omega) (by omega))
        simp (disch := omega) only [p_X1_sharePages_L2, nn_11g, (fF (by omega) : (11 ≤ k) = False), nn_in, nn_tn, hp, hc, (by omega : k < 11), e, kid, nn_p1, a1, Bool.and_self, decide_true, decide_false, cond_true, cond_false]
      · rw [a4]
        by_cases z : q = c ∧ j = k
        · obtain ⟨rfl, rfl⟩ := z
          rw [if_neg (by omega), if_pos (by omega), e, h j (by omega) (by omega)]
        · by_cases z2 : q = c ∧ k + 1 ≤ j ∧ j < 11
          · rw [if_pos z2, if_pos ⟨z2.1, by omega, z2.2.2⟩]
          · rw [if_neg z2, if_neg (by omega)]
    · have R1 := rx_share R hp hc (show k < 11 by omega) hP (h k (by omega) (by omega)) e e1 e2 (fun _ => rfl)
      have g1 : ∀ q j, (kG (kS s 10 P (s.1 10 P + 1)) c k (nn P)).2 q j = if q = c ∧ j = k then nn P else s.2 q j := fun q j => by
        show tS s.2 c k (nn P) q j = _
        rw [tS_e]
      obtain ⟨s', a1, a2, a3, a4⟩ := sh_loop hp hc hpc m (k + 1) n _ (by omega) (by omega) R1 (fun j x y => by rw [g1, if_neg (by omega)]; exact h j (by omega) y)
      refine ⟨s', ?_, a2, fixK_t (fixK_g (fixK_s (fixK_r s) 10 _ _ (by omega)) _ _ _) a3, fun q j => ?_⟩
      · simp (disch := omega) only [p_X1_sharePages_L2, nn_11g, (fF (by omega) : (11 ≤ k) = False), nn_in, nn_tn, hp, hc, (by omega : k < 11), e, nn_m1, join_p hP, kbv, nn_p1, a1, Bool.and_self, decide_true, decide_false, cond_true, cond_false]
      · rw [a4, g1, g1]
        by_cases z : q = c ∧ j = k
        · obtain ⟨rfl, rfl⟩ := z
          rw [if_neg (by omega), if_pos ⟨rfl, rfl⟩, if_pos (by omega), e]
        · by_cases z2 : q = c ∧ k + 1 ≤ j ∧ j < 11
          · rw [if_pos z2, if_neg (fun x => hpc x.1), if_pos ⟨z2.1, by omega, z2.2.2⟩]
          · rw [if_neg z2, if_neg z, if_neg (by omega)]
def cF (s : KS) (p c : Nat) : KS := kS (kS (kS (kS (kS s 1 c 1) 3 c (nn p)) 2 c (s.1 2 p)) 5 c (s.1 5 p)) 6 c (s.1 6 p)
theorem fork_pair {nf ns p c f : Nat} {φ : Nat → Nat} {L : Nat → Prop} {s t : KS} (R : RQ nf ns φ L s t) (hp : p < 6) (hr : s.1 1 p = 1) (hc : c < 6) (h0 : s.1 1 c = 0) : ∃ s' t', p_X1_sharePages nf ns (nn p) (nn c) (cF s p c) = some (.inl none, s') ∧ p_X2_fork_L122 (f + 10) (nn p) (nn c) (nn 0) (kF t p c) = some (.inl (some (nn c)), t') ∧ RR nf ns s' t' ∧ t'.1 15 = t.1 15 := by
  have hpc : p ≠ c := fun z => by subst z; rw [hr] at h0; exact absurd h0 (by decide)
  have hc0 : c ≠ 0 := fun z => by subst z; rw [R.2.2.1] at h0; exact absurd h0 (by decide)
  obtain ⟨r1, r2, q, d, e, hq, hd, he1, he3, e1, e2, e3, e4, e5, e6, sh⟩ := rq_run R hp hr
  have rowc : ∀ k, k < 11 → s.2 c k = -1 := by
    obtain ⟨_, x⟩ := R.2.1 c hc
    rcases x with ⟨x, _⟩ | ⟨_, _, x⟩ | ⟨_, _, _, x⟩
    · rw [h0] at x; exact absurd x (by decide)
    · exact x
    · exact x
  have R1 : RX nf ns φ L no0 noG (rowX c) (cF s p c) (kF t p c) := rx_X (rowX c) R.1 (fun _ _ _ _ x => absurd x id)
  obtain ⟨t', b1, b2, b3, b4, b5⟩ := mcp_loop hp hc hpc 9 0 f (kF t p c) (by omega) R1
  rw [show 9 + f + 1 = f + 10 by omega] at b1
  obtain ⟨s', a1, a2, a3, a4⟩ := sh_loop hp hc hpc 11 0 400 (cF s p c) (by omega) (by omega) b2 (fun j x y => rowc j y)
  have g1 : ∀ r j, s'.2 r j = if r = c ∧ j < 11 then s.2 p j else s.2 r j := fun r j => by
    rw [a4]
    by_cases z : r = c ∧ j < 11
    · rw [if_pos ⟨z.1, Nat.zero_le _, z.2⟩, if_pos z]; rfl
    · rw [if_neg (fun x => z ⟨x.1, x.2.2⟩), if_neg z]; rfl
  have A := rx_X noX a2 (fun r k _ hk x _ => by
    have x : r = c := x
    subst x
    rw [g1, if_pos (by omega), b4 k (by omega) hk]
    exact R.1.2.2.2.2.2.2.2.2.2 p k hp hk id)
  refine ⟨s', t', a1, b1, ⟨φ, L, A, fun r hrr => ?_, ?_, ?_⟩, b3.1⟩
  · by_cases z : r = c
    · subst z
      refine ⟨?_, Or.inl ⟨?_, ?_, q, d, e, hq, hd, he1, he3, ?_, ?_, ?_, ?_, ?_, ?_, ?_, ?_, fun k hk => ?_, fun k hk => ?_⟩⟩
      · rw [a3 1 (by omega), b3.2 16 (by omega) (by omega)]
        exact (upd_a _ _ _).trans (upd_a _ _ _).symm
      · rw [a3 1 (by omega)]; exact upd_a _ _ _
      · rw [a3 3 (by omega), b3.2 18 (by omega) (by omega)]
        exact (upd_a _ _ _).trans (upd_a _ _ _).symm
      · rw [a3 2 (by omega)]; exact (upd_a _ _ _).trans e1
      · rw [b3.2 17 (by omega) (by omega)]; exact (upd_a _ _ _).trans e2
      · rw [a3 5 (by omega)]; exact (upd_a _ _ _).trans e3
      · rw [b3.2 20 (by omega) (by omega)]; exact (upd_a _ _ _).trans e4
      · rw [a3 6 (by omega)]; exact (upd_a _ _ _).trans e5
      · rw [b3.2 21 (by omega) (by omega)]; exact (upd_a _ _ _).trans e6
      · rw [g1, if_pos (by omega)]; exact sh.1
      · rw [g1, if_pos (by omega)]; exact sh.2.1
      · rw [g1, if_pos (by omega)]; exact sh.2.2.1 k hk
      · rw [g1, if_pos (by omega)]; exact sh.2.2.2 k hk
    · refine pa_of (R.2.1 r hrr) (fun c' h1 h2 => ?_) ?_ (fun c' h1 h2 => ?_)
      · rw [a3 c' (by omega)]
        unfold cF
        rw [kS_n z, kS_n z, kS_n z, kS_n z, kS_n z]
      · funext j
        rw [g1, if_neg (fun x => z x.1)]
      · rw [b3.2 c' h1 h2]
        unfold kF
        rw [kS_n z, kS_n z, kS_n z, kS_n z, kS_n z]
  · rw [a3 1 (by omega)]
    show upd (s.1 1) c 1 0 = 1
    rw [upd_n (fun z => hc0 z.symm)]; exact R.2.2.1
  · rw [a3 3 (by omega)]
    show upd (s.1 3) c (nn p) 0 = -1
    rw [upd_n (fun z => hc0 z.symm)]; exact R.2.2.2
theorem a_fork {nf ns : Nat} {s t : KS} (x : Int32) (R : RR nf ns s t) : AG nf ns [(0, 1), (1, 2), (2, 3)] (p_X1_fork nf ns x s) (p_X2_fork x t) := by
  have e10 : ¬ (1 : Int32) = 0 := by decide
  rcases split x 6 (by omega) with ⟨p, hp, rfl⟩ | hx
  · have o1 : ∀ t, p_X2_out (nn p) 6 t = some (.inl (some 0), t) := fun t => out_in (n := 6) hp (by omega)
    obtain ⟨φ, L, R⟩ := R
    have R0 := rq_f 0 R
    by_cases hr : s.1 1 p = 1
    · have nr := nr_ok hp (rq_run R0 hp hr).1
      have lfp : p_X1_leastFreeProcess nf ns s = _ := lfp_loop (nf := nf) (ns := ns) (s := s) 6 0 400 (by omega) (by omega)
      have le : lf (fun j => decide (s.1 1 j = 0)) 6 0 = lf (fun j => decide ((kS t 15 0 0).1 16 j = 0)) 6 0 := lf_cong 6 0 (fun j _ hj => by rw [(R0.2.1 j (by omega)).1])
      rw [le] at lfp
      have md : p_X2_fork (nn p) t = p_X2_fork_L37 400 (nn p) 0 (kS t 15 0 0) := by
        simp only [p_X2_fork, o1, kbi, nr, decide_true, cond_true]
      rcases mf_loop (t := kS t 15 0 0) hp 6 0 393 (by omega) with ⟨l1, l2⟩ | ⟨c, f, hc, l0, l1, l2⟩
      · rw [l1] at lfp
        refine ag_ex (e := 2) (c := 3) (y := 0) ⟨φ, L, rq_f 3 R0⟩ (List.mem_of_getElem? (i := 2) rfl) ?_ (md.trans l2) rfl
        simp only [p_X1_fork, cp_in hp, ru_ok hp hr, lfp, kbv, kbi, decide_true, Bool.not_true, cond_false]
      · rw [l1] at lfp
        have h0 : s.1 1 c = 0 := ((R0.2.1 c hc).1).trans l0
        obtain ⟨s', t', a1, a2, a3, a4⟩ := fork_pair (f := f + 384) R0 hp hr hc h0
        have r2 : (kS (kS s 1 c 1) 3 c (nn p)).1 2 p = s.1 2 p := rfl
        have r5 : (kS (kS (kS s 1 c 1) 3 c (nn p)) 2 c (s.1 2 p)).1 5 p = s.1 5 p := rfl
        have r6 : (kS (kS (kS (kS s 1 c 1) 3 c (nn p)) 2 c (s.1 2 p)) 5 c (s.1 5 p)).1 6 p = s.1 6 p := rfl
        have a1' : p_X1_sharePages nf ns (nn p) (nn c) (kS (kS (kS (kS (kS s 1 c 1) 3 c (nn p)) 2 c (s.1 2 p)) 5 c (s.1 5 p)) 6 c (s.1 6 p)) = some (.inl none, s') := a1
        refine ag_ok (x := nn c) a3 ?_ (md.trans (l2.trans ?_)) (by rw [a4]; rfl)
        · simp (disch := omega) only [p_X1_fork, cp_in hp, ru_ok hp hr, lfp, kbv, kbi, nn_m1, nn_in, nn_tn, hp, hc, r2, r5, r6, a1', decide_true, decide_false, Bool.not_false, cond_true]
        · rw [show f + 393 + 1 = f + 384 + 10 by omega]; exact a2
    · have nr := nr_no hp (rq_nrun R0 hp hr)
      refine ag_ex (e := 1) (c := 2) (y := 0) ⟨φ, L, rq_f 2 R0⟩ (List.mem_of_getElem? (i := 1) rfl) ?_ ?_ rfl
      · simp only [p_X1_fork, cp_in hp, ru_no hp hr, kbv]
      · simp only [p_X2_fork, o1, kbi, nr, p_X2_fail, fF e10, decide_true, decide_false, cond_true, cond_false]
  · have o1 : ∀ t, p_X2_out x 6 t = some (.inl (some 1), t) := fun t => out_out hx
    refine ag_ex (e := 0) (c := 1) (y := 0) (rr_f 1 (rr_f 0 R)) (List.mem_of_getElem? (i := 0) rfl) ?_ ?_ rfl
    · simp only [p_X1_fork, cp_out hx, kbv]
    · simp only [p_X2_fork, o1, kbi, p_X2_fail, fF e10, decide_true, decide_false, cond_true, cond_false]
/-! await -/
theorem ip_loop {nf ns p : Nat} {s : KS} : ∀ (m k n : Nat), k + m = 6 → m < n → p_X1_isParent_L2 nf ns n (nn p) (nn k) s = some (.inl (some (if cnt (fun j => decide (s.1 3 (k + j) = nn p)) m = 0 then 0 else 1)), s)
  | 0, k, n + 1, h1, h2 => by
    simp (disch := omega) only [p_X1_isParent_L2, nn_6g, (eq_true (by omega) : (6 ≤ k) = True), cnt, decide_true, cond_true, if_true]
  | m + 1, k, n + 1, h1, h2 => by
    have ih := ip_loop (nf := nf) (ns := ns) (p := p) (s := s) m (k + 1) n (by omega) (by omega)
    rw [cnt_s (fun j => decide (s.1 3 j = nn p)) k m]
    by_cases h : s.1 3 k = nn p
    · rw [if_pos (decide_eq_true h), if_neg (by omega)]
      simp (disch := omega) only [p_X1_isParent_L2, nn_6g, (fF (by omega) : (6 ≤ k) = False), nn_in, nn_tn, (by omega : k < 6), h, decide_true, decide_false, Bool.not_true, cond_true, cond_false]
    · rw [if_neg (show ¬ decide (s.1 3 k = nn p) = true by simp [h]), Nat.zero_add]
      simp (disch := omega) only [p_X1_isParent_L2, nn_6g, (fF (by omega) : (6 ≤ k) = False), nn_in, nn_tn, (by omega : k < 6), fF h, nn_p1, ih, decide_true, decide_false, Bool.not_false, cond_true, cond_false]
theorem ld_loop {nf ns p : Nat} {s : KS} : ∀ (m k n : Nat), k + m = 6 → m < n → p_X1_leastDeadChild_L2 nf ns n (nn p) (nn k) s = some (.inl (some (lf (fun j => decide (s.1 3 j = nn p ∧ s.1 1 j = 2)) m k)), s)
  | 0, k, n + 1, h1, h2 => by
    simp (disch := omega) only [p_X1_leastDeadChild_L2, nn_6g, (eq_true (by omega) : (6 ≤ k) = True), lf, decide_true, cond_true]
  | m + 1, k, n + 1, h1, h2 => by
    have ih := ld_loop (nf := nf) (ns := ns) (p := p) (s := s) m (k + 1) n (by omega) (by omega)
    rw [lf]
    by_cases h : s.1 3 k = nn p
    · by_cases h' : s.1 1 k = 2
      · rw [if_pos (decide_eq_true ⟨h, h'⟩)]
        simp (disch := omega) only [p_X1_leastDeadChild_L2, nn_6g, (fF (by omega) : (6 ≤ k) = False), nn_in, nn_tn, (by omega : k < 6), h, h', decide_true, decide_false, Bool.not_true, cond_true, cond_false]
      · rw [if_neg (by simp [h'])]
        simp (disch := omega) only [p_X1_leastDeadChild_L2, nn_6g, (fF (by omega) : (6 ≤ k) = False), nn_in, nn_tn, (by omega : k < 6), h, fF h', nn_p1, ih, decide_true, decide_false, Bool.not_true, Bool.not_false, cond_true, cond_false]
    · rw [if_neg (by simp [h])]
      simp (disch := omega) only [p_X1_leastDeadChild_L2, nn_6g, (fF (by omega) : (6 ≤ k) = False), nn_in, nn_tn, (by omega : k < 6), fF h, nn_p1, ih, decide_true, decide_false, Bool.not_false, cond_true, cond_false]
theorem aw_loop {nf ns p : Nat} {φ : Nat → Nat} {L : Nat → Prop} {s t : KS} (hp : p < 6) (R : RQ nf ns φ L s t) : ∀ (m k n c : Nat) (l : Int32), k + m = 6 → (l = -1 ∨ ∃ v, v < 6 ∧ l = nn v) → p_X2_await_L42 (m + n) (nn p) (nn c) l (nn k) t = p_X2_await_L42 n (nn p) (nn (c + cnt (fun j => decide (s.1 3 (k + j) = nn p)) m)) (if l = -1 then lf (fun j => decide (s.1 3 j = nn p ∧ s.1 1 j = 2)) m k else l) (nn 6) t
  | 0, k, n, c, l, h1, hl => by
    rw [Nat.zero_add, show k = 6 by omega]
    by_cases h : l = -1
    · rw [if_pos h, h]; rfl
    · rw [if_neg h]; rfl
  | m + 1, k, n, c, l, h1, hl => by
    have ih := fun c l => aw_loop hp R m (k + 1) n c l (by omega)
    rw [cnt_s (fun j => decide (s.1 3 j = nn p)) k m, lf, show m + 1 + n = (m + n) + 1 by omega]
    have hk : k < 6 := by omega
    generalize m + n = v at ih ⊢
    generalize p_X2_await_L42 n = W at ih ⊢
    obtain ⟨e, x⟩ := R.2.1 k hk
    have skip : (t.1 16 k = 0 ∨ ¬ t.1 18 k = nn p) → p_X2_await_L42 (v + 1) (nn p) (nn c) l (nn k) t = p_X2_await_L42 v (nn p) (nn c) l (nn (k + 1)) t := fun z => by
      by_cases z0 : t.1 16 k = 0
      · simp (disch := omega) only [p_X2_await_L42, nn_6g, (fF (by omega) : (6 ≤ k) = False), nn_in, nn_tn, hk, z0, nn_p1, decide_true, decide_false, cond_true, cond_false]
      · simp (disch := omega) only [p_X2_await_L42, nn_6g, (fF (by omega) : (6 ≤ k) = False), nn_in, nn_tn, hk, fF z0, fF (z.resolve_left z0), nn_p1, decide_true, decide_false, cond_true, cond_false]
    have no : ¬ s.1 3 k = nn p → (t.1 16 k = 0 ∨ ¬ t.1 18 k = nn p) → p_X2_await_L42 (v + 1) (nn p) (nn c) l (nn k) t = W (nn p) (nn (c + ((if decide (s.1 3 k = nn p) = true then 1 else 0) + cnt (fun j => decide (s.1 3 (k + 1 + j) = nn p)) m))) (if l = -1 then if decide (s.1 3 k = nn p ∧ s.1 1 k = 2) = true then nn k else lf (fun j => decide (s.1 3 j = nn p ∧ s.1 1 j = 2)) m (k + 1) else l) (nn 6) t := fun z1 z2 => by
      rw [skip z2, ih c l hl, if_neg (show ¬ decide (s.1 3 k = nn p) = true by simp [z1]), if_neg (show ¬ decide (s.1 3 k = nn p ∧ s.1 1 k = 2) = true by simp [z1]), Nat.zero_add]
    rcases x with ⟨x1, x2, _⟩ | ⟨x1, x2, _⟩ | ⟨x1, x2, _⟩
    · by_cases z : s.1 3 k = nn p
      · have y0 : ¬ t.1 16 k = 0 := by rw [← e, x1]; decide
        have y2 : ¬ t.1 16 k = 2 := by rw [← e, x1]; decide
        have y2' : ¬ s.1 1 k = 2 := by rw [x1]; decide
        have z' : t.1 18 k = nn p := x2 ▸ z
        rw [if_pos (decide_eq_true z), if_neg (show ¬ decide (s.1 3 k = nn p ∧ s.1 1 k = 2) = true by simp [y2']), ← Nat.add_assoc, ← ih (c + 1) l hl]
        simp (disch := omega) only [p_X2_await_L42, nn_6g, (fF (by omega) : (6 ≤ k) = False), nn_in, nn_tn, hk, fF y0, z', fF y2, nn_p1, decide_true, decide_false, Bool.not_false, cond_true, cond_false]
      · exact no z (Or.inr (x2 ▸ z))
    · exact no (by rw [x2]; exact fun z => nnm (by omega) z.symm) (Or.inl (e ▸ x1))
    · by_cases z : s.1 3 k = nn p
      · have y0 : ¬ t.1 16 k = 0 := by rw [← e, x1]; decide
        have y2 : t.1 16 k = 2 := by rw [← e, x1]
        have z' : t.1 18 k = nn p := x2 ▸ z
        rw [if_pos (decide_eq_true z), if_pos (decide_eq_true ⟨z, x1⟩), ← Nat.add_assoc]
        rcases hl with rfl | ⟨w, hw, rfl⟩
        · have i2 := ih (c + 1) (nn k) (Or.inr ⟨k, hk, rfl⟩)
          rw [if_neg (nnm (by omega))] at i2
          rw [if_pos rfl, ← i2]
          simp (disch := omega) only [p_X2_await_L42, nn_6g, (fF (by omega) : (6 ≤ k) = False), nn_in, nn_tn, hk, (show ((2 : Int32) = 0) = False by decide), z', y2, m1_g0, nn_p1, decide_true, decide_false, Bool.not_true, cond_true, cond_false]
        · have i2 := ih (c + 1) (nn w) (Or.inr ⟨w, hw, rfl⟩)
          rw [if_neg (nnm (by omega))] at i2 ⊢
          rw [← i2]
          simp (disch := omega) only [p_X2_await_L42, nn_6g, (fF (by omega) : (6 ≤ k) = False), nn_in, nn_tn, hk, (show ((2 : Int32) = 0) = False by decide), z', y2, nn_g0, nn_p1, decide_true, decide_false, Bool.not_true, cond_true, cond_false]
      · exact no z (Or.inr (x2 ▸ z))
theorem aw_none {n p k : Nat} {l : Int32} {t : KS} (hk : k = 6) : p_X2_await_L42 (n + 1) (nn p) (nn 0) l (nn k) t = some (.inl (some 0), kS t 15 0 3) := by
  have e : (nn 0 = 0) = True := eq_true rfl
  simp (disch := omega) only [p_X2_await_L42, nn_6g, (eq_true (by omega) : (6 ≤ k) = True), e, p_X2_fail, kbi, decide_true, Bool.not_true, cond_true, cond_false]
theorem aw_live {n p c k : Nat} {t : KS} (hk : k = 6) (hc : ¬ c = 0) (hc2 : c < 1000) : p_X2_await_L42 (n + 1) (nn p) (nn c) (-1) (nn k) t = some (.inl (some 0), kS t 15 0 4) := by
  simp (disch := omega) only [p_X2_await_L42, nn_6g, (eq_true (by omega) : (6 ≤ k) = True), nn_e0, fF hc, m1_g0, p_X2_fail, kbi, decide_true, decide_false, Bool.not_false, cond_true, cond_false]
theorem nn_256m (a : Nat) : 256 * nn a = nn (256 * a) := nn_mul 256 a
theorem aw_dead {n p c k v : Nat} {t : KS} (hk : k = 6) (hc : ¬ c = 0) (hc2 : c < 1000) (hv : v < 6) : p_X2_await_L42 (n + 1) (nn p) (nn c) (nn v) (nn k) t = some (.inl (some (nn (256 * v) + t.1 19 v)), kS t 16 v 0) := by
  have e : (kS t 16 v 0).1 19 v = t.1 19 v := rfl
  simp (disch := omega) only [p_X2_await_L42, nn_6g, (eq_true (by omega) : (6 ≤ k) = True), nn_e0, fF hc, nn_g0, nn_in, nn_tn, hv, nn_256m, e, decide_true, decide_false, Bool.not_false, cond_true, cond_false]
theorem a_await {nf ns : Nat} {s t : KS} (x : Int32) (R : RR nf ns s t) : AG nf ns [(0, 1), (1, 2), (2, 3), (3, 4)] (p_X1_await nf ns x s) (p_X2_await x t) := by
  have e10 : ¬ (1 : Int32) = 0 := by decide
  rcases split x 6 (by omega) with ⟨p, hp, rfl⟩ | hx
  · have o1 : ∀ t, p_X2_out (nn p) 6 t = some (.inl (some 0), t) := fun t => out_in (n := 6) hp (by omega)
    obtain ⟨φ, L, R⟩ := R
    have R0 := rq_f 0 R
    by_cases hr : s.1 1 p = 1
    · have nr := nr_ok hp (rq_run R0 hp hr).1
      have ip : p_X1_isParent nf ns (nn p) s = _ := ip_loop (nf := nf) (ns := ns) (p := p) (s := s) 6 0 400 (by omega) (by omega)
      have ld : p_X1_leastDeadChild nf ns (nn p) s = _ := ld_loop (nf := nf) (ns := ns) (p := p) (s := s) 6 0 400 (by omega) (by omega)
      rw [cnt_z (fun j => decide (s.1 3 j = nn p))] at ip
      have n30 : ¬ s.1 3 0 = nn p := by rw [R0.2.2.2]; exact fun z => nnm (by omega) z.symm
      have c1 : cnt (fun j => decide (s.1 3 j = nn p)) 6 = cnt (fun j => decide (s.1 3 (1 + j) = nn p)) 5 := by
        have := cnt_s (fun j => decide (s.1 3 j = nn p)) 0 5
        rw [cnt_z (fun j => decide (s.1 3 j = nn p)), if_neg (show ¬ decide (s.1 3 0 = nn p) = true by simp [n30]), Nat.zero_add, Nat.zero_add] at this
        exact this
      have l1 : lf (fun j => decide (s.1 3 j = nn p ∧ s.1 1 j = 2)) 6 0 = lf (fun j => decide (s.1 3 j = nn p ∧ s.1 1 j = 2)) 5 1 := by
        rw [lf, if_neg (show ¬ decide (s.1 3 0 = nn p ∧ s.1 1 0 = 2) = true by simp [n30])]
      have aw := aw_loop (t := kS t 15 0 0) hp R0 5 1 395 0 (-1) (by omega) (Or.inl rfl)
      rw [if_pos rfl, Nat.zero_add, ← c1, ← l1] at aw
      have md : p_X2_await (nn p) t = p_X2_await_L42 400 (nn p) 0 (-1) 1 (kS t 15 0 0) := by
        simp only [p_X2_await, o1, kbi, nr, decide_true, cond_true]
      have aw' : p_X2_await_L42 400 (nn p) 0 (-1) 1 (kS t 15 0 0) = p_X2_await_L42 (394 + 1) (nn p) (nn (cnt (fun j => decide (s.1 3 j = nn p)) 6)) (lf (fun j => decide (s.1 3 j = nn p ∧ s.1 1 j = 2)) 6 0) (nn 6) (kS t 15 0 0) := aw
      have hle := cnt_le (fun j => decide (s.1 3 j = nn p)) 6
      by_cases z : cnt (fun j => decide (s.1 3 j = nn p)) 6 = 0
      · rw [if_pos z] at ip
        rw [z] at aw'
        refine ag_ex (e := 2) (c := 3) (y := 0) ⟨φ, L, rq_f 3 R0⟩ (List.mem_of_getElem? (i := 2) rfl) ?_ (md.trans (aw'.trans (aw_none rfl))) rfl
        simp only [p_X1_await, cp_in hp, ru_ok hp hr, ip, kbv, kbi, decide_true, Bool.not_true, cond_false]
      · rw [if_neg z] at ip
        rcases lf_spec (fun j => decide (s.1 3 j = nn p ∧ s.1 1 j = 2)) 6 0 with ⟨w, _⟩ | ⟨v, _, hv, w1, w⟩
        · rw [w] at ld aw'
          refine ag_ex (e := 3) (c := 4) (y := 0) ⟨φ, L, rq_f 4 R0⟩ (List.mem_of_getElem? (i := 3) rfl) ?_ (md.trans (aw'.trans (aw_live rfl z (by omega)))) rfl
          simp only [p_X1_await, cp_in hp, ru_ok hp hr, ip, ld, kbv, kbi, fF e10, decide_true, decide_false, Bool.not_true, Bool.not_false, cond_true, cond_false]
        · rw [w] at ld aw'
          have hv6 : v < 6 := by omega
          obtain ⟨w2, w3⟩ := of_decide_eq_true w1
          have hv0 : v ≠ 0 := fun q => n30 (q ▸ w2)
          obtain ⟨e, y⟩ := R0.2.1 v hv6
          have y' : s.1 4 v = (kS t 15 0 0).1 19 v ∧ ∀ k, k < 11 → s.2 v k = -1 := by
            rcases y with ⟨y, _⟩ | ⟨y, _⟩ | ⟨_, _, y⟩
            · rw [w3] at y; exact absurd y (by decide)
            · rw [w3] at y; exact absurd y (by decide)
            · exact y
          have e4 : (kS (kS s 1 v 0) 3 v (-1)).1 4 v = s.1 4 v := rfl
          refine ag_ok (x := nn (256 * v) + s.1 4 v) (s' := kS (kS s 1 v 0) 3 v (-1)) (t' := kS (kS t 15 0 0) 16 v 0) ⟨φ, L, R0.1, fun r hrr => ?_, ?_, ?_⟩ ?_ (md.trans (aw'.trans ((aw_dead rfl z (by omega) hv6).trans (by rw [y'.1])))) rfl
          · by_cases q : r = v
            · subst q
              exact ⟨(upd_a _ _ _).trans (upd_a _ _ _).symm, Or.inr (Or.inl ⟨upd_a _ _ _, upd_a _ _ _, y'.2⟩)⟩
            · exact pa_of (R0.2.1 r hrr) (fun c' _ _ => by rw [kS_n q, kS_n q]) rfl (fun c' _ _ => kS_n q)
          · show upd (s.1 1) v 0 0 = 1
            rw [upd_n (fun q => hv0 q.symm)]; exact R.2.2.1
          · show upd (s.1 3) v (-1) 0 = -1
            rw [upd_n (fun q => hv0 q.symm)]; exact R.2.2.2
          · simp (disch := omega) only [p_X1_await, cp_in hp, ru_ok hp hr, ip, ld, kbv, kbi, fF e10, nn_m1, nn_in, nn_tn, hv6, nn_256m, e4, decide_true, decide_false, Bool.not_true, Bool.not_false, cond_true, cond_false]
    · have nr := nr_no hp (rq_nrun R0 hp hr)
      refine ag_ex (e := 1) (c := 2) (y := 0) ⟨φ, L, rq_f 2 R0⟩ (List.mem_of_getElem? (i := 1) rfl) ?_ ?_ rfl
      · simp only [p_X1_await, cp_in hp, ru_no hp hr, kbv]
      · simp only [p_X2_await, o1, kbi, nr, p_X2_fail, fF e10, decide_true, decide_false, cond_true, cond_false]
  · have o1 : ∀ t, p_X2_out x 6 t = some (.inl (some 1), t) := fun t => out_out hx
    refine ag_ex (e := 0) (c := 1) (y := 0) (rr_f 1 (rr_f 0 R)) (List.mem_of_getElem? (i := 0) rfl) ?_ ?_ rfl
    · simp only [p_X1_await, cp_out hx, kbv]
    · simp only [p_X2_await, o1, kbi, p_X2_fail, fF e10, decide_true, decide_false, cond_true, cond_false]
