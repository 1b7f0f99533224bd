theorem to_no {nf ns P : Nat} {s s1 : KS} (h : p_X0_touch nf ns (nn P) s = some (.inl (some 0), s1)) : p_X0_touchOwn nf ns (nn P) s = some (.inl (some (-1)), s1) := by
  simp only [p_X0_touchOwn, h, kbi, decide_true, Bool.not_true, cond_false]
theorem to_one {nf ns P : Nat} {s s1 : KS} (hP : P < 60) (h : p_X0_touch nf ns (nn P) s = some (.inl (some 1), s1)) (u : s1.1 10 P = 1) : p_X0_touchOwn nf ns (nn P) s = some (.inl (some (nn P)), s1) := by
  have e10 : ¬ (1 : Int32) = 0 := by decide
  simp (disch := omega) only [p_X0_touchOwn, h, kbi, fF e10, nn_in, nn_tn, hP, u, decide_true, decide_false, Bool.not_true, Bool.not_false, cond_true, cond_false]
theorem to_nof {nf ns P : Nat} {s s1 s3 : KS} (hP : P < 60) (h : p_X0_touch nf ns (nn P) s = some (.inl (some 1), s1)) (u : ¬ s1.1 10 P = 1) (hg : p_X0_getFrame nf ns s1 = some (.inl (some (-1)), s3)) : p_X0_touchOwn nf ns (nn P) s = some (.inl (some (-1)), s3) := by
  have e10 : ¬ (1 : Int32) = 0 := by decide
  simp (disch := omega) only [p_X0_touchOwn, h, kbi, fF e10, nn_in, nn_tn, hP, fF u, hg, decide_true, decide_false, Bool.not_true, Bool.not_false, cond_true, cond_false]
theorem to_copy {nf ns P C f u : Nat} {s s1 s3 s4 : KS} (hP : P < 60) (hC : C < 60) (hf : f < nf) (hn : nf ≤ 10) (h : p_X0_touch nf ns (nn P) s = some (.inl (some 1), s1)) (u1 : ¬ s1.1 10 P = 1) (hg : p_X0_getFrame nf ns s1 = some (.inl (some (nn f)), s3)) (hnp : p_X0_newPage nf ns s3 = some (.inl (some (nn C)), s4)) (hu : s4.1 10 P = nn u) (hu2 : 2 ≤ u) (hu3 : u < 1000) : p_X0_touchOwn nf ns (nn P) s = some (.inl (some (nn C)), kS (kS (kS (kS (kS (kC s4 9 (P * 4) (C * 4) 4) 12 f (nn C)) 11 C (nn f)) 13 f 1) 8 8 (s4.1 8 8 + 1)) 10 P (nn (u - 1))) := by
  have e10 : ¬ (1 : Int32) = 0 := by decide
  have e88 : (kS (kS (kS (kC s4 9 (P * 4) (C * 4) 4) 12 f (nn C)) 11 C (nn f)) 13 f 1).1 8 8 = s4.1 8 8 := rfl
  have hl := leave_stay (nf := nf) (ns := ns) (s := kS (kS (kS (kS (kC s4 9 (P * 4) (C * 4) 4) 12 f (nn C)) 11 C (nn f)) 13 f 1) 8 8 (s4.1 8 8 + 1)) hP hu hu2 hu3
  have t4 : (4 : Int32).toNatClampNeg = 4 := by decide
  have l4 : ((4 : Int32) < 0) = False := by decide
  simp (disch := omega) only [p_X0_touchOwn, h, kbi, kbv, fF e10, nn_in, nn_tn, hP, fF u1, hg, nn_m1, hnp, nn_4m, nn_l0, l4, t4, (by omega : P * 4 + 4 ≤ 240), (by omega : C * 4 + 4 ≤ 240), settle_p hC hf hn, e88, hl, decide_true, decide_false, Bool.not_true, Bool.not_false, Bool.and_self, cond_true, cond_false]
theorem ur_copy {L : Nat → Prop} {us : Nat → Int32} {g : Nat → Nat → Int32} {p k P C : Nat} (U : UR L no0 us g) (hp : p < 6) (hk : k < 11) (hP : P < 60) (hC : C < 60) (e : g p k = nn P) (h0 : uc g C = 0) (h2 : 2 ≤ uc g P) : UR (fun Q => L Q ∨ Q = C) no0 (upd (upd us C 1) P (nn (uc g P - 1))) (tS g p k (nn C)) := fun Q hQ => by
  have h := uc_set (g := g) (P := Q) (x := nn C) hp hk
  rw [e] at h
  obtain ⟨u1, u2, u3⟩ := U Q hQ
  have u1 : us Q = nn (uc g Q) := u1
  have u2 : L Q ↔ 0 < uc g Q := u2
  have hPC : P ≠ C := fun z => by rw [z] at h2; omega
  show _ = nn (uc (tS g p k (nn C)) Q) ∧ (_ ↔ 0 < uc (tS g p k (nn C)) Q) ∧ _
  rw [upd_e, upd_e]
  by_cases c : Q = P
  · subst c
    rw [if_pos rfl, if_neg (fun z => hPC (nni (by omega) (by omega) z).symm)] at h
    rw [if_pos rfl]
    exact ⟨by congr 1; omega, ⟨fun _ => by omega, fun _ => Or.inl (u2.mpr (by omega))⟩, u3⟩
  · rw [if_neg (fun z => c (nni (by omega) (by omega) z).symm)] at h
    rw [if_neg c]
    by_cases d : Q = C
    · subst d
      rw [if_pos rfl] at h ⊢
      exact ⟨by rw [show uc (tS g p k (nn Q)) Q = 1 by omega]; rfl, ⟨fun _ => by omega, fun _ => Or.inr rfl⟩, u3⟩
    · rw [if_neg (fun z => d (nni (by omega) (by omega) z).symm)] at h
      rw [if_neg d]
      have h' : uc (tS g p k (nn C)) Q = uc g Q := h
      rw [h']
      exact ⟨u1, ⟨fun x => u2.mp (x.elim id (fun z => absurd z d)), fun x => Or.inl (u2.mpr x)⟩, u3⟩
theorem wr_copy {P K C : Nat} {φ : Nat → Nat} {L : Nat → Prop} {w w' : Nat → Int32} (h : WR φ L w w') (lP : L P) (h6 : 6 ≤ P) (hC6 : 6 ≤ C) (nC : ¬ L C) (nK : ∀ Q, L Q → φ Q ≠ K) : WR (fS φ C K) (fun Q => L Q ∨ Q = C) (va_cpy (u4 w (C * 4)) (u4 w (C * 4)) (P * 4) (C * 4) 4) (c4 w' (4 * φ P) (4 * K)) := by
  have hPC : P ≠ C := fun z => nC (z ▸ lP)
  have hPK := nK P lP
  refine ⟨fun Q i a b c => ?_, fun Q i a b => ?_⟩
  · rw [cpy_e, c4_e (by omega)]
    rcases a with a | rfl
    · have nq : Q ≠ C := fun z => nC (z ▸ a)
      have nk := nK Q a
      rw [if_neg (by omega), fS_n nq, if_neg (by omega), u4_e, if_neg (by omega)]
      exact h.1 Q i a b c
    · rw [if_pos (by omega), fS_a, if_pos (by omega), u4_e, if_neg (by omega), show P * 4 + (Q * 4 + i - Q * 4) = P * 4 + i by omega, show 4 * φ P + (4 * K + i - 4 * K) = 4 * φ P + i by omega]
      exact h.1 P i lP h6 c
  · rw [cpy_e, if_neg (by omega), u4_e, if_neg (by omega)]
    exact h.2 Q i a b
theorem er_copy {K C p k : Nat} {φ : Nat → Nat} {L : Nat → Prop} {g : Nat → Nat → Int32} {tp : Nat → Int32} (h : ER φ L noX g tp) (nC : ¬ L C) (hC6 : 6 ≤ C) (hC : C < 60) (hk : k < 9) : ER (fS φ C K) (fun Q => L Q ∨ Q = C) noX (tS g p (2 + k) (nn C)) (upd tp (9 * p + k) (nn K)) := fun q j hq hj hx => by
  rw [tS_e, upd_e]
  by_cases c : q = p ∧ j = k
  · obtain ⟨rfl, rfl⟩ := c
    rw [if_pos ⟨rfl, rfl⟩, if_pos rfl]
    exact Or.inr ⟨C, Or.inr rfl, hC6, hC, rfl, by rw [fS_a]⟩
  · rw [if_neg (fun z => c ⟨z.1, by omega⟩), if_neg (by omega)]
    exact ee_new (h q j hq hj hx) nC
/-- a shared page is copied, in class and reference -/
theorem rq_copy {nf ns p a P f : Nat} {φ : Nat → Nat} {L : Nat → Prop} {s t : KS} (R : RQ nf ns φ L s t) (hp : p < 6) (hr : s.1 1 p = 1) (h8 : 8 ≤ a) (ha : a < 44) (lP : L P) (h6 : 6 ≤ P) (e : s.2 p (a / 4) = nn P) (h2 : 2 ≤ uc s.2 P) (hf : f < nf) (h12 : s.1 12 f = -1) : ∃ C K t4 φ' L', 6 ≤ C ∧ C < 60 ∧ K < 64 ∧ C ≠ P ∧ φ' C = K ∧ L' C ∧ p_X0_newPage nf ns s = some (.inl (some (nn C)), kS (zw s 9 (C * 4)) 10 C 1) ∧ p_X2_newPage t = some (.inl (some (nn K)), t4) ∧ t4.1 15 = t.1 15 ∧ RQ nf ns φ' L' (kG (kS (kS (kS (kS (kS (kC (kS (zw s 9 (C * 4)) 10 C 1) 9 (P * 4) (C * 4) 4) 12 f (nn C)) 11 C (nn f)) 13 f 1) 8 8 (s.1 8 8 + 1)) 10 P (nn (uc s.2 P - 1))) p (a / 4) (nn C)) (kS (kS (kS (kS (kS (kW t4 (4 * φ P) (4 * K)) 25 K (nn f)) 26 f (nn K)) 27 f 1) 15 18 (t4.1 15 18 + 1)) 22 (9 * p + (a / 4 - 2)) (nn K)) := by
  obtain ⟨K, t4, hK, b1, b2, b3, b4, b5, b6, b7, _⟩ := rx_mnew R.1 (fun _ _ x => absurd x id)
  have h26 : t4.1 26 = t.1 26 ∧ t4.1 27 = t.1 27 := by
    obtain ⟨Q, q1, q2⟩ := free_model R.1.2.2.2.2.2.2.1 R.1.2.2.2.1 (fun _ _ x => absurd x id)
    obtain ⟨K', _, hK', a3, a4⟩ := mp_scan (t := t) (fun K hK => (R.1.2.2.2.2.2.2.1 K hK).1) 63 0 332 (by omega) ⟨Q, by omega, q1, q2⟩
    have := b1.symm.trans a4
    have e2 : t4 = zw (kS (kS t 24 K' 1) 25 K' (-1)) 23 (4 * K') := (Prod.mk.inj (Option.some.inj this)).2
    rw [e2]; exact ⟨rfl, rfl⟩
  have hidx : 2 + (a / 4 - 2) = a / 4 := by omega
  have tf : t4.1 26 f = -1 := by
    rw [h26.1]
    rcases mr_fr (rx_mr R.1) hf with ⟨_, x⟩ | ⟨Q, hQ, _, _, x, _⟩
    · exact x
    · rw [h12] at x; exact absurd x.symm (nnm (by omega))
  obtain ⟨hb, hC, hM, hL, hT, hU, hD, hW, hI, hE⟩ := b2
  have hP := (hL.1 P lP).1
  have nK : ∀ Q, L Q → φ Q ≠ K := fun Q x z => (hL.1 Q x).2.2.2 (Or.inr z)
  obtain ⟨Q, q1, q2, q3⟩ := free_page hU hI (fun _ _ => rfl) hp (show a / 4 - 2 < 9 by omega) (fun Q x y z => by
    rw [hidx, e] at z
    have := nni (by omega) (by omega) z
    subst this; exact h2)
  have hu : ∀ P, P < 60 → ∃ u, u < 1000 ∧ s.1 10 P = nn u := fun P hP => ⟨_, by have := uc_le s.2 P; have := (hU P hP).2.2; omega, (hU P hP).1⟩
  obtain ⟨C, p1, p2, p3, p4⟩ := np_scan (nf := nf) (ns := ns) hu 53 6 342 (by omega) ⟨Q, q1, q2, q3⟩
  have h0 : uc s.2 C = 0 := by
    have h' : uc s.2 C + no0 C = 0 := nni (by have := uc_le s.2 C; have := (hU C p2).2.2; omega) (by omega) ((hU C p2).1.symm.trans p3)
    omega
  have nC : ¬ L C := fun x => by have := (hU C p2).2.1.mp x; rw [h0] at this; exact Nat.lt_irrefl 0 this
  have hoC : s.1 11 C = -1 := hL.2.2.2.2.1 C p2 nC
  -- the pages, not yet in a frame
  have V : RX nf ns (fS φ C K) (fun Q => L Q ∨ Q = C) no0 noG noX (kG (kS (kC (kS (zw s 9 (C * 4)) 10 C 1) 9 (P * 4) (C * 4) 4) 10 P (nn (uc s.2 P - 1))) p (2 + (a / 4 - 2)) (nn C)) (kS (kW t4 (4 * φ P) (4 * K)) 22 (9 * p + (a / 4 - 2)) (nn K)) := by
    refine rx_G (G := fun k => (noG k ∨ k = K) ∧ k ≠ K) ?_ (fun k => ⟨fun x => x.2 (x.1.elim (fun y => absurd y id) id), fun x => absurd x id⟩)
    exact ⟨hb, hC, hM, lg_new hL p1 p2 nC hK (Or.inr rfl) b4, hT, ur_copy hU hp (by omega) hP p2 (by rw [hidx]; exact e) h0 h2, dr_new hD nC (Or.inr rfl), wr_copy hW lP h6 p1 nC nK, gi_set hI p2 p1, er_copy hE nC p1 p2 (by omega)⟩
  have lC : (fun Q => L Q ∨ Q = C) C := Or.inr rfl
  have V2 := mr_in (rx_mr V) lC hf hoC h12
  rw [show fS φ C K C = K from fS_a _ _ _] at V2
  obtain ⟨m1, m2, m3, m4, ⟨m5, m6, m7, m8, m9, m10⟩⟩ := V2
  have V3 : MR nf ns (fS φ C K) (fun Q => L Q ∨ Q = C) (kS (kS (kS (kS (kG (kS (kC (kS (zw s 9 (C * 4)) 10 C 1) 9 (P * 4) (C * 4) 4) 10 P (nn (uc s.2 P - 1))) p (2 + (a / 4 - 2)) (nn C)) 12 f (nn C)) 11 C (nn f)) 13 f 1) 8 8 (s.1 8 8 + 1)) (kS (kS (kS (kS (kS (kW t4 (4 * φ P) (4 * K)) 22 (9 * p + (a / 4 - 2)) (nn K)) 25 K (nn f)) 26 f (nn K)) 27 f 1) 15 18 (t4.1 15 18 + 1)) := ⟨m1, m2, m3, m4, m5, m6, m7, m8, congrArg (· + 1) m9, m10⟩
  have V4 := rx_of_mr V V3 (fixC_s (fixC_s (fixC_s (fixC_s (fixC_r _) 12 _ _ (by omega)) 11 _ _ (by omega)) 13 _ _ (by omega)) 8 _ _ (by omega)) (fixM_s (fixM_s (fixM_s (fixM_s (fixM_r _) 25 _ _ (by omega)) 26 _ _ (by omega)) 27 _ _ (by omega)) 15 _ _ (by omega))
  obtain ⟨z1, z2, z3, z4, z5, z6, z7, z8, z9, z10⟩ := V4
  rw [hidx] at z6 z9 z10
  refine ⟨C, K, t4, fS φ C K, fun Q => L Q ∨ Q = C, p1, p2, hK, fun z => nC (z ▸ lP), fS_a _ _ _, lC, p4, b1, b6.1, ⟨z1, z2, z3, z4, z5, z6, z7, z8, z9, z10⟩, fun q hq => ?_, R.2.2.1, R.2.2.2⟩
  by_cases c : q = p
  · subst c
    obtain ⟨r1, r2, pq, d, e', hq', hd, he1, he3, e1, e2, e3, e4, e5, e6, ⟨w0, w1, w2, w3⟩⟩ := rq_run R hp hr
    refine ⟨?_, Or.inl ⟨hr, ?_, pq, d, e', hq', hd, he1, he3, e1, ?_, e3, ?_, e5, ?_, ?_, ?_, ?_, ?_⟩⟩
    · show s.1 1 q = t4.1 16 q
      rw [b6.2 16 (by omega) (by omega), hr, r1]
    · show s.1 3 q = t4.1 18 q
      rw [b6.2 18 (by omega) (by omega)]; exact r2
    · show t4.1 17 q = _
      rw [b6.2 17 (by omega) (by omega)]; exact e2
    · show t4.1 20 q = _
      rw [b6.2 20 (by omega) (by omega)]; exact e4
    · show t4.1 21 q = _
      rw [b6.2 21 (by omega) (by omega)]; exact e6
    · show tS s.2 q (a / 4) (nn C) q 0 = _
      rw [tS_e, if_neg (by omega)]; exact w0
    · show tS s.2 q (a / 4) (nn C) q 1 = _
      rw [tS_e, if_neg (by omega)]; exact w1
    · intro k hk
      show tS s.2 q (a / 4) (nn C) q (2 + k) = -1 ↔ _
      rw [tS_e]
      by_cases z : 2 + k = a / 4
      · rw [if_pos ⟨rfl, z⟩, ← w2 k hk, z, e]
        exact ⟨fun x => absurd x (nnm (by omega)), fun x => absurd x (nnm (by omega))⟩
      · rw [if_neg (fun x => z x.2)]; exact w2 k hk
    · intro k hk
      show tS s.2 q (a / 4) (nn C) q (8 + k) = -1 ↔ _
      rw [tS_e]
      by_cases z : 8 + k = a / 4
      · rw [if_pos ⟨rfl, z⟩, ← w3 k hk, z, e]
        exact ⟨fun x => absurd x (nnm (by omega)), fun x => absurd x (nnm (by omega))⟩
      · rw [if_neg (fun x => z x.2)]; exact w3 k hk
  · refine pa_of (s := s) (t := t4) (pa_fix (R.2.1 q hq) (fixK_r s) rfl (fun c' x y => b6.2 c' x y)) (fun c' h1 h2 => ?_) ?_ (fun c' h1 h2 => ?_)
    · show (kS (kS (kS (kS (kS (kC (kS (zw s 9 (C * 4)) 10 C 1) 9 (P * 4) (C * 4) 4) 12 f (nn C)) 11 C (nn f)) 13 f 1) 8 8 (s.1 8 8 + 1)) 10 P (nn (uc s.2 P - 1))).1 c' q = s.1 c' q
      have : c' = 1 ∨ c' = 2 ∨ c' = 3 ∨ c' = 4 ∨ c' = 5 ∨ c' = 6 := by omega
      rcases this with rfl | rfl | rfl | rfl | rfl | rfl <;> rfl
    · show tS s.2 p (a / 4) (nn C) q = s.2 q
      rw [tS_r, if_neg c]
    · have : c' = 16 ∨ c' = 17 ∨ c' = 18 ∨ c' = 19 ∨ c' = 20 ∨ c' = 21 := by omega
      rcases this with rfl | rfl | rfl | rfl | rfl | rfl <;> rfl
