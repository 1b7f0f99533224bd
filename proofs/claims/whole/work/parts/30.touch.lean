theorem gf_loop {nf ns : Nat} {φ : Nat → Nat} {L : Nat → Prop} : ∀ (k i n m : Nat) (s t : KS), i + k = 2 * nf → k < n → k < m → MR nf ns φ L s t → ∃ r s' t', p_X0_getFrame_L17 nf ns n (nn i) s = some (.inl (some r), s') ∧ p_X2_getFrame_L29 m (nn i) t = some (.inl (some r), t') ∧ MR nf ns φ L s' t' ∧ fixC s s' ∧ fixM t t' ∧ (r = -1 ∨ ∃ f, f < nf ∧ r = nn f ∧ s'.1 12 f = -1) ∧ (∀ Q, (∀ f, f < nf → ¬ s.1 11 Q = nn f) → s'.1 11 Q = s.1 11 Q)
  | 0, i, n + 1, m + 1, s, t, h1, h2, h3, R => by
    have hb := R.1
    have h15 : t.1 15 1 = nn nf := R.2.2.2.2.2.1
    refine ⟨-1, s, t, ?_, ?_, R, fixC_r s, fixM_r t, Or.inl rfl, fun _ _ => rfl⟩
    · simp (disch := omega) [p_X0_getFrame_L17, nn_lit, nn_m2, nn_le, (by omega : 2 * nf ≤ i)]
    · simp (disch := omega) [p_X2_getFrame_L29, h15, nn_m2, nn_le, (by omega : 2 * nf ≤ i)]
  | k + 1, i, n + 1, m + 1, s, t, h1, h2, h3, R => by
    have hb := R.1
    have h15 : t.1 15 1 = nn nf := R.2.2.2.2.2.1
    obtain ⟨g, s1, t1, e1, e2, R1, f1, f2, hg, hq⟩ := look_pair R
    rcases hg with rfl | ⟨rfl, h, hh, ch, th, h12⟩
    · obtain ⟨r, s', t', a1, a2, a3, a4, a5, a6, a7⟩ := gf_loop k (i + 1) n m s1 t1 (by omega) (by omega) (by omega) R1
      refine ⟨r, s', t', ?_, ?_, a3, fixC_t f1 a4, fixM_t f2 a5, a6, fun Q hQ => (a7 Q (by rw [hq Q hQ]; exact hQ)).trans (hq Q hQ)⟩
      · simp (disch := omega) [p_X0_getFrame_L17, nn_lit, nn_m2, nn_le, (fF (by omega) : (2 * nf ≤ i) = False), e1, kbi, nn_p1, a1]
      · simp (disch := omega) [p_X2_getFrame_L29, h15, nn_m2, nn_le, (fF (by omega) : (2 * nf ≤ i) = False), e2, kbi, nn_p1, a2]
    · refine ⟨nn h, s1, t1, ?_, ?_, R1, f1, f2, Or.inr ⟨h, hh, rfl, h12⟩, hq⟩
      · simp (disch := omega) [p_X0_getFrame_L17, nn_lit, nn_m2, nn_le, (fF (by omega) : (2 * nf ≤ i) = False), e1, kbi, ch]
      · simp (disch := omega) [p_X2_getFrame_L29, h15, nn_m2, nn_le, (fF (by omega) : (2 * nf ≤ i) = False), e2, kbi, th]
theorem gf_m {nf ns : Nat} {t : KS} (hn : nf ≤ 10) (h15 : t.1 15 1 = nn nf) (hM : MI nf ns (t.1 25) (t.1 26) (t.1 28)) : ∀ (k i n : Nat), i + k = nf → k < n → p_X2_getFrame_L2 n (nn i) t = (if lf (fun j => decide (t.1 26 j = -1)) k i = -1 then p_X2_getFrame_L29 (n - k) 0 t else some (.inl (some (lf (fun j => decide (t.1 26 j = -1)) k i)), t))
  | 0, i, n + 1, h1, h2 => by
    simp (disch := omega) [p_X2_getFrame_L2, h15, nn_le, lf, (by omega : nf ≤ i)]
  | k + 1, i, n + 1, h1, h2 => by
    have ih := gf_m hn h15 hM k (i + 1) n (by omega) (by omega)
    rcases hM.2.2.2.1 i (by omega) with e | ⟨q, hq, e⟩
    · simp (disch := omega) [p_X2_getFrame_L2, h15, nn_le, lf, (fF (by omega) : (nf ≤ i) = False), nn_in, nn_tn, (by omega : i < 10), e, m1_g0, nn_m1]
    · simp (disch := omega) [p_X2_getFrame_L2, h15, nn_le, lf, (fF (by omega) : (nf ≤ i) = False), nn_in, nn_tn, (by omega : i < 10), e, nn_g0, nn_m1, nn_p1, ih]
theorem gf_pair {nf ns : Nat} {φ : Nat → Nat} {L : Nat → Prop} {s t : KS} (R : MR nf ns φ L s t) : ∃ r s' t', p_X0_getFrame nf ns s = some (.inl (some r), s') ∧ p_X2_getFrame t = some (.inl (some r), t') ∧ MR nf ns φ L s' t' ∧ fixC s s' ∧ fixM t t' ∧ (r = -1 ∨ ∃ f, f < nf ∧ r = nn f ∧ s'.1 12 f = -1) ∧ (∀ Q, (∀ f, f < nf → ¬ s.1 11 Q = nn f) → s'.1 11 Q = s.1 11 Q) := by
  have hb := R.1
  have h15 : t.1 15 1 = nn nf := R.2.2.2.2.2.1
  have e1 := leastFree12' (nf := nf) (ns := ns) (s := s) hb.2.1
  have e2 := gf_m hb.2.1 h15 R.2.2.1 nf 0 400 (by omega) (by omega)
  have e3 : lf (fun j => decide (t.1 26 j = -1)) nf 0 = lf (fun j => decide (s.1 12 j = -1)) nf 0 := lf_cong nf 0 fun j _ h2 => by
    rcases mr_fr R (show j < nf by omega) with ⟨a1, a2⟩ | ⟨P, hP, lP, hk, a1, a2, _⟩
    · simp [a1, a2]
    · simp (disch := omega) [a1, a2, nn_m1]
  rw [e3] at e2
  rcases lf_spec (fun j => decide (s.1 12 j = -1)) nf 0 with ⟨a1, a2⟩ | ⟨j, a1, a2, a3, a4⟩
  · obtain ⟨r, s', t', b1, b2, b3⟩ := gf_loop (2 * nf) 0 400 (400 - nf) s t (by omega) (by omega) (by omega) R
    refine ⟨r, s', t', ?_, ?_, b3⟩
    · rw [p_X0_getFrame, e1, a1]; exact b1
    · rw [p_X2_getFrame]; rw [a1, if_pos rfl] at e2; exact e2.trans b2
  · refine ⟨nn j, s, t, ?_, ?_, R, fixC_r s, fixM_r t, Or.inr ⟨j, by omega, rfl, of_decide_eq_true a3⟩, fun _ _ => rfl⟩
    · rw [p_X0_getFrame, e1, a4]
      simp (disch := omega) [kbi, nn_m1]
    · rw [p_X2_getFrame]; rw [a4, if_neg (nnm (by omega))] at e2; exact e2
theorem settle_p {nf ns P f : Nat} {s : KS} (hP : P < 60) (hf : f < nf) (hn : nf ≤ 10) : p_X0_settle nf ns (nn P) (nn f) s = some (.inl none, kS (kS (kS s 12 f (nn P)) 11 P (nn f)) 13 f 1) := by
  simp (disch := omega) [p_X0_settle, nn_in, nn_tn, hf, hP, nar1]
theorem putIn_p {k f : Nat} {t : KS} (hk : k < 70) (hf : f < 10) : p_X2_putIn (nn k) (nn f) t = some (.inl none, kS (kS (kS t 25 k (nn f)) 26 f (nn k)) 27 f 1) := by
  simp (disch := omega) [p_X2_putIn, nn_in, nn_tn, hf, hk, nar1]
/-- a page without a home comes into a free frame -/
theorem mr_in {nf ns P f : Nat} {φ : Nat → Nat} {L : Nat → Prop} {s t : KS} (R : MR nf ns φ L s t) (lP : L P) (hf : f < nf) (e : s.1 11 P = -1) (e2 : s.1 12 f = -1) : MR nf ns φ L (kS (kS (kS s 12 f (nn P)) 11 P (nn f)) 13 f 1) (kS (kS (kS t 25 (φ P) (nn f)) 26 f (nn (φ P))) 27 f 1) := by
  have e3 : t.1 26 f = -1 := by
    rcases mr_fr R hf with ⟨a1, a2⟩ | ⟨Q, hQ, lQ, hk, a1, a2, _⟩
    · exact a2
    · rw [e2] at a1; exact absurd a1.symm (nnm (by omega))
  obtain ⟨hb, hC, hM, hL, ht⟩ := R
  have l1 := hL.1 P lP
  exact ⟨hb, ci_mk (ci_set hb.2.1 hb.2.2 hC l1.1 hf e e2) (Or.inr rfl), mi_set hb.2.1 hb.2.2 hM l1.2.1 hf ((hL.2.1 P lP).trans e) e3, lk_in (lk_ho hL lP), ht⟩
theorem mtouch_fr {k f : Nat} {t : KS} (hk : k < 70) (hf : f < 10) (h : t.1 25 k = nn f) : p_X2_touch (nn k) t = some (.inl (some 1), kS t 27 f 1) := by
  simp (disch := omega) [p_X2_touch, nn_in, nn_tn, hk, h, nn_l0, nn_100l, hf, (by omega : f < 100), nar1]
theorem mtouch_no {k : Nat} {t t3 : KS} (hk : k < 70) (h : t.1 25 k = -1 ∨ ∃ i, i < 20 ∧ t.1 25 k = nn (100 + i)) (hg : p_X2_getFrame t = some (.inl (some (-1)), t3)) : p_X2_touch (nn k) t = some (.inl (some 0), t3) := by
  rcases h with h | ⟨i, hi, h⟩
  · simp (disch := omega) [p_X2_touch, nn_in, nn_tn, hk, h, m1_l0, hg, kbi, m1_g0]
  · simp (disch := omega) [p_X2_touch, nn_in, nn_tn, hk, h, nn_l0, nn_100l, (fF (by omega) : (100 + i < 100) = False), hg, kbi, m1_g0]
theorem mtouch_new {k f : Nat} {t t3 : KS} (hk : k < 70) (hf : f < 10) (h : t.1 25 k = -1) (hg : p_X2_getFrame t = some (.inl (some (nn f)), t3)) (h3 : t3.1 25 k = -1) : p_X2_touch (nn k) t = some (.inl (some 1), kS (kS (kS (kS (kS t3 25 k (nn f)) 26 f (nn k)) 27 f 1) 15 17 (t3.1 15 17 + 1)) 27 f 1) := by
  simp (disch := omega) [p_X2_touch, nn_in, nn_tn, hk, h, m1_l0, hg, kbi, nn_g0, h3, m1_100, putIn_p hk hf, kbv, kS_1, upd_a, hf, nar1]
theorem mtouch_slo {k f i : Nat} {t t3 : KS} (hk : k < 70) (hf : f < 10) (hi : i < 20) (h : t.1 25 k = nn (100 + i)) (hg : p_X2_getFrame t = some (.inl (some (nn f)), t3)) (h3 : t3.1 25 k = nn (100 + i)) : p_X2_touch (nn k) t = some (.inl (some 1), kS (kS (kS (kS (kS (kS t3 28 i 0) 25 k (nn f)) 26 f (nn k)) 27 f 1) 15 17 (t3.1 15 17 + 1)) 27 f 1) := by
  simp (disch := omega) [p_X2_touch, nn_in, nn_tn, hk, h, nn_l0, nn_100l, (fF (by omega) : (100 + i < 100) = False), hg, kbi, nn_g0, h3, nn_100s, hi, putIn_p hk hf, kbv, kS_1, upd_a, hf, nar0, nar1]
theorem touch_fr {nf ns P f : Nat} {s : KS} (hP : P < 60) (hf : f < nf) (hn : nf ≤ 10) (h : s.1 11 P = nn f) : p_X0_touch nf ns (nn P) s = some (.inl (some 1), kS s 13 f 1) := by
  simp (disch := omega) [p_X0_touch, isIn_fr hP (by omega : f < 10) h, kbi, nn_in, nn_tn, hP, h, hf, nar1]
theorem touch_no {nf ns P : Nat} {s s3 : KS} (hi : p_X0_isIn nf ns (nn P) s = some (.inl (some 0), s)) (hg : p_X0_getFrame nf ns s = some (.inl (some (-1)), s3)) : p_X0_touch nf ns (nn P) s = some (.inl (some 0), s3) := by
  simp [p_X0_touch, hi, hg, kbi]
theorem touch_ok {nf ns P f : Nat} {s s3 s5 : KS} (hP : P < 60) (hf : f < nf) (hn : nf ≤ 10) (hi : p_X0_isIn nf ns (nn P) s = some (.inl (some 0), s)) (hg : p_X0_getFrame nf ns s = some (.inl (some (nn f)), s3)) (hv : p_X0_vacate nf ns (nn P) s3 = some (.inl none, s5)) : p_X0_touch nf ns (nn P) s = some (.inl (some 1), kS (kS (kS (kS s5 12 f (nn P)) 11 P (nn f)) 13 f 1) 8 7 (s5.1 8 7 + 1)) := by
  simp (disch := omega) [p_X0_touch, hi, hg, kbi, kbv, nn_m1, hv, settle_p hP hf hn, kS_1]
theorem mr_home {nf ns P : Nat} {φ : Nat → Nat} {L : Nat → Prop} {s t : KS} (R : MR nf ns φ L s t) (lP : L P) : P < 60 ∧ φ P < 70 ∧ t.1 25 (φ P) = s.1 11 P ∧ (s.1 11 P = -1 ∨ (∃ f, f < nf ∧ s.1 11 P = nn f) ∨ (6 ≤ P ∧ ∃ i, i < ns ∧ s.1 11 P = nn (100 + i))) := by
  obtain ⟨hb, hC, hM, hL, ht⟩ := R
  exact ⟨(hL.1 P lP).1, (hL.1 P lP).2.1, hL.2.1 P lP, hC.1 P (hL.1 P lP).1⟩
theorem touch_pair {nf ns P : Nat} {φ : Nat → Nat} {L : Nat → Prop} {s t : KS} (R : MR nf ns φ L s t) (lP : L P) : ∃ g s' t', p_X0_touch nf ns (nn P) s = some (.inl (some g), s') ∧ p_X2_touch (nn (φ P)) t = some (.inl (some g), t') ∧ MR nf ns φ L s' t' ∧ fixC s s' ∧ fixM t t' ∧ (g = 0 ∨ g = 1) := by
  obtain ⟨hP, hk, ea, hh⟩ := mr_home R lP
  have hb := R.1
  rcases hh with e | ⟨f, hf, e⟩ | ⟨h6, i, hi, e⟩
  · obtain ⟨r, s3, t3, g1, g2, R3, f1, f2, hr, hq⟩ := gf_pair R
    have e3 : s3.1 11 P = -1 := (hq P (fun f hf => by rw [e]; exact fun x => nnm (by omega) x.symm)).trans e
    have ea3 := (mr_home R3 lP).2.2.1
    rcases hr with rfl | ⟨f, hf, rfl, h12⟩
    · exact ⟨0, s3, t3, touch_no (isIn_new hP e) g1, mtouch_no hk (Or.inl (ea.trans e)) g2, R3, f1, f2, Or.inl rfl⟩
    · refine ⟨1, _, _, touch_ok hP hf hb.2.1 (isIn_new hP e) g1 (vac_new hP e3), mtouch_new hk (by omega) (ea.trans e) g2 (ea3.trans e3), ?_, fixC_s (fixC_s (fixC_s (fixC_s (fixC_s f1 11 _ _ (by omega)) 12 _ _ (by omega)) 11 _ _ (by omega)) 13 _ _ (by omega)) 8 _ _ (by omega), fixM_s (fixM_s (fixM_s (fixM_s (fixM_s f2 25 _ _ (by omega)) 26 _ _ (by omega)) 27 _ _ (by omega)) 15 _ _ (by omega)) 27 _ _ (by omega), Or.inr rfl⟩
      obtain ⟨hb4, hC4, hM4, hL4, ⟨c1, c2, c3, c4, c5, c6⟩⟩ := mr_in R3 lP hf e3 h12
      have k1 : LK nf φ L (upd (s3.1 11) P (nn f)) (upd (s3.1 12) f (nn P)) (upd (s3.1 13) f 1) (upd (t3.1 25) (φ P) (nn f)) (upd (t3.1 27) f 1) := hL4
      have k2 : CI nf ns (upd (s3.1 11) P (nn f)) (upd (s3.1 12) f (nn P)) (upd (s3.1 13) f 1) (s3.1 14) := hC4
      rw [← upd_upd (t3.1 27) f 1, ← upd_upd (s3.1 11) P (-1)] at k1
      rw [← upd_upd (s3.1 11) P (-1)] at k2
      exact ⟨hb, k2, hM4, k1, c1, c2, c3, congrArg (· + 1) c4, c5, c6⟩
  · refine ⟨1, _, _, touch_fr hP hf hb.2.1 e, mtouch_fr hk (by omega) (ea.trans e), ?_, fixC_s (fixC_r s) 13 _ _ (by omega), fixM_s (fixM_r t) 27 _ _ (by omega), Or.inr rfl⟩
    obtain ⟨hb4, hC4, hM4, hL4, ht⟩ := R
    exact ⟨hb, ci_mk hC4 (Or.inr rfl), hM4, lk_mk hL4, ht⟩
  · obtain ⟨r, s3, t3, g1, g2, R3, f1, f2, hr, hq⟩ := gf_pair R
    have e3 : s3.1 11 P = nn (100 + i) := (hq P (fun f hf => by rw [e]; exact fun x => absurd (nni (by omega) (by omega) x) (by omega))).trans e
    have ea3 := (mr_home R3 lP).2.2.1
    rcases hr with rfl | ⟨f, hf, rfl, h12⟩
    · exact ⟨0, s3, t3, touch_no (isIn_sl hP (by omega) e) g1, mtouch_no hk (Or.inr ⟨i, by omega, ea.trans e⟩) g2, R3, f1, f2, Or.inl rfl⟩
    · refine ⟨1, _, _, touch_ok hP hf hb.2.1 (isIn_sl hP (by omega) e) g1 (vac_sl hP hi hb.2.2 e3), mtouch_slo hk (by omega) (by omega) (ea.trans e) g2 (ea3.trans e3), ?_, fixC_s (fixC_s (fixC_s (fixC_s (fixC_s (fixC_s f1 14 _ _ (by omega)) 11 _ _ (by omega)) 12 _ _ (by omega)) 11 _ _ (by omega)) 13 _ _ (by omega)) 8 _ _ (by omega), fixM_s (fixM_s (fixM_s (fixM_s (fixM_s (fixM_s f2 28 _ _ (by omega)) 25 _ _ (by omega)) 26 _ _ (by omega)) 27 _ _ (by omega)) 15 _ _ (by omega)) 27 _ _ (by omega), Or.inr rfl⟩
      have R4 : MR nf ns φ L (kS (kS s3 14 i (-1)) 11 P (-1)) (kS (kS t3 28 i 0) 25 (φ P) (-1)) := by
        obtain ⟨hb4, hC4, hM4, hL4, ht⟩ := R3
        exact ⟨hb, ci_vas hb.2.1 hb.2.2 hC4 hP hi e3, mi_vas hb.2.1 hb.2.2 hM4 hk hi (ea3.trans e3), lk_ho hL4 lP, ht⟩
      obtain ⟨hb4, hC4, hM4, hL4, ⟨c1, c2, c3, c4, c5, c6⟩⟩ := mr_in R4 lP hf (upd_a _ _ _) h12
      have k1 : LK nf φ L (upd (upd (s3.1 11) P (-1)) P (nn f)) (upd (s3.1 12) f (nn P)) (upd (s3.1 13) f 1) (upd (upd (t3.1 25) (φ P) (-1)) (φ P) (nn f)) (upd (t3.1 27) f 1) := hL4
      have k2 : MI nf ns (upd (upd (t3.1 25) (φ P) (-1)) (φ P) (nn f)) (upd (t3.1 26) f (nn (φ P))) (upd (t3.1 28) i 0) := hM4
      rw [← upd_upd (t3.1 27) f 1, upd_upd (t3.1 25)] at k1
      rw [upd_upd (t3.1 25)] at k2
      exact ⟨hb, hC4, k2, k1, c1, c2, c3, congrArg (· + 1) c4, c5, c6⟩
