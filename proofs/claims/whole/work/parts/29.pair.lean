theorem upd_upd (g : Nat → Int32) (i : Nat) (x y : Int32) : upd (upd g i x) i y = upd g i y := funext fun j => by
  simp only [upd_e]; split <;> rfl
def LK (nf : Nat) (φ : Nat → Nat) (L : Nat → Prop) (ho pf mk ta tm : Nat → Int32) : Prop :=
  (∀ P, L P → P < 60 ∧ φ P < 70 ∧ (P < 6 → φ P = 64 + P) ∧ (6 ≤ P → φ P < 64)) ∧
  (∀ P, L P → ta (φ P) = ho P) ∧
  (∀ P Q, L P → L Q → φ P = φ Q → P = Q) ∧
  (∀ k, k < 70 → ta k = -1 ∨ ∃ P, L P ∧ φ P = k) ∧
  (∀ P, P < 60 → ¬ L P → ho P = -1) ∧
  (∀ f, f < nf → pf f = -1 ∨ mk f = tm f)
def CT (nf ns : Nat) (s t : KS) : Prop :=
  (∃ h, h < nf ∧ s.1 8 6 = nn h ∧ t.1 15 16 = nn h) ∧ t.1 15 1 = nn nf ∧ t.1 15 2 = nn ns ∧ s.1 8 7 = t.1 15 17 ∧ s.1 8 8 = t.1 15 18 ∧ s.1 8 9 = t.1 15 19
def MR (nf ns : Nat) (φ : Nat → Nat) (L : Nat → Prop) (s t : KS) : Prop :=
  (2 ≤ nf ∧ nf ≤ 10 ∧ ns ≤ 20) ∧ CI nf ns (s.1 11) (s.1 12) (s.1 13) (s.1 14) ∧ MI nf ns (t.1 25) (t.1 26) (t.1 28) ∧ LK nf φ L (s.1 11) (s.1 12) (s.1 13) (t.1 25) (t.1 27) ∧ CT nf ns s t
theorem lk_ho {nf P : Nat} {φ : Nat → Nat} {L : Nat → Prop} {ho pf mk ta tm : Nat → Int32} {x : Int32} (h : LK nf φ L ho pf mk ta tm) (hP : L P) : LK nf φ L (upd ho P x) pf mk (upd ta (φ P) x) tm := by
  obtain ⟨h1, h2, h3, h4, h5, h6⟩ := h
  simp only [LK, upd_e]
  refine ⟨h1, ?_, h3, ?_, ?_, h6⟩ <;> grind
theorem lk_pf {nf f : Nat} {φ : Nat → Nat} {L : Nat → Prop} {ho pf mk ta tm : Nat → Int32} (h : LK nf φ L ho pf mk ta tm) : LK nf φ L ho (upd pf f (-1)) mk ta tm := by
  obtain ⟨h1, h2, h3, h4, h5, h6⟩ := h
  simp only [LK, upd_e]
  refine ⟨h1, h2, h3, h4, h5, ?_⟩; grind
theorem lk_in {nf f : Nat} {φ : Nat → Nat} {L : Nat → Prop} {ho pf mk ta tm : Nat → Int32} {x y : Int32} (h : LK nf φ L ho pf mk ta tm) : LK nf φ L ho (upd pf f x) (upd mk f y) ta (upd tm f y) := by
  obtain ⟨h1, h2, h3, h4, h5, h6⟩ := h
  simp only [LK, upd_e]
  refine ⟨h1, h2, h3, h4, h5, ?_⟩; grind
theorem lk_mk {nf f : Nat} {φ : Nat → Nat} {L : Nat → Prop} {ho pf mk ta tm : Nat → Int32} {y : Int32} (h : LK nf φ L ho pf mk ta tm) : LK nf φ L ho pf (upd mk f y) ta (upd tm f y) := by
  obtain ⟨h1, h2, h3, h4, h5, h6⟩ := h
  simp only [LK, upd_e]
  refine ⟨h1, h2, h3, h4, h5, ?_⟩; grind
theorem lk_mf {nf f : Nat} {φ : Nat → Nat} {L : Nat → Prop} {ho pf mk ta tm : Nat → Int32} {y : Int32} (h : LK nf φ L ho pf mk ta tm) (e : pf f = -1 ∨ tm f = y) : LK nf φ L ho pf (upd mk f y) ta tm := by
  obtain ⟨h1, h2, h3, h4, h5, h6⟩ := h
  simp only [LK, upd_e]
  refine ⟨h1, h2, h3, h4, h5, ?_⟩; grind
theorem mr_fr {nf ns f : Nat} {φ : Nat → Nat} {L : Nat → Prop} {s t : KS} (R : MR nf ns φ L s t) (hf : f < nf) : (s.1 12 f = -1 ∧ t.1 26 f = -1) ∨ ∃ P, P < 60 ∧ L P ∧ φ P < 70 ∧ s.1 12 f = nn P ∧ t.1 26 f = nn (φ P) ∧ s.1 11 P = nn f ∧ t.1 25 (φ P) = nn f ∧ s.1 13 f = t.1 27 f ∧ (s.1 13 f = 0 ∨ s.1 13 f = 1) := by
  obtain ⟨⟨_, hn, hm⟩, ⟨c1, c2, c3, c4, c5, c6⟩, ⟨m1, m2, m3, m4, m5, m6, m7, m8⟩, ⟨l1, l2, l3, l4, l5, l6⟩, _⟩ := R
  have hm1 := @nnm
  rcases c4 f hf with e | ⟨P, hP, e⟩
  · refine Or.inl ⟨e, ?_⟩
    rcases m4 f hf with e2 | ⟨k, hk, e2⟩
    · exact e2
    · have a1 := (m2 k f hk hf).mpr e2
      rcases l4 k hk with a2 | ⟨P, hP, rfl⟩
      · grind
      · have a3 := (c2 P f (l1 P hP).1 hf).mp ((l2 P hP) ▸ a1)
        have := (l1 P hP).1
        grind
  · have a1 := (c2 P f hP hf).mpr e
    have hL : L P := Classical.byContradiction fun hc => by have := l5 P hP hc; grind
    have a2 := l1 P hL
    have a3 : t.1 25 (φ P) = nn f := (l2 P hL).trans a1
    refine Or.inr ⟨P, hP, hL, a2.2.1, e, (m2 _ f a2.2.1 hf).mp a3, a1, a3, ?_, c6 f hf⟩
    rcases l6 f hf with h | h
    · grind
    · exact h
theorem mr_sl {nf ns i : Nat} {φ : Nat → Nat} {L : Nat → Prop} {s t : KS} (R : MR nf ns φ L s t) (hi : i < ns) : decide (s.1 14 i = -1) = decide (t.1 28 i = 0) := by
  obtain ⟨⟨_, hn, hm⟩, ⟨c1, c2, c3, c4, c5, c6⟩, ⟨m1, m2, m3, m4, m5, m6, m7, m8⟩, ⟨l1, l2, l3, l4, l5, l6⟩, _⟩ := R
  have hm1 := @nnm
  rcases c5 i hi with e | ⟨P, hP, e⟩
  · rcases m5 i hi with e2 | e2
    · simp [e, e2]
    · obtain ⟨k, hk, e3⟩ := m6 i hi e2
      rcases l4 k (by omega) with a2 | ⟨P, hP, rfl⟩
      · grind
      · have a3 := (c3 P i (l1 P hP).1 hi).mp ((l2 P hP) ▸ e3)
        have := (l1 P hP).1
        grind
  · have a1 := (c3 P i hP hi).mpr e
    have hL : L P := Classical.byContradiction fun hc => by have := l5 P hP hc; grind
    have a3 : t.1 25 (φ P) = nn (100 + i) := (l2 P hL).trans a1
    have a4 := m3 _ i (l1 P hL).2.1 hi a3
    have : ¬ s.1 14 i = -1 := by rw [e]; exact hm1 (by omega)
    simp [this, a4]
theorem mr_lfs {nf ns : Nat} {φ : Nat → Nat} {L : Nat → Prop} {s t : KS} (R : MR nf ns φ L s t) : lf (fun j => decide (t.1 28 j = 0)) ns 0 = lf (fun j => decide (s.1 14 j = -1)) ns 0 := lf_cong ns 0 fun j _ h2 => (mr_sl R (by omega)).symm
def fixC (s s' : KS) : Prop := s'.2 = s.2 ∧ ∀ c, c ≠ 8 → c ≠ 11 → c ≠ 12 → c ≠ 13 → c ≠ 14 → s'.1 c = s.1 c
def fixM (t t' : KS) : Prop := t'.1 15 0 = t.1 15 0 ∧ ∀ c, c ≠ 15 → c ≠ 25 → c ≠ 26 → c ≠ 27 → c ≠ 28 → t'.1 c = t.1 c
theorem fixC_r (s : KS) : fixC s s := ⟨rfl, fun _ _ _ _ _ _ => rfl⟩
theorem fixM_r (s : KS) : fixM s s := ⟨rfl, fun _ _ _ _ _ _ => rfl⟩
theorem fixC_t {a b c : KS} (h1 : fixC a b) (h2 : fixC b c) : fixC a c := ⟨h2.1.trans h1.1, fun d a1 a2 a3 a4 a5 => (h2.2 d a1 a2 a3 a4 a5).trans (h1.2 d a1 a2 a3 a4 a5)⟩
theorem fixM_t {a b c : KS} (h1 : fixM a b) (h2 : fixM b c) : fixM a c := ⟨h2.1.trans h1.1, fun d a1 a2 a3 a4 a5 => (h2.2 d a1 a2 a3 a4 a5).trans (h1.2 d a1 a2 a3 a4 a5)⟩
theorem fixC_s {a b : KS} (h : fixC a b) (c i : Nat) (x : Int32) (hc : c = 8 ∨ c = 11 ∨ c = 12 ∨ c = 13 ∨ c = 14) : fixC a (kS b c i x) := ⟨h.1, fun d a1 a2 a3 a4 a5 => by rw [kS_1, if_neg (by omega)]; exact h.2 d a1 a2 a3 a4 a5⟩
theorem fixM_s {a b : KS} (h : fixM a b) (c i : Nat) (x : Int32) (hc : (c = 15 ∧ i ≠ 0) ∨ c = 25 ∨ c = 26 ∨ c = 27 ∨ c = 28) : fixM a (kS b c i x) := ⟨by
  rw [kS_1]
  split
  · rw [upd_n (by omega)]
    rename_i e; rw [← e]; exact h.1
  · exact h.1, fun d a1 a2 a3 a4 a5 => by rw [kS_1, if_neg (by omega)]; exact h.2 d a1 a2 a3 a4 a5⟩
theorem look_pair {nf ns : Nat} {φ : Nat → Nat} {L : Nat → Prop} {s t : KS} (R : MR nf ns φ L s t) : ∃ g s' t', p_X0_lookAndMoveOn nf ns s = some (.inl (some g), s') ∧ p_X2_look t = some (.inl (some g), t') ∧ MR nf ns φ L s' t' ∧ fixC s s' ∧ fixM t t' ∧ (g = 0 ∨ g = 1 ∧ ∃ h, h < nf ∧ s.1 8 6 = nn h ∧ t.1 15 16 = nn h ∧ s'.1 12 h = -1) ∧ (∀ Q, (∀ f, f < nf → ¬ s.1 11 Q = nn f) → s'.1 11 Q = s.1 11 Q) := by
  have R' := R
  obtain ⟨hb, hC, hM, hL, ⟨⟨h, hh, ch, th⟩, t1, t2, x1, x2, x3⟩⟩ := R'
  have hn := hb.2.1
  have hm := hb.2.2
  have hx := nx_lt hh
  rcases mr_fr R hh with ⟨e1, e2⟩ | ⟨P, hP, lP, hk, e1, e2, e3, e4, e5, e6⟩
  · refine ⟨_, _, _, look_0 hh hn ch e1, mlook_0 hh hn t1 th e2, ⟨hb, ci_mk hC (Or.inl rfl), hM, lk_mf hL (Or.inl e1), ⟨nx nf h, hx, rfl, rfl⟩, t1, t2, x1, x2, x3⟩, fixC_s (fixC_s (fixC_r s) 13 _ _ (by omega)) 8 _ _ (by omega), fixM_s (fixM_r t) 15 _ _ (by omega), Or.inl rfl, fun _ _ => rfl⟩
  · rcases e6 with e6 | e6
    · have e7 : t.1 27 h = 0 := e5 ▸ e6
      by_cases h6 : P < 6
      · have hp : φ P = 64 + P := (hL.1 P lP).2.2.1 h6
        refine ⟨_, _, _, look_3 hh hn ch hP e1 e6 (canGo_t h6) (sendOut_t h6 hh hn e3) ch, mlook_3 hh hn t1 th hk e2 e7 (canGo_mt hk (by omega)) (sendOut_mt hk (by omega) (by omega) e4), ⟨hb, ci_mk (ci_vac hn hm hC hP hh e3) (Or.inl rfl), mi_vac hn hm hM hk hh e4, lk_mf (lk_ho (lk_pf hL) lP) (Or.inl (upd_a _ _ _)), ⟨nx nf h, hx, rfl, rfl⟩, t1, t2, x1, x2, congrArg (· + 1) x3⟩, fixC_s (fixC_s (fixC_s (fixC_s (fixC_s (fixC_r s) 12 _ _ (by omega)) 11 _ _ (by omega)) 8 _ _ (by omega)) 13 _ _ (by omega)) 8 _ _ (by omega), fixM_s (fixM_s (fixM_s (fixM_s (fixM_r t) 15 _ _ (by omega)) 26 _ _ (by omega)) 15 _ _ (by omega)) 25 _ _ (by omega), Or.inr ⟨rfl, h, hh, ch, th, upd_a _ _ _⟩, fun Q hQ => ?_⟩
        show (upd (s.1 11) P (-1)) Q = s.1 11 Q
        have hq : Q ≠ P := fun e => hQ h hh (e ▸ e3)
        rw [upd_n hq]
      · have hp : φ P < 64 := (hL.1 P lP).2.2.2 (by omega)
        have hs := mr_lfs R
        have g1 := canGo_o (nf := nf) (s := s) hm hP (by omega)
        have g2 := canGo_mo (t := kS t 15 16 (nn (nx nf h))) hp hm t2
        rw [show lf (fun j => decide ((kS t 15 16 (nn (nx nf h))).1 28 j = 0)) ns 0 = lf (fun j => decide (s.1 14 j = -1)) ns 0 from hs] at g2
        rcases lf_spec (fun j => decide (s.1 14 j = -1)) ns 0 with ⟨a1, a2⟩ | ⟨j, a1, a2, a3, a4⟩
        · rw [if_pos a1] at g1 g2
          refine ⟨_, _, _, look_2 hh hn ch hP e1 e6 g1, mlook_2 hh hn t1 th hk e2 e7 g2, ⟨hb, ci_mk hC (Or.inl rfl), hM, lk_mf hL (Or.inr e7), ⟨nx nf h, hx, rfl, rfl⟩, t1, t2, x1, x2, x3⟩, fixC_s (fixC_s (fixC_r s) 13 _ _ (by omega)) 8 _ _ (by omega), fixM_s (fixM_r t) 15 _ _ (by omega), Or.inl rfl, fun _ _ => rfl⟩
        · have a5 : j < ns := by omega
          have a6 : ¬ nn j = -1 := nnm (by omega)
          have a7 : s.1 14 j = -1 := of_decide_eq_true a3
          have a8 : t.1 28 j = 0 := of_decide_eq_true ((mr_sl R a5).symm.trans a3)
          rw [a4, if_neg a6] at g1 g2
          have k1 := ci_vac hn hm hC hP hh e3
          have k2 := ci_slo hn hm k1 hP (by omega) a5 (upd_a _ _ _) a7
          have k3 := mi_slo hn hm (mi_vac hn hm hM hk hh e4) hp a5 (upd_a _ _ _) a8
          rw [upd_upd] at k3
          have k4 : LK nf φ L (upd (s.1 11) P (nn (100 + j))) (upd (s.1 12) h (-1)) (upd (s.1 13) h 0) (upd (t.1 25) (φ P) (nn (100 + j))) (t.1 27) := lk_mf (lk_ho (lk_pf hL) lP) (Or.inl (upd_a _ _ _))
          rw [← upd_upd (s.1 11) P (-1)] at k4
          refine ⟨_, _, _, look_3 hh hn ch hP e1 e6 g1 (sendOut_o hP (by omega) hh hn hm e3 a5 a4) ch, mlook_3 hh hn t1 th hk e2 e7 g2 (sendOut_mo hp (by omega) hm t2 e4 a5 (hs.trans a4)), ⟨hb, ci_mk k2 (Or.inl rfl), k3, k4, ⟨nx nf h, hx, rfl, rfl⟩, t1, t2, x1, x2, congrArg (· + 1) x3⟩, fixC_s (fixC_s (fixC_s (fixC_s (fixC_s (fixC_s (fixC_s (fixC_r s) 12 _ _ (by omega)) 11 _ _ (by omega)) 14 _ _ (by omega)) 11 _ _ (by omega)) 8 _ _ (by omega)) 13 _ _ (by omega)) 8 _ _ (by omega), fixM_s (fixM_s (fixM_s (fixM_s (fixM_s (fixM_r t) 15 _ _ (by omega)) 26 _ _ (by omega)) 15 _ _ (by omega)) 28 _ _ (by omega)) 25 _ _ (by omega), Or.inr ⟨rfl, h, hh, ch, th, upd_a _ _ _⟩, fun Q hQ => ?_⟩
          show (upd (upd (s.1 11) P (-1)) P (nn (100 + j))) Q = s.1 11 Q
          have hq : Q ≠ P := fun e => hQ h hh (e ▸ e3)
          rw [upd_n hq, upd_n hq]
    · have e7 : t.1 27 h = 1 := e5 ▸ e6
      refine ⟨_, _, _, look_1 hh hn ch hP e1 e6, mlook_1 hh hn t1 th hk e2 e7, ⟨hb, ci_mk hC (Or.inl rfl), hM, lk_mk hL, ⟨nx nf h, hx, rfl, rfl⟩, t1, t2, x1, x2, x3⟩, fixC_s (fixC_s (fixC_r s) 13 _ _ (by omega)) 8 _ _ (by omega), fixM_s (fixM_s (fixM_r t) 15 _ _ (by omega)) 27 _ _ (by omega), Or.inl rfl, fun _ _ => rfl⟩
