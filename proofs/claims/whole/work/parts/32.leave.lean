theorem nn_s1 {a : Nat} (h : 1 ≤ a) : nn a - 1 = nn (a - 1) := nn_sub (a := a) (b := 1) h
def fixK (s s' : KS) : Prop := ∀ c, c < 8 → s'.1 c = s.1 c
theorem fixK_r (s : KS) : fixK s s := fun _ _ => rfl
theorem fixK_t {a b c : KS} (h1 : fixK a b) (h2 : fixK b c) : fixK a c := fun d h => (h2 d h).trans (h1 d h)
theorem fixK_s {a b : KS} (h : fixK a b) (c i : Nat) (x : Int32) (hc : 8 ≤ c) : fixK a (kS b c i x) := fun d hd => by rw [kS_1, if_neg (by omega)]; exact h d hd
theorem fixK_g {a b : KS} (h : fixK a b) (p k : Nat) (x : Int32) : fixK a (kG b p k x) := h
theorem fixK_c {a b : KS} (h : fixC a b) : fixK a b := fun d hd => h.2 d (by omega) (by omega) (by omega) (by omega) (by omega)
theorem leave_stay {nf ns P u : Nat} {s : KS} (hP : P < 60) (h : s.1 10 P = nn u) (hu : 2 ≤ u) (hu2 : u < 1000) : p_X0_leave nf ns (nn P) s = some (.inl none, kS s 10 P (nn (u - 1))) := by
  simp (disch := omega) [p_X0_leave, nn_in, nn_tn, hP, h, kS_1, upd_a, nn_s1, nn_e0, (fF (by omega) : (u - 1 = 0) = False)]
theorem leave_gone {nf ns P : Nat} {s s1 : KS} (hP : P < 60) (h : s.1 10 P = nn 1) (hv : p_X0_vacate nf ns (nn P) (kS s 10 P (nn 0)) = some (.inl none, s1)) : p_X0_leave nf ns (nn P) s = some (.inl none, s1) := by
  simp (disch := omega) [p_X0_leave, nn_in, nn_tn, hP, h, kS_1, upd_a, nn_s1, nn_e0, hv, kbv]
theorem uc_un {g : Nat → Nat → Int32} {p k P Q : Nat} (hp : p < 6) (hk : k < 11) (e : g p k = nn P) (hP : P < 60) (hQ : Q < 60) : uc (tS g p k (-1)) Q + (if Q = P then 1 else 0) = uc g Q := by
  have h := uc_set (g := g) (P := Q) (x := -1) hp hk
  rw [e] at h
  have h1 : (nn P = nn Q) = (Q = P) := by rw [nn_eq (by omega) (by omega)]; exact propext ⟨Eq.symm, Eq.symm⟩
  simp only [h1, nn_m1' (show Q < 2147483648 by omega), if_false] at h
  exact h
theorem ur_stay {L : Nat → Prop} {ext : Nat → Nat} {us : Nat → Int32} {g : Nat → Nat → Int32} {p k P : Nat} (U : UR L ext us g) (hp : p < 6) (hk : k < 11) (e : g p k = nn P) (hP : P < 60) (h2 : 2 ≤ uc g P + ext P) : UR L ext (upd us P (nn (uc g P + ext P - 1))) (tS g p k (-1)) := fun Q hQ => by
  have h := uc_un hp hk e hP hQ
  obtain ⟨u1, u2, u3⟩ := U Q hQ
  rw [upd_e]
  by_cases c : Q = P
  · subst c
    rw [if_pos rfl] at h ⊢
    refine ⟨by congr 1; omega, u2.trans ⟨fun _ => by omega, fun _ => by omega⟩, u3⟩
  · rw [if_neg c] at h ⊢
    have h' : uc (tS g p k (-1)) Q = uc g Q := h
    rw [h']; exact ⟨u1, u2, u3⟩
theorem ur_gone {L : Nat → Prop} {ext : Nat → Nat} {us : Nat → Int32} {g : Nat → Nat → Int32} {p k P : Nat} (U : UR L ext us g) (hp : p < 6) (hk : k < 11) (e : g p k = nn P) (hP : P < 60) (h2 : uc g P + ext P = 1) : UR (fun Q => L Q ∧ Q ≠ P) ext (upd us P (nn 0)) (tS g p k (-1)) := fun Q hQ => by
  have h := uc_un hp hk e hP hQ
  obtain ⟨u1, u2, u3⟩ := U Q hQ
  rw [upd_e]
  by_cases c : Q = P
  · subst c
    rw [if_pos rfl] at h ⊢
    refine ⟨by congr 1; omega, ⟨fun x => absurd rfl x.2, fun x => absurd x (by omega)⟩, u3⟩
  · rw [if_neg c] at h ⊢
    have h' : uc (tS g p k (-1)) Q = uc g Q := h
    rw [h']; exact ⟨u1, ⟨fun x => u2.mp x.1, fun x => ⟨u2.mpr x, c⟩⟩, u3⟩
theorem gi_un {g : Nat → Nat → Int32} {p k : Nat} (h : GI g) : GI (tS g p k (-1)) := fun q j hq hj => by
  rw [tS_e]
  split
  · exact Or.inl rfl
  · exact h q j hq hj
theorem er_stay {φ : Nat → Nat} {L : Nat → Prop} {X : Nat → Nat → Prop} {g : Nat → Nat → Int32} {tp : Nat → Int32} {p k : Nat} (h : ER φ L X g tp) (hX : 2 ≤ k → X p (k - 2)) : ER φ L X (tS g p k (-1)) tp := fun q j hq hj hx => by
  rw [tS_e, if_neg (fun e => by obtain ⟨rfl, e2⟩ := e; exact hx (by have := hX (by omega); rwa [show k - 2 = j by omega] at this))]
  exact h q j hq hj hx
theorem er_gone {φ : Nat → Nat} {L : Nat → Prop} {X : Nat → Nat → Prop} {g : Nat → Nat → Int32} {tp : Nat → Int32} {P : Nat} (hP : P < 60) (h : ER φ L X g tp) (h0 : uc g P = 0) : ER φ (fun Q => L Q ∧ Q ≠ P) X g tp := fun q j hq hj hx => by
  rcases h q j hq hj hx with h1 | ⟨Q, a1, a2, a3, a4, a5⟩
  · exact Or.inl h1
  · refine Or.inr ⟨Q, ⟨a1, fun e => ?_⟩, a2, a3, a4, a5⟩
    subst e
    have := uc_pos.mpr ⟨q, 2 + j, hq, by omega, a4⟩
    omega
theorem lg_gone {nf P : Nat} {φ : Nat → Nat} {L G : Nat → Prop} {ho pf pf' mk ta tm : Nat → Int32} (h : LG nf φ L G ho pf mk ta tm) (lP : L P) (hf : ∀ f, pf' f = pf f ∨ pf' f = -1) : LG nf φ (fun Q => L Q ∧ Q ≠ P) (fun k => G k ∨ k = φ P) (upd ho P (-1)) pf' mk ta tm := by
  obtain ⟨l1, l2, l3, l4, l5, l6, l7, l8⟩ := h
  refine ⟨fun Q hQ => ?_, fun Q hQ => ?_, fun Q Q' a b => l3 Q Q' a.1 b.1, fun k hk => ?_, fun Q hQ hl => ?_, fun f hf' => ?_, l7, fun k hk => ?_⟩
  · obtain ⟨a1, a2, a3, a4⟩ := l1 Q hQ.1
    refine ⟨a1, a2, a3, fun hc => ?_⟩
    rcases hc with hc | hc
    · exact a4 hc
    · exact hQ.2 (l3 Q P hQ.1 lP hc)
  · rw [upd_n hQ.2]; exact l2 Q hQ.1
  · rcases l4 k hk with h | ⟨Q, a, b⟩ | h
    · exact Or.inl h
    · by_cases c : Q = P
      · exact Or.inr (Or.inr (Or.inr (by rw [← b, c])))
      · exact Or.inr (Or.inl ⟨Q, ⟨a, c⟩, b⟩)
    · exact Or.inr (Or.inr (Or.inl h))
  · rw [upd_e]
    split
    · rfl
    · rename_i c
      exact l5 Q hQ (fun a => hl ⟨a, c⟩)
  · rcases hf f with e | e
    · rw [e]; exact l6 f hf'
    · exact Or.inl e
  · rcases hk with h | h
    · exact l8 k h
    · rw [h]; exact (l1 P lP).2.1
theorem dr_gone {P : Nat} {φ : Nat → Nat} {L G : Nat → Prop} {us : Nat → Int32} (h : DR φ L G us) (lP : L P) : DR φ (fun Q => L Q ∧ Q ≠ P) (fun k => G k ∨ k = φ P) us := fun K hK => by
  refine ⟨(h K hK).1, (h K hK).2.trans ⟨fun x => ?_, fun x => ?_⟩⟩
  · rcases x with ⟨Q, a, b⟩ | x
    · by_cases c : Q = P
      · exact Or.inr (Or.inr (by rw [← b, c]))
      · exact Or.inl ⟨Q, ⟨a, c⟩, b⟩
    · exact Or.inr (Or.inl x)
  · rcases x with ⟨Q, a, b⟩ | x | x
    · exact Or.inl ⟨Q, a.1, b⟩
    · exact Or.inr x
    · exact Or.inl ⟨P, lP, x.symm⟩
theorem wr_sub {φ : Nat → Nat} {L L' : Nat → Prop} {w w' : Nat → Int32} (h : WR φ L w w') (hs : ∀ Q, L' Q → L Q) : WR φ L' w w' := ⟨fun P i a => h.1 P i (hs P a), h.2⟩
theorem rx_leave {nf ns p k P : Nat} {φ : Nat → Nat} {L : Nat → Prop} {ext : Nat → Nat} {G : Nat → Prop} {X : Nat → Nat → Prop} {s t : KS} (R : RX nf ns φ L ext G X s t) (hp : p < 6) (hk : k < 11) (hX : 2 ≤ k → X p (k - 2)) (e : s.2 p k = nn P) (hP : P < 60) : ∃ s1 L' G', p_X0_leave nf ns (nn P) s = some (.inl none, s1) ∧ RX nf ns φ L' ext G' X (kG s1 p k (-1)) t ∧ s1.2 = s.2 ∧ fixK s s1 := by
  obtain ⟨hb, hC, hM, hL, hT, hU, hD, hW, hG, hE⟩ := R
  have hu := hU P hP
  have hle := uc_le s.2 P
  have hpos : 0 < uc s.2 P := uc_pos.mpr ⟨p, k, hp, hk, e⟩
  have lP : L P := hu.2.1.mpr (by omega)
  by_cases c : 2 ≤ uc s.2 P + ext P
  · exact ⟨_, L, G, leave_stay hP hu.1 c (by omega), ⟨hb, hC, hM, hL, hT, ur_stay hU hp hk e hP c, hD, hW, gi_un hG, er_stay hE hX⟩, rfl, fixK_s (fixK_r s) 10 _ _ (by omega)⟩
  · have c1 : uc s.2 P + ext P = 1 := by omega
    have h10 : s.1 10 P = nn 1 := by rw [hu.1, c1]
    have hz : uc (tS s.2 p k (-1)) P = 0 := by have := uc_un hp hk e hP hP; rw [if_pos rfl] at this; omega
    have hE' := er_gone hP (er_stay hE hX) hz
    rcases hC.1 P hP with h | ⟨f, hf, h⟩ | ⟨h6, i, hi, h⟩
    · exact ⟨_, _, _, leave_gone hP h10 (vac_new hP h), ⟨hb, ci_new hC h, hM, lg_gone hL lP (fun f => Or.inl rfl), hT, ur_gone hU hp hk e hP c1, dr_gone hD lP, wr_sub hW (fun _ x => x.1), gi_un hG, hE'⟩, rfl, fixK_s (fixK_s (fixK_r s) 10 _ _ (by omega)) 11 _ _ (by omega)⟩
    · exact ⟨_, _, _, leave_gone hP h10 (vac_fr hP hf hb.2.1 h), ⟨hb, ci_vac hb.2.1 hb.2.2 hC hP hf h, hM, lg_gone hL lP (fun f' => by show upd (s.1 12) f (-1) f' = s.1 12 f' ∨ upd (s.1 12) f (-1) f' = -1; rw [upd_e]; by_cases c : f' = f; exact Or.inr (if_pos c); exact Or.inl (if_neg c)), hT, ur_gone hU hp hk e hP c1, dr_gone hD lP, wr_sub hW (fun _ x => x.1), gi_un hG, hE'⟩, rfl, fixK_s (fixK_s (fixK_s (fixK_r s) 10 _ _ (by omega)) 12 _ _ (by omega)) 11 _ _ (by omega)⟩
    · exact ⟨_, _, _, leave_gone hP h10 (vac_sl hP hi hb.2.2 h), ⟨hb, ci_vas hb.2.1 hb.2.2 hC hP hi h, hM, lg_gone hL lP (fun f => Or.inl rfl), hT, ur_gone hU hp hk e hP c1, dr_gone hD lP, wr_sub hW (fun _ x => x.1), gi_un hG, hE'⟩, rfl, fixK_s (fixK_s (fixK_s (fixK_r s) 10 _ _ (by omega)) 14 _ _ (by omega)) 11 _ _ (by omega)⟩
theorem lp_loop {nf ns p to : Nat} {φ : Nat → Nat} {ext : Nat → Nat} {X : Nat → Nat → Prop} {t : KS} (hp : p < 6) (ht : to ≤ 11) : ∀ (m i n : Nat) (L G : Nat → Prop) (s : KS), i + m = to → m < n → (∀ k, i ≤ k → k < to → 2 ≤ k → X p (k - 2)) → RX nf ns φ L ext G X s t → ∃ s' L' G', p_X1_leavePages_L3 nf ns n (nn p) (nn to) (nn i) s = some (.inl none, s') ∧ RX nf ns φ L' ext G' X s' t ∧ (∀ q j, s'.2 q j = if q = p ∧ i ≤ j ∧ j < to then -1 else s.2 q j) ∧ fixK s s'
  | 0, i, n + 1, L, G, s, h1, h2, hX, R => by
    refine ⟨s, L, G, ?_, R, fun q j => by rw [if_neg (by omega)], fixK_r s⟩
    simp (disch := omega) [p_X1_leavePages_L3, nn_le, (by omega : to ≤ i)]
  | m + 1, i, n + 1, L, G, s, h1, h2, hX, R => by
    have hG := R.2.2.2.2.2.2.2.2.1
    rcases hG p i hp (by omega) with e | ⟨P, hP, e, _⟩
    · obtain ⟨s', L', G', a1, a2, a3, a4⟩ := lp_loop hp ht m (i + 1) n L G s (by omega) (by omega) (fun k h1 h2 h3 => hX k (by omega) h2 h3) R
      refine ⟨s', L', G', ?_, a2, fun q j => ?_, a4⟩
      · simp (disch := omega) [p_X1_leavePages_L3, nn_le, (fF (by omega) : (to ≤ i) = False), nn_in, nn_tn, hp, (by omega : i < 11), e, nn_p1, a1]
      · rw [a3]
        by_cases c : q = p ∧ j = i
        · obtain ⟨rfl, rfl⟩ := c
          rw [if_neg (by omega), if_pos (by omega), e]
        · by_cases d : q = p ∧ i + 1 ≤ j ∧ j < to
          · rw [if_pos d, if_pos ⟨d.1, by omega, d.2.2⟩]
          · rw [if_neg d, if_neg (by omega)]
    · obtain ⟨s1, L1, G1, b1, b2, b3, b4⟩ := rx_leave R hp (show i < 11 by omega) (fun h => hX i (by omega) (by omega) h) e hP
      obtain ⟨s', L', G', a1, a2, a3, a4⟩ := lp_loop hp ht m (i + 1) n L1 G1 _ (by omega) (by omega) (fun k h1 h2 h3 => hX k (by omega) h2 h3) b2
      refine ⟨s', L', G', ?_, a2, fun q j => ?_, fixK_t b4 a4⟩
      · simp (disch := omega) [p_X1_leavePages_L3, nn_le, (fF (by omega) : (to ≤ i) = False), nn_in, nn_tn, hp, (by omega : i < 11), e, nn_m1, b1, kbv, nn_p1, a1]
      · rw [a3]
        have e2 : (kG s1 p i (-1)).2 q j = if q = p ∧ j = i then -1 else s.2 q j := by
          show tS s1.2 p i (-1) q j = _
          rw [tS_e, b3]
        rw [e2]
        by_cases c : q = p ∧ j = i
        · obtain ⟨rfl, rfl⟩ := c
          rw [if_neg (by omega), if_pos ⟨rfl, rfl⟩, if_pos (by omega)]
        · rw [if_neg c]
          by_cases d : q = p ∧ i + 1 ≤ j ∧ j < to
          · rw [if_pos d, if_pos ⟨d.1, by omega, d.2.2⟩]
          · rw [if_neg d, if_neg (by omega)]
