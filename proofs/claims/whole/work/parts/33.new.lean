theorem nn_p2 (a : Nat) : nn a + 2 = nn (a + 2) := nn_add a 2
theorem nn_p3 (a : Nat) : nn a + 3 = nn (a + 3) := nn_add a 3
def u4 (g : Nat → Int32) (b : Nat) : Nat → Int32 := upd (upd (upd (upd g b 0) (b + 1) 0) (b + 2) 0) (b + 3) 0
theorem u4_e (g : Nat → Int32) (b j : Nat) : u4 g b j = if b ≤ j ∧ j < b + 4 then 0 else g j := by
  simp only [u4, upd_e]
  by_cases h0 : j = b
  · subst h0; simp
  · by_cases h1 : j = b + 1
    · subst h1; simp
    · by_cases h2 : j = b + 2
      · subst h2; simp
      · by_cases h3 : j = b + 3
        · subst h3; simp
        · rw [if_neg h3, if_neg h2, if_neg h1, if_neg h0, if_neg (by omega)]
def zw (s : KS) (c b : Nat) : KS := kS (kS (kS (kS s c b 0) c (b + 1) 0) c (b + 2) 0) c (b + 3) 0
theorem np_words {nf ns P n : Nat} {s : KS} (hP : P < 60) : p_X0_newPage_L26 nf ns (n + 5) (nn P) 0 s = some (.inl (some (nn P)), kS (zw s 9 (P * 4)) 10 P 1) := by
  simp (disch := omega) [p_X0_newPage_L26, nn_4m, nn_p0, nn_p1, nn_p2, nn_p3, nn_in, nn_tn, hP, (by omega : P * 4 < 240), (by omega : P * 4 + 1 < 240), (by omega : P * 4 + 2 < 240), (by omega : P * 4 + 3 < 240), zw]
theorem mp_words {K n : Nat} {s : KS} (hK : K < 64) : p_X2_newPage_L33 (n + 5) (nn K) 0 s = some (.inl (some (nn K)), zw s 23 (4 * K)) := by
  simp (disch := omega) [p_X2_newPage_L33, nn_m4, nn_p0, nn_p1, nn_p2, nn_p3, nn_in, nn_tn, hK, (by omega : 4 * K < 256), (by omega : 4 * K + 1 < 256), (by omega : 4 * K + 2 < 256), (by omega : 4 * K + 3 < 256), zw]
theorem np_scan {nf ns : Nat} {s : KS} (hu : ∀ P, P < 60 → ∃ u, u < 1000 ∧ s.1 10 P = nn u) : ∀ (m i n : Nat), i + m = 59 → (∃ Q, i ≤ Q ∧ Q < 60 ∧ s.1 10 Q = nn 0) → ∃ P, i ≤ P ∧ P < 60 ∧ s.1 10 P = nn 0 ∧ p_X0_newPage_L3 nf ns (m + n + 5) (nn i) s = some (.inl (some (nn P)), kS (zw s 9 (P * 4)) 10 P 1)
  | 0, i, n, h1, ⟨Q, q1, q2, q3⟩ => by
    have e : Q = i := by omega
    subst e
    have hw := np_words (nf := nf) (ns := ns) (n := n) (s := s) q2
    refine ⟨Q, by omega, q2, q3, ?_⟩
    rw [show 0 + n + 5 = (n + 4) + 1 by omega]
    simp (disch := omega) [p_X0_newPage_L3, nn_59g, (by omega : 59 ≤ Q), hw]
  | m + 1, i, n, h1, ⟨Q, q1, q2, q3⟩ => by
    obtain ⟨u, hu1, hu2⟩ := hu i (by omega)
    by_cases c : u = 0
    · subst c
      have hw := np_words (nf := nf) (ns := ns) (n := m + 1 + n) (s := s) (show i < 60 by omega)
      refine ⟨i, by omega, by omega, hu2, ?_⟩
      rw [show m + 1 + n + 5 = (m + 1 + n + 4) + 1 by omega]
      simp (disch := omega) [p_X0_newPage_L3, nn_59g, (fF (by omega) : (59 ≤ i) = False), nn_in, nn_tn, (by omega : i < 60), hu2, nn_le0, hw]
    · have hq : i ≠ Q := fun e => c (nn_inj (by omega) (by omega) (hu2.symm.trans (e ▸ q3)))
      obtain ⟨P, a1, a2, a3, a4⟩ := np_scan (nf := nf) (ns := ns) hu m (i + 1) n (by omega) ⟨Q, by omega, q2, q3⟩
      refine ⟨P, by omega, a2, a3, ?_⟩
      rw [show m + 1 + n + 5 = (m + n + 5) + 1 by omega]
      generalize m + n + 5 = v at a4 ⊢
      simp (disch := omega) [p_X0_newPage_L3, nn_59g, (fF (by omega) : (59 ≤ i) = False), nn_in, nn_tn, (by omega : i < 60), hu2, nn_le0, c, nn_p1, a4]
theorem mp_here {t : KS} {i n : Nat} (hi : i < 64) (c : t.1 24 i = 0) : p_X2_newPage_L2 (n + 5) (nn i) t = some (.inl (some (nn i)), zw (kS (kS t 24 i 1) 25 i (-1)) 23 (4 * i)) := by
  have hw := mp_words (n := n) (s := kS (kS t 24 i 1) 25 i (-1)) hi
  have e : p_X2_newPage_L2 (n + 5) (nn i) t = p_X2_newPage_L33 (n + 5) (nn i) 0 (kS (kS t 24 i 1) 25 i (-1)) := by
    show p_X2_newPage_L2 ((n + 4) + 1) (nn i) t = p_X2_newPage_L33 ((n + 4) + 1) (nn i) 0 (kS (kS t 24 i 1) 25 i (-1))
    generalize n + 4 = v
    simp (disch := omega) only [p_X2_newPage_L2, nn_in, nn_tn, hi, (by omega : i < 70), c, nar1, decide_true, cond_true]
  exact e.trans hw
theorem mp_next {t : KS} {i v : Nat} (hi : i < 64) (c : t.1 24 i = 1) : p_X2_newPage_L2 (v + 1) (nn i) t = p_X2_newPage_L2 v (nn (i + 1)) t := by
  simp (disch := omega) only [p_X2_newPage_L2, nn_in, nn_tn, hi, c, nn_p1, decide_true, cond_true, show decide ((1 : Int32) = 0) = false from rfl, cond_false]
theorem mp_scan {t : KS} (hu : ∀ K, K < 64 → t.1 24 K = 0 ∨ t.1 24 K = 1) (m : Nat) : ∀ (i n : Nat), i + m = 63 → (∃ Q, i ≤ Q ∧ Q < 64 ∧ t.1 24 Q = 0) → ∃ K, i ≤ K ∧ K < 64 ∧ t.1 24 K = 0 ∧ p_X2_newPage_L2 (m + n + 5) (nn i) t = some (.inl (some (nn K)), zw (kS (kS t 24 K 1) 25 K (-1)) 23 (4 * K)) := by
  induction m with
  | zero =>
    rintro i n h1 ⟨Q, q1, q2, q3⟩
    have e : Q = i := by omega
    subst e
    exact ⟨Q, by omega, q2, q3, mp_here q2 q3⟩
  | succ m ih =>
    rintro i n h1 ⟨Q, q1, q2, q3⟩
    rcases hu i (by omega) with c | c
    · exact ⟨i, by omega, by omega, c, mp_here (by omega) c⟩
    · have hq : i ≠ Q := fun e => by subst e; rw [q3] at c; exact absurd c (by decide)
      obtain ⟨K, a1, a2, a3, a4⟩ := ih (i + 1) n (by omega) ⟨Q, by omega, q2, q3⟩
      refine ⟨K, by omega, a2, a3, ?_⟩
      rw [show m + 1 + n + 5 = (m + n + 5) + 1 by omega]
      exact (mp_next (by omega) c).trans a4
theorem php' (m : Nat) (r : Nat → Nat → Prop) (h : ∀ i, i < m + 1 → ∃ v, v < m ∧ r i v) : ∃ i j v, i < j ∧ j < m + 1 ∧ r i v ∧ r j v := by
  classical
  obtain ⟨i, j, h1, h2, h3⟩ := php m (fun i => if c : i < m + 1 then Classical.choose (h i c) else 0) (fun i hi => by
    show (if c : i < m + 1 then Classical.choose (h i c) else 0) < m
    rw [dif_pos hi]; exact (Classical.choose_spec (h i hi)).1)
  have e : (if c : i < m + 1 then Classical.choose (h i c) else 0) = (if c : j < m + 1 then Classical.choose (h j c) else 0) := h3
  rw [dif_pos (show i < m + 1 by omega), dif_pos h2] at e
  have a := (Classical.choose_spec (h i (by omega))).2
  rw [e] at a
  exact ⟨i, j, _, h1, h2, a, (Classical.choose_spec (h j h2)).2⟩
theorem free_page {L : Nat → Prop} {ext : Nat → Nat} {us : Nat → Int32} {g : Nat → Nat → Int32} {p0 k0 : Nat} (U : UR L ext us g) (I : GI g) (hx : ∀ P, 6 ≤ P → ext P = 0) (hp : p0 < 6) (hk : k0 < 9) (h : ∀ P, 6 ≤ P → P < 60 → g p0 (2 + k0) = nn P → 2 ≤ uc g P) : ∃ P, 6 ≤ P ∧ P < 60 ∧ us P = nn 0 := by
  refine Classical.byContradiction fun hc => ?_
  have h1 : ∀ P, 6 ≤ P → P < 60 → ∃ p k, p < 6 ∧ k < 9 ∧ g p (2 + k) = nn P ∧ ¬ (p = p0 ∧ k = k0) := fun P a b => by
    have c1 : 0 < uc g P := by
      have u := U P b
      rw [hx P a] at u
      rcases Nat.eq_zero_or_pos (uc g P) with z | z
      · exact absurd ⟨P, a, b, by rw [u.1, z]⟩ hc
      · exact z
    have c2 := uc_set (g := g) (P := P) (x := -1) hp (show 2 + k0 < 11 by omega)
    rw [if_neg (fun e : (-1 : Int32) = nn P => nnm (by omega) e.symm)] at c2
    have c3 : 0 < uc (tS g p0 (2 + k0) (-1)) P := by
      by_cases e : g p0 (2 + k0) = nn P
      · have := h P a b e
        rw [if_pos e] at c2; omega
      · rw [if_neg e] at c2; omega
    obtain ⟨p, k, hp', hk', e⟩ := uc_pos.mp c3
    rw [tS_e] at e
    by_cases d : p = p0 ∧ k = 2 + k0
    · rw [if_pos d] at e; exact absurd e.symm (nnm (by omega))
    · rw [if_neg d] at e
      rcases I p k hp' hk' with z | ⟨Q, hQ, z, z1, z2⟩
      · rw [z] at e; exact absurd e.symm (nnm (by omega))
      · have : Q = P := nni (by omega) (by omega) (z.symm.trans e)
        subst this
        have : ¬ k < 2 := fun x => absurd (z1 x) (by omega)
        exact ⟨p, k - 2, hp', by omega, by rw [show 2 + (k - 2) = k by omega]; exact e, fun x => d ⟨x.1, by omega⟩⟩
  obtain ⟨i, j, v, a1, a2, ⟨p, k, b1, b2, b3, b4, b5⟩, ⟨p', k', d1, d2, d3, d4, d5⟩⟩ := php' 53 (fun i v => ∃ p k, p < 6 ∧ k < 9 ∧ g p (2 + k) = nn (i + 6) ∧ ¬ (p = p0 ∧ k = k0) ∧ v = if 9 * p + k < 9 * p0 + k0 then 9 * p + k else 9 * p + k - 1) (fun i hi => by
    obtain ⟨p, k, b1, b2, b3, b4⟩ := h1 (i + 6) (by omega) (by omega)
    refine ⟨_, ?_, p, k, b1, b2, b3, b4, rfl⟩
    split <;> omega)
  have e : p = p' ∧ k = k' := by
    rw [b5] at d5
    split at d5 <;> split at d5 <;> omega
  obtain ⟨rfl, rfl⟩ := e
  have := nni (by omega) (by omega) (b3.symm.trans d3)
  omega
theorem free_model {nf : Nat} {φ : Nat → Nat} {L G : Nat → Prop} {us ho pf mk ta tm : Nat → Int32} (D : DR φ L G us) (hL : LG nf φ L G ho pf mk ta tm) (hG : ∀ K K', G K → G K' → K = K') : ∃ K, K < 64 ∧ us K = 0 := by
  refine Classical.byContradiction fun hc => ?_
  obtain ⟨i, j, v, a1, a2, b, d⟩ := php' 63 (fun K v => (L v ∧ φ v = K) ∨ (v = 60 ∧ G K)) (fun K hK => by
    rcases (D K (by omega)).1 with z | z
    · exact absurd ⟨K, by omega, z⟩ hc
    · rcases (D K (by omega)).2.mp z with ⟨P, x, y⟩ | x
      · exact ⟨P, by have := (hL.1 P x).1; omega, Or.inl ⟨x, y⟩⟩
      · exact ⟨60, by omega, Or.inr ⟨rfl, x⟩⟩)
  rcases b with ⟨b1, b2⟩ | ⟨b1, b2⟩ <;> rcases d with ⟨d1, d2⟩ | ⟨d1, d2⟩
  · omega
  · have := (hL.1 v b1).1; omega
  · have := (hL.1 v d1).1; omega
  · have := hG i j b2 d2; omega
def fixN (t t' : KS) : Prop := t'.1 15 = t.1 15 ∧ ∀ c, 16 ≤ c → c < 22 → t'.1 c = t.1 c
theorem fixN_r (t : KS) : fixN t t := ⟨rfl, fun _ _ _ => rfl⟩
theorem fixN_t {a b c : KS} (h1 : fixN a b) (h2 : fixN b c) : fixN a c := ⟨h2.1.trans h1.1, fun d x y => (h2.2 d x y).trans (h1.2 d x y)⟩
theorem fixN_s {a b : KS} (h : fixN a b) (c i : Nat) (x : Int32) (hc : 22 ≤ c) : fixN a (kS b c i x) := ⟨by rw [kS_1, if_neg (by omega)]; exact h.1, fun d h1 h2 => by rw [kS_1, if_neg (by omega)]; exact h.2 d h1 h2⟩
theorem fixN_z {a b : KS} (h : fixN a b) (c i : Nat) (hc : 22 ≤ c) : fixN a (zw b c i) := fixN_s (fixN_s (fixN_s (fixN_s h c _ _ hc) c _ _ hc) c _ _ hc) c _ _ hc
theorem fixK_z {a b : KS} (h : fixK a b) (c i : Nat) (hc : 8 ≤ c) : fixK a (zw b c i) := fixK_s (fixK_s (fixK_s (fixK_s h c _ _ hc) c _ _ hc) c _ _ hc) c _ _ hc
theorem lg_resv {nf K : Nat} {φ : Nat → Nat} {L G : Nat → Prop} {ho pf mk ta tm : Nat → Int32} (h : LG nf φ L G ho pf mk ta tm) (hK : K < 64) (e : ∀ P, L P → φ P ≠ K) (a : ta K = -1) : LG nf φ L (fun k => G k ∨ k = K) ho pf mk (upd ta K (-1)) tm := by
  have : upd ta K (-1) = ta := funext fun j => by rw [upd_e]; split <;> simp_all
  rw [this]
  obtain ⟨l1, l2, l3, l4, l5, l6, l7, l8⟩ := h
  refine ⟨fun P hP => ?_, l2, l3, fun k hk => ?_, l5, l6, l7, fun k hk => ?_⟩
  · obtain ⟨a1, a2, a3, a4⟩ := l1 P hP
    exact ⟨a1, a2, a3, fun x => x.elim a4 (e P hP)⟩
  · rcases l4 k hk with h | h | h
    · exact Or.inl h
    · exact Or.inr (Or.inl h)
    · exact Or.inr (Or.inr (Or.inl h))
  · rcases hk with h | h
    · exact l8 k h
    · omega
theorem dr_resv {K : Nat} {φ : Nat → Nat} {L G : Nat → Prop} {us : Nat → Int32} (h : DR φ L G us) : DR φ L (fun k => G k ∨ k = K) (upd us K 1) := fun J hJ => by
  rw [upd_e]
  by_cases c : J = K
  · rw [if_pos c]
    exact ⟨Or.inr rfl, ⟨fun _ => Or.inr (Or.inr c), fun _ => rfl⟩⟩
  · rw [if_neg c]
    refine ⟨(h J hJ).1, (h J hJ).2.trans ⟨fun x => x.elim Or.inl (fun y => Or.inr (Or.inl y)), fun x => ?_⟩⟩
    rcases x with x | x | x
    · exact Or.inl x
    · exact Or.inr x
    · exact absurd x c
theorem wr_resv {K : Nat} {φ : Nat → Nat} {L : Nat → Prop} {w w' : Nat → Int32} (h : WR φ L w w') (e : ∀ P, L P → φ P ≠ K) : WR φ L w (u4 w' (4 * K)) := ⟨fun P i a b c => by
  have := e P a
  rw [u4_e, if_neg (by omega)]; exact h.1 P i a b c, h.2⟩
theorem rx_mnew {nf ns : Nat} {φ : Nat → Nat} {L : Nat → Prop} {ext : Nat → Nat} {G : Nat → Prop} {X : Nat → Nat → Prop} {s t : KS} (R : RX nf ns φ L ext G X s t) (hG : ∀ K K', G K → G K' → K = K') : ∃ K t1, K < 64 ∧ p_X2_newPage t = some (.inl (some (nn K)), t1) ∧ RX nf ns φ L ext (fun k => G k ∨ k = K) X s t1 ∧ ¬ G K ∧ t1.1 25 K = -1 ∧ (∀ i, i < 4 → t1.1 23 (4 * K + i) = 0) ∧ fixN t t1 ∧ t1.1 22 = t.1 22 ∧ (∀ k, k ≠ K → t1.1 25 k = t.1 25 k) ∧ (∀ k i, k ≠ K → i < 4 → t1.1 23 (4 * k + i) = t.1 23 (4 * k + i)) := by
  obtain ⟨hb, hC, hM, hL, hT, hU, hD, hW, hI, hE⟩ := R
  obtain ⟨Q, q1, q2⟩ := free_model hD hL hG
  obtain ⟨K, _, hK, a3, a4⟩ := mp_scan (t := t) (fun K hK => (hD K hK).1) 63 0 332 (by omega) ⟨Q, by omega, q1, q2⟩
  have hn : ¬ ((∃ P, L P ∧ φ P = K) ∨ G K) := fun x => by
    have := (hD K hK).2.mpr x
    rw [a3] at this; exact absurd this (by decide)
  have e : ∀ P, L P → φ P ≠ K := fun P a b => hn (Or.inl ⟨P, a, b⟩)
  have ea : t.1 25 K = -1 := by
    rcases hL.2.2.2.1 K (by omega) with h | h | h
    · exact h
    · exact absurd (Or.inl h) hn
    · exact absurd (Or.inr h) hn
  refine ⟨K, _, hK, a4, ⟨hb, hC, mi_new hM ea, lg_resv hL hK e ea, hT, hU, dr_resv hD, wr_resv hW e, hI, hE⟩, fun x => hn (Or.inr x), upd_a _ _ _, fun i hi => ?_, fixN_z (fixN_s (fixN_s (fixN_r t) 24 _ _ (by omega)) 25 _ _ (by omega)) 23 _ (by omega), rfl, fun k hk => upd_n hk, fun k i hk hi => ?_⟩
  · show u4 (t.1 23) (4 * K) (4 * K + i) = 0
    rw [u4_e, if_pos (by omega)]
  · show u4 (t.1 23) (4 * K) (4 * k + i) = _
    rw [u4_e, if_neg (by omega)]
/-! a page of the class takes a reserved one -/
theorem ur_new {L : Nat → Prop} {ext : Nat → Nat} {us : Nat → Int32} {g : Nat → Nat → Int32} {p k P : Nat} (U : UR L ext us g) (hp : p < 6) (hk : k < 11) (hP : P < 60) (e : g p k = -1) (h0 : uc g P + ext P = 0) : UR (fun Q => L Q ∨ Q = P) ext (upd us P 1) (tS g p k (nn P)) := fun Q hQ => by
  have h := uc_set (g := g) (P := Q) (x := nn P) hp hk
  rw [e, if_neg (fun e : (-1 : Int32) = nn Q => nnm (by omega) e.symm)] at h
  obtain ⟨u1, u2, u3⟩ := U Q hQ
  rw [upd_e]
  by_cases c : Q = P
  · subst c
    rw [if_pos rfl] at h ⊢
    exact ⟨by rw [show uc (tS g p k (nn Q)) Q + ext Q = 1 by omega]; rfl, ⟨fun _ => by omega, fun _ => Or.inr rfl⟩, u3⟩
  · rw [if_neg (fun x => c (nni (by omega) (by omega) x).symm)] at h
    rw [if_neg c]
    have h' : uc (tS g p k (nn P)) Q = uc g Q := h
    rw [h']
    exact ⟨u1, ⟨fun x => u2.mp (x.elim id (fun y => absurd y c)), fun x => Or.inl (u2.mpr x)⟩, u3⟩
def fS (φ : Nat → Nat) (P K : Nat) : Nat → Nat := fun Q => if Q = P then K else φ Q
theorem fS_a (φ : Nat → Nat) (P K : Nat) : fS φ P K P = K := if_pos rfl
theorem fS_n {φ : Nat → Nat} {P K Q : Nat} (h : Q ≠ P) : fS φ P K Q = φ Q := if_neg h
theorem lg_new {nf P K : Nat} {φ : Nat → Nat} {L G : Nat → Prop} {ho pf mk ta tm : Nat → Int32} (h : LG nf φ L G ho pf mk ta tm) (h6 : 6 ≤ P) (hP : P < 60) (nP : ¬ L P) (hK : K < 64) (gK : G K) (a : ta K = -1) : LG nf (fS φ P K) (fun Q => L Q ∨ Q = P) (fun k => G k ∧ k ≠ K) ho pf mk ta tm := by
  obtain ⟨l1, l2, l3, l4, l5, l6, l7, l8⟩ := h
  have nq : ∀ Q, L Q → Q ≠ P := fun Q x e => nP (e ▸ x)
  refine ⟨fun Q hQ => ?_, fun Q hQ => ?_, fun Q Q' x y => ?_, fun k hk => ?_, fun Q hQ hl => l5 Q hQ (fun x => hl (Or.inl x)), l6, fun Q hQ => by rw [fS_n (by omega)]; exact l7 Q hQ, fun k hk => l8 k hk.1⟩
  · rcases hQ with hQ | rfl
    · rw [fS_n (nq Q hQ)]
      obtain ⟨a1, a2, a3, a4⟩ := l1 Q hQ
      exact ⟨a1, a2, a3, fun x => a4 x.1⟩
    · rw [fS_a]
      exact ⟨hP, by omega, fun _ => hK, fun x => x.2 rfl⟩
  · rcases hQ with hQ | rfl
    · rw [fS_n (nq Q hQ)]; exact l2 Q hQ
    · rw [fS_a, a, l5 Q hP nP]
  · rcases x with x | rfl <;> rcases y with y | rfl
    · rw [fS_n (nq Q x), fS_n (nq Q' y)]; exact l3 Q Q' x y
    · rw [fS_n (nq Q x), fS_a]; exact fun z => absurd (z ▸ gK) (l1 Q x).2.2.2
    · rw [fS_n (nq Q' y), fS_a]; exact fun z => absurd (z ▸ gK) (l1 Q' y).2.2.2
    · exact fun _ => rfl
  · by_cases c : k = K
    · exact Or.inr (Or.inl ⟨P, Or.inr rfl, by rw [fS_a, c]⟩)
    · rcases l4 k hk with h | ⟨Q, x, y⟩ | h
      · exact Or.inl h
      · exact Or.inr (Or.inl ⟨Q, Or.inl x, by rw [fS_n (nq Q x), y]⟩)
      · exact Or.inr (Or.inr ⟨h, c⟩)
theorem dr_new {P K : Nat} {φ : Nat → Nat} {L G : Nat → Prop} {us : Nat → Int32} (h : DR φ L G us) (nP : ¬ L P) (gK : G K) : DR (fS φ P K) (fun Q => L Q ∨ Q = P) (fun k => G k ∧ k ≠ K) us := fun J hJ => by
  have nq : ∀ Q, L Q → Q ≠ P := fun Q x e => nP (e ▸ x)
  refine ⟨(h J hJ).1, (h J hJ).2.trans ⟨fun x => ?_, fun x => ?_⟩⟩
  · by_cases c : J = K
    · exact Or.inl ⟨P, Or.inr rfl, by rw [fS_a, c]⟩
    · rcases x with ⟨Q, x, y⟩ | x
      · exact Or.inl ⟨Q, Or.inl x, by rw [fS_n (nq Q x), y]⟩
      · exact Or.inr ⟨x, c⟩
  · rcases x with ⟨Q, x | rfl, y⟩ | x
    · rw [fS_n (nq Q x)] at y; exact Or.inl ⟨Q, x, y⟩
    · rw [fS_a] at y; exact Or.inr (y ▸ gK)
    · exact Or.inr x.1
theorem wr_new {P K : Nat} {φ : Nat → Nat} {L : Nat → Prop} {w w' : Nat → Int32} (h : WR φ L w w') (h6 : 6 ≤ P) (nP : ¬ L P) (hz : ∀ i, i < 4 → w' (4 * K + i) = 0) : WR (fS φ P K) (fun Q => L Q ∨ Q = P) (u4 w (P * 4)) w' := ⟨fun Q i x y z => by
  rcases x with x | rfl
  · have nq : Q ≠ P := fun e => nP (e ▸ x)
    rw [u4_e, if_neg (by omega), fS_n nq]; exact h.1 Q i x y z
  · rw [u4_e, if_pos (by omega), fS_a, hz i z], fun Q i x y => by rw [u4_e, if_neg (by omega)]; exact h.2 Q i x y⟩
theorem ee_new {P K : Nat} {φ : Nat → Nat} {L : Nat → Prop} {x y : Int32} (h : EE φ L x y) (nP : ¬ L P) : EE (fS φ P K) (fun Q => L Q ∨ Q = P) x y := by
  rcases h with h | ⟨Q, a, b, c, d, e⟩
  · exact Or.inl h
  · exact Or.inr ⟨Q, Or.inl a, b, c, d, by rw [fS_n (show Q ≠ P from fun z => nP (z ▸ a))]; exact e⟩
theorem er_new {P K p k : Nat} {φ : Nat → Nat} {L : Nat → Prop} {X : Nat → Nat → Prop} {g : Nat → Nat → Int32} {tp : Nat → Int32} {x : Int32} (h : ER φ L X g tp) (nP : ¬ L P) (hX : X p k) : ER (fS φ P K) (fun Q => L Q ∨ Q = P) X (tS g p (2 + k) x) tp := fun q j hq hj hx => by
  rw [tS_e, if_neg (fun e => hx (by obtain ⟨rfl, e⟩ := e; rwa [show j = k by omega]))]
  exact ee_new (h q j hq hj hx) nP
theorem gi_set {g : Nat → Nat → Int32} {p k P : Nat} (h : GI g) (hP : P < 60) (h6 : 6 ≤ P) : GI (tS g p (2 + k) (nn P)) := fun q j hq hj => by
  rw [tS_e]
  split
  · exact Or.inr ⟨P, hP, rfl, fun _ => by omega, fun _ => h6⟩
  · exact h q j hq hj
theorem rx_cnew {nf ns p k K : Nat} {φ : Nat → Nat} {L : Nat → Prop} {ext : Nat → Nat} {G : Nat → Prop} {X : Nat → Nat → Prop} {s t : KS} (R : RX nf ns φ L ext G X s t) (hx : ∀ P, 6 ≤ P → ext P = 0) (hp : p < 6) (hk : k < 9) (e : s.2 p (2 + k) = -1) (hX : X p k) (gK : G K) (hK : K < 64) (a : t.1 25 K = -1) (hz : ∀ i, i < 4 → t.1 23 (4 * K + i) = 0) : ∃ P s1, 6 ≤ P ∧ P < 60 ∧ ¬ L P ∧ p_X0_newPage nf ns s = some (.inl (some (nn P)), s1) ∧ s1.2 = s.2 ∧ fixK s s1 ∧ RX nf ns (fS φ P K) (fun Q => L Q ∨ Q = P) ext (fun k => G k ∧ k ≠ K) X (kG s1 p (2 + k) (nn P)) t := by
  obtain ⟨hb, hC, hM, hL, hT, hU, hD, hW, hI, hE⟩ := R
  obtain ⟨Q, q1, q2, q3⟩ := free_page hU hI hx hp hk (fun P h1 h2 h3 => by rw [e] at h3; exact absurd h3.symm (nnm (by omega)))
  have hu : ∀ P, P < 60 → ∃ u, u < 1000 ∧ s.1 10 P = nn u := fun P hP => ⟨_, by have := uc_le s.2 P; have := (hU P hP).2.2; omega, (hU P hP).1⟩
  obtain ⟨P, p1, p2, p3, p4⟩ := np_scan (nf := nf) (ns := ns) hu 53 6 342 (by omega) ⟨Q, q1, q2, q3⟩
  have h0 : uc s.2 P + ext P = 0 := nni (by have := uc_le s.2 P; have := (hU P p2).2.2; omega) (by omega) ((hU P p2).1.symm.trans p3)
  have nP : ¬ L P := fun x => by have := (hU P p2).2.1.mp x; omega
  exact ⟨P, _, p1, p2, nP, p4, rfl, fixK_s (fixK_z (fixK_r s) 9 _ (by omega)) 10 _ _ (by omega), hb, hC, hM, lg_new hL p1 p2 nP hK gK a, hT, ur_new hU hp (by omega) p2 e h0, dr_new hD nP gK, wr_new hW p1 nP hz, gi_set hI p2 p1, er_new hE nP hX⟩
theorem rx_X {nf ns : Nat} {φ : Nat → Nat} {L : Nat → Prop} {ext : Nat → Nat} {G : Nat → Prop} {X : Nat → Nat → Prop} {s t : KS} (X' : Nat → Nat → Prop) (R : RX nf ns φ L ext G X s t) (h : ∀ p k, p < 6 → k < 9 → X p k → ¬ X' p k → EE φ L (s.2 p (2 + k)) (t.1 22 (9 * p + k))) : RX nf ns φ L ext G X' s t := by
  obtain ⟨hb, hC, hM, hL, hT, hU, hD, hW, hI, hE⟩ := R
  refine ⟨hb, hC, hM, hL, hT, hU, hD, hW, hI, fun p k hp hk hx => ?_⟩
  by_cases c : X p k
  · exact h p k hp hk c hx
  · exact hE p k hp hk c
theorem rx_tp {nf ns p k : Nat} {φ : Nat → Nat} {L : Nat → Prop} {ext : Nat → Nat} {G : Nat → Prop} {X : Nat → Nat → Prop} {s t : KS} {x : Int32} (R : RX nf ns φ L ext G X s t) (hk : k < 9) (hX : X p k) : RX nf ns φ L ext G X s (kS t 22 (9 * p + k) x) := by
  obtain ⟨hb, hC, hM, hL, hT, hU, hD, hW, hI, hE⟩ := R
  refine ⟨hb, hC, hM, hL, hT, hU, hD, hW, hI, fun q j hq hj hx => ?_⟩
  show EE φ L (s.2 q (2 + j)) (upd (t.1 22) (9 * p + k) x (9 * q + j))
  have : ¬ (9 * q + j = 9 * p + k) := fun e => hx (by have : q = p ∧ j = k := by omega
                                                      rw [this.1, this.2]; exact hX)
  rw [upd_n this]
  exact hE q j hq hj hx
theorem rx_G {nf ns : Nat} {φ : Nat → Nat} {L : Nat → Prop} {ext : Nat → Nat} {G G' : Nat → Prop} {X : Nat → Nat → Prop} {s t : KS} (R : RX nf ns φ L ext G X s t) (h : ∀ k, G k ↔ G' k) : RX nf ns φ L ext G' X s t := by
  have : G = G' := funext fun k => propext (h k)
  exact this ▸ R
/-- both make a page for one place -/
theorem rx_alloc {nf ns p k : Nat} {φ : Nat → Nat} {L : Nat → Prop} {ext : Nat → Nat} {s t : KS} (R : RX nf ns φ L ext noG noX s t) (hx : ∀ P, 6 ≤ P → ext P = 0) (hp : p < 6) (hk : k < 9) (e : s.2 p (2 + k) = -1) : ∃ P K s1 t1 φ' L', P < 60 ∧ K < 64 ∧ p_X0_newPage nf ns s = some (.inl (some (nn P)), s1) ∧ p_X2_newPage t = some (.inl (some (nn K)), t1) ∧ RX nf ns φ' L' ext noG noX (kG s1 p (2 + k) (nn P)) (kS t1 22 (9 * p + k) (nn K)) ∧ s1.2 = s.2 ∧ t1.1 22 = t.1 22 ∧ fixK s s1 ∧ fixN t t1 := by
  obtain ⟨K, t1, hK, b1, b2, b3, b4, b5, b6, b7, _⟩ := rx_mnew R (fun _ _ x => absurd x id)
  have R2 := rx_tp (x := nn K) (rx_X (fun q j => q = p ∧ j = k) b2 (fun _ _ _ _ x => absurd x id)) hk ⟨rfl, rfl⟩
  obtain ⟨P, s1, c1, c2, c3, c4, c5, c6, c7⟩ := rx_cnew R2 hx hp hk e ⟨rfl, rfl⟩ (Or.inr rfl) hK b4 b5
  refine ⟨P, K, s1, t1, _, _, c2, hK, c4, b1, rx_G (rx_X noX c7 (fun q j _ _ x _ => ?_)) (fun k => ⟨fun x => x.2 (x.1.elim (fun y => absurd y id) id), fun x => absurd x id⟩), c5, b7, c6, b6⟩
  obtain ⟨rfl, rfl⟩ := x
  refine Or.inr ⟨P, Or.inr rfl, c1, c2, ?_, ?_⟩
  · show tS s1.2 q (2 + j) (nn P) q (2 + j) = nn P
    rw [tS_e, if_pos ⟨rfl, rfl⟩]
  · show upd (t1.1 22) (9 * q + j) (nn K) (9 * q + j) = _
    rw [upd_a, fS_a]
