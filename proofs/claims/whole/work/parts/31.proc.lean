/-! how many places a page has; two pages, one place -/
def sum6 (f : Nat → Nat) : Nat := f 0 + f 1 + f 2 + f 3 + f 4 + f 5
def pc (r : Nat → Int32) (P : Nat) : Nat := cnt (fun k => decide (r k = nn P)) 11
def uc (g : Nat → Nat → Int32) (P : Nat) : Nat := sum6 (fun p => pc (g p) P)
def tS (g : Nat → Nat → Int32) (p k : Nat) (x : Int32) : Nat → Nat → Int32 := va_up g p (upd (g p) k x)
theorem tS_r (g : Nat → Nat → Int32) (p k : Nat) (x : Int32) (q : Nat) : tS g p k x q = if q = p then upd (g p) k x else g q := rfl
theorem tS_e (g : Nat → Nat → Int32) (p k : Nat) (x : Int32) (q j : Nat) : tS g p k x q j = if q = p ∧ j = k then x else g q j := by
  rw [tS_r]
  by_cases h : q = p
  · subst h; rw [if_pos rfl, upd_e]; simp
  · rw [if_neg h, if_neg (fun e => h e.1)]
theorem sum6_upd {f f' : Nat → Nat} {p : Nat} (hp : p < 6) (h : ∀ q, q ≠ p → f' q = f q) : sum6 f' + f p = sum6 f + f' p := by
  unfold sum6
  have h0 := h 0; have h1 := h 1; have h2 := h 2; have h3 := h 3; have h4 := h 4; have h5 := h 5
  have : p = 0 ∨ p = 1 ∨ p = 2 ∨ p = 3 ∨ p = 4 ∨ p = 5 := by omega
  rcases this with rfl | rfl | rfl | rfl | rfl | rfl <;> omega
theorem sum6_cong {f f' : Nat → Nat} (h : ∀ q, q < 6 → f' q = f q) : sum6 f' = sum6 f := by
  unfold sum6
  rw [h 0 (by omega), h 1 (by omega), h 2 (by omega), h 3 (by omega), h 4 (by omega), h 5 (by omega)]
theorem sum6_le {f : Nat → Nat} {m : Nat} (h : ∀ q, f q ≤ m) : sum6 f ≤ 6 * m := by
  unfold sum6
  have h0 := h 0; have h1 := h 1; have h2 := h 2; have h3 := h 3; have h4 := h 4; have h5 := h 5
  omega
theorem sum6_pos {f : Nat → Nat} : 0 < sum6 f ↔ ∃ p, p < 6 ∧ 0 < f p := by
  unfold sum6
  constructor
  · intro h
    have : 0 < f 0 ∨ 0 < f 1 ∨ 0 < f 2 ∨ 0 < f 3 ∨ 0 < f 4 ∨ 0 < f 5 := by omega
    rcases this with h | h | h | h | h | h
    · exact ⟨0, by omega, h⟩
    · exact ⟨1, by omega, h⟩
    · exact ⟨2, by omega, h⟩
    · exact ⟨3, by omega, h⟩
    · exact ⟨4, by omega, h⟩
    · exact ⟨5, by omega, h⟩
  · rintro ⟨p, hp, h⟩
    have : p = 0 ∨ p = 1 ∨ p = 2 ∨ p = 3 ∨ p = 4 ∨ p = 5 := by omega
    rcases this with rfl | rfl | rfl | rfl | rfl | rfl <;> omega
theorem pc_upd {r : Nat → Int32} {k P : Nat} {x : Int32} (hk : k < 11) : pc (upd r k x) P + (if r k = nn P then 1 else 0) = pc r P + (if x = nn P then 1 else 0) := by
  have h := cnt_upd (g := fun j => decide (r j = nn P)) (i := k) (x := decide (x = nn P)) (k := 11)
  have e : (fun j => decide (upd r k x j = nn P)) = fun j => if j = k then decide (x = nn P) else decide (r j = nn P) := funext fun j => by
    rw [upd_e]; split <;> rfl
  unfold pc
  rw [e]
  simp only [hk, true_and, decide_eq_true_eq] at h
  exact h
theorem uc_set {g : Nat → Nat → Int32} {p k P : Nat} {x : Int32} (hp : p < 6) (hk : k < 11) : uc (tS g p k x) P + (if g p k = nn P then 1 else 0) = uc g P + (if x = nn P then 1 else 0) := by
  have h := sum6_upd (f := fun q => pc (g q) P) (f' := fun q => pc (tS g p k x q) P) hp (fun q hq => by show pc (tS g p k x q) P = _; rw [tS_r, if_neg hq])
  have h2 : pc (tS g p k x p) P = pc (upd (g p) k x) P := by rw [tS_r, if_pos rfl]
  have h3 := pc_upd (r := g p) (P := P) (x := x) hk
  have h4 : sum6 (fun q => pc (tS g p k x q) P) + pc (g p) P = sum6 (fun q => pc (g q) P) + pc (tS g p k x p) P := h
  unfold uc
  omega
theorem uc_pos {g : Nat → Nat → Int32} {P : Nat} : 0 < uc g P ↔ ∃ p k, p < 6 ∧ k < 11 ∧ g p k = nn P := by
  unfold uc
  rw [sum6_pos]
  constructor
  · rintro ⟨p, hp, h⟩
    obtain ⟨k, hk, e⟩ := cnt_pos.mp h
    exact ⟨p, k, hp, hk, of_decide_eq_true e⟩
  · rintro ⟨p, k, hp, hk, e⟩
    exact ⟨p, hp, cnt_pos.mpr ⟨k, hk, decide_eq_true e⟩⟩
theorem uc_le (g : Nat → Nat → Int32) (P : Nat) : uc g P ≤ 66 := sum6_le (fun q => cnt_le _ 11)
theorem php : ∀ (m : Nat) (f : Nat → Nat), (∀ i, i < m + 1 → f i < m) → ∃ i j, i < j ∧ j < m + 1 ∧ f i = f j
  | 0, f, h => absurd (h 0 (by omega)) (by omega)
  | m + 1, f, h => by
    by_cases hc : ∃ i, i < m + 1 ∧ f i = f (m + 1)
    · obtain ⟨i, hi, e⟩ := hc
      exact ⟨i, m + 1, hi, by omega, e⟩
    · have hn : ∀ i, i < m + 1 → f i ≠ f (m + 1) := fun i hi e => hc ⟨i, hi, e⟩
      have hv := h (m + 1) (by omega)
      obtain ⟨i, j, hij, hj, e⟩ := php m (fun i => if f i < f (m + 1) then f i else f i - 1) (fun i hi => by
        have h1 := hn i hi
        have h2 := h i (by omega)
        show (if f i < f (m + 1) then f i else f i - 1) < m
        split <;> omega)
      refine ⟨i, j, hij, by omega, ?_⟩
      have h1 := hn i (by omega)
      have h2 := hn j hj
      have e2 : (if f i < f (m + 1) then f i else f i - 1) = (if f j < f (m + 1) then f j else f j - 1) := e
      split at e2 <;> split at e2 <;> omega
/-! the relation, with what is reserved (ext), garbage (G) and places left out (X) -/
def LG (nf : Nat) (φ : Nat → Nat) (L G : Nat → Prop) (ho pf mk ta tm : Nat → Int32) : Prop :=
  (∀ P, L P → P < 60 ∧ φ P < 70 ∧ (6 ≤ P → φ P < 64) ∧ ¬ G (φ P)) ∧
  (∀ P, L P → ta (φ P) = ho P) ∧
  (∀ P Q, L P → L Q → φ P = φ Q → P = Q) ∧
  (∀ k, k < 70 → ta k = -1 ∨ (∃ P, L P ∧ φ P = k) ∨ G k) ∧
  (∀ P, P < 60 → ¬ L P → ho P = -1) ∧
  (∀ f, f < nf → pf f = -1 ∨ mk f = tm f) ∧
  (∀ P, P < 6 → φ P = 64 + P) ∧
  (∀ k, G k → k < 70)
def UR (L : Nat → Prop) (ext : Nat → Nat) (us : Nat → Int32) (g : Nat → Nat → Int32) : Prop :=
  ∀ P, P < 60 → us P = nn (uc g P + ext P) ∧ (L P ↔ 0 < uc g P + ext P) ∧ ext P ≤ 1
def DR (φ : Nat → Nat) (L G : Nat → Prop) (us : Nat → Int32) : Prop :=
  ∀ K, K < 64 → (us K = 0 ∨ us K = 1) ∧ (us K = 1 ↔ (∃ P, L P ∧ φ P = K) ∨ G K)
def WR (φ : Nat → Nat) (L : Nat → Prop) (w w' : Nat → Int32) : Prop :=
  (∀ P i, L P → 6 ≤ P → i < 4 → w (P * 4 + i) = w' (4 * φ P + i)) ∧
  (∀ P i, P < 6 → i < 4 → w (P * 4 + i) = nn (100 * (P / 2) + 10 * (P % 2) + i))
def EE (φ : Nat → Nat) (L : Nat → Prop) (x y : Int32) : Prop :=
  (x = -1 ∧ y = -1) ∨ ∃ P, L P ∧ 6 ≤ P ∧ P < 60 ∧ x = nn P ∧ y = nn (φ P)
def GI (g : Nat → Nat → Int32) : Prop :=
  ∀ p k, p < 6 → k < 11 → g p k = -1 ∨ ∃ P, P < 60 ∧ g p k = nn P ∧ (k < 2 → P < 6) ∧ (2 ≤ k → 6 ≤ P)
def ER (φ : Nat → Nat) (L : Nat → Prop) (X : Nat → Nat → Prop) (g : Nat → Nat → Int32) (tp : Nat → Int32) : Prop :=
  ∀ p k, p < 6 → k < 9 → ¬ X p k → EE φ L (g p (2 + k)) (tp (9 * p + k))
def RX (nf ns : Nat) (φ : Nat → Nat) (L : Nat → Prop) (ext : Nat → Nat) (G : Nat → Prop) (X : Nat → Nat → Prop) (s t : KS) : Prop :=
  (2 ≤ nf ∧ nf ≤ 10 ∧ ns ≤ 20) ∧ CI nf ns (s.1 11) (s.1 12) (s.1 13) (s.1 14) ∧ MI nf ns (t.1 25) (t.1 26) (t.1 28) ∧ LG nf φ L G (s.1 11) (s.1 12) (s.1 13) (t.1 25) (t.1 27) ∧ CT nf ns s t ∧ UR L ext (s.1 10) s.2 ∧ DR φ L G (t.1 24) ∧ WR φ L (s.1 9) (t.1 23) ∧ GI s.2 ∧ ER φ L X s.2 (t.1 22)
def noX : Nat → Nat → Prop := fun _ _ => False
def noG : Nat → Prop := fun _ => False
def no0 : Nat → Nat := fun _ => 0
theorem rx_mr {nf ns : Nat} {φ : Nat → Nat} {L : Nat → Prop} {ext : Nat → Nat} {X : Nat → Nat → Prop} {s t : KS} (R : RX nf ns φ L ext noG X s t) : MR nf ns φ L s t := by
  obtain ⟨hb, hC, hM, ⟨l1, l2, l3, l4, l5, l6, l7, l8⟩, hT, _⟩ := R
  refine ⟨hb, hC, hM, ⟨fun P hP => ?_, l2, l3, fun k hk => ?_, l5, l6⟩, hT⟩
  · obtain ⟨a1, a2, a3, a4⟩ := l1 P hP
    exact ⟨a1, a2, l7 P, a3⟩
  · rcases l4 k hk with h | h | h
    · exact Or.inl h
    · exact Or.inr h
    · exact absurd h id
/-- the memory has changed in step: all else holds -/
theorem rx_of_mr {nf ns : Nat} {φ : Nat → Nat} {L : Nat → Prop} {ext : Nat → Nat} {X : Nat → Nat → Prop} {s t s' t' : KS} (R : RX nf ns φ L ext noG X s t) (R' : MR nf ns φ L s' t') (h1 : fixC s s') (h2 : fixM t t') : RX nf ns φ L ext noG X s' t' := by
  obtain ⟨hb, hC, hM, ⟨l1, l2, l3, l4, l5, l6, l7, l8⟩, hT, hU, hD, hW, hG, hE⟩ := R
  obtain ⟨hb', hC', hM', ⟨m1, m2, m3, m4, m5, m6⟩, hT'⟩ := R'
  refine ⟨hb, hC', hM', ⟨l1, m2, l3, fun k hk => ?_, m5, m6, l7, l8⟩, hT', ?_, ?_, ?_, ?_, ?_⟩
  · rcases m4 k hk with h | h
    · exact Or.inl h
    · exact Or.inr (Or.inl h)
  · rw [h1.1, h1.2 10 (by omega) (by omega) (by omega) (by omega) (by omega)]; exact hU
  · rw [h2.2 24 (by omega) (by omega) (by omega) (by omega) (by omega)]; exact hD
  · rw [h1.2 9 (by omega) (by omega) (by omega) (by omega) (by omega), h2.2 23 (by omega) (by omega) (by omega) (by omega) (by omega)]; exact hW
  · rw [h1.1]; exact hG
  · rw [h1.1, h2.2 22 (by omega) (by omega) (by omega) (by omega) (by omega)]; exact hE
