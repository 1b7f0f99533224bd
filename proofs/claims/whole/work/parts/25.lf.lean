/-! the least free place of a row; how many -/
def lf (g : Nat → Bool) : Nat → Nat → Int32
  | 0, _ => -1
  | k + 1, i => if g i = true then nn i else lf g k (i + 1)
def cnt (g : Nat → Bool) : Nat → Nat
  | 0 => 0
  | k + 1 => cnt g k + (if g k = true then 1 else 0)
theorem lf_cong {g g' : Nat → Bool} : ∀ (k i : Nat), (∀ j, i ≤ j → j < i + k → g j = g' j) → lf g k i = lf g' k i
  | 0, _, _ => rfl
  | k + 1, i, h => by
    rw [lf, lf, h i (by omega) (by omega), lf_cong k (i + 1) (fun j h1 h2 => h j (by omega) (by omega))]
theorem lf_spec (g : Nat → Bool) : ∀ (k i : Nat), (lf g k i = -1 ∧ ∀ j, i ≤ j → j < i + k → g j = false) ∨ ∃ j, i ≤ j ∧ j < i + k ∧ g j = true ∧ lf g k i = nn j
  | 0, i => Or.inl ⟨rfl, fun j h1 h2 => absurd h2 (by omega)⟩
  | k + 1, i => by
    by_cases h : g i = true
    · exact Or.inr ⟨i, by omega, by omega, h, by rw [lf, if_pos h]⟩
    · rcases lf_spec g k (i + 1) with ⟨h1, h2⟩ | ⟨j, h1, h2, h3, h4⟩
      · refine Or.inl ⟨by rw [lf, if_neg h, h1], fun j h3 h4 => ?_⟩
        by_cases hj : j = i
        · rw [hj]; exact Bool.eq_false_iff.mpr h
        · exact h2 j (by omega) (by omega)
      · exact Or.inr ⟨j, by omega, by omega, h3, by rw [lf, if_neg h, h4]⟩
theorem cnt_cong {g g' : Nat → Bool} : ∀ (k : Nat), (∀ j, j < k → g j = g' j) → cnt g k = cnt g' k
  | 0, _ => rfl
  | k + 1, h => by rw [cnt, cnt, h k (by omega), cnt_cong k (fun j hj => h j (by omega))]
theorem cnt_le (g : Nat → Bool) : ∀ (k : Nat), cnt g k ≤ k
  | 0 => Nat.le_refl 0
  | k + 1 => by rw [cnt]; have := cnt_le g k; split <;> omega
theorem cnt_pos {g : Nat → Bool} : ∀ {k : Nat}, 0 < cnt g k ↔ ∃ j, j < k ∧ g j = true
  | 0 => ⟨fun h => absurd h (by rw [cnt]; omega), fun ⟨j, h, _⟩ => absurd h (by omega)⟩
  | k + 1 => by
    rw [cnt]
    constructor
    · intro h
      by_cases hk : g k = true
      · exact ⟨k, by omega, hk⟩
      · rw [if_neg hk] at h
        obtain ⟨j, h1, h2⟩ := cnt_pos.mp (show 0 < cnt g k by omega)
        exact ⟨j, by omega, h2⟩
    · rintro ⟨j, h1, h2⟩
      by_cases hk : j = k
      · rw [if_pos (hk ▸ h2)]; omega
      · have := (cnt_pos (g := g) (k := k)).mpr ⟨j, by omega, h2⟩
        omega
theorem cnt_add (g : Nat → Bool) (a : Nat) : ∀ (b : Nat), cnt g (a + b) = cnt g a + cnt (fun i => g (a + i)) b
  | 0 => rfl
  | b + 1 => by rw [Nat.add_succ a b, cnt, cnt, cnt_add g a b]; omega
/-- one place is another now -/
theorem cnt_upd {g : Nat → Bool} {i : Nat} {x : Bool} : ∀ {k : Nat}, cnt (fun j => if j = i then x else g j) k + (if i < k ∧ g i = true then 1 else 0) = cnt g k + (if i < k ∧ x = true then 1 else 0)
  | 0 => by simp [cnt]
  | k + 1 => by
    have ih := cnt_upd (g := g) (i := i) (x := x) (k := k)
    rw [cnt, cnt]
    by_cases h : i = k
    · subst h
      simp only [Nat.lt_irrefl, false_and, if_false, Nat.lt_succ_self, true_and, if_true] at ih ⊢
      omega
    · have h1 : k ≠ i := fun e => h e.symm
      have h2 : (i < k + 1) = (i < k) := propext (by omega)
      simp only [h1, if_false, h2] at ih ⊢
      omega
