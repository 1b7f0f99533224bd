theorem nni {a b : Nat} (ha : a < 1000) (hb : b < 1000) (h : nn a = nn b) : a = b := nn_inj (by omega) (by omega) h
theorem nnm {a : Nat} (ha : a < 1000) : ¬ nn a = -1 := by rw [nn_m1 (by omega)]; exact id
def CI (nf ns : Nat) (ho pf mk ps : Nat → Int32) : Prop :=
  (∀ P, P < 60 → ho P = -1 ∨ (∃ f, f < nf ∧ ho P = nn f) ∨ (6 ≤ P ∧ ∃ i, i < ns ∧ ho P = nn (100 + i))) ∧
  (∀ P f, P < 60 → f < nf → (ho P = nn f ↔ pf f = nn P)) ∧
  (∀ P i, P < 60 → i < ns → (ho P = nn (100 + i) ↔ ps i = nn P)) ∧
  (∀ f, f < nf → pf f = -1 ∨ ∃ P, P < 60 ∧ pf f = nn P) ∧
  (∀ i, i < ns → ps i = -1 ∨ ∃ P, P < 60 ∧ ps i = nn P) ∧
  (∀ f, f < nf → mk f = 0 ∨ mk f = 1)
def MI (nf ns : Nat) (ta tf tu : Nat → Int32) : Prop :=
  (∀ k, k < 70 → ta k = -1 ∨ (∃ f, f < nf ∧ ta k = nn f) ∨ (k < 64 ∧ ∃ i, i < ns ∧ ta k = nn (100 + i))) ∧
  (∀ k f, k < 70 → f < nf → (ta k = nn f ↔ tf f = nn k)) ∧
  (∀ k i, k < 70 → i < ns → ta k = nn (100 + i) → tu i = 1) ∧
  (∀ f, f < nf → tf f = -1 ∨ ∃ k, k < 70 ∧ tf f = nn k) ∧
  (∀ i, i < ns → tu i = 0 ∨ tu i = 1) ∧
  (∀ i, i < ns → tu i = 1 → ∃ k, k < 64 ∧ ta k = nn (100 + i)) ∧
  (∀ k k' i, k < 70 → k' < 70 → i < ns → ta k = nn (100 + i) → ta k' = nn (100 + i) → k = k') ∧
  (∀ f, nf ≤ f → f < 10 → tf f = -1)
theorem ci_vac {nf ns P f : Nat} {ho pf mk ps : Nat → Int32} (hn : nf ≤ 10) (hm : ns ≤ 20) (h : CI nf ns ho pf mk ps) (hP : P < 60) (hf : f < nf) (e : ho P = nn f) : CI nf ns (upd ho P (-1)) (upd pf f (-1)) mk ps := by
  obtain ⟨h1, h2, h3, h4, h5, h6⟩ := h
  have hi := @nni
  have hm1 := @nnm
  simp only [CI, upd_e]
  refine ⟨?_, ?_, ?_, ?_, ?_, ?_⟩ <;> grind
theorem ci_vas {nf ns P i : Nat} {ho pf mk ps : Nat → Int32} (hn : nf ≤ 10) (hm : ns ≤ 20) (h : CI nf ns ho pf mk ps) (hP : P < 60) (hf : i < ns) (e : ho P = nn (100 + i)) : CI nf ns (upd ho P (-1)) pf mk (upd ps i (-1)) := by
  obtain ⟨h1, h2, h3, h4, h5, h6⟩ := h
  have hi := @nni
  have hm1 := @nnm
  simp only [CI, upd_e]
  refine ⟨?_, ?_, ?_, ?_, ?_, ?_⟩ <;> grind
theorem ci_set {nf ns P f : Nat} {ho pf mk ps : Nat → Int32} (hn : nf ≤ 10) (hm : ns ≤ 20) (h : CI nf ns ho pf mk ps) (hP : P < 60) (hf : f < nf) (e : ho P = -1) (e2 : pf f = -1) : CI nf ns (upd ho P (nn f)) (upd pf f (nn P)) mk ps := by
  obtain ⟨h1, h2, h3, h4, h5, h6⟩ := h
  have hi := @nni
  have hm1 := @nnm
  simp only [CI, upd_e]
  refine ⟨?_, ?_, ?_, ?_, ?_, ?_⟩ <;> grind
theorem ci_slo {nf ns P i : Nat} {ho pf mk ps : Nat → Int32} (hn : nf ≤ 10) (hm : ns ≤ 20) (h : CI nf ns ho pf mk ps) (hP : P < 60) (h6P : 6 ≤ P) (hf : i < ns) (e : ho P = -1) (e2 : ps i = -1) : CI nf ns (upd ho P (nn (100 + i))) pf mk (upd ps i (nn P)) := by
  obtain ⟨h1, h2, h3, h4, h5, h6⟩ := h
  have hi := @nni
  have hm1 := @nnm
  simp only [CI, upd_e]
  refine ⟨?_, ?_, ?_, ?_, ?_, ?_⟩ <;> grind
theorem ci_mk {nf ns f : Nat} {ho pf mk ps : Nat → Int32} {x : Int32} (h : CI nf ns ho pf mk ps) (hx : x = 0 ∨ x = 1) : CI nf ns ho pf (upd mk f x) ps := by
  obtain ⟨h1, h2, h3, h4, h5, h6⟩ := h
  refine ⟨h1, h2, h3, h4, h5, fun g hg => ?_⟩
  rw [upd_e]
  split
  · exact hx
  · exact h6 g hg
theorem ci_new {nf ns P : Nat} {ho pf mk ps : Nat → Int32} (h : CI nf ns ho pf mk ps) (e : ho P = -1) : CI nf ns (upd ho P (-1)) pf mk ps := by
  have : upd ho P (-1) = ho := funext fun j => by rw [upd_e]; split <;> simp_all
  rwa [this]
theorem mi_vac {nf ns k f : Nat} {ta tf tu : Nat → Int32} (hn : nf ≤ 10) (hm : ns ≤ 20) (h : MI nf ns ta tf tu) (hk : k < 70) (hf : f < nf) (e : ta k = nn f) : MI nf ns (upd ta k (-1)) (upd tf f (-1)) tu := by
  obtain ⟨h1, h2, h3, h4, h5, h6, h7, h8⟩ := h
  have hi := @nni
  have hm1 := @nnm
  simp only [MI, upd_e]
  refine ⟨?_, ?_, ?_, ?_, ?_, ?_, ?_, ?_⟩ <;> grind
theorem mi_vas {nf ns k i : Nat} {ta tf tu : Nat → Int32} (hn : nf ≤ 10) (hm : ns ≤ 20) (h : MI nf ns ta tf tu) (hk : k < 70) (hf : i < ns) (e : ta k = nn (100 + i)) : MI nf ns (upd ta k (-1)) tf (upd tu i 0) := by
  obtain ⟨h1, h2, h3, h4, h5, h6, h7, h8⟩ := h
  have hi := @nni
  have hm1 := @nnm
  simp only [MI, upd_e]
  refine ⟨?_, ?_, ?_, ?_, ?_, ?_, ?_, ?_⟩ <;> grind
theorem mi_set {nf ns k f : Nat} {ta tf tu : Nat → Int32} (hn : nf ≤ 10) (hm : ns ≤ 20) (h : MI nf ns ta tf tu) (hk : k < 70) (hf : f < nf) (e : ta k = -1) (e2 : tf f = -1) : MI nf ns (upd ta k (nn f)) (upd tf f (nn k)) tu := by
  obtain ⟨h1, h2, h3, h4, h5, h6, h7, h8⟩ := h
  have hi := @nni
  have hm1 := @nnm
  simp only [MI, upd_e]
  refine ⟨?_, ?_, ?_, ?_, ?_, ?_, ?_, ?_⟩ <;> grind
theorem mi_slo {nf ns k i : Nat} {ta tf tu : Nat → Int32} (hn : nf ≤ 10) (hm : ns ≤ 20) (h : MI nf ns ta tf tu) (hk : k < 64) (hf : i < ns) (e : ta k = -1) (e2 : tu i = 0) : MI nf ns (upd ta k (nn (100 + i))) tf (upd tu i 1) := by
  obtain ⟨h1, h2, h3, h4, h5, h6, h7, h8⟩ := h
  have hi := @nni
  have hm1 := @nnm
  simp only [MI, upd_e]
  refine ⟨?_, ?_, ?_, ?_, ?_, ?_, ?_, ?_⟩ <;> grind
theorem mi_new {nf ns k : Nat} {ta tf tu : Nat → Int32} (h : MI nf ns ta tf tu) (e : ta k = -1) : MI nf ns (upd ta k (-1)) tf tu := by
  have : upd ta k (-1) = ta := funext fun j => by rw [upd_e]; split <;> simp_all
  rwa [this]
