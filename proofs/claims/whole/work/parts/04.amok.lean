/-! the run is sound: what it says, the machine does -/
theorem am_if {α : Type} {P : Prop} [Decidable P] {X : Option α} {y : α} (h : (if P then X else none) = some y) : P ∧ X = some y := by
  by_cases hP : P
  · rw [if_pos hP] at h; exact ⟨hP, h⟩
  · rw [if_neg hP] at h; cases h
theorem am_ifn {α : Type} {P : Prop} [Decidable P] {X : Option α} {y : α} (h : (if P then none else X) = some y) : ¬ P ∧ X = some y := by
  by_cases hP : P
  · rw [if_pos hP] at h; cases h
  · rw [if_neg hP] at h; exact ⟨hP, h⟩
theorem am_bif {α : Type} {b : Bool} {X : Option α} {y : α} (h : (bif b then X else none) = some y) : b = true ∧ X = some y := by
  cases b
  · cases h
  · exact ⟨rfl, h⟩
theorem am_lk : ∀ {lv : am_Lv} {k : Nat} {v : am_V}, lv.lookup k = some v → (k, v) ∈ lv
  | [], k, v, h => by simp at h
  | (k', v') :: lv, k, v, h => by
    simp only [List.lookup] at h
    split at h
    · rename_i e
      have := eq_of_beq e
      subst this
      cases h
      exact List.mem_cons_self
    · exact List.mem_cons_of_mem _ (am_lk h)
theorem am_lat {ls : Array Slot} {nL : Nat} {lv : am_Lv} {ad : am_A} {k : Nat} {v : am_V} (hl : lv_has ls nL (lv.map fun q => (q.1, am_t ad q.2))) (h : lv.lookup k = some v) : ls[k]? = some (.val (am_t ad v)) :=
  hl.2.2 (k, am_t ad v) (List.mem_map.mpr ⟨(k, v), am_lk h, rfl⟩)
theorem am_svh {ls : Array Slot} {nL : Nat} {ad : am_A} {lv : am_Lv} {i : Nat} {v : am_V} (h : lv_has ls nL ((i, am_t ad v) :: (lv.map fun q => (q.1, am_t ad q.2)).filter (fun q => !(q.1 == i) && !(q.1 + 1 == i && q.2.category == 2)))) : lv_has ls nL ((am_sv lv i v).map (fun q => (q.1, am_t ad q.2))) := by
  refine ⟨h.1, h.2.1, fun q hq => ?_⟩
  obtain ⟨w, hw, rfl⟩ := List.mem_map.mp hq
  rcases am_ins_mem hw with rfl | hw
  · exact h.2.2 _ List.mem_cons_self
  · refine h.2.2 _ (List.mem_cons_of_mem _ ?_)
    obtain ⟨h1, h2⟩ := List.mem_filter.mp hw
    refine List.mem_filter.mpr ⟨List.mem_map.mpr ⟨w, h1, rfl⟩, ?_⟩
    simpa only [am_t_cat] using h2
theorem am_invp {i : Int32} {n : Nat} (h : am_in i n = true) : vp_in i n := by
  simpa [am_in, vp_in] using h
section AMS
variable {p : Program} {l : Launch} {e : Env} {R : Room} {s : State} {m : MethodId} {args : Array Value} {below : List Frame} {meth : Method} {c : Code} {Q : State → Prop} {D : va_G} {cl : List vw_C} {tc : Nat → ClassId} {A : Nat → Prop} {nL n0 : Nat} {ad0 : am_A} {cc : ByteArray} {own : String} {Ts : List Cond} {rs : Nat → Option (Nat × (Nat → Int32))}
theorem am_s1_ok (G : am_G p m c cc nL s args Ts own D cl tc A rs ad0) {i : Instr} {n pc : Nat} {lv : am_Lv} {st : List am_V} {h : am_H} {b : Nat × Nat} {K : am_K1} {out : am_O} (hd : decode cc pc = .ok (i, n)) (h1 : am_s1 nL i n lv st K = some out) (kk : ∀ lv' st', K lv' st' = some out → am_W p l e R s m args below meth c Q D cl tc A nL n0 ad0 (pc + n) lv' st' h b) : am_W p l e R s m args below meth c Q D cl tc A nL n0 ad0 pc lv st h b := by
  obtain ⟨⟨hx, hb, hml, hown, hts⟩, hK, hA, hro⟩ := G
  intro ad H locs cells slots ls J hl hc hs
  have kk : ∀ lv' st', K lv' st' = some out → ∀ ls', lv_has ls' nL (lv'.map fun q => (q.1, am_t ad q.2)) → W p l e R s m args below meth c H locs cells slots Q (F0 m (pc + n) ls' (st'.map (am_t ad))) := fun lv' st' q ls' hl' => kk lv' st' q ad H locs cells slots ls' J hl' hc hs
  unfold am_s1 at h1
  split at h1
  · replace h1 := am_if h1
    obtain ⟨rfl, h1⟩ := h1
    exact lv_iconst hx hb hd rfl (kk _ _ h1 ls hl)
  · replace h1 := am_if h1
    obtain ⟨rfl, h1⟩ := h1
    exact lv_bipush hx hb hd rfl (kk _ _ h1 ls hl)
  · replace h1 := am_if h1
    obtain ⟨rfl, h1⟩ := h1
    exact lv_sipush hx hb hd rfl (kk _ _ h1 ls hl)
  · replace h1 := am_if h1
    obtain ⟨rfl, h1⟩ := h1
    unfold am_li at h1
    split at h1
    · rename_i hq
      exact lv_iload hx hb hd (am_lat hl hq) (kk _ _ h1 ls hl)
    · cases h1
  · replace h1 := am_if h1
    obtain ⟨rfl, h1⟩ := h1
    unfold am_li at h1
    split at h1
    · rename_i hq
      exact lv_iload_n hx hb hd rfl (am_lat hl hq) (kk _ _ h1 ls hl)
    · cases h1
  · replace h1 := am_if h1
    obtain ⟨rfl, h1⟩ := h1
    unfold am_la at h1
    split at h1
    · rename_i hq
      exact lv_aload hx hb hd (am_lat hl hq) (kk _ _ h1 ls hl)
    · rename_i hq
      exact lv_aload hx hb hd (am_lat hl hq) (kk _ _ h1 ls hl)
    · rename_i hq
      exact lv_aload hx hb hd (am_lat hl hq) (kk _ _ h1 ls hl)
    · cases h1
  · replace h1 := am_if h1
    obtain ⟨rfl, h1⟩ := h1
    unfold am_la at h1
    split at h1
    · rename_i hq
      exact lv_aload_n hx hb hd rfl (am_lat hl hq) (kk _ _ h1 ls hl)
    · rename_i hq
      exact lv_aload_n hx hb hd rfl (am_lat hl hq) (kk _ _ h1 ls hl)
    · rename_i hq
      exact lv_aload_n hx hb hd rfl (am_lat hl hq) (kk _ _ h1 ls hl)
    · cases h1
  · replace h1 := am_if h1
    obtain ⟨rfl, h1⟩ := h1
    unfold am_si at h1
    split at h1
    · obtain ⟨hk, h1⟩ := am_if h1
      exact lv_istore hx hb hd hl hk rfl (fun ls' hl' => kk _ _ h1 ls' (am_svh hl'))
    · cases h1
  · replace h1 := am_if h1
    obtain ⟨rfl, h1⟩ := h1
    unfold am_si at h1
    split at h1
    · obtain ⟨hk, h1⟩ := am_if h1
      exact lv_istore_n hx hb hd rfl hl hk rfl (fun ls' hl' => kk _ _ h1 ls' (am_svh hl'))
    · cases h1
  · replace h1 := am_if h1
    obtain ⟨rfl, h1⟩ := h1
    unfold am_sa at h1
    split at h1
    · obtain ⟨hk, h1⟩ := am_if h1
      exact lv_astore hx hb hd hl hk rfl (fun ls' hl' => kk _ _ h1 ls' (am_svh hl'))
    · obtain ⟨hk, h1⟩ := am_if h1
      exact lv_astore hx hb hd hl hk rfl (fun ls' hl' => kk _ _ h1 ls' (am_svh hl'))
    · obtain ⟨hk, h1⟩ := am_if h1
      exact lv_astore hx hb hd hl hk rfl (fun ls' hl' => kk _ _ h1 ls' (am_svh hl'))
    · cases h1
  · replace h1 := am_if h1
    obtain ⟨rfl, h1⟩ := h1
    unfold am_sa at h1
    split at h1
    · obtain ⟨hk, h1⟩ := am_if h1
      exact lv_astore_n hx hb hd rfl hl hk rfl (fun ls' hl' => kk _ _ h1 ls' (am_svh hl'))
    · obtain ⟨hk, h1⟩ := am_if h1
      exact lv_astore_n hx hb hd rfl hl hk rfl (fun ls' hl' => kk _ _ h1 ls' (am_svh hl'))
    · obtain ⟨hk, h1⟩ := am_if h1
      exact lv_astore_n hx hb hd rfl hl hk rfl (fun ls' hl' => kk _ _ h1 ls' (am_svh hl'))
    · cases h1
  · replace h1 := am_if h1
    obtain ⟨rfl, h1⟩ := h1
    unfold am_ic at h1
    split at h1
    · rename_i hq
      obtain ⟨hk, h1⟩ := am_if h1
      obtain ⟨k9, hk9⟩ := List.getElem?_of_mem (List.mem_map.mpr ⟨_, am_lk hq, rfl⟩ : _ ∈ lv.map fun q => (q.1, am_t ad q.2))
      exact lv_iinc hx hb hd hl hk9 rfl hk rfl (fun ls' hl' => kk _ _ h1 ls' (am_svh hl'))
    · cases h1
  · replace h1 := am_if h1
    obtain ⟨rfl, h1⟩ := h1
    unfold am_2 at h1
    split at h1
    · exact lv_iadd hx hb hd (kk _ _ h1 ls hl)
    · cases h1
  · replace h1 := am_if h1
    obtain ⟨rfl, h1⟩ := h1
    unfold am_2 at h1
    split at h1
    · exact lv_isub hx hb hd (kk _ _ h1 ls hl)
    · cases h1
  · replace h1 := am_if h1
    obtain ⟨rfl, h1⟩ := h1
    unfold am_2 at h1
    split at h1
    · exact lv_imul hx hb hd (kk _ _ h1 ls hl)
    · cases h1
  · replace h1 := am_if h1
    obtain ⟨rfl, h1⟩ := h1
    unfold am_2 at h1
    split at h1
    · exact lv_iand hx hb hd (kk _ _ h1 ls hl)
    · cases h1
  · replace h1 := am_if h1
    obtain ⟨rfl, h1⟩ := h1
    unfold am_2 at h1
    split at h1
    · exact lv_ior hx hb hd (kk _ _ h1 ls hl)
    · cases h1
  · replace h1 := am_if h1
    obtain ⟨rfl, h1⟩ := h1
    unfold am_2 at h1
    split at h1
    · exact lv_ixor hx hb hd (kk _ _ h1 ls hl)
    · cases h1
  · replace h1 := am_if h1
    obtain ⟨rfl, h1⟩ := h1
    unfold am_2z at h1
    split at h1
    · obtain ⟨hy, h1⟩ := am_ifn h1
      exact lv_idiv hx hb hd hy (kk _ _ h1 ls hl)
    · cases h1
  · replace h1 := am_if h1
    obtain ⟨rfl, h1⟩ := h1
    unfold am_2z at h1
    split at h1
    · obtain ⟨hy, h1⟩ := am_ifn h1
      exact lv_irem hx hb hd hy (kk _ _ h1 ls hl)
    · cases h1
  · replace h1 := am_if h1
    obtain ⟨rfl, h1⟩ := h1
    unfold am_du at h1
    split at h1
    · obtain ⟨hv, h1⟩ := am_if h1
      exact lv_dup hx hb hd (by rw [am_t_cat]; exact hv) (kk _ _ h1 ls hl)
    · cases h1
  · replace h1 := am_if h1
    obtain ⟨rfl, h1⟩ := h1
    unfold am_d2 at h1
    split at h1
    · obtain ⟨hv, h1⟩ := am_if h1
      obtain ⟨hw, h1⟩ := am_if h1
      exact lv_dup2_11 hx hb hd (by rw [am_t_cat]; exact hv) (by rw [am_t_cat]; exact hw) (kk _ _ h1 ls hl)
    · cases h1
  · replace h1 := am_if h1
    obtain ⟨rfl, h1⟩ := h1
    unfold am_dx at h1
    split at h1
    · obtain ⟨hv, h1⟩ := am_if h1
      obtain ⟨hw, h1⟩ := am_if h1
      exact lv_dup_x1 hx hb hd (by rw [am_t_cat]; exact hv) (by rw [am_t_cat]; exact hw) (kk _ _ h1 ls hl)
    · cases h1
  · replace h1 := am_if h1
    obtain ⟨rfl, h1⟩ := h1
    unfold am_po at h1
    split at h1
    · obtain ⟨hv, h1⟩ := am_if h1
      exact lv_pop hx hb hd (by rw [am_t_cat]; exact hv) (kk _ _ h1 ls hl)
    · cases h1
  · replace h1 := am_if h1
    obtain ⟨rfl, h1⟩ := h1
    unfold am_il at h1
    split at h1
    · exact lv_i2l hx hb hd rfl (kk _ _ h1 ls hl)
    · cases h1
  · replace h1 := am_if h1
    obtain ⟨rfl, h1⟩ := h1
    unfold am_lc at h1
    split at h1
    · exact W.lcmp hx hb hd (kk _ _ h1 ls hl)
    · cases h1
  · cases h1
theorem am_s2_ok (G : am_G p m c cc nL s args Ts own D cl tc A rs ad0) {i : Instr} {n pc : Nat} {lv : am_Lv} {st : List am_V} {h : am_H} {b : Nat × Nat} {K : am_K2} {out : am_O} (hd : decode cc pc = .ok (i, n)) (h1 : am_s2 rs i n st h K = some out) (kk : ∀ st' h', K st' h' = some out → am_W p l e R s m args below meth c Q D cl tc A nL n0 ad0 (pc + n) lv st' h' b) : am_W p l e R s m args below meth c Q D cl tc A nL n0 ad0 pc lv st h b := by
  obtain ⟨⟨hx, hb, hml, hown, hts⟩, hK, hA, hro⟩ := G
  intro ad H locs cells slots ls J hl hc hs
  have kk0 : ∀ st' h', K st' h' = some out → ∀ (H1 : Heap) (locs1 : List Loc), am_J D cl tc A s n0 ad0 ad h' H1 locs1 → W p l e R s m args below meth c H1 locs1 cells slots Q (F0 m (pc + n) ls (st'.map (am_t ad))) := fun st' h' q H1 locs1 J1 => kk st' h' q ad H1 locs1 cells slots ls J1 hl hc hs
  clear kk
  have hJ := J
  obtain ⟨j1, j2, j3, hP, hD, hS⟩ := J
  unfold am_s2 at h1
  split at h1
  · replace h1 := am_if h1
    obtain ⟨rfl, h1⟩ := h1
    unfold am_ld at h1
    split at h1
    · split at h1
      · rename_i hk
        replace h1 := am_if h1
        obtain ⟨rfl, h1⟩ := h1
        obtain ⟨hi, h1⟩ := am_bif h1
        obtain ⟨q0, hq⟩ := am_rd hJ hk 0 rfl
        exact va_iald hx hb hK hP q0 0 hq rfl (am_invp hi) hd (kk0 _ _ h1 H locs hJ)
      · cases h1
    · split at h1
      · rename_i hk
        obtain ⟨-, h1⟩ := am_if h1
        obtain ⟨hi, h1⟩ := am_bif h1
        simp only [Bool.and_eq_true, decide_eq_true_eq] at hi
        obtain ⟨q0, hq⟩ := am_rdR hJ hk hi.1
        exact va_iald hx hb hK hP q0 0 hq rfl (am_invp hi.2) hd (kk0 _ _ h1 H locs hJ)
      · cases h1
    · split at h1
      · rename_i hk
        obtain ⟨-, h1⟩ := am_if h1
        obtain ⟨hi, h1⟩ := am_bif h1
        have hT := hro _ _ _ hk
        rw [← j3] at hT
        exact va_ti hx hb hT hS (am_invp hi) rfl hd (kk0 _ _ h1 H locs hJ)
      · cases h1
    · cases h1
  · replace h1 := am_if h1
    obtain ⟨rfl, h1⟩ := h1
    unfold am_ld at h1
    split at h1
    · split at h1
      · rename_i hk
        replace h1 := am_if h1
        obtain ⟨rfl, h1⟩ := h1
        obtain ⟨hi, h1⟩ := am_bif h1
        obtain ⟨q0, hq⟩ := am_rd hJ hk 0 rfl
        exact va_zald hx hb hK hP q0 1 hq rfl (am_invp hi) hd (kk0 _ _ h1 H locs hJ)
      · cases h1
    · split at h1
      · obtain ⟨hz, -⟩ := am_if h1
        cases hz
      · cases h1
    · split at h1
      · obtain ⟨hz, -⟩ := am_if h1
        cases hz
      · cases h1
    · cases h1
  · replace h1 := am_if h1
    obtain ⟨rfl, h1⟩ := h1
    unfold am_sr at h1
    split at h1
    · split at h1
      · rename_i hk
        replace h1 := am_if h1
        obtain ⟨rfl, h1⟩ := h1
        obtain ⟨hi, h1⟩ := am_bif h1
        obtain ⟨q0, g1, g2⟩ := am_wrA hJ hk _
        exact va_iast hx hb hK hP hD hS q0 0 g1 rfl (am_invp hi) hd (fun H1 locs1 hP1 hD1 hS1 => kk0 _ _ h1 H1 locs1 (g2 H1 locs1 hP1 hD1 hS1))
      · cases h1
    · split at h1
      · rename_i hk
        obtain ⟨-, h1⟩ := am_if h1
        obtain ⟨hi, h1⟩ := am_bif h1
        simp only [Bool.and_eq_true, decide_eq_true_eq] at hi
        obtain ⟨q0, g1, g2⟩ := am_wrR hJ hk hi.1 _
        exact va_iast hx hb hK hP hD hS q0 0 g1 rfl (am_invp hi.2) hd (fun H1 locs1 hP1 hD1 hS1 => kk0 _ _ h1 H1 locs1 (g2 H1 locs1 hP1 hD1 hS1))
      · cases h1
    · cases h1
  · replace h1 := am_if h1
    obtain ⟨rfl, h1⟩ := h1
    unfold am_sr at h1
    split at h1
    · split at h1
      · rename_i hk
        replace h1 := am_if h1
        obtain ⟨rfl, h1⟩ := h1
        obtain ⟨hi, h1⟩ := am_bif h1
        obtain ⟨q0, g1, g2⟩ := am_wrA hJ hk _
        exact va_zast hx hb hK hP hD hS q0 1 g1 rfl (am_invp hi) hd (fun H1 locs1 hP1 hD1 hS1 => kk0 _ _ h1 H1 locs1 (g2 H1 locs1 hP1 hD1 hS1))
      · cases h1
    · split at h1
      · obtain ⟨hz, -⟩ := am_if h1
        cases hz
      · cases h1
    · cases h1
  · replace h1 := am_if h1
    obtain ⟨rfl, h1⟩ := h1
    unfold am_al at h1
    split at h1
    · split at h1
      · rename_i hk
        obtain ⟨ht, h1⟩ := am_if h1
        obtain ⟨q0, hq⟩ := am_rd hJ hk 0 rfl
        have ht2 := Nat.le_of_lt_succ ht
        rcases Nat.le_one_iff_eq_zero_or_eq_one.mp ht2 with rfl | rfl
        · exact va_alen hx hb hK hP q0 0 hq rfl rfl hd (kk0 _ _ h1 H locs hJ)
        · exact va_alen hx hb hK hP q0 1 hq rfl rfl hd (kk0 _ _ h1 H locs hJ)
      · rename_i hk
        obtain ⟨q0, hq⟩ := am_rd hJ hk 0 rfl
        exact va_alen hx hb hK hP q0 2 hq rfl rfl hd (kk0 _ _ h1 H locs hJ)
      · cases h1
    · split at h1
      · rename_i hk
        obtain ⟨hi, h1⟩ := am_bif h1
        simp only [decide_eq_true_eq] at hi
        obtain ⟨q0, hq⟩ := am_rdR hJ hk hi
        exact va_alen hx hb hK hP q0 0 hq rfl rfl hd (kk0 _ _ h1 H locs hJ)
      · cases h1
    · split at h1
      · rename_i hk
        have hT := hro _ _ _ hk
        rw [← j3] at hT
        exact va_tlen hx hb hT hS rfl hd (kk0 _ _ h1 H locs hJ)
      · cases h1
    · cases h1
  · replace h1 := am_if h1
    obtain ⟨rfl, h1⟩ := h1
    unfold am_aa at h1
    split at h1
    · split at h1
      · rename_i hk
        obtain ⟨hi, h1⟩ := am_bif h1
        obtain ⟨q0, hq⟩ := am_rd hJ hk 0 rfl
        have hlt : _ < _ := Nat.not_le.mp fun q => (am_invp hi) (Or.inr q)
        refine am_aald hx hb hK hP q0 2 hq rfl (am_invp hi) hd ?_
        rw [if_pos hlt]
        exact kk0 _ _ h1 H locs hJ
      · cases h1
    · cases h1
  · replace h1 := am_if h1
    obtain ⟨rfl, h1⟩ := h1
    unfold am_ll at h1
    split at h1
    · split at h1
      · rename_i hk
        obtain ⟨hi, h1⟩ := am_bif h1
        obtain ⟨q0, hq⟩ := am_rd hJ hk 0 rfl
        exact va_lald hx hb hK hP q0 3 hq rfl (am_invp hi) hd (kk0 _ _ h1 H locs hJ)
      · cases h1
    · cases h1
  · replace h1 := am_if h1
    obtain ⟨rfl, h1⟩ := h1
    unfold am_sl at h1
    split at h1
    · split at h1
      · rename_i hk
        obtain ⟨hi, h1⟩ := am_bif h1
        obtain ⟨q0, g1, g2⟩ := am_wrL hJ hk _
        exact va_last hx hb hK hP hD hS q0 3 g1 rfl (am_invp hi) hd (fun H1 locs1 hP1 hD1 hS1 => kk0 _ _ h1 H1 locs1 (g2 H1 locs1 hP1 hD1 hS1))
      · cases h1
    · cases h1
  · cases h1
end AMS
