/-! cells that are made -/
def am_clC (h : am_H) (c : am_C) : Bool := match c with
  | .inr (.inr (.inl (_, fs))) => fs.all (am_clV h)
  | _ => true
def am_clA (h : am_H) (lv : am_Lv) (st : List am_V) : Bool := h.all (am_clC h) && (lv.all (fun q => am_clV h q.2) && st.all (am_clV h))
def am_ex (ad : am_A) (n : Nat) (f : Option Nat → Nat) : am_A := (fun k => if k = n then f else ad.1 k, ad.2)
theorem am_ex_lt (ad : am_A) {n k : Nat} (f : Option Nat → Nat) (h : k < n) : (am_ex ad n f).1 k = ad.1 k := if_neg (Nat.ne_of_lt h)
theorem am_ex_self (ad : am_A) (n : Nat) (f : Option Nat → Nat) : (am_ex ad n f).1 n = f := if_pos rfl
theorem am_w1_ext {tc : Nat → ClassId} {ad ad' : am_A} {h : am_H} (h1 : ∀ k, k < h.length → ad'.1 k = ad.1 k) (h2 : ad'.2 = ad.2) {k : Nat} (hk : k < h.length) {c : am_C} (hc : am_clC h c = true) : am_w1 tc ad' k c = am_w1 tc ad k c := by
  obtain ⟨t, n, f⟩ | ⟨n, w, M⟩ | ⟨ci, fs⟩ | ⟨n, g⟩ := c
  · simp only [am_w1, h1 k hk]
  · simp only [am_w1, h1 k hk]
  · have hc' : fs.all (am_clV h) = true := hc
    simp only [am_w1, h1 k hk, am_cl_L hc' h1 h2]
  · simp only [am_w1, h1 k hk]
theorem am_ws_ext {tc : Nat → ClassId} {ad ad' : am_A} {h : am_H} (h1 : ∀ k, k < h.length → ad'.1 k = ad.1 k) (h2 : ad'.2 = ad.2) : ∀ (h0 : am_H) (k0 : Nat), k0 + h0.length ≤ h.length → (∀ c ∈ h0, am_clC h c = true) → am_ws tc ad' k0 h0 = am_ws tc ad k0 h0
  | [], _, _, _ => rfl
  | c :: h0, k0, hl, hc => by
    show am_w1 tc ad' k0 c ++ am_ws tc ad' (k0 + 1) h0 = am_w1 tc ad k0 c ++ am_ws tc ad (k0 + 1) h0
    rw [List.length_cons] at hl
    rw [am_w1_ext h1 h2 (by omega) (hc c List.mem_cons_self), am_ws_ext h1 h2 h0 (k0 + 1) (by omega) (fun c hc' => hc c (List.mem_cons_of_mem _ hc'))]
theorem am_ws_app {tc : Nat → ClassId} {ad : am_A} : ∀ (h0 h1 : am_H) (k0 : Nat), am_ws tc ad k0 (h0 ++ h1) = am_ws tc ad k0 h0 ++ am_ws tc ad (k0 + h0.length) h1
  | [], h1, k0 => by simp [am_ws]
  | c :: h0, h1, k0 => by
    show am_w1 tc ad k0 c ++ am_ws tc ad (k0 + 1) (h0 ++ h1) = (am_w1 tc ad k0 c ++ am_ws tc ad (k0 + 1) h0) ++ am_ws tc ad (k0 + (c :: h0).length) h1
    rw [am_ws_app h0 h1 (k0 + 1), List.append_assoc, List.length_cons, show k0 + 1 + h0.length = k0 + (h0.length + 1) by omega]
section AMA
variable {p : Program} {l : Launch} {e : Env} {R : Room} {s : State} {m : MethodId} {args : Array Value} {below : List Frame} {meth : Method} {c : Code} {D : va_G} {cl : List vw_C} {tc : Nat → ClassId} {A : Nat → Prop} {nL n0 : Nat} {ad0 : am_A} {cc : ByteArray} {own : String} {Ts : List Cond} {rs : Nat → Option (Nat × (Nat → Int32))} {zs : am_Zt} {hs : am_Hs}
/-- what is made is the heap's next cell -/
theorem am_made {ad : am_A} {h : am_H} {H H1 : Heap} {locs : List Loc} (J : am_J D cl tc A s n0 ad0 ad h H locs) {lv : am_Lv} {st : List am_V} (hcl : am_clA h lv st = true) (f : Option Nat → Nat) (c0 : am_C) {w : va_W} (hw : am_w1 tc (am_ex ad h.length f) h.length c0 = w) (hP : va_P D cl (am_ws tc ad 0 h ++ w) H1) (hD : va_D A (am_ws tc ad 0 h ++ w)) (hS : va_S A s.heap H1 locs) :
    am_J D cl tc A s n0 ad0 (am_ex ad h.length f) (h ++ [c0]) H1 locs ∧ (lv.map fun q => (q.1, am_t (am_ex ad h.length f) q.2)) = (lv.map fun q => (q.1, am_t ad q.2)) ∧ st.map (am_t (am_ex ad h.length f)) = st.map (am_t ad) := by
  simp only [am_clA, Bool.and_eq_true] at hcl
  obtain ⟨c1, c2, c3⟩ := hcl
  have e1 : ∀ k, k < h.length → (am_ex ad h.length f).1 k = ad.1 k := fun k hk => am_ex_lt ad f hk
  have e2 : (am_ex ad h.length f).2 = ad.2 := rfl
  obtain ⟨j1, j2, j3, -, -, -⟩ := J
  have e3 : am_ws tc (am_ex ad h.length f) 0 (h ++ [c0]) = am_ws tc ad 0 h ++ w := by
    rw [am_ws_app, am_ws_ext e1 e2 h 0 (by omega) (List.all_eq_true.mp c1), Nat.zero_add]
    show _ ++ (am_w1 tc _ h.length c0 ++ []) = _
    rw [List.append_nil, hw]
  refine ⟨⟨?_, fun k hk => (e1 k (Nat.lt_of_lt_of_le hk j1)).trans (j2 k hk), j3, ?_, ?_, hS⟩, am_cl_lv c2 e1 e2, am_cl_L c3 e1 e2⟩
  · rw [List.length_append]; omega
  · rw [e3]; exact hP
  · rw [e3]; exact hD
def am_nw (t N : Nat) : am_C := if t = 2 then .inr (.inr (.inr (N, fun _ => 0))) else .inl (t, N, fun _ => 0)
/-- a new array of ints (0), of booleans (1), of longs (2) -/
def am_fna (t : Nat) : am_F := fun is lv st h b K _ => if am_n is = 2 then (match st with
  | .inl (.int n) :: r => if am_clA h lv r = true then (if 1 ≤ b.1 then (bif am_in n 1000 && decide (n.toNatClampNeg ≤ b.2) then K (.inl (.ref h.length) :: r) (h ++ [am_nw t n.toNatClampNeg]) (b.1 - 1, b.2 - n.toNatClampNeg) else none) else none) else none
  | _ => none) else none
theorem am_key8 {i : Instr} {k : Nat} (h : am_key i = (8, k)) : (k = 0 ∧ i = .newarray .int) ∨ (k = 1 ∧ i = .newarray .boolean) ∨ (k = 2 ∧ i = .newarray .long) := by
  unfold am_key at h
  split at h <;> simp_all
theorem am_tcI {cA : ClassId} {ty : FieldType} {t0 : Nat} (hK : va_K D cl (am_tys tc) s) (ht : (am_tys tc)[t0]? = some (tc t0, ty)) (ho : ∀ C, ty ≠ .object C) (h : va_K D cl (am_tys tc ++ [(cA, ty)]) s) : cA = tc t0 := by
  have h1 := (hK.2 t0 _ ht).2
  have h2 := (h.2 4 (cA, ty) rfl).2
  cases ty with
  | object C => exact absurd rfl (ho C)
  | _ =>
    unfold va_RA at h1 h2
    exact Option.some.inj (h2.symm.trans h1)
theorem am_fna_ok (C : am_Cx p l R s m args meth c cc nL Ts own D cl tc A rs zs hs ad0) {t : Nat} (hty : (t = 0 ∧ Cond.arrayClass .int ∈ Ts) ∨ (t = 1 ∧ Cond.arrayClass .boolean ∈ Ts) ∨ (t = 2 ∧ Cond.arrayClass .long ∈ Ts)) : am_op p l e R s m args below meth c D cl tc A nL n0 ad0 cc (8, t) (am_fna t) := by
  intro out pc n3 i is lv st h b K KX hkey hch h1 kk kx ad H locs cells slots ls J hl hc' hs'
  obtain ⟨⟨⟨hx, hb, hml, hown, hts⟩, hK, hA, hro⟩, hzs, -⟩ := C
  unfold am_fna at h1
  replace h1 := am_if h1
  obtain ⟨a0, h1⟩ := h1
  have a0 : n3 = 2 := a0
  subst a0
  split at h1
  · rename_i n r
    obtain ⟨hcl, h1⟩ := am_if h1
    obtain ⟨hb1, h1⟩ := am_if h1
    obtain ⟨hb2, h1⟩ := am_bif h1
    simp only [Bool.and_eq_true, decide_eq_true_eq] at hb2
    obtain ⟨hn, hb2⟩ := hb2
    have hn := am_invp hn
    have hn0 : ¬ n < 0 := fun q => hn (Or.inl q)
    have hn1 : n.toNatClampNeg < 1000 := Nat.not_le.mp fun q => hn (Or.inr q)
    have hJ := J
    obtain ⟨j1, j2, j3, hP, hD, hS⟩ := J
    rcases hty with ⟨rfl, hw⟩ | ⟨rfl, hw⟩ | ⟨rfl, hw⟩ <;> rcases am_key8 hkey with ⟨q9, rfl⟩ | ⟨q9, rfl⟩ | ⟨q9, rfl⟩ <;> first | cases q9 | skip
    · refine va_newa (atype := .int) (ty := .int) (a0 := (n.toNatClampNeg, .inl (fun _ => 0))) hx hb (hts _ hw) rfl hK hP hD hS hA (fun _ => rfl) hn0 rfl (by show _ * 4 ≤ _; omega) (by omega) (by omega) (am_chk_hd hch) (fun q cA H1 hK1 hP1 hD1 hS1 => ?_)
      have e9 : cA = tc 0 := am_tcI (t0 := 0) hK rfl (fun C => by simp) hK1
      subst e9
      obtain ⟨J1, l1, l2⟩ := am_made hJ hcl (fun _ => q) (am_nw 0 n.toNatClampNeg) (by show [_] = _; rw [am_ex_self]) hP1 hD1 hS1
      have w1 := kk _ _ _ h1 _ H1 locs (cells + 1) (slots + n.toNatClampNeg) ls J1 (by rw [l1]; exact hl) (by show _ + 1 + (b.1 - 1) ≤ _; omega) (by show _ + _ + (b.2 - _) ≤ _; omega)
      rw [List.map_cons, l2] at w1
      have e8 : am_t (am_ex ad h.length fun _ => q) (.inl (.ref h.length)) = .ref q := by show Value.ref _ = _; rw [am_ex_self]
      rw [e8] at w1
      exact w1
    · refine va_newa (atype := .boolean) (ty := .boolean) (a0 := (n.toNatClampNeg, .inl (fun _ => 0))) hx hb (hts _ hw) rfl hK hP hD hS hA (fun _ => rfl) hn0 rfl (by show _ * 1 ≤ _; omega) (by omega) (by omega) (am_chk_hd hch) (fun q cA H1 hK1 hP1 hD1 hS1 => ?_)
      have e9 : cA = tc 1 := am_tcI (t0 := 1) hK rfl (fun C => by simp) hK1
      subst e9
      obtain ⟨J1, l1, l2⟩ := am_made hJ hcl (fun _ => q) (am_nw 1 n.toNatClampNeg) (by show [_] = _; rw [am_ex_self]) hP1 hD1 hS1
      have w1 := kk _ _ _ h1 _ H1 locs (cells + 1) (slots + n.toNatClampNeg) ls J1 (by rw [l1]; exact hl) (by show _ + 1 + (b.1 - 1) ≤ _; omega) (by show _ + _ + (b.2 - _) ≤ _; omega)
      rw [List.map_cons, l2] at w1
      have e8 : am_t (am_ex ad h.length fun _ => q) (.inl (.ref h.length)) = .ref q := by show Value.ref _ = _; rw [am_ex_self]
      rw [e8] at w1
      exact w1
    · refine va_newa (atype := .long) (ty := .long) (a0 := (n.toNatClampNeg, .inr (.inl (fun _ => 0)))) hx hb (hts _ hw) rfl hK hP hD hS hA (fun _ => rfl) hn0 rfl (by show _ * 8 ≤ _; omega) (by omega) (by omega) (am_chk_hd hch) (fun q cA H1 hK1 hP1 hD1 hS1 => ?_)
      have e9 : cA = tc 3 := am_tcI (t0 := 3) hK rfl (fun C => by simp) hK1
      subst e9
      obtain ⟨J1, l1, l2⟩ := am_made hJ hcl (fun _ => q) (am_nw 2 n.toNatClampNeg) (by show [_] = _; rw [am_ex_self]) hP1 hD1 hS1
      have w1 := kk _ _ _ h1 _ H1 locs (cells + 1) (slots + n.toNatClampNeg) ls J1 (by rw [l1]; exact hl) (by show _ + 1 + (b.1 - 1) ≤ _; omega) (by show _ + _ + (b.2 - _) ≤ _; omega)
      rw [List.map_cons, l2] at w1
      have e8 : am_t (am_ex ad h.length fun _ => q) (.inl (.ref h.length)) = .ref q := by show Value.ref _ = _; rw [am_ex_self]
      rw [e8] at w1
      exact w1
  · cases h1
/-- a new object -/
def am_fnew (ci N : Nat) (fs : List am_V) : am_F := fun is lv st h b K _ => if am_n is = 3 then (if am_clA h lv st = true then (if 1 ≤ b.1 then (if N ≤ b.2 then K (.inl (.ref h.length) :: st) (h ++ [.inr (.inr (.inl (ci, fs)))]) (b.1 - 1, b.2 - N) else none) else none) else none) else none
theorem am_fnew_ok (C : am_Cx p l R s m args meth c cc nL Ts own D cl tc A rs zs hs ad0) {idx ci N : Nat} {T : u_T} {Cn : String} {fs : List am_V} (fv : List Value) (hfv : ∀ ad, fs.map (am_t ad) = fv) (hc : cl[ci]? = some (Cn, T, N)) (hin : ∀ w ∈ u_ws Cn T N, w ∈ Ts) (ty : Nat → FieldType) (hty : ∀ k, k < N → parseFieldDescriptor (T k).2.2.1 = some (ty k)) (hlink : Cond.classLink own idx Cn ∈ Ts) (hinst : Cond.instantiable Cn N ∈ Ts) (hini : Cond.initialized Cn ∈ Ts) (hfs : ∀ j, j < N → defaultValue (ty j) = vp_V fv j) : am_op p l e R s m args below meth c D cl tc A nL n0 ad0 cc (5, idx) (am_fnew ci N fs) := by
  intro out pc n3 i is lv st h b K KX hkey hch h1 kk kx ad H locs cells slots ls J hl hc' hs'
  have hi := am_key5 hkey
  subst hi
  obtain ⟨⟨⟨hx, hb, hml, hown, hts⟩, hK, hA, hro⟩, hzs, -⟩ := C
  unfold am_fnew at h1
  replace h1 := am_if h1
  obtain ⟨a0, h1⟩ := h1
  have a0 : n3 = 3 := a0
  subst a0
  obtain ⟨hcl, h1⟩ := am_if h1
  obtain ⟨hb1, h1⟩ := am_if h1
  obtain ⟨hb2, h1⟩ := am_if h1
  have hJ := J
  obtain ⟨j1, j2, j3, hP, hD, hS⟩ := J
  refine va_new (D := D) (ci := ci) (fs := fv) hx hb hts hin ty hty hown (hts _ hlink) (hts _ hinst) (hts _ hini) hK hP hD hS hA hc hfs (by omega) (by omega) (am_chk_hd hch) (fun q H1 hP1 hD1 hS1 => ?_)
  obtain ⟨J1, l1, l2⟩ := am_made hJ hcl (fun _ => q) (.inr (.inr (.inl (ci, fs)))) (by show [_] = _; rw [am_ex_self, hfv]) hP1 hD1 hS1
  have w1 := kk _ _ _ h1 _ H1 locs (cells + 1) (slots + N) ls J1 (by rw [l1]; exact hl) (by show _ + 1 + (b.1 - 1) ≤ _; omega) (by show _ + _ + (b.2 - _) ≤ _; omega)
  rw [List.map_cons, l2] at w1
  have e8 : am_t (am_ex ad h.length fun _ => q) (.inl (.ref h.length)) = .ref q := by show Value.ref _ = _; rw [am_ex_self]
  rw [e8] at w1
  exact w1
/-- a new grid of ints -/
def am_fmna : am_F := fun is lv st h b K _ => match is with
  | (_, .multianewarray _ d, n3) :: _ => if d = 2 then (if n3 = 4 then (match st with
    | .inl (.int k) :: .inl (.int n) :: r => if am_clA h lv r = true then (bif am_in n 1000 && am_in k 1000 then (if 1 + n.toNatClampNeg ≤ b.1 then (if n.toNatClampNeg + n.toNatClampNeg * k.toNatClampNeg ≤ b.2 then K (.inl (.ref h.length) :: r) (h ++ [.inr (.inl (n.toNatClampNeg, k.toNatClampNeg, fun _ _ => 0))]) (b.1 - (1 + n.toNatClampNeg), b.2 - (n.toNatClampNeg + n.toNatClampNeg * k.toNatClampNeg)) else none) else none) else none) else none
    | _ => none) else none) else none
  | _ => none
theorem am_key7 {i : Instr} {k : Nat} (h : am_key i = (7, k)) : ∃ d, i = .multianewarray k d := by
  unfold am_key at h
  split at h <;> simp_all
theorem am_fmna_ok (C : am_Cx p l R s m args meth c cc nL Ts own D cl tc A rs zs hs ad0) {idx : Nat} (hlink : Cond.classLink own idx "[[I" ∈ Ts) (harr : Cond.arrayClass .int ∈ Ts) : am_op p l e R s m args below meth c D cl tc A nL n0 ad0 cc (7, idx) am_fmna := by
  intro out pc n3 i is lv st h b K KX hkey hch h1 kk kx ad H locs cells slots ls J hl hc' hs'
  obtain ⟨d, rfl⟩ := am_key7 hkey
  obtain ⟨⟨⟨hx, hb, hml, hown, hts⟩, hK, hA, hro⟩, hzs, -⟩ := C
  unfold am_fmna at h1
  dsimp only at h1
  replace h1 := am_if h1
  obtain ⟨rfl, h1⟩ := h1
  replace h1 := am_if h1
  obtain ⟨rfl, h1⟩ := h1
  split at h1
  · rename_i k n r
    obtain ⟨hcl, h1⟩ := am_if h1
    obtain ⟨hb2, h1⟩ := am_bif h1
    simp only [Bool.and_eq_true] at hb2
    obtain ⟨hn, hk⟩ := hb2
    have hn := am_invp hn
    have hk := am_invp hk
    have hn0 : ¬ n < 0 := fun q => hn (Or.inl q)
    have hn1 : n.toNatClampNeg < 1000 := Nat.not_le.mp fun q => hn (Or.inr q)
    have hk0 : ¬ k < 0 := fun q => hk (Or.inl q)
    have hk1 : k.toNatClampNeg < 1000 := Nat.not_le.mp fun q => hk (Or.inr q)
    obtain ⟨hb1, h1⟩ := am_if h1
    obtain ⟨hb3, h1⟩ := am_if h1
    have hJ := J
    obtain ⟨j1, j2, j3, hP, hD, hS⟩ := J
    have hP0 : va_P D cl (am_ws tc ad 0 h ++ va_pl [] (fun _ => (.inr (0, []) : va_E))) H := by rw [show va_pl [] (fun _ => (.inr (0, []) : va_E)) = [] from rfl, List.append_nil]; exact hP
    have hD0 : va_D A (am_ws tc ad 0 h ++ va_pl [] (fun _ => (.inr (0, []) : va_E))) := by rw [show va_pl [] (fun _ => (.inr (0, []) : va_E)) = [] from rfl, List.append_nil]; exact hD
    refine va_mna (X := am_ws tc ad 0 h) (L := []) (f := fun _ => .inr (0, [])) (ty := .int) (cy := tc 0) (N' := n.toNatClampNeg) (K' := k.toNatClampNeg) (z := (k.toNatClampNeg, .inl (fun _ => 0))) hx hb hown (by rw [show ("[" ++ (FieldType.array FieldType.int).toString) = "[[I" by decide +kernel]; exact hts _ hlink) hzs.2.1 (hts _ harr) (by rw [show (FieldType.array FieldType.int).toString = "[" ++ FieldType.int.toString by decide +kernel]; exact (hK.2 0 _ rfl).2) hK hP0 hD0 hS hA hn0 hk0 rfl rfl (by omega) (by show _ * 4 ≤ _; omega) (by omega) rfl rfl (by omega) (by omega) (fun _ => arrV_new _ _ _) (am_chk_hd hch) (fun q r1 cA H1 hr1 hr2 hK1 hP1 hD1 hS1 => ?_)
    have e9 : cA = tc 2 := am_tcI (t0 := 2) hK rfl (fun C => by simp) hK1
    subst e9
    have ew : am_ws tc ad 0 h ++ [(q, (.inl (tc 2, n.toNatClampNeg, .inr (.inr (.inr (.inr (fun i => if i < n.toNatClampNeg then some (r1 i) else none))))) : va_E))] ++ va_pl ([] ++ (List.range n.toNatClampNeg).map r1) (vr_up (fun _ => .inr (0, [])) ((List.range n.toNatClampNeg).map r1) (.inl (tc 0, k.toNatClampNeg, .inl (fun _ => 0)))) = am_ws tc ad 0 h ++ ((q, (.inl (tc 2, n.toNatClampNeg, .inr (.inr (.inr (.inr (fun i => if i < n.toNatClampNeg then some (r1 i) else none))))) : va_E)) :: (List.range n.toNatClampNeg).map (fun i => (r1 i, (.inl (tc 0, k.toNatClampNeg, .inl (fun _ => 0)) : va_E)))) := by
      rw [List.append_assoc, List.nil_append]
      congr 1
      show _ :: va_pl _ _ = _ :: _
      congr 1
      unfold va_pl
      rw [List.map_map]
      apply List.map_congr_left
      intro a ha
      show (r1 a, vr_up _ _ _ (r1 a)) = _
      rw [vr_up_in (List.mem_map_of_mem ha)]
    rw [ew] at hP1 hD1
    obtain ⟨J1, l1, l2⟩ := am_made hJ hcl (fun o => match o with | none => q | some i => r1 i) (.inr (.inl (n.toNatClampNeg, k.toNatClampNeg, fun _ _ => 0))) (by simp only [am_w1, am_ex_self]) hP1 hD1 hS1
    have w1 := kk _ _ _ h1 _ H1 locs (cells + 1 + n.toNatClampNeg) (slots + n.toNatClampNeg + n.toNatClampNeg * k.toNatClampNeg) ls J1 (by rw [l1]; exact hl) (by show _ + 1 + _ + (b.1 - _) ≤ _; omega) (by show _ + _ + _ + (b.2 - _) ≤ _; omega)
    rw [List.map_cons, l2] at w1
    have e8 : am_t (am_ex ad h.length fun o => match o with | none => q | some i => r1 i) (.inl (.ref h.length)) = .ref q := by show Value.ref _ = _; rw [am_ex_self]
    rw [e8] at w1
    exact w1
  · cases h1
/-- System.arraycopy of ints -/
def am_fcpy : am_F := fun is _ st h b K _ => if am_n is = 3 then (match st with
  | .inl (.int n) :: .inl (.int dp) :: .inl (.ref k1) :: .inl (.int sp) :: .inl (.ref k0) :: r => (match h[k0]?, h[k1]? with
    | some (.inl (t0, n0, f)), some (.inl (t1, n1, g)) => if t0 = 0 then (if t1 = 0 then (if (r.map am_cat).sum ≤ 8 then (bif !decide (sp < 0) && (!decide (dp < 0) && (!decide (n < 0) && (decide (sp.toNatClampNeg + n.toNatClampNeg ≤ n0) && decide (dp.toNatClampNeg + n.toNatClampNeg ≤ n1)))) then K r (h.set k1 (.inl (t1, n1, va_cpy f g sp.toNatClampNeg dp.toNatClampNeg n.toNatClampNeg))) b else none) else none) else none) else none
    | _, _ => none)
  | _ => none) else none
theorem am_fcpy_ok (C : am_Cx p l R s m args meth c cc nL Ts own D cl tc A rs zs hs ad0) {idx : Nat} (hlink : Cond.methodLink own idx arraycopyName ∈ Ts) (hnat : Cond.native arraycopyName ∈ Ts) (hst : Cond.static arraycopyName ∈ Ts) (hini : Cond.initialized "java/lang/System" ∈ Ts) (hR : 1 ≤ R.frames ∧ 8 + (nativeFrameWords "java/lang/System" "arraycopy" 5 + 11) ≤ R.locals) : am_op p l e R s m args below meth c D cl tc A nL n0 ad0 cc (2, idx) am_fcpy := by
  intro out pc n3 i is lv st h b K KX hkey hch h1 kk kx ad H locs cells slots ls J hl hc' hs'
  have hi := am_key2 hkey
  subst hi
  obtain ⟨⟨⟨hx, hb, hml, hown, hts⟩, hK, hA, hro⟩, hzs, -⟩ := C
  unfold am_fcpy at h1
  replace h1 := am_if h1
  obtain ⟨a0, h1⟩ := h1
  have a0 : n3 = 3 := a0
  subst a0
  split at h1
  · split at h1
    · rename_i hk0 hk1
      replace h1 := am_if h1
      obtain ⟨rfl, h1⟩ := h1
      replace h1 := am_if h1
      obtain ⟨rfl, h1⟩ := h1
      obtain ⟨hsm, h1⟩ := am_if h1
      obtain ⟨hq, h1⟩ := am_bif h1
      simp only [Bool.and_eq_true, Bool.not_eq_true', decide_eq_true_eq, decide_eq_false_iff_not] at hq
      obtain ⟨q1, q2, q3, q4, q5⟩ := hq
      obtain ⟨p0, g0⟩ := am_rd J hk0 0 rfl
      obtain ⟨p1, g1, g2⟩ := am_wrA J hk1 _
      obtain ⟨j1, j2, j3, hP, hD, hS⟩ := J
      exact va_copyi (ty := .int) hx hb (hml.trans hl.1.symm) hown (hts _ hlink) (hts _ hnat) (hts _ hst) (hts _ hini) hK hP hD hS p0 p1 0 0 g0 g1 rfl rfl rfl q1 q2 q3 q4 q5 (fun _ _ => rfl) hR.1 (by rw [am_catsum]; omega) (am_chk_hd hch) (fun H1 locs1 hP1 hD1 hS1 => kk _ _ _ h1 ad H1 locs1 cells slots ls (g2 H1 locs1 hP1 hD1 hS1) hl hc' hs')
    · cases h1
  · cases h1
end AMA
