/-! fields -/
theorem am_key0 {i : Instr} {k : Nat} (h : am_key i = (0, k)) : i = .getfield k := by
  unfold am_key at h
  split at h <;> simp_all
theorem am_key1 {i : Instr} {k : Nat} (h : am_key i = (1, k)) : i = .putfield k := by
  unfold am_key at h
  split at h <;> simp_all
theorem am_key5 {i : Instr} {k : Nat} (h : am_key i = (5, k)) : i = .new k := by
  unfold am_key at h
  split at h <;> simp_all
theorem am_key6 {i : Instr} {k : Nat} (h : am_key i = (6, k)) : i = .getstatic k := by
  unfold am_key at h
  split at h <;> simp_all
def am_fget (ci j : Nat) : am_F := fun is _ st h b K _ => if am_n is = 3 then (match st with
  | .inl (.ref k) :: r => (match h[k]? with
    | some (.inr (.inr (.inl (ci', fs)))) => if ci' = ci then (match fs[j]? with
      | some v => K (v :: r) h b
      | none => none) else none
    | _ => none)
  | _ => none) else none
/-- 0: an int, 1: a cell -/
def am_fok : Nat → am_V → Bool
  | 0, .inl (.int _) => true
  | 1, .inl (.ref _) => true
  | _, _ => false
def am_fput (ci j q : Nat) : am_F := fun is _ st h b K _ => if am_n is = 3 then (match st with
  | v :: .inl (.ref k) :: r => (match h[k]? with
    | some (.inr (.inr (.inl (ci', fs)))) => if ci' = ci then (if j < fs.length then (if am_fok q v = true then K r (h.set k (.inr (.inr (.inl (ci', fs.set j v))))) b else none) else none) else none
    | _ => none)
  | _ => none) else none
section AMF
variable {p : Program} {l : Launch} {e : Env} {R : Room} {s : State} {m : MethodId} {args : Array Value} {below : List Frame} {meth : Method} {c : Code} {D : va_G} {cl : List vw_C} {tc : Nat → ClassId} {A : Nat → Prop} {nL n0 : Nat} {ad0 : am_A} {cc : ByteArray} {own : String} {Ts : List Cond} {rs : Nat → Option (Nat × (Nat → Int32))} {zs : am_Zt} {hs : am_Hs}
theorem am_fget_ok (C : am_Cx p l R s m args meth c cc nL Ts own D cl tc A rs zs hs ad0) {idx ci j N : Nat} {T : u_T} {Cn : String} (hc : cl[ci]? = some (Cn, T, N)) (hin : ∀ w ∈ u_ws Cn T N, w ∈ Ts) (hj : j < N) (hlink : Cond.fieldLink own idx (T j).1 (T j).2.1 (T j).2.2.1 ∈ Ts) : am_op p l e R s m args below meth c D cl tc A nL n0 ad0 cc (0, idx) (am_fget ci j) := by
  intro out pc n3 i is lv st h b K KX hkey hch h1 kk kx ad H locs cells slots ls J hl hc' hs
  have hi := am_key0 hkey
  subst hi
  obtain ⟨⟨⟨hx, hb, hml, hown, hts⟩, hK, hA, hro⟩, -⟩ := C
  have hlk := hts _ hlink
  unfold am_fget at h1
  replace h1 := am_if h1
  obtain ⟨a0, h1⟩ := h1
  have a0 : n3 = 3 := a0
  subst a0
  split at h1
  · split at h1
    · rename_i hk
      replace h1 := am_if h1
      obtain ⟨rfl, h1⟩ := h1
      split at h1
      · rename_i v hv
        obtain ⟨q0, hq⟩ := am_rd J hk 0 rfl
        exact va_get (D := D) hx hb hts hin hown hK J.2.2.2.1 q0 hq hc j hj hlk (fun _ h9 => h9) (v := am_t ad v) (by rw [List.getElem?_map, hv]; rfl) (am_chk_hd hch) (kk _ _ _ h1 ad H locs cells slots ls J hl hc' hs)
      · cases h1
    · cases h1
  · cases h1
/-- a nest mate's field -/
theorem am_fgetN_ok (C : am_Cx p l R s m args meth c cc nL Ts own D cl tc A rs zs hs ad0) {idx ci j N : Nat} {T : u_T} {Cn host : String} (hc : cl[ci]? = some (Cn, T, N)) (hin : ∀ w ∈ u_ws Cn T N, w ∈ Ts) (hj : j < N) (hlink : Cond.fieldLinkNest own idx (T j).1 (T j).2.1 (T j).2.2.1 host ∈ zs.2) : am_op p l e R s m args below meth c D cl tc A nL n0 ad0 cc (0, idx) (am_fget ci j) := by
  intro out pc n3 i is lv st h b K KX hkey hch h1 kk kx ad H locs cells slots ls J hl hc' hs
  have hi := am_key0 hkey
  subst hi
  obtain ⟨⟨⟨hx, hb, hml, hown, hts⟩, hK, hA, hro⟩, hz, -⟩ := C
  have hlk := va_Nw.use rfl (A := args) (hz.2.2.1 _ hlink).2
  unfold am_fget at h1
  replace h1 := am_if h1
  obtain ⟨a0, h1⟩ := h1
  have a0 : n3 = 3 := a0
  subst a0
  split at h1
  · split at h1
    · rename_i hk
      replace h1 := am_if h1
      obtain ⟨rfl, h1⟩ := h1
      split at h1
      · rename_i v hv
        obtain ⟨q0, hq⟩ := am_rd J hk 0 rfl
        exact va_getN (D := D) hx hb hts hin hown hK J.2.2.2.1 q0 hq hc j hj hlk (fun _ h9 => h9) (v := am_t ad v) (by rw [List.getElem?_map, hv]; rfl) (am_chk_hd hch) (kk _ _ _ h1 ad H locs cells slots ls J hl hc' hs)
      · cases h1
    · cases h1
  · cases h1
theorem am_fok_n {q : Nat} {v : am_V} {ad : am_A} {ty : FieldType} (hq : am_fok q v = true) (h0 : q = 0 → ty = .int) (h1 : q = 1 → (∃ C, ty = .object C) ∨ ∃ t, ty = .array t) : narrow ty (am_t ad v) = am_t ad v ∧ fits ty (am_t ad v) = true := by
  unfold am_fok at hq
  split at hq
  · rw [h0 rfl]
    exact ⟨rfl, rfl⟩
  · rcases h1 rfl with ⟨C, rfl⟩ | ⟨t, rfl⟩
    · exact ⟨rfl, rfl⟩
    · exact ⟨rfl, rfl⟩
  · cases hq
theorem am_fput_ok (C : am_Cx p l R s m args meth c cc nL Ts own D cl tc A rs zs hs ad0) {idx ci j q N : Nat} {T : u_T} {Cn : String} (ty0 : Nat → FieldType) (hty : ∀ k, k < N → parseFieldDescriptor (T k).2.2.1 = some (ty0 k)) (hnm : ∀ a, a < N → ∀ b, b < N → a ≠ b → (T a).2.1 ≠ (T b).2.1) (hc : cl[ci]? = some (Cn, T, N)) (hin : ∀ w ∈ u_ws Cn T N, w ∈ Ts) (hj : j < N) (hlink : Cond.fieldLink own idx (T j).1 (T j).2.1 (T j).2.2.1 ∈ Ts) (hf : (T j).2.2.2 = false ∨ ((T j).2.2.2 = true ∧ meth.name = "<init>" ∧ (T j).1 = own)) (h0 : q = 0 → ty0 j = .int) (h1 : q = 1 → (∃ C, ty0 j = .object C) ∨ ∃ t, ty0 j = .array t) : am_op p l e R s m args below meth c D cl tc A nL n0 ad0 cc (1, idx) (am_fput ci j q) := by
  intro out pc n3 i is lv st h b K KX hkey hch g1 kk kx ad H locs cells slots ls J hl hc' hs
  have hi := am_key1 hkey
  subst hi
  obtain ⟨⟨⟨hx, hb, hml, hown, hts⟩, hK, hA, hro⟩, -⟩ := C
  unfold am_fput at g1
  replace g1 := am_if g1
  obtain ⟨a0, g1⟩ := g1
  have a0 : n3 = 3 := a0
  subst a0
  split at g1
  · rename_i v k r
    split at g1
    · rename_i ci9 fs9 hk
      replace g1 := am_if g1
      obtain ⟨rfl, g1⟩ := g1
      obtain ⟨hlt, g1⟩ := am_if g1
      obtain ⟨hq, g1⟩ := am_if g1
      obtain ⟨n1, n2⟩ := am_fok_n (ad := ad) hq h0 h1
      obtain ⟨q0, g2, g3⟩ := am_wrO J hk (fs9.set j v)
      simp only [List.map_set] at g3
      obtain ⟨-, -, -, hP, hD, hS⟩ := J
      rcases hf with hf | ⟨hf, hm, ho⟩
      · exact va_put (D := D) hx hb hts hin ty0 hty hnm hown hK hP hD hS q0 g2 hc j hj (hts _ hlink) (fun _ h9 => h9) hf (hty j hj) n1 n2 (by rw [List.length_map]; exact hlt) (am_chk_hd hch) (fun H1 locs1 hP1 hD1 hS1 => kk _ _ _ g1 ad H1 locs1 cells slots ls (g3 H1 locs1 hP1 hD1 hS1) hl hc' hs)
      · exact va_putF (D := D) hx hb hts hin ty0 hty hnm hown hK hP hD hS q0 g2 hc j hj (hts _ hlink) (fun _ h9 => h9) hf hm ho (hty j hj) n1 n2 (by rw [List.length_map]; exact hlt) (am_chk_hd hch) (fun H1 locs1 hP1 hD1 hS1 => kk _ _ _ g1 ad H1 locs1 cells slots ls (g3 H1 locs1 hP1 hD1 hS1) hl hc' hs)
    · cases g1
  · cases g1
/-- a static that holds a constant array -/
def am_fgs (j : Nat) : am_F := fun is _ st h b K _ => if am_n is = 3 then K (.inl (.retAddr j) :: st) h b else none
theorem am_fgs_ok (C : am_Cx p l R s m args meth c cc nL Ts own D cl tc A rs zs hs ad0) {idx j : Nat} {Cn n d : String} (hz : (Cn, n, d, j) ∈ zs.1) (hlink : Cond.fieldLink own idx Cn n d ∈ Ts) : am_op p l e R s m args below meth c D cl tc A nL n0 ad0 cc (6, idx) (am_fgs j) := by
  intro out pc n3 i is lv st h b K KX hkey hch h1 kk kx ad H locs cells slots ls J hl hc' hs
  have hi := am_key6 hkey
  subst hi
  obtain ⟨⟨⟨hx, hb, hml, hown, hts⟩, hK, hA, hro⟩, hzs, -⟩ := C
  unfold am_fgs at h1
  replace h1 := am_if h1
  obtain ⟨a0, h1⟩ := h1
  have a0 : n3 = 3 := a0
  subst a0
  have hZ := hzs.2.2.2.1 _ hz
  rw [← J.2.2.1] at hZ
  exact va_gets hx hb hZ J.2.2.2.2.2 hown (hts _ hlink) (fun _ h9 => h9) (am_chk_hd hch) (kk _ _ _ h1 ad H locs cells slots ls J hl hc' hs)
/-- 'throw new E()' -/
def am_fthr (x ic : Nat) : am_F := fun is _ st h b _ _ => match is with
  | (_, _, n0) :: (_, .dup, n1) :: (_, .invokespecial k, n2) :: (_, .athrow, n3) :: _ => if k = ic then (if n0 = 3 then (if n1 = 1 then (if n2 = 3 then (if n3 = 1 then (if 1 ≤ b.1 then (if 6 ≤ b.2 then (if (st.map am_cat).sum ≤ 8 then some (.inr x, h) else none) else none) else none) else none) else none) else none) else none) else none
  | _ => none
abbrev am_sup : List String := ["java/lang/RuntimeException", "java/lang/Exception"]
theorem am_fthr_ok (C : am_Cx p l R s m args meth c cc nL Ts own D cl tc A rs zs [] ad0) {ik ic x : Nat} (hcls : Bundle.fit (am_xn x) = true) (hk : Cond.classLink own ik (am_xn x) ∈ Ts) (hini : Cond.initialized (am_xn x) ∈ Ts) (hat : ∀ w ∈ vx_at0 own ic (am_xn x) am_sup, w ∈ Ts ∨ w ∈ zs.2) (hgood : ∀ w ∈ Cond.classLink own ik (am_xn x) :: Cond.initialized (am_xn x) :: vx_at0 own ic (am_xn x) am_sup, vx_ot w = true) (hR : 5 < R.frames ∧ 89 ≤ R.locals) : am_op p l e R s m args below meth c D cl tc A nL n0 ad0 cc (5, ik) (am_fthr x ic) := by
  intro out pc n3 i is lv st h b K KX hkey hch h1 kk kx ad H locs cells slots ls J hl hc' hs'
  have hi := am_key5 hkey
  subst hi
  obtain ⟨⟨⟨hx, hb, hml, hown, hts⟩, hK, hA, hro⟩, hzs, hlocks, htb, hst⟩ := C
  unfold am_fthr at h1
  split at h1
  · rename_i q0 q1 m0 p1 m1 p2 k m2 p3 m3 is9 e9
    replace h1 := am_if h1
    obtain ⟨rfl, h1⟩ := h1
    replace h1 := am_if h1
    obtain ⟨rfl, h1⟩ := h1
    replace h1 := am_if h1
    obtain ⟨rfl, h1⟩ := h1
    replace h1 := am_if h1
    obtain ⟨rfl, h1⟩ := h1
    replace h1 := am_if h1
    obtain ⟨rfl, h1⟩ := h1
    obtain ⟨hb1, h1⟩ := am_if h1
    obtain ⟨hb2, h1⟩ := am_if h1
    obtain ⟨hsm, h1⟩ := am_if h1
    cases h1
    cases e9
    have t1 := am_chk_tl hch
    have t2 := am_chk_tl t1
    have t3 := am_chk_tl t2
    have u1 : p1 = pc + 3 := am_chk_nx hch
    have u2 : p2 = p1 + 1 := am_chk_nx t1
    have u3 : p3 = p2 + 3 := am_chk_nx t2
    subst u1
    subst u2
    subst u3
    obtain ⟨j1, j2, j3, hP, hD, hS⟩ := J
    exact vx_throw0 (A := A) (names := am_sup) (mc := R.cells) (ms := R.slots) hx hb hst hown hcls (by decide +kernel) (hts _ hk) (hts _ hini) (fun w hw => by
      rcases hat w hw with h9 | h9
      · exact hts w h9
      · exact va_Nw.use (am_wk_tab (hzs.2.2.1 w h9).1) (hzs.2.2.1 w h9).2) hgood hzs.2.2.2.2.1 hzs.2.2.2.2.2 hS (hl.1.trans hml.symm) (am_chk_hd hch) (am_chk_hd t1) (am_chk_hd t2) (am_chk_hd t3) (fun z hz => by rw [htb] at hz; cases hz) (by show 2 + 3 < _; omega) (by rw [am_catsum]; show _ + (13 * 3 + 42) ≤ _; omega) (by omega) (by omega) hlocks
      (fun t hvm hsz hq => ⟨⟨x, h, ad, rfl, rfl, j1, j2, j3, hP.kept (fun k q hk => hq q.1 (hP k q hk).lt), hD⟩, Nat.le_trans hS.1 hsz, fun q h1 h2 => (hq q (Nat.lt_of_lt_of_le h1 hS.1)).trans (hS.2.1 q h1 h2)⟩) hS.2.2 (by omega) (by omega)
  · cases h1
end AMF
