/-! how a call stands: static, virtual, a constructor's, of a method with handlers -/
section AMN
variable {p : Program} {l : Launch} {e : Env} {R : Room} {s : State} {m : MethodId} {args : Array Value} {below : List Frame} {meth : Method} {c : Code} {D : va_G} {cl : List vw_C} {tc : Nat → ClassId} {A : Nat → Prop} {nL n0 : Nat} {ad0 : am_A} {cc : ByteArray} {own : String} {Ts : List Cond} {rs : Nat → Option (Nat × (Nat → Int32))} {zs : am_Zt} {hs : am_Hs}
variable {y : MethodName} {ws ws' : List Cond} {rm : Room} {F : List am_V → am_H → Option am_O} {bytes : ByteArray} {maxL idx n : Nat} {ret : Option FieldType}
theorem am_stk (ad : am_A) (as rest : List am_V) : (as.reverse ++ rest).map (am_t ad) = (as.map (am_t ad)).reverse ++ rest.map (am_t ad) := by
  rw [List.map_append, List.map_reverse]
theorem am_rn_S (C : am_Cx p l R s m args meth c cc nL Ts own D cl tc A rs zs hs ad0) (hM : am_M cl rs zs l y ws rm F) (hw : ws = Cond.code y bytes maxL ret :: ws') (hG : GoodIn Ts ws) (hlink : Cond.methodLink own idx y ∈ Ts) (hst : Cond.static y ∈ Ts) (hini : Cond.initialized y.cls ∈ Ts)
    (hd : y.cls ≠ "java/lang/invoke/MethodHandle" ∧ y.cls ≠ "java/lang/invoke/VarHandle" ∧ (parseMethodDescriptor y.desc).map (fun d => d.parameters.length) = some n) (hR : rm.frames + 1 ≤ R.frames ∧ 8 + (maxL + 11) + rm.locals ≤ R.locals) : am_rn p l e R s m args below meth c D cl tc A nL n0 ad0 cc (2, idx) none n F rm.cells rm.slots := by
  intro pc i ad h H locs cells slots ls as rest o1 hkey hdg J hsz _ hn hW hF hc hs'
  have hi := am_key2 hkey
  subst hi
  have S := C.1.1
  have hts := S.2.2.2.2
  exact vx_runS (As := as.map (am_t ad)) S (hM D tc ad as h H.size o1 hF) ⟨callB_of n hts hG hw rfl rfl (hts _ hini) (hts _ hlink) hd hR, hts _ hst⟩ ⟨am_blind, fun U hU hW => am_pre C J as hU hW⟩ rfl (by rw [List.length_map]; exact hn) hsz (am_stk ad as rest) (lv_room hW) hdg ⟨hc, hs'⟩
theorem am_rn_SX {hh : List (Nat × Nat × Nat × Nat)} (C : am_Cx p l R s m args meth c cc nL Ts own D cl tc A rs zs hs ad0) (hM : am_M cl rs zs l y ws rm F) (hw : ws = Cond.codeWith y bytes maxL ret hh :: ws') (hG : GoodIn Ts ws) (hlink : Cond.methodLink own idx y ∈ Ts) (hst : Cond.static y ∈ Ts) (hini : Cond.initialized y.cls ∈ Ts)
    (hd : y.cls ≠ "java/lang/invoke/MethodHandle" ∧ y.cls ≠ "java/lang/invoke/VarHandle" ∧ (parseMethodDescriptor y.desc).map (fun d => d.parameters.length) = some n) (hR : rm.frames + 1 ≤ R.frames ∧ 8 + (maxL + 11) + rm.locals ≤ R.locals) : am_rn p l e R s m args below meth c D cl tc A nL n0 ad0 cc (2, idx) none n F rm.cells rm.slots := by
  intro pc i ad h H locs cells slots ls as rest o1 hkey hdg J hsz _ hn hW hF hc hs'
  have hi := am_key2 hkey
  subst hi
  have S := C.1.1
  have hts := S.2.2.2.2
  have hcm : Cond.codeWith y bytes maxL ret hh ∈ ws := by rw [hw]; exact List.mem_cons_self
  exact vx_runSX (As := as.map (am_t ad)) S (hM D tc ad as h H.size o1 hF) ⟨⟨rfl, rfl, hR.1, hR.2, pay_in hts hG, hcm⟩, hts _ (hG _ hcm).1, hts _ hini, ⟨hd.1, hd.2.1⟩, fun sig h9 => by
      have h2 := hd.2.2
      rw [h9] at h2
      exact (Option.some.inj h2).symm, hts _ hlink, hts _ hst⟩ ⟨am_blind, fun U hU hW => am_pre C J as hU hW⟩ rfl (by rw [List.length_map]; exact hn) hsz (am_stk ad as rest) (lv_room hW) hdg ⟨hc, hs'⟩
theorem am_rcv_ok {ci : Nat} {as : List am_V} {h : am_H} (hr : am_rcv (some ci) as h = true) : ∃ k fs as', as = .inl (.ref k) :: as' ∧ h[k]? = some (.inr (.inr (.inl (ci, fs)))) := by
  unfold am_rcv at hr
  dsimp only at hr
  split at hr
  · rename_i k as'
    split at hr
    · rename_i ci' fs hk
      have := eq_of_beq hr
      subst this
      exact ⟨k, fs, as', rfl, hk⟩
    · cases hr
  · cases hr
theorem am_rn_V {ci N : Nat} {T : u_T} (C : am_Cx p l R s m args meth c cc nL Ts own D cl tc A rs zs hs ad0) (hcl : cl[ci]? = some (y.cls, T, N)) (hM : am_M cl rs zs l y ws rm F) (hw : ws = Cond.code y bytes maxL ret :: ws') (hG : GoodIn Ts ws) (hlink : Cond.methodLink own idx y ∈ Ts) (hin : Cond.instanceMethod y ∈ Ts) (hse : Cond.selects y.cls y y ∈ Ts) (hini : Cond.initialized y.cls ∈ Ts)
    (hd : y.cls ≠ "java/lang/invoke/MethodHandle" ∧ y.cls ≠ "java/lang/invoke/VarHandle" ∧ (parseMethodDescriptor y.desc).map (fun d => d.parameters.length) = some n) (hR : rm.frames + 1 ≤ R.frames ∧ 8 + (maxL + 11) + rm.locals ≤ R.locals) : am_rn p l e R s m args below meth c D cl tc A nL n0 ad0 cc (3, idx) (some ci) (n + 1) F rm.cells rm.slots := by
  intro pc i ad h H locs cells slots ls as rest o1 hkey hdg J hsz hrc hn hW hF hc hs'
  have hi := am_key3 hkey
  subst hi
  have S := C.1.1
  have hts := S.2.2.2.2
  obtain ⟨k, fs, as', rfl, hk⟩ := am_rcv_ok hrc
  obtain ⟨q0, hq⟩ := am_rd J hk 0 rfl
  exact vx_runV (b := ad.1 k none) (As := as'.map (am_t ad)) S (hM D tc ad _ h H.size o1 hF) ⟨callB_of n hts hG hw rfl rfl (hts _ hini) (hts _ hlink) hd hR, hts _ hin, hts _ hse⟩ ⟨am_blind, va_recv C.1.2.1 J.2.2.2.1 hcl hq, fun U hU hW => am_pre C J _ hU hW⟩ rfl (by rw [List.length_map]; exact Nat.succ.inj hn) hsz (by rw [am_stk, List.map_cons, List.reverse_cons, List.append_assoc]; rfl) (lv_room hW) hdg ⟨hc, hs'⟩
/-- a method whose run returns: its contract without exceptions -/
theorem am_met {Pc : Array Value → State → Prop} {A1 : Nat → Prop} {n1 : Nat} {ad1 : am_A} {v : Option am_V} {h' : am_H} {mc ms : Nat} {free : Addr → Prop} (h : vx_Met l y ws rm Pc (am_Qc D cl tc A1 n1 ad1 (.inl v, h')) (am_XC D cl tc A1 n1 ad1 (.inl v, h')) mc ms free) : Met l y ws rm Pc (am_Qc D cl tc A1 n1 ad1 (.inl v, h')) mc ms free := by
  intro p e a1 a2 a3 s m args below a4 a5 a6 a7
  obtain ⟨n, o, b1, b2, b3, b4⟩ := h p e a1 a2 a3 s m args below a4 a5 a6 a7
  refine ⟨n, o, b1, b2, b3, ?_⟩
  rcases b4 with b4 | ⟨q, -, E, ce, L, ⟨⟨x, h9, ad, -, e9, -⟩, -⟩, -⟩
  · exact b4
  · cases e9
/-- a run that returns -/
def am_nx (F : List am_V → am_H → Option am_O) : List am_V → am_H → Option am_O := fun as h => match F as h with
  | some (.inl v, h') => some (.inl v, h')
  | _ => none
theorem am_rn_I {ci : Nat} (C : am_Cx p l R s m args meth c cc nL Ts own D cl tc A rs zs hs ad0) (hM : am_M cl rs zs l y ws rm F) (hy1 : y.name = "<init>") (hw : ws = Cond.code y bytes maxL none :: ws') (hG : GoodIn Ts ws) (hlink : Cond.methodLink own idx y ∈ Ts) (hin : Cond.instanceMethod y ∈ Ts) (hini : Cond.initialized y.cls ∈ Ts)
    (hd : y.cls ≠ "java/lang/invoke/MethodHandle" ∧ y.cls ≠ "java/lang/invoke/VarHandle" ∧ (parseMethodDescriptor y.desc).map (fun d => d.parameters.length) = some n) (hR : rm.frames + 1 ≤ R.frames ∧ 8 + (maxL + 11) + rm.locals ≤ R.locals) : am_rn p l e R s m args below meth c D cl tc A nL n0 ad0 cc (4, idx) (some ci) (n + 1) (am_nx F) rm.cells rm.slots := by
  intro pc i ad h H locs cells slots ls as rest o1 hkey hdg J hsz hrc hn hW hF hc hs'
  have hi := am_key4 hkey
  subst hi
  have S := C.1.1
  have hts := S.2.2.2.2
  obtain ⟨k, fs, as', rfl, hk⟩ := am_rcv_ok hrc
  unfold am_nx at hF
  split at hF
  · rename_i v h1 hF0
    cases hF
    have hF := hF0
    intro T hT X
    obtain ⟨v', st₀, t, T', L, r1, r2, r3, r4, r5, r6, r7⟩ := (va_runI (g := F0 m pc ls (((Sum.inl (Value.ref k) :: as').reverse ++ rest).map (am_t ad))) (rest := rest.map (am_t ad)) (b := ad.1 k none) (As := as'.map (am_t ad)) S (am_met (hM D tc ad _ h H.size _ hF)) ⟨callB_of n hts hG hw rfl rfl (hts _ hini) (hts _ hlink) hd hR, hy1, hts _ hin⟩ ⟨am_blind, fun U hU hW => am_pre C J _ hU hW⟩ rfl (by rw [List.length_map]; exact Nat.succ.inj hn) hsz (by rw [am_stk, List.map_cons, List.reverse_cons, List.append_assoc]; rfl) (lv_room hW) hdg ⟨hc, hs'⟩ : va_Run p l e R s m args below meth c H locs cells slots rm.cells rm.slots _ _ _ _) T hT X
    exact Or.inl ⟨v', st₀, t, T', L, r1, r2, r3, r4, r5, r6, r7⟩
  · cases hF
/-- Object's constructor -/
def am_fobj : am_F := fun is _ st h b K _ => if am_n is = 3 then (match st with
  | .inl (.ref _) :: r => if (r.map am_cat).sum ≤ 8 then K r h b else none
  | _ => none) else none
theorem am_fobj_ok (C : am_Cx p l R s m args meth c cc nL Ts own D cl tc A rs zs hs ad0) (hlink : Cond.methodLink own idx objectInit ∈ Ts) (hin : Cond.instanceMethod objectInit ∈ Ts) (hcode : Cond.code objectInit ⟨#[0xb1]⟩ 1 none ∈ Ts) (hR : 1 ≤ R.frames ∧ 20 ≤ R.locals) : am_op p l e R s m args below meth c D cl tc A nL n0 ad0 cc (4, idx) am_fobj := by
  intro out pc n3 i is lv st h b K KX hkey hch h1 kk kx ad H locs cells slots ls J hl hc' hs'
  have hi := am_key4 hkey
  subst hi
  obtain ⟨⟨⟨hx, hb, hml, hown, hts⟩, hK, hA, hro⟩, hzs, -⟩ := C
  unfold am_fobj at h1
  replace h1 := am_if h1
  obtain ⟨a0, h1⟩ := h1
  have a0 : n3 = 3 := a0
  subst a0
  split at h1
  · rename_i k r
    obtain ⟨hsm, h1⟩ := am_if h1
    refine W.objInit hx hb hown (hts _ hlink) (hts _ hin) (hts _ hcode) rfl (hl.1.trans hml.symm) rfl (am_chk_hd hch) hR.1 ?_ ?_
    · show 2 * _ + ((r.map (am_t ad)).map fun v => v.category).sum + 12 ≤ R.locals
      rw [am_catsum]
      show 2 * 0 + _ + 12 ≤ _
      omega
    · exact kk _ _ _ h1 ad H locs cells slots ls J hl hc' hs'
  · cases h1
/-- Math.max, Math.min -/
def am_fmx : am_F := fun is _ st h b K _ => if am_n is = 3 then (match st with
  | .inl (.int y) :: .inl (.int x) :: r => if (r.map am_cat).sum ≤ 8 then K (.inl (.int (if x < y then y else x)) :: r) h b else none
  | _ => none) else none
def am_fmn : am_F := fun is _ st h b K _ => if am_n is = 3 then (match st with
  | .inl (.int y) :: .inl (.int x) :: r => if (r.map am_cat).sum ≤ 8 then K (.inl (.int (if y < x then y else x)) :: r) h b else none
  | _ => none) else none
theorem am_fmx_ok (C : am_Cx p l R s m args meth c cc nL Ts own D cl tc A rs zs hs ad0) (hlink : Cond.methodLink own idx Lib.Math.max.name ∈ Ts) (hst : Cond.static Lib.Math.max.name ∈ Ts) (hini : Cond.initialized "java/lang/Math" ∈ Ts) (hcode : Cond.code Lib.Math.max.name Lib.Math.max.code 2 (some .int) ∈ Ts) (hR : 1 ≤ R.frames ∧ 21 ≤ R.locals) : am_op p l e R s m args below meth c D cl tc A nL n0 ad0 cc (2, idx) am_fmx := by
  intro out pc n3 i is lv st h b K KX hkey hch h1 kk kx ad H locs cells slots ls J hl hc' hs'
  have hi := am_key2 hkey
  subst hi
  obtain ⟨⟨⟨hx, hb, hml, hown, hts⟩, hK, hA, hro⟩, hzs, -⟩ := C
  unfold am_fmx at h1
  replace h1 := am_if h1
  obtain ⟨a0, h1⟩ := h1
  have a0 : n3 = 3 := a0
  subst a0
  split at h1
  · rename_i y x r
    obtain ⟨hsm, h1⟩ := am_if h1
    exact va_mmax hx hb (hml.trans hl.1.symm) hown (hts _ hlink) (hts _ hst) (hts _ hini) (hts _ hcode) hR.1 (by rw [am_catsum]; omega) (by omega) (by omega) (am_chk_hd hch) (kk _ _ _ h1 ad H locs cells slots ls J hl hc' hs')
  · cases h1
theorem am_fmn_ok (C : am_Cx p l R s m args meth c cc nL Ts own D cl tc A rs zs hs ad0) (hlink : Cond.methodLink own idx Lib.Math.min.name ∈ Ts) (hst : Cond.static Lib.Math.min.name ∈ Ts) (hini : Cond.initialized "java/lang/Math" ∈ Ts) (hcode : Cond.code Lib.Math.min.name Lib.Math.min.code 2 (some .int) ∈ Ts) (hR : 1 ≤ R.frames ∧ 21 ≤ R.locals) : am_op p l e R s m args below meth c D cl tc A nL n0 ad0 cc (2, idx) am_fmn := by
  intro out pc n3 i is lv st h b K KX hkey hch h1 kk kx ad H locs cells slots ls J hl hc' hs'
  have hi := am_key2 hkey
  subst hi
  obtain ⟨⟨⟨hx, hb, hml, hown, hts⟩, hK, hA, hro⟩, hzs, -⟩ := C
  unfold am_fmn at h1
  replace h1 := am_if h1
  obtain ⟨a0, h1⟩ := h1
  have a0 : n3 = 3 := a0
  subst a0
  split at h1
  · rename_i y x r
    obtain ⟨hsm, h1⟩ := am_if h1
    exact va_mmin hx hb (hml.trans hl.1.symm) hown (hts _ hlink) (hts _ hst) (hts _ hini) (hts _ hcode) hR.1 (by rw [am_catsum]; omega) (by omega) (by omega) (am_chk_hd hch) (kk _ _ _ h1 ad H locs cells slots ls J hl hc' hs')
  · cases h1
end AMN
