/-! calls: contracts Sp, the closed judgement RM, calls, returns, making, entry -/
abbrev MI : Type := MethodName × ByteArray × Nat × Option FieldType × Nat
def MI.y (M : MI) : MethodName := M.1
def MI.cc (M : MI) : ByteArray := M.2.1
def MI.nL (M : MI) : Nat := M.2.2.1
def MI.rt (M : MI) : Option FieldType := M.2.2.2.1
def MI.oc (M : MI) : Nat := M.2.2.2.2
def MI.ws (M : MI) : List Cond := Cond.code M.y M.cc M.nL M.rt :: TB
def rmD (d mc ms : Nat) : Room := { frames := d, cells := mc, slots := ms, locals := 40 * d }
def PWs (b : Nat) (dC : Nat → ClassId) (dI : Nat → Nat → Nat) (cI cZ : ClassId) (ds : List CDs) (σ : SG) (U : State) : Prop := WD b dC dI cI cZ ds σ U.heap ∧ va_K (dC, dI) vwCl (tyC cI cZ) U ∧ NWs U
def QcR (b sc : Nat) (dC : Nat → ClassId) (dI : Nat → Nat → Nat) (cI cZ : ClassId) (r : Option Value) (ds : List CDs) (σ : SG) : Array Value → State → Outcome → State → Prop := fun _ st oc t => (oc = .returned (r.map (vC b sc)) ∧ WD b dC dI cI cZ ds σ t.heap) ∧ va_F (fun q => b ≤ q) st t
def Sp (d : Nat) (M : MI) (mc ms : Nat) (as : List Value) (ds : List CDs) (σ : SG) (r : Option Value) (ds' : List CDs) (σ' : SG) : Prop :=
  ∀ (l : Launch) (b sc : Nat) (dC : Nat → ClassId) (dI : Nat → Nat → Nat) (cI cZ : ClassId), Met l M.y M.ws (rmD d mc ms) (va_Pc (as.map (vC b sc)) (PWs b dC dI cI cZ ds σ)) (QcR b sc dC dI cI cZ r ds' σ') mc ms (fun q => b ≤ q)
def RM (d : Nat) (M : MI) (mc ms : Nat) (r : Option Value) (ds' : List CDs) (σ' : SG) (cl sl pc : Nat) (L : List (Option Value)) (st : List Value) (ds : List CDs) (σ : SG) : Prop :=
  ∀ (l : Launch) (b sc : Nat) (dC : Nat → ClassId) (dI : Nat → Nat → Nat) (cI cZ : ClassId) (p : Program) (e : Env) (s : State) (m : MethodId) (args : Array Value) (below : List Frame) (meth : Method) (c : Code),
    CX b dC dI cI cZ (cn M.oc) M.cc M.nL p s m args c → meth.sig.returnType = M.rt → meth.locks = false → meth.name = M.y.name →
    RJ b sc dC dI cI cZ M.nL p l e (rmD d mc ms) s m args below meth c cl sl (MQ below (QcR b sc dC dI cI cZ r ds' σ') args s mc ms (fun q => b ≤ q)) pc L st ds σ
/-- what is the same for every call of a method -/
def mOK (M : MI) (n : Nat) : Bool := decide (M.y.cls = cn M.oc) && decide (M.y.cls ≠ "java/lang/invoke/MethodHandle") && decide (M.y.cls ≠ "java/lang/invoke/VarHandle") && decide ((parseMethodDescriptor M.y.desc).map (fun d => d.parameters.length) = some n) && decide (Cond.code M.y M.cc M.nL M.rt ∈ lw_tbl) && decide (Cond.initialized M.y.cls ∈ lw_tbl) && plainName M.y.cls && decide (M.nL ≤ 20)
theorem mOK_of {M : MI} {n : Nat} (h : mOK M n = true) : M.y.cls = cn M.oc ∧ M.y.cls ≠ "java/lang/invoke/MethodHandle" ∧ M.y.cls ≠ "java/lang/invoke/VarHandle" ∧ (parseMethodDescriptor M.y.desc).map (fun d => d.parameters.length) = some n ∧ Cond.code M.y M.cc M.nL M.rt ∈ TB ∧ Cond.initialized M.y.cls ∈ TB ∧ plainName M.y.cls = true ∧ M.nL ≤ 20 := by
  simp only [mOK, Bool.and_eq_true, decide_eq_true_eq] at h
  obtain ⟨⟨⟨⟨⟨⟨⟨h1, h2⟩, h3⟩, h4⟩, h5⟩, h6⟩, h7⟩, h8⟩ := h
  exact ⟨h1, h2, h3, h4, TB_in h5 rfl, TB_in h6 rfl, h7, h8⟩
def vOK (oc : Nat) (bytes : ByteArray) (pc : Nat) (M : MI) : Bool := match decode bytes pc with
  | .ok (.invokevirtual idx, 3) => decide (Cond.methodLink (cn oc) idx M.y ∈ lw_tbl) && decide (Cond.instanceMethod M.y ∈ lw_tbl) && decide (Cond.selects M.y.cls M.y M.y ∈ lw_tbl)
  | _ => false
theorem vOK_of {oc : Nat} {bytes : ByteArray} {pc : Nat} {M : MI} (h : vOK oc bytes pc M = true) : ∃ idx, decode bytes pc = .ok (.invokevirtual idx, 3) ∧ Cond.methodLink (cn oc) idx M.y ∈ TB ∧ Cond.instanceMethod M.y ∈ TB ∧ Cond.selects M.y.cls M.y M.y ∈ TB := by
  unfold vOK at h
  split at h
  · rename_i idx hd
    simp only [Bool.and_eq_true, decide_eq_true_eq] at h
    exact ⟨idx, hd, TB_in h.1.1 rfl, TB_in h.1.2 rfl, TB_in h.2 rfl⟩
  · cases h
def sOK (oc : Nat) (bytes : ByteArray) (pc : Nat) (M : MI) : Bool := match decode bytes pc with
  | .ok (.invokestatic idx, 3) => (decide (Cond.methodLink (cn oc) idx M.y ∈ lw_tbl) || decide ((cn oc, idx, M.y) ∈ NWL)) && decide (Cond.static M.y ∈ lw_tbl)
  | _ => false
theorem sOK_of {oc : Nat} {bytes : ByteArray} {pc : Nat} {M : MI} (h : sOK oc bytes pc M = true) : ∃ idx, decode bytes pc = .ok (.invokestatic idx, 3) ∧ (Cond.methodLink (cn oc) idx M.y ∈ TB ∨ (cn oc, idx, M.y) ∈ NWL) ∧ Cond.static M.y ∈ TB := by
  unfold sOK at h
  split at h
  · rename_i idx hd
    simp only [Bool.and_eq_true, Bool.or_eq_true, decide_eq_true_eq] at h
    exact ⟨idx, hd, h.1.imp (fun h => TB_in h rfl) id, TB_in h.2 rfl⟩
  · cases h
def iOK (oc : Nat) (bytes : ByteArray) (pc : Nat) (M : MI) : Bool := match decode bytes pc with
  | .ok (.invokespecial idx, 3) => (decide (Cond.methodLink (cn oc) idx M.y ∈ lw_tbl) || decide ((cn oc, idx, M.y) ∈ NWL)) && decide (Cond.instanceMethod M.y ∈ lw_tbl) && decide (M.y.name = "<init>") && decide (M.rt = none)
  | _ => false
theorem iOK_of {oc : Nat} {bytes : ByteArray} {pc : Nat} {M : MI} (h : iOK oc bytes pc M = true) : ∃ idx, decode bytes pc = .ok (.invokespecial idx, 3) ∧ (Cond.methodLink (cn oc) idx M.y ∈ TB ∨ (cn oc, idx, M.y) ∈ NWL) ∧ Cond.instanceMethod M.y ∈ TB ∧ M.y.name = "<init>" ∧ M.rt = none := by
  unfold iOK at h
  split at h
  · rename_i idx hd
    simp only [Bool.and_eq_true, Bool.or_eq_true, decide_eq_true_eq] at h
    exact ⟨idx, hd, h.1.1.1.imp (fun h => TB_in h rfl) id, TB_in h.1.1.2 rfl, h.1.2, h.2⟩
  · cases h
theorem MI.good (M : MI) {n : Nat} (h : mOK M n = true) : GoodIn TB M.ws := TB_G fun w hw => by
  rcases List.mem_cons.mp hw with rfl | hw
  · exact (mOK_of h).2.2.2.2.1
  · exact hw
theorem sum_map_vC (b sc : Nat) (st : List Value) : ((st.map (vC b sc)).map fun v => v.category) = st.map fun v => v.category := by
  rw [List.map_map, show ((fun v => v.category) ∘ vC b sc) = (fun v : Value => v.category) from funext fun v => vC_cat b sc v]
section RJ3
variable {b sc : Nat} {dC : Nat → ClassId} {dI : Nat → Nat → Nat} {cI cZ : ClassId} {nL oc : Nat} {bytes : ByteArray} {p : Program} {l : Launch} {e : Env} {R : Room} {s : State} {m : MethodId} {args : Array Value} {below : List Frame} {meth : Method} {c : Code} {cells slots : Nat} {Q : State → Prop} {pc pc' : Nat} {L L' : List (Option Value)} {st st' : List Value} {ds ds' : List CDs} {σ σ' : SG}
theorem PW_blind (as : List Value) (ds : List CDs) (σ : SG) : FrameBlind (va_Pc (as.map (vC b sc)) (PWs b dC dI cI cZ ds σ)) := fun a U g mk q =>
  ⟨q.1, q.2.1, va_K.moved (u := U) (U := U.calling g mk a) (Vm.Alike.refl U.vm) q.2.2.1, fun x hx => va_Nw.same rfl rfl (q.2.2.2 x hx)⟩
theorem PW_start (hC : CX b dC dI cI cZ (cn oc) bytes nL p s m args c) {H : Heap} (hW : WD b dC dI cI cZ ds σ H) (as : List Value) : ∀ U : State, U.heap = H → s.WarmedH U.vm → va_Pc (as.map (vC b sc)) (PWs b dC dI cI cZ ds σ) (as.map (vC b sc)).toArray U := fun U hU hWm =>
  ⟨rfl, by rw [hU]; exact hW, va_K.moved hWm.alike hC.2.2.2.2.2.1, fun x hx => va_Nw.warmM hWm (hC.2.2.2.2.2.2.2 x hx)⟩
theorem RJ.back {H : Heap} {locs : List Loc} {ls : Array Slot} {st0 : List Value} {mc ms : Nat} {r : Option Value} {a : Array Value} (hr : va_Run p l e R s m args below meth c H locs cells slots mc ms (F0 m pc ls st0) (st.map (vC b sc)) (QcR b sc dC dI cI cZ r ds' σ' a) (fun q => b ≤ q)) (hS : va_S (fun q => b ≤ q) s.heap H locs) (hl : lv_has ls nL (lc b sc 0 L))
    (K : RJ b sc dC dI cI cZ nL p l e R s m args below meth c (cells + mc) (slots + ms) Q (pc + 3) L (r.toList ++ st) ds' σ') : W p l e R s m args below meth c H locs cells slots Q (F0 m pc ls st0) := by
  intro T hT X
  obtain ⟨v, st₀, t, T', L2, h0, X', hL, e1, e2, ⟨⟨hv, hw⟩, hz, hk⟩, stp⟩ := hr T hT X
  have hv2 : v = r.map (vC b sc) := by injection hv
  subst hv2
  rw [h0] at hz hk
  have hS2 : va_S (fun q => b ≤ q) s.heap T'.heap (locs ++ L2) := ⟨Nat.le_trans hS.1 (by rw [e1]; exact hz), fun q h1 h2 => by rw [e1, hk q (Nat.lt_of_lt_of_le h1 hS.1) h2]; exact hS.2.1 q h1 h2, fun q hq => by
      rcases List.mem_append.mp hq with h | h
      · exact hS.2.2 q h
      · exact hL q h⟩
  obtain ⟨t2, a1, b1⟩ := K T'.heap (locs ++ L2) ls (by rw [e1]; exact hw) hS2 hl T' rfl X'
  refine ⟨t2, stp t2 ?_, b1⟩
  have he : (r.toList ++ st).map (vC b sc) = (r.map (vC b sc)).toList ++ st.map (vC b sc) := by cases r <;> simp
  rw [he] at a1
  exact a1
theorem RJ.callV (hC : CX b dC dI cI cZ (cn oc) bytes nL p s m args c) {M : MI} {d n mc ms : Nat} {r : Option Value} {As : List Value} {q ci : Nat} {fs : List FDs} (hS1 : Sp d M mc ms (.ref q :: As) ds σ r ds' σ') (ho : vOK oc bytes pc M = true) (hm : mOK M n = true) (hn : As.length = n) (hq : ds[q]? = some (.inl (ci, fs))) (hci : ci < 13) (hcn : ci = M.oc)
    (hR : d + 1 ≤ R.frames ∧ 8 + (20 + 11) + 40 * d ≤ R.locals ∧ cells + mc ≤ R.cells ∧ slots + ms ≤ R.slots) (hst : (st.map fun v => v.category).sum ≤ 8) {st0 : List Value} (hst0 : st0 = As.reverse ++ .ref q :: st)
    (K : RJ b sc dC dI cI cZ nL p l e R s m args below meth c (cells + mc) (slots + ms) Q (pc + 3) L (r.toList ++ st) ds' σ') : RJ b sc dC dI cI cZ nL p l e R s m args below meth c cells slots Q pc L st0 ds σ := by
  subst hst0
  obtain ⟨idx, hd, hlk, hin, hsel⟩ := vOK_of ho
  obtain ⟨m1, m2, m3, m4, m5, m6, m7, m8⟩ := mOK_of hm
  obtain ⟨hx, hb, hml, hown, hts, hK, hbs, hnw⟩ := id hC
  intro H locs ls hW hS hl
  have hstk : ((As.reverse ++ .ref q :: st).map (vC b sc)) = (As.map (vC b sc)).reverse ++ Value.ref (b + q) :: st.map (vC b sc) := by simp [vC]
  have hcw : CallW R s args (cn oc) M.y.cls idx M.y M.cc M.nL M.rt M.ws (rmD d mc ms) mc ms n :=
    ⟨callB_of n hts (M.good hm) rfl rfl rfl (hts _ m6) (hts _ hlk) ⟨m2, m3, m4⟩ ⟨hR.1, by show 8 + (M.nL + 11) + 40 * d ≤ R.locals; omega⟩, hts _ hin, hts _ hsel⟩
  have hpre : PreV s H M.y.cls (b + q) (va_Pc ((Value.ref q :: As).map (vC b sc)) (PWs b dC dI cI cZ ds σ)) (As.map (vC b sc)) := by
    refine ⟨PW_blind _ ds σ, ?_, PW_start hC hW _⟩
    have h := va_recv hK hW.2 (cq_in ci hci) (wls_at hq)
    rw [m1, ← hcn]
    exact h
  exact RJ.back (va_runV (g := F0 m pc ls ((As.reverse ++ .ref q :: st).map (vC b sc))) (cc := bytes) (nL := nL) (Ts := TB) ⟨hx, hb, hml, hown, hts⟩ (hS1 l b sc dC dI cI cZ) hcw hpre rfl (by simpa using hn) hl.1 hstk (by rw [sum_map_vC]; show 2 * 0 + _ ≤ 8; omega) hd ⟨hR.2.2.1, hR.2.2.2⟩) hS hl K
theorem RJ.callS (hC : CX b dC dI cI cZ (cn oc) bytes nL p s m args c) {M : MI} {d n mc ms : Nat} {r : Option Value} {As : List Value} (hS1 : Sp d M mc ms As ds σ r ds' σ') (ho : sOK oc bytes pc M = true) (hm : mOK M n = true) (hn : As.length = n)
    (hR : d + 1 ≤ R.frames ∧ 8 + (20 + 11) + 40 * d ≤ R.locals ∧ cells + mc ≤ R.cells ∧ slots + ms ≤ R.slots) (hst : (st.map fun v => v.category).sum ≤ 8) {st0 : List Value} (hst0 : st0 = As.reverse ++ st)
    (K : RJ b sc dC dI cI cZ nL p l e R s m args below meth c (cells + mc) (slots + ms) Q (pc + 3) L (r.toList ++ st) ds' σ') : RJ b sc dC dI cI cZ nL p l e R s m args below meth c cells slots Q pc L st0 ds σ := by
  subst hst0
  obtain ⟨idx, hd, hlk, hsta⟩ := sOK_of ho
  obtain ⟨m1, m2, m3, m4, m5, m6, m7, m8⟩ := mOK_of hm
  obtain ⟨hx, hb, hml, hown, hts, hK, hbs, hnw⟩ := id hC
  intro H locs ls hW hS hl
  have hstk : ((As.reverse ++ st).map (vC b sc)) = (As.map (vC b sc)).reverse ++ st.map (vC b sc) := by simp
  have hpre : PreS s H (va_Pc (As.map (vC b sc)) (PWs b dC dI cI cZ ds σ)) (As.map (vC b sc)) := ⟨PW_blind _ ds σ, PW_start hC hW _⟩
  have hsm : 2 * (F0 m pc ls ((As.reverse ++ st).map (vC b sc))).monitorRoom + ((st.map (vC b sc)).map fun v => v.category).sum ≤ 8 := by rw [sum_map_vC]; show 2 * 0 + _ ≤ 8; omega
  rcases hlk with hlk | hlk
  · have hcw : CallB R s args (cn oc) idx M.y M.cc M.nL M.rt M.ws (rmD d mc ms) mc ms n ∧ (Cond.static M.y).before args s = true :=
      ⟨callB_of n hts (M.good hm) rfl rfl rfl (hts _ m6) (hts _ hlk) ⟨m2, m3, m4⟩ ⟨hR.1, by show 8 + (M.nL + 11) + 40 * d ≤ R.locals; omega⟩, hts _ hsta⟩
    exact RJ.back (va_runS (g := F0 m pc ls ((As.reverse ++ st).map (vC b sc))) (cc := bytes) (nL := nL) (Ts := TB) ⟨hx, hb, hml, hown, hts⟩ (hS1 l b sc dC dI cI cZ) hcw hpre rfl (by simpa using hn) hl.1 hstk hsm hd ⟨hR.2.2.1, hR.2.2.2⟩) hS hl K
  · have hcw : va_CN R s args (cn oc) idx M.y "MosaicShop" M.cc M.nL M.rt M.ws (rmD d mc ms) mc ms n ∧ (Cond.static M.y).before args s = true ∧ True :=
      ⟨va_cnB n hts (M.good hm) rfl rfl rfl (hnw _ hlk) (hts _ m6) ⟨m2, m3, m4⟩ ⟨hR.1, by show 8 + (M.nL + 11) + 40 * d ≤ R.locals; omega⟩, hts _ hsta, trivial⟩
    exact RJ.back (va_runSN (g := F0 m pc ls ((As.reverse ++ st).map (vC b sc))) (cc := bytes) (nL := nL) (Ts := TB) ⟨hx, hb, hml, hown, hts⟩ (hS1 l b sc dC dI cI cZ) hcw hpre rfl (by simpa using hn) hl.1 hstk hsm hd ⟨hR.2.2.1, hR.2.2.2⟩) hS hl K
theorem RJ.callI (hC : CX b dC dI cI cZ (cn oc) bytes nL p s m args c) {M : MI} {d n mc ms : Nat} {r : Option Value} {As : List Value} {q : Nat} (hS1 : Sp d M mc ms (.ref q :: As) ds σ r ds' σ') (ho : iOK oc bytes pc M = true) (hm : mOK M n = true) (hn : As.length = n)
    (hR : d + 1 ≤ R.frames ∧ 8 + (20 + 11) + 40 * d ≤ R.locals ∧ cells + mc ≤ R.cells ∧ slots + ms ≤ R.slots) (hst : (st.map fun v => v.category).sum ≤ 8) {st0 : List Value} (hst0 : st0 = As.reverse ++ .ref q :: st)
    (K : RJ b sc dC dI cI cZ nL p l e R s m args below meth c (cells + mc) (slots + ms) Q (pc + 3) L (r.toList ++ st) ds' σ') : RJ b sc dC dI cI cZ nL p l e R s m args below meth c cells slots Q pc L st0 ds σ := by
  subst hst0
  obtain ⟨idx, hd, hlk, hin, hname, hrt⟩ := iOK_of ho
  obtain ⟨m1, m2, m3, m4, m5, m6, m7, m8⟩ := mOK_of hm
  obtain ⟨hx, hb, hml, hown, hts, hK, hbs, hnw⟩ := id hC
  intro H locs ls hW hS hl
  have hstk : ((As.reverse ++ .ref q :: st).map (vC b sc)) = (As.map (vC b sc)).reverse ++ Value.ref (b + q) :: st.map (vC b sc) := by simp [vC]
  have hpre : PreS s H (va_Pc ((Value.ref q :: As).map (vC b sc)) (PWs b dC dI cI cZ ds σ)) (Value.ref (b + q) :: As.map (vC b sc)) := ⟨PW_blind _ ds σ, PW_start hC hW _⟩
  have hsm : 2 * (F0 m pc ls ((As.reverse ++ .ref q :: st).map (vC b sc))).monitorRoom + ((st.map (vC b sc)).map fun v => v.category).sum ≤ 8 := by rw [sum_map_vC]; show 2 * 0 + _ ≤ 8; omega
  have hwsE : M.ws = Cond.code M.y M.cc M.nL none :: TB := by unfold MI.ws; rw [hrt]
  rcases hlk with hlk | hlk
  · have hcw : CallB R s args (cn oc) idx M.y M.cc M.nL none M.ws (rmD d mc ms) mc ms n ∧ M.y.name = "<init>" ∧ (Cond.instanceMethod M.y).before args s = true :=
      ⟨callB_of n hts (M.good hm) hwsE rfl rfl (hts _ m6) (hts _ hlk) ⟨m2, m3, m4⟩ ⟨hR.1, by show 8 + (M.nL + 11) + 40 * d ≤ R.locals; omega⟩, hname, hts _ hin⟩
    exact RJ.back (va_runI (g := F0 m pc ls ((As.reverse ++ .ref q :: st).map (vC b sc))) (cc := bytes) (nL := nL) (Ts := TB) ⟨hx, hb, hml, hown, hts⟩ (hS1 l b sc dC dI cI cZ) hcw hpre rfl (by simpa using hn) hl.1 hstk hsm hd ⟨hR.2.2.1, hR.2.2.2⟩) hS hl K
  · have hcw : va_CN R s args (cn oc) idx M.y "MosaicShop" M.cc M.nL none M.ws (rmD d mc ms) mc ms n ∧ M.y.name = "<init>" ∧ (Cond.instanceMethod M.y).before args s = true :=
      ⟨va_cnB n hts (M.good hm) hwsE rfl rfl (hnw _ hlk) (hts _ m6) ⟨m2, m3, m4⟩ ⟨hR.1, by show 8 + (M.nL + 11) + 40 * d ≤ R.locals; omega⟩, hname, hts _ hin⟩
    exact RJ.back (va_runIN (g := F0 m pc ls ((As.reverse ++ .ref q :: st).map (vC b sc))) (cc := bytes) (nL := nL) (Ts := TB) ⟨hx, hb, hml, hown, hts⟩ (hS1 l b sc dC dI cI cZ) hcw hpre rfl (by simpa using hn) hl.1 hstk hsm hd ⟨hR.2.2.1, hR.2.2.2⟩) hS hl K
def oOK (oc : Nat) (bytes : ByteArray) (pc : Nat) : Bool := match decode bytes pc with
  | .ok (.invokespecial idx, 3) => decide (Cond.methodLink (cn oc) idx Lib.objectInit ∈ lw_tbl) && decide (Cond.instanceMethod Lib.objectInit ∈ lw_tbl) && decide (Cond.code Lib.objectInit ⟨#[0xb1]⟩ 1 none ∈ lw_tbl)
  | _ => false
theorem RJ.obj (hC : CX b dC dI cI cZ (cn oc) bytes nL p s m args c) {q : Nat} (ho : oOK oc bytes pc = true) (hR : 1 ≤ R.frames ∧ (st.map fun v => v.category).sum + 12 ≤ R.locals) (K : RJ b sc dC dI cI cZ nL p l e R s m args below meth c cells slots Q (pc + 3) L st ds σ) : RJ b sc dC dI cI cZ nL p l e R s m args below meth c cells slots Q pc L (.ref q :: st) ds σ := by
  unfold oOK at ho
  split at ho
  rotate_left
  · cases ho
  rename_i idx hd
  simp only [Bool.and_eq_true, decide_eq_true_eq] at ho
  obtain ⟨hx, hb, hml, hown, hts, -⟩ := hC
  intro H locs ls hW hS hl
  exact W.objInit (g := F0 m pc ls (.ref (b + q) :: st.map (vC b sc))) hx hb hown (hts _ (TB_in ho.1.1 rfl)) (hts _ (TB_in ho.1.2 rfl)) (hts _ (TB_in ho.2 rfl)) rfl (hl.1.trans hml.symm) rfl hd hR.1 (by rw [sum_map_vC]; show 2 * 0 + _ + 12 ≤ R.locals; omega) (K H locs ls hW hS hl)
def fs0 (ci : Nat) : List FDs := (List.range (cN ci)).map (fun k => match cty ci k with
  | .int => none
  | .boolean => none
  | _ => some none)
def dv0 : FDs → Value
  | none => .int 0
  | some _ => .null
def nOK (oc : Nat) (bytes : ByteArray) (pc ci : Nat) : Bool := match decode bytes pc with
  | .ok (.new idx, 3) => decide (Cond.classLink (cn oc) idx (cn ci) ∈ lw_tbl) && decide (Cond.instantiable (cn ci) (cN ci) ∈ lw_tbl) && decide (Cond.initialized (cn ci) ∈ lw_tbl) && decide (ci < 13) && (List.range (cN ci)).all (fun j => decide (((fs0 ci).map dv0)[j]? = some (defaultValue (cty ci j)))) && (fs0 ci).all (fun f => match f with | some (some _) => false | _ => true)
  | _ => false
theorem fvl_0 {b : Nat} : ∀ (fs : List FDs), fs.all (fun f => match f with | some (some _) => false | _ => true) = true → fs.mapIdx (fvl b (fun _ => 0)) = fs.map dv0 := by
  intro fs h
  apply List.ext_getElem?
  intro j
  rw [List.getElem?_mapIdx, List.getElem?_map]
  cases hj : fs[j]? with
  | none => rfl
  | some f =>
    have h1 := List.all_eq_true.mp h f (List.mem_of_getElem? hj)
    cases f with
    | none => rfl
    | some o => cases o with
      | none => rfl
      | some q => cases h1
theorem RJ.new (hC : CX b dC dI cI cZ (cn oc) bytes nL p s m args c) {ci : Nat} (ho : nOK oc bytes pc ci = true) (hR : cells + 1 ≤ R.cells ∧ slots + cN ci ≤ R.slots)
    (K : RJ b sc dC dI cI cZ nL p l e R s m args below meth c (cells + 1) (slots + cN ci) Q (pc + 3) L (.ref ds.length :: st) (ds ++ [.inl (ci, fs0 ci)]) (up0 σ ds.length)) : RJ b sc dC dI cI cZ nL p l e R s m args below meth c cells slots Q pc L st ds σ := by
  unfold nOK at ho
  split at ho
  rotate_left
  · cases ho
  rename_i idx hd
  simp only [Bool.and_eq_true, decide_eq_true_eq] at ho
  obtain ⟨⟨⟨⟨⟨h1, h2⟩, h3⟩, h4⟩, h5⟩, h6⟩ := ho
  obtain ⟨hx, hb, hml, hown, hts, hK, hbs, hnw⟩ := id hC
  intro H locs ls hW hS hl
  have hKn := hK.1 ci _ (cq_in ci h4)
  refine W.newcK hx hb hown (hts _ (TB_in h1 rfl)) (hts _ (TB_in h2 rfl)) (hts _ (TB_in h3 rfl)) rfl hd hR.1 hR.2 hKn.2.1 hW.1 fun H1 kC hkC e1 z1 o1 => ?_
  have hk : ∀ (k : Nat) (x : Nat × va_E), (wls b cI cZ σ ds)[k]? = some x → H1[x.1]? = H[x.1]? := fun k x hx => o1 x.1 (by rw [← hW.1]; exact (hW.2 k x hx).lt)
  refine K H1 locs ls ⟨by rw [z1]; simp; omega, ?_⟩ ⟨Nat.le_trans hS.1 (by rw [z1, hW.1]; omega), fun x g1 g2 => (o1 x (by rw [← hW.1]; exact Nat.lt_of_lt_of_le g1 hS.1)).trans (hS.2.1 x g1 g2), hS.2.2⟩ hl
  rw [← wls_push]
  refine (hW.2.kept hk).app (fun k x hx => ?_)
  have hz : k < 1 := (List.getElem?_eq_some_iff.mp hx).1
  rw [show k = 0 by omega] at hx
  cases hx
  refine ⟨_, cq_in ci h4, (u_born (cty ci) hts (ws_in ci h4) hKn hkC e1 (cty_ok ci h4)).to fun j hj => ?_⟩
  show defaultValue (cty ci j) = vp_V ((fs0 ci).mapIdx (fvl b (fun _ => 0))) j
  rw [fvl_0 _ h6]
  have h7 := of_decide_eq_true (List.all_eq_true.mp h5 j (List.mem_range.mpr hj))
  simp [vp_V, h7]
theorem vp_cell0 (cA : ClassId) (n : Nat) (z : Bool) : vp_cell cA (n, .inl (fun _ => 0)) = arrV cA n (fun _ => defaultValue (match z with | true => .boolean | false => .int)) := by
  cases z <;> rfl
theorem RJ.newI (hC : CX b dC dI cI cZ (cn oc) bytes nL p s m args c) {k : Nat} (hd : decode bytes pc = .ok (.newarray .int, 2)) (hk : k ≤ 65536) (hR : cells + 1 ≤ R.cells ∧ slots + k ≤ R.slots)
    (K : RJ b sc dC dI cI cZ nL p l e R s m args below meth c (cells + 1) (slots + k) Q (pc + 2) L (.ref ds.length :: st) (ds ++ [.inr (false, k)]) (up0 σ ds.length)) : RJ b sc dC dI cI cZ nL p l e R s m args below meth c cells slots Q pc L (.int (nI k) :: st) ds σ := by
  obtain ⟨hx, hb, hml, hown, hts, hK, hbs, hnw⟩ := id hC
  intro H locs ls hW hS hl
  refine va_newaK (atype := .int) (N := k) hx hb (hts _ (TB_in (by decide +kernel : Cond.arrayClass .int ∈ lw_tbl) rfl)) rfl hd rfl (nI_pos (by omega)) (nI_clamp (by omega)) (by show k * 4 ≤ _; omega) hR.1 hR.2 hW.1 fun H1 cA e1 z1 o1 hAr hNm => ?_
  have hcA : cA = cI := by
    have h1 : s.vm.findClass ("[" ++ (newarray.typeOf .int).toString) = some cI := (hK.2 0 _ rfl).2
    exact Option.some.inj (hNm.symm.trans h1)
  have hkp : ∀ (k : Nat) (x : Nat × va_E), (wls b cI cZ σ ds)[k]? = some x → H1[x.1]? = H[x.1]? := fun k x hx => o1 x.1 (by rw [← hW.1]; exact (hW.2 k x hx).lt)
  refine K H1 locs ls ⟨by rw [z1]; simp; omega, ?_⟩ ⟨Nat.le_trans hS.1 (by rw [z1, hW.1]; omega), fun x g1 g2 => (o1 x (by rw [← hW.1]; exact Nat.lt_of_lt_of_le g1 hS.1)).trans (hS.2.1 x g1 g2), hS.2.2⟩ hl
  rw [← wls_push]
  refine (hW.2.kept hkp).app (fun k x hx => ?_)
  have hz : k < 1 := (List.getElem?_eq_some_iff.mp hx).1
  rw [show k = 0 by omega] at hx
  cases hx
  show H1[b + ds.length]? = some (vp_cell (czI cI cZ false) (_, .inl (fun _ => 0)))
  rw [vp_cell0 _ _ false, e1, hcA]
  rfl
theorem RJ.newZ (hC : CX b dC dI cI cZ (cn oc) bytes nL p s m args c) {k : Nat} (hd : decode bytes pc = .ok (.newarray .boolean, 2)) (hk : k ≤ 65536) (hR : cells + 1 ≤ R.cells ∧ slots + k ≤ R.slots)
    (K : RJ b sc dC dI cI cZ nL p l e R s m args below meth c (cells + 1) (slots + k) Q (pc + 2) L (.ref ds.length :: st) (ds ++ [.inr (true, k)]) (up0 σ ds.length)) : RJ b sc dC dI cI cZ nL p l e R s m args below meth c cells slots Q pc L (.int (nI k) :: st) ds σ := by
  obtain ⟨hx, hb, hml, hown, hts, hK, hbs, hnw⟩ := id hC
  intro H locs ls hW hS hl
  refine va_newaK (atype := .boolean) (N := k) hx hb (hts _ (TB_in (by decide +kernel : Cond.arrayClass .boolean ∈ lw_tbl) rfl)) rfl hd rfl (nI_pos (by omega)) (nI_clamp (by omega)) (by show k * 1 ≤ _; omega) hR.1 hR.2 hW.1 fun H1 cA e1 z1 o1 hAr hNm => ?_
  have hcA : cA = cZ := by
    have h1 : s.vm.findClass ("[" ++ (newarray.typeOf .boolean).toString) = some cZ := (hK.2 1 _ rfl).2
    exact Option.some.inj (hNm.symm.trans h1)
  have hkp : ∀ (k : Nat) (x : Nat × va_E), (wls b cI cZ σ ds)[k]? = some x → H1[x.1]? = H[x.1]? := fun k x hx => o1 x.1 (by rw [← hW.1]; exact (hW.2 k x hx).lt)
  refine K H1 locs ls ⟨by rw [z1]; simp; omega, ?_⟩ ⟨Nat.le_trans hS.1 (by rw [z1, hW.1]; omega), fun x g1 g2 => (o1 x (by rw [← hW.1]; exact Nat.lt_of_lt_of_le g1 hS.1)).trans (hS.2.1 x g1 g2), hS.2.2⟩ hl
  rw [← wls_push]
  refine (hW.2.kept hkp).app (fun k x hx => ?_)
  have hz : k < 1 := (List.getElem?_eq_some_iff.mp hx).1
  rw [show k = 0 by omega] at hx
  cases hx
  show H1[b + ds.length]? = some (vp_cell (czI cI cZ true) (_, .inl (fun _ => 0)))
  rw [vp_cell0 _ _ true, e1, hcA]
  rfl
def pOK (oc : Nat) (bytes : ByteArray) (pc ci k : Nat) : Bool := match decode bytes pc with
  | .ok (.putfield idx, 3) => decide ((oc, idx, ci, k) ∈ FLK) && decide ((cT ci k).2.2.2 = true) && decide (oc = ci) && (match parseFieldDescriptor (cT ci k).2.2.1 with
    | some (.object _) => true
    | some (.array _) => true
    | _ => false)
  | _ => false
/-- a constructor keeps a cell in a final field -/
theorem RJ.putR (hC : CX b dC dI cI cZ (cn oc) bytes nL p s m args c) {ci k q w : Nat} {fs : List FDs} (ho : pOK oc bytes pc ci k = true) (hname : meth.name = "<init>") (hd : ds[q]? = some (.inl (ci, fs))) (hfk : k < fs.length)
    (K : RJ b sc dC dI cI cZ nL p l e R s m args below meth c cells slots Q (pc + 3) L st (ds.set q (.inl (ci, fs.set k (some (some w))))) σ) : RJ b sc dC dI cI cZ nL p l e R s m args below meth c cells slots Q pc L (.ref w :: .ref q :: st) ds σ := by
  unfold pOK at ho
  split at ho
  rotate_left
  · cases ho
  rename_i idx hdg
  simp only [Bool.and_eq_true, decide_eq_true_eq] at ho
  obtain ⟨⟨⟨hf, hfin⟩, hoc⟩, hty0⟩ := ho
  obtain ⟨ty, hty, href⟩ : ∃ ty, parseFieldDescriptor (cT ci k).2.2.1 = some ty ∧ (narrow ty (.ref (b + w)) = .ref (b + w) ∧ fits ty (.ref (b + w)) = true) := by
    split at hty0
    · rename_i h; exact ⟨_, h, rfl, rfl⟩
    · rename_i h; exact ⟨_, h, rfl, rfl⟩
    · cases hty0
  subst hoc
  obtain ⟨hx, hb, hml, hown, hts, hK, hbs, hnw⟩ := hC
  intro H locs ls hW hS hl
  obtain ⟨hz, hP⟩ := hW
  obtain ⟨h1, h13, hkN, hsame⟩ := FLK_ok hf
  dsimp only at h1 h13 hkN hsame
  have hcq := cq_in oc h13
  have hin := ws_in oc h13
  have hap := va_apart (own := cn oc) hts hin (cty oc) (cty_ok oc h13) (cnm_ok oc h13) hK hcq
  have hwq := wls_at (b := b) (cI := cI) (cZ := cZ) (σ := σ) hd
  obtain ⟨r, h2, cell, q1, q2, q3, q4⟩ := hP q _ hwq
  have hr : r = (cn oc, cT oc, cN oc) := Option.some.inj (h2.symm.trans hcq)
  subst hr
  obtain ⟨hSl, hfc, kC, hkC, hkind⟩ := hK.1 oc _ hcq
  obtain ⟨cf, kf, fi, f, hi, hsl⟩ := hSl k hkN
  have hlay := hts _ (hin _ (u_in_lay hkN))
  unfold u_lay at hlay
  rw [if_pos hfin] at hlay
  have hstt := (u_facts hfc hkC (u_lays hts hin hkN) hi).1
  have hcf : m.cls = cf := by
    obtain ⟨_, _, c', _, _, _, -, -, hf', -, -, -, hown2, -⟩ := Cond.laysFinal_spec hlay
    have e1 : c' = cf := by have := hi.symm.trans hf'; simp at this; exact this.1.symm
    rw [hsame] at hown2
    rw [← e1]; exact Option.some.inj (hown.symm.trans hown2)
  have h6 := u_fits hfc hkC hkind (Or.inr hlay) hi hty href.1 href.2
  refine W.putFinK hx hb hown (hts _ h1) (by rw [← hsame]; exact hi) hstt hcf hname (by rw [q2]; exact h6) q1 q3 (by rw [hsl]; exact k2_hasslot (q4 k hkN)) rfl rfl hdg fun H' e1 e2 e3 => ?_
  rw [hsl] at e1 ⊢
  have hlen : k < (fs.mapIdx (fvl b (σ q))).length := by simpa using hfk
  refine K H' _ ls ⟨by rw [e2, hz]; simp, ?_⟩ (hS.put e2 e3 (Nat.le_add_right b q)) hl
  rw [← wls_putR hd hfk]
  exact hP.set (wls_D b cI cZ σ ds) hwq ⟨_, hcq, t_OB.to (V := updV (vp_V (fs.mapIdx (fvl b (σ q)))) k (.ref (b + w))) ⟨_, e1, q2, q3, t_set q4 hap hkN _⟩ (fun j _ => vp_updV_set hlen _ j)⟩ e3
end RJ3
