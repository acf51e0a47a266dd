/-! rm: the closed judgement: rules, returns, entry -/
section RM1
variable {d : Nat} {M : MI} {mc ms : Nat} {r : Option Value} {ds' : List CDs} {σ' : SG} {cl sl pc : Nat} {L : List (Option Value)} {st : List Value} {ds : List CDs} {σ : SG}
theorem RM.blk (is : List AI) {pc' : Nat} {L' : List (Option Value)} {st' : List Value} {σ1 : SG} (hx : nxs M.oc M.nL M.cc pc is = some pc') (he : exs ds is L st σ = some (L', st', σ1)) (K : RM d M mc ms r ds' σ' cl sl pc' L' st' ds σ1) : RM d M mc ms r ds' σ' cl sl pc L st ds σ := by
  intro l b sc dC dI cI cZ p e s m args below meth c hC hr hk hn
  exact RJ.blk hC is hx he (K l b sc dC dI cI cZ p e s m args below meth c hC hr hk hn)
theorem RM.eq {L1 : List (Option Value)} {st1 : List Value} {σ1 : SG} (h1 : L = L1) (h2 : st = st1) (h3 : σ = σ1) (K : RM d M mc ms r ds' σ' cl sl pc L1 st1 ds σ1) : RM d M mc ms r ds' σ' cl sl pc L st ds σ := by
  subst h1; subst h2; subst h3; exact K
theorem RM.if_eq {x : Int32} {tgt : Nat} (hb : brc M.cc pc = some (0, tgt)) (kt : x = 0 → RM d M mc ms r ds' σ' cl sl tgt L st ds σ) (kf : ¬ x = 0 → RM d M mc ms r ds' σ' cl sl (pc + 3) L st ds σ) : RM d M mc ms r ds' σ' cl sl pc L (.int x :: st) ds σ := by
  intro l b sc dC dI cI cZ p e s m args below meth c hC hr hk hn
  exact RJ.if_eq hC hb (fun h => kt h l b sc dC dI cI cZ p e s m args below meth c hC hr hk hn) (fun h => kf h l b sc dC dI cI cZ p e s m args below meth c hC hr hk hn)
theorem RM.icmp_eq {x y : Int32} {tgt : Nat} (hb : brc M.cc pc = some (6, tgt)) (kt : x = y → RM d M mc ms r ds' σ' cl sl tgt L st ds σ) (kf : ¬ x = y → RM d M mc ms r ds' σ' cl sl (pc + 3) L st ds σ) : RM d M mc ms r ds' σ' cl sl pc L (.int y :: .int x :: st) ds σ := by
  intro l b sc dC dI cI cZ p e s m args below meth c hC hr hk hn
  exact RJ.icmp_eq hC hb (fun h => kt h l b sc dC dI cI cZ p e s m args below meth c hC hr hk hn) (fun h => kf h l b sc dC dI cI cZ p e s m args below meth c hC hr hk hn)
theorem RM.if_ne {x : Int32} {tgt : Nat} (hb : brc M.cc pc = some (1, tgt)) (kt : ¬ x = 0 → RM d M mc ms r ds' σ' cl sl tgt L st ds σ) (kf : x = 0 → RM d M mc ms r ds' σ' cl sl (pc + 3) L st ds σ) : RM d M mc ms r ds' σ' cl sl pc L (.int x :: st) ds σ := by
  intro l b sc dC dI cI cZ p e s m args below meth c hC hr hk hn
  exact RJ.if_ne hC hb (fun h => kt h l b sc dC dI cI cZ p e s m args below meth c hC hr hk hn) (fun h => kf h l b sc dC dI cI cZ p e s m args below meth c hC hr hk hn)
theorem RM.icmp_ne {x y : Int32} {tgt : Nat} (hb : brc M.cc pc = some (7, tgt)) (kt : ¬ x = y → RM d M mc ms r ds' σ' cl sl tgt L st ds σ) (kf : x = y → RM d M mc ms r ds' σ' cl sl (pc + 3) L st ds σ) : RM d M mc ms r ds' σ' cl sl pc L (.int y :: .int x :: st) ds σ := by
  intro l b sc dC dI cI cZ p e s m args below meth c hC hr hk hn
  exact RJ.icmp_ne hC hb (fun h => kt h l b sc dC dI cI cZ p e s m args below meth c hC hr hk hn) (fun h => kf h l b sc dC dI cI cZ p e s m args below meth c hC hr hk hn)
theorem RM.if_lt {x : Int32} {tgt : Nat} (hb : brc M.cc pc = some (2, tgt)) (kt : x < 0 → RM d M mc ms r ds' σ' cl sl tgt L st ds σ) (kf : ¬ x < 0 → RM d M mc ms r ds' σ' cl sl (pc + 3) L st ds σ) : RM d M mc ms r ds' σ' cl sl pc L (.int x :: st) ds σ := by
  intro l b sc dC dI cI cZ p e s m args below meth c hC hr hk hn
  exact RJ.if_lt hC hb (fun h => kt h l b sc dC dI cI cZ p e s m args below meth c hC hr hk hn) (fun h => kf h l b sc dC dI cI cZ p e s m args below meth c hC hr hk hn)
theorem RM.icmp_lt {x y : Int32} {tgt : Nat} (hb : brc M.cc pc = some (8, tgt)) (kt : x < y → RM d M mc ms r ds' σ' cl sl tgt L st ds σ) (kf : ¬ x < y → RM d M mc ms r ds' σ' cl sl (pc + 3) L st ds σ) : RM d M mc ms r ds' σ' cl sl pc L (.int y :: .int x :: st) ds σ := by
  intro l b sc dC dI cI cZ p e s m args below meth c hC hr hk hn
  exact RJ.icmp_lt hC hb (fun h => kt h l b sc dC dI cI cZ p e s m args below meth c hC hr hk hn) (fun h => kf h l b sc dC dI cI cZ p e s m args below meth c hC hr hk hn)
theorem RM.if_ge {x : Int32} {tgt : Nat} (hb : brc M.cc pc = some (3, tgt)) (kt : 0 ≤ x → RM d M mc ms r ds' σ' cl sl tgt L st ds σ) (kf : ¬ 0 ≤ x → RM d M mc ms r ds' σ' cl sl (pc + 3) L st ds σ) : RM d M mc ms r ds' σ' cl sl pc L (.int x :: st) ds σ := by
  intro l b sc dC dI cI cZ p e s m args below meth c hC hr hk hn
  exact RJ.if_ge hC hb (fun h => kt h l b sc dC dI cI cZ p e s m args below meth c hC hr hk hn) (fun h => kf h l b sc dC dI cI cZ p e s m args below meth c hC hr hk hn)
theorem RM.icmp_ge {x y : Int32} {tgt : Nat} (hb : brc M.cc pc = some (9, tgt)) (kt : y ≤ x → RM d M mc ms r ds' σ' cl sl tgt L st ds σ) (kf : ¬ y ≤ x → RM d M mc ms r ds' σ' cl sl (pc + 3) L st ds σ) : RM d M mc ms r ds' σ' cl sl pc L (.int y :: .int x :: st) ds σ := by
  intro l b sc dC dI cI cZ p e s m args below meth c hC hr hk hn
  exact RJ.icmp_ge hC hb (fun h => kt h l b sc dC dI cI cZ p e s m args below meth c hC hr hk hn) (fun h => kf h l b sc dC dI cI cZ p e s m args below meth c hC hr hk hn)
theorem RM.if_gt {x : Int32} {tgt : Nat} (hb : brc M.cc pc = some (4, tgt)) (kt : 0 < x → RM d M mc ms r ds' σ' cl sl tgt L st ds σ) (kf : ¬ 0 < x → RM d M mc ms r ds' σ' cl sl (pc + 3) L st ds σ) : RM d M mc ms r ds' σ' cl sl pc L (.int x :: st) ds σ := by
  intro l b sc dC dI cI cZ p e s m args below meth c hC hr hk hn
  exact RJ.if_gt hC hb (fun h => kt h l b sc dC dI cI cZ p e s m args below meth c hC hr hk hn) (fun h => kf h l b sc dC dI cI cZ p e s m args below meth c hC hr hk hn)
theorem RM.icmp_gt {x y : Int32} {tgt : Nat} (hb : brc M.cc pc = some (10, tgt)) (kt : y < x → RM d M mc ms r ds' σ' cl sl tgt L st ds σ) (kf : ¬ y < x → RM d M mc ms r ds' σ' cl sl (pc + 3) L st ds σ) : RM d M mc ms r ds' σ' cl sl pc L (.int y :: .int x :: st) ds σ := by
  intro l b sc dC dI cI cZ p e s m args below meth c hC hr hk hn
  exact RJ.icmp_gt hC hb (fun h => kt h l b sc dC dI cI cZ p e s m args below meth c hC hr hk hn) (fun h => kf h l b sc dC dI cI cZ p e s m args below meth c hC hr hk hn)
theorem RM.if_le {x : Int32} {tgt : Nat} (hb : brc M.cc pc = some (5, tgt)) (kt : x ≤ 0 → RM d M mc ms r ds' σ' cl sl tgt L st ds σ) (kf : ¬ x ≤ 0 → RM d M mc ms r ds' σ' cl sl (pc + 3) L st ds σ) : RM d M mc ms r ds' σ' cl sl pc L (.int x :: st) ds σ := by
  intro l b sc dC dI cI cZ p e s m args below meth c hC hr hk hn
  exact RJ.if_le hC hb (fun h => kt h l b sc dC dI cI cZ p e s m args below meth c hC hr hk hn) (fun h => kf h l b sc dC dI cI cZ p e s m args below meth c hC hr hk hn)
theorem RM.icmp_le {x y : Int32} {tgt : Nat} (hb : brc M.cc pc = some (11, tgt)) (kt : x ≤ y → RM d M mc ms r ds' σ' cl sl tgt L st ds σ) (kf : ¬ x ≤ y → RM d M mc ms r ds' σ' cl sl (pc + 3) L st ds σ) : RM d M mc ms r ds' σ' cl sl pc L (.int y :: .int x :: st) ds σ := by
  intro l b sc dC dI cI cZ p e s m args below meth c hC hr hk hn
  exact RJ.icmp_le hC hb (fun h => kt h l b sc dC dI cI cZ p e s m args below meth c hC hr hk hn) (fun h => kf h l b sc dC dI cI cZ p e s m args below meth c hC hr hk hn)
theorem RM.zeq {z : Bool} {tgt : Nat} (hb : brc M.cc pc = some (0, tgt)) (kt : z = false → RM d M mc ms r ds' σ' cl sl tgt L st ds σ) (kf : z = true → RM d M mc ms r ds' σ' cl sl (pc + 3) L st ds σ) : RM d M mc ms r ds' σ' cl sl pc L (.int (bI z) :: st) ds σ :=
  RM.if_eq hb (fun h => kt ((bI_0 z).mp h)) (fun h => kf ((bI_n z).mp h))
theorem RM.zne {z : Bool} {tgt : Nat} (hb : brc M.cc pc = some (1, tgt)) (kt : z = true → RM d M mc ms r ds' σ' cl sl tgt L st ds σ) (kf : z = false → RM d M mc ms r ds' σ' cl sl (pc + 3) L st ds σ) : RM d M mc ms r ds' σ' cl sl pc L (.int (bI z) :: st) ds σ :=
  RM.if_ne hb (fun h => kt ((bI_n z).mp h)) (fun h => kf ((bI_0 z).mp h))
theorem RM.idiv {x y : Int32} (hd : decode M.cc pc = .ok (.idiv, 1)) (hy : ¬ y = 0) (K : RM d M mc ms r ds' σ' cl sl (pc + 1) L (.int (x / y) :: st) ds σ) : RM d M mc ms r ds' σ' cl sl pc L (.int y :: .int x :: st) ds σ := by
  intro l b sc dC dI cI cZ p e s m args below meth c hC hr hk hn
  exact RJ.idiv hC hd hy (K l b sc dC dI cI cZ p e s m args below meth c hC hr hk hn)
theorem RM.irem {x y : Int32} (hd : decode M.cc pc = .ok (.irem, 1)) (hy : ¬ y = 0) (K : RM d M mc ms r ds' σ' cl sl (pc + 1) L (.int (x - x / y * y) :: st) ds σ) : RM d M mc ms r ds' σ' cl sl pc L (.int y :: .int x :: st) ds σ := by
  intro l b sc dC dI cI cZ p e s m args below meth c hC hr hk hn
  exact RJ.irem hC hd hy (K l b sc dC dI cI cZ p e s m args below meth c hC hr hk hn)
theorem RM.iald {i : Int32} {q n : Nat} (hd : decode M.cc pc = .ok (.iaload, 1)) (hq : ds[q]? = some (.inr (false, n))) (hin : vp_in i n) (K : RM d M mc ms r ds' σ' cl sl (pc + 1) L (.int (σ q (ix i)) :: st) ds σ) : RM d M mc ms r ds' σ' cl sl pc L (.int i :: .ref q :: st) ds σ := by
  intro l b sc dC dI cI cZ p e s m args below meth c hC hr hk hn
  exact RJ.iald hC hd hq hin (K l b sc dC dI cI cZ p e s m args below meth c hC hr hk hn)
theorem RM.zald {i : Int32} {q n : Nat} (hd : decode M.cc pc = .ok (.baload, 1)) (hq : ds[q]? = some (.inr (true, n))) (hin : vp_in i n) (K : RM d M mc ms r ds' σ' cl sl (pc + 1) L (.int (σ q (ix i)) :: st) ds σ) : RM d M mc ms r ds' σ' cl sl pc L (.int i :: .ref q :: st) ds σ := by
  intro l b sc dC dI cI cZ p e s m args below meth c hC hr hk hn
  exact RJ.zald hC hd hq hin (K l b sc dC dI cI cZ p e s m args below meth c hC hr hk hn)
theorem RM.alen {q n : Nat} {z : Bool} (hd : decode M.cc pc = .ok (.arraylength, 1)) (hq : ds[q]? = some (.inr (z, n))) (K : RM d M mc ms r ds' σ' cl sl (pc + 1) L (.int (nI n) :: st) ds σ) : RM d M mc ms r ds' σ' cl sl pc L (.ref q :: st) ds σ := by
  intro l b sc dC dI cI cZ p e s m args below meth c hC hr hk hn
  exact RJ.alen hC hd hq (K l b sc dC dI cI cZ p e s m args below meth c hC hr hk hn)
theorem RM.iast {i x : Int32} {q n : Nat} (hd : decode M.cc pc = .ok (.iastore, 1)) (hq : ds[q]? = some (.inr (false, n))) (hin : vp_in i n) (K : RM d M mc ms r ds' σ' cl sl (pc + 1) L st ds (up σ q (ix i) x)) : RM d M mc ms r ds' σ' cl sl pc L (.int x :: .int i :: .ref q :: st) ds σ := by
  intro l b sc dC dI cI cZ p e s m args below meth c hC hr hk hn
  exact RJ.iast hC hd hq hin (K l b sc dC dI cI cZ p e s m args below meth c hC hr hk hn)
theorem RM.zast {i x : Int32} {q n : Nat} (hd : decode M.cc pc = .ok (.bastore, 1)) (hq : ds[q]? = some (.inr (true, n))) (hin : vp_in i n) (hx : vp_nar .boolean x = x) (K : RM d M mc ms r ds' σ' cl sl (pc + 1) L st ds (up σ q (ix i) x)) : RM d M mc ms r ds' σ' cl sl pc L (.int x :: .int i :: .ref q :: st) ds σ := by
  intro l b sc dC dI cI cZ p e s m args below meth c hC hr hk hn
  exact RJ.zast hC hd hq hin hx (K l b sc dC dI cI cZ p e s m args below meth c hC hr hk hn)
theorem tsK_imp {P P2 : Nat → Prop} {x : Int32} (h : ∀ t, P t → P2 t) : ∀ {r : List Nat} {k : Nat}, tsK P x k r → tsK P2 x k r
  | [], _, _ => trivial
  | t :: r, k, hK => ⟨fun e => h t (hK.1 e), tsK_imp h hK.2⟩
theorem RM.tsw {x : Int32} {ts : List Nat} {df : Nat} (hb : tsc M.cc pc = some (ts, df)) (hlen : ts.length < 1000) (K : tsK (fun t => RM d M mc ms r ds' σ' cl sl t L st ds σ) x 0 ts) (Kd : (x < 0 ∨ nI ts.length ≤ x) → RM d M mc ms r ds' σ' cl sl df L st ds σ) : RM d M mc ms r ds' σ' cl sl pc L (.int x :: st) ds σ := by
  intro l b sc dC dI cI cZ p e s m args below meth c hC hr hk hn
  exact RJ.tsw hC hb hlen (tsK_imp (fun t h => h l b sc dC dI cI cZ p e s m args below meth c hC hr hk hn) K) (fun h => Kd h l b sc dC dI cI cZ p e s m args below meth c hC hr hk hn)
def mxOK (oc : Nat) (bytes : ByteArray) (pc : Nat) : Bool := match decode bytes pc with
  | .ok (.invokestatic idx, 3) => decide (Cond.methodLink (cn oc) idx Lib.Math.max.name ∈ lw_tbl)
  | _ => false
def mnOK (oc : Nat) (bytes : ByteArray) (pc : Nat) : Bool := match decode bytes pc with
  | .ok (.invokestatic idx, 3) => decide (Cond.methodLink (cn oc) idx Lib.Math.min.name ∈ lw_tbl)
  | _ => false
theorem mx_ws : Cond.static Lib.Math.max.name ∈ TB ∧ Cond.initialized "java/lang/Math" ∈ TB ∧ Cond.code Lib.Math.max.name Lib.Math.max.code 2 (some .int) ∈ TB := ⟨TB_in (by decide +kernel) rfl, TB_in (by decide +kernel) rfl, TB_in (by decide +kernel) rfl⟩
theorem mn_ws : Cond.static Lib.Math.min.name ∈ TB ∧ Cond.initialized "java/lang/Math" ∈ TB ∧ Cond.code Lib.Math.min.name Lib.Math.min.code 2 (some .int) ∈ TB := ⟨TB_in (by decide +kernel) rfl, TB_in (by decide +kernel) rfl, TB_in (by decide +kernel) rfl⟩
theorem RM.mmax {x y : Int32} (ho : mxOK M.oc M.cc pc = true) (hd : 1 ≤ d) (hs : (st.map fun v => v.category).sum ≤ 8) (hcl : cl ≤ mc ∧ sl ≤ ms) (K : RM d M mc ms r ds' σ' cl sl (pc + 3) L (.int (mxI x y) :: st) ds σ) : RM d M mc ms r ds' σ' cl sl pc L (.int y :: .int x :: st) ds σ := by
  unfold mxOK at ho
  split at ho
  · rename_i idx hdg
    intro l b sc dC dI cI cZ p e s m args below meth c hC hr hk hn
    exact RJ.mmax hC hdg (TB_in (of_decide_eq_true ho) rfl) mx_ws ⟨hd, by show _ ≤ 40 * d; omega, hcl.1, hcl.2⟩ (K l b sc dC dI cI cZ p e s m args below meth c hC hr hk hn)
  · cases ho
theorem RM.mmin {x y : Int32} (ho : mnOK M.oc M.cc pc = true) (hd : 1 ≤ d) (hs : (st.map fun v => v.category).sum ≤ 8) (hcl : cl ≤ mc ∧ sl ≤ ms) (K : RM d M mc ms r ds' σ' cl sl (pc + 3) L (.int (mnI x y) :: st) ds σ) : RM d M mc ms r ds' σ' cl sl pc L (.int y :: .int x :: st) ds σ := by
  unfold mnOK at ho
  split at ho
  · rename_i idx hdg
    intro l b sc dC dI cI cZ p e s m args below meth c hC hr hk hn
    exact RJ.mmin hC hdg (TB_in (of_decide_eq_true ho) rfl) mn_ws ⟨hd, by show _ ≤ 40 * d; omega, hcl.1, hcl.2⟩ (K l b sc dC dI cI cZ p e s m args below meth c hC hr hk hn)
  · cases ho
theorem RM.callV {M2 : MI} {d2 n mc2 ms2 : Nat} {r2 : Option Value} {ds2 : List CDs} {σ2 : SG} (As : List Value) {q ci : Nat} {fs : List FDs} (hS1 : Sp d2 M2 mc2 ms2 (.ref q :: As) ds σ r2 ds2 σ2) (ho : vOK M.oc M.cc pc M2 = true) (hm : mOK M2 n = true) (hna : As.length = n) (hq : ds[q]? = some (.inl (ci, fs))) (hci : ci < 13) (hcn : ci = M2.oc)
    (hd : d2 < d) (hcl : cl + mc2 ≤ mc ∧ sl + ms2 ≤ ms) (hst : (st.map fun v => v.category).sum ≤ 8) {st0 : List Value} (hst0 : st0 = As.reverse ++ .ref q :: st)
    (K : RM d M mc ms r ds' σ' (cl + mc2) (sl + ms2) (pc + 3) L (r2.toList ++ st) ds2 σ2) : RM d M mc ms r ds' σ' cl sl pc L st0 ds σ := by
  intro l b sc dC dI cI cZ p e s m args below meth c hC hr hk hn
  exact RJ.callV hC hS1 ho hm hna hq hci hcn (R := rmD d mc ms) ⟨hd, by show 8 + (20 + 11) + 40 * d2 ≤ 40 * d; omega, hcl.1, hcl.2⟩ hst hst0 (K l b sc dC dI cI cZ p e s m args below meth c hC hr hk hn)
theorem RM.callS {M2 : MI} {d2 n mc2 ms2 : Nat} {r2 : Option Value} {ds2 : List CDs} {σ2 : SG} (As : List Value) (hS1 : Sp d2 M2 mc2 ms2 As ds σ r2 ds2 σ2) (ho : sOK M.oc M.cc pc M2 = true) (hm : mOK M2 n = true) (hna : As.length = n)
    (hd : d2 < d) (hcl : cl + mc2 ≤ mc ∧ sl + ms2 ≤ ms) (hst : (st.map fun v => v.category).sum ≤ 8) {st0 : List Value} (hst0 : st0 = As.reverse ++ st)
    (K : RM d M mc ms r ds' σ' (cl + mc2) (sl + ms2) (pc + 3) L (r2.toList ++ st) ds2 σ2) : RM d M mc ms r ds' σ' cl sl pc L st0 ds σ := by
  intro l b sc dC dI cI cZ p e s m args below meth c hC hr hk hn
  exact RJ.callS hC hS1 ho hm hna (R := rmD d mc ms) ⟨hd, by show 8 + (20 + 11) + 40 * d2 ≤ 40 * d; omega, hcl.1, hcl.2⟩ hst hst0 (K l b sc dC dI cI cZ p e s m args below meth c hC hr hk hn)
theorem RM.callI {M2 : MI} {d2 n mc2 ms2 : Nat} {r2 : Option Value} {ds2 : List CDs} {σ2 : SG} (As : List Value) {q : Nat} (hS1 : Sp d2 M2 mc2 ms2 (.ref q :: As) ds σ r2 ds2 σ2) (ho : iOK M.oc M.cc pc M2 = true) (hm : mOK M2 n = true) (hna : As.length = n)
    (hd : d2 < d) (hcl : cl + mc2 ≤ mc ∧ sl + ms2 ≤ ms) (hst : (st.map fun v => v.category).sum ≤ 8) {st0 : List Value} (hst0 : st0 = As.reverse ++ .ref q :: st)
    (K : RM d M mc ms r ds' σ' (cl + mc2) (sl + ms2) (pc + 3) L (r2.toList ++ st) ds2 σ2) : RM d M mc ms r ds' σ' cl sl pc L st0 ds σ := by
  intro l b sc dC dI cI cZ p e s m args below meth c hC hr hk hn
  exact RJ.callI hC hS1 ho hm hna (R := rmD d mc ms) ⟨hd, by show 8 + (20 + 11) + 40 * d2 ≤ 40 * d; omega, hcl.1, hcl.2⟩ hst hst0 (K l b sc dC dI cI cZ p e s m args below meth c hC hr hk hn)
theorem RM.obj {q : Nat} (ho : oOK M.oc M.cc pc = true) (hd : 1 ≤ d) (hst : (st.map fun v => v.category).sum ≤ 8) (K : RM d M mc ms r ds' σ' cl sl (pc + 3) L st ds σ) : RM d M mc ms r ds' σ' cl sl pc L (.ref q :: st) ds σ := by
  intro l b sc dC dI cI cZ p e s m args below meth c hC hr hk hn
  exact RJ.obj hC ho ⟨hd, by show _ ≤ 40 * d; omega⟩ (K l b sc dC dI cI cZ p e s m args below meth c hC hr hk hn)
theorem RM.new {ci : Nat} (ho : nOK M.oc M.cc pc ci = true) (hcl : cl + 1 ≤ mc ∧ sl + cN ci ≤ ms)
    (K : RM d M mc ms r ds' σ' (cl + 1) (sl + cN ci) (pc + 3) L (.ref ds.length :: st) (ds ++ [.inl (ci, fs0 ci)]) (up0 σ ds.length)) : RM d M mc ms r ds' σ' cl sl pc L st ds σ := by
  intro l b sc dC dI cI cZ p e s m args below meth c hC hr hk hn
  exact RJ.new hC ho hcl (K l b sc dC dI cI cZ p e s m args below meth c hC hr hk hn)
theorem RM.newI {k : Nat} (hd : decode M.cc pc = .ok (.newarray .int, 2)) (hkk : k ≤ 65536) (hcl : cl + 1 ≤ mc ∧ sl + k ≤ ms)
    (K : RM d M mc ms r ds' σ' (cl + 1) (sl + k) (pc + 2) L (.ref ds.length :: st) (ds ++ [.inr (false, k)]) (up0 σ ds.length)) : RM d M mc ms r ds' σ' cl sl pc L (.int (nI k) :: st) ds σ := by
  intro l b sc dC dI cI cZ p e s m args below meth c hC hr hk hn
  exact RJ.newI hC hd hkk hcl (K l b sc dC dI cI cZ p e s m args below meth c hC hr hk hn)
theorem RM.newZ {k : Nat} (hd : decode M.cc pc = .ok (.newarray .boolean, 2)) (hkk : k ≤ 65536) (hcl : cl + 1 ≤ mc ∧ sl + k ≤ ms)
    (K : RM d M mc ms r ds' σ' (cl + 1) (sl + k) (pc + 2) L (.ref ds.length :: st) (ds ++ [.inr (true, k)]) (up0 σ ds.length)) : RM d M mc ms r ds' σ' cl sl pc L (.int (nI k) :: st) ds σ := by
  intro l b sc dC dI cI cZ p e s m args below meth c hC hr hk hn
  exact RJ.newZ hC hd hkk hcl (K l b sc dC dI cI cZ p e s m args below meth c hC hr hk hn)
theorem RM.putR {ci k q w : Nat} {fs : List FDs} (ho : pOK M.oc M.cc pc ci k = true) (hname : M.y.name = "<init>") (hd : ds[q]? = some (.inl (ci, fs))) (hfk : k < fs.length)
    (K : RM d M mc ms r ds' σ' cl sl (pc + 3) L st (ds.set q (.inl (ci, fs.set k (some (some w))))) σ) : RM d M mc ms r ds' σ' cl sl pc L (.ref w :: .ref q :: st) ds σ := by
  intro l b sc dC dI cI cZ p e s m args below meth c hC hr hk hn
  exact RJ.putR hC ho (hn.trans hname) hd hfk (K l b sc dC dI cI cZ p e s m args below meth c hC hr hk hn)
end RM1
section RM2
variable {d : Nat} {M : MI} {mc ms : Nat} {pc : Nat} {L : List (Option Value)} {ds : List CDs} {σ : SG}
theorem RM.reti {v : Int32} (hd : decode M.cc pc = .ok (.ireturn, 1)) (hrt : M.rt = some .int) : RM d M mc ms (some (.int v)) ds σ mc ms pc L [.int v] ds σ := by
  intro l b sc dC dI cI cZ p e s m args below meth c hC hr hk hn
  exact fun H locs ls hW hS hl => W.iret hC.1 hC.2.1 (hr.trans hrt) (fun t ht _ => ⟨⟨rfl, by rw [ht]; exact hW⟩, hS.F ht⟩) (fun q hq => hS.2.2 q hq) hd hk
theorem RM.retz {z : Bool} (hd : decode M.cc pc = .ok (.ireturn, 1)) (hrt : M.rt = some .boolean) : RM d M mc ms (some (.int (bI z))) ds σ mc ms pc L [.int (bI z)] ds σ := by
  intro l b sc dC dI cI cZ p e s m args below meth c hC hr hk hn
  exact fun H locs ls hW hS hl => W.zret hC.1 hC.2.1 (hr.trans hrt) (bI_nar z) (fun t ht _ => ⟨⟨rfl, by rw [ht]; exact hW⟩, hS.F ht⟩) (fun q hq => hS.2.2 q hq) hd hk
theorem RM.retl {v : Int64} (hd : decode M.cc pc = .ok (.lreturn, 1)) (hrt : M.rt = some .long) : RM d M mc ms (some (.long v)) ds σ mc ms pc L [.long v] ds σ := by
  intro l b sc dC dI cI cZ p e s m args below meth c hC hr hk hn
  exact fun H locs ls hW hS hl => W.lret hC.1 hC.2.1 (hr.trans hrt) (fun t ht _ => ⟨⟨rfl, by rw [ht]; exact hW⟩, hS.F ht⟩) (fun q hq => hS.2.2 q hq) hd hk
theorem RM.retv (hd : decode M.cc pc = .ok (.return_, 1)) (hrt : M.rt = none) : RM d M mc ms none ds σ mc ms pc L [] ds σ := by
  intro l b sc dC dI cI cZ p e s m args below meth c hC hr hk hn
  exact fun H locs ls hW hS hl => W.vret hC.1 hC.2.1 (hr.trans hrt) (fun t ht _ => ⟨⟨rfl, by rw [ht]; exact hW⟩, hS.F ht⟩) (fun q hq => hS.2.2 q hq) hd hk
def cat1 (as : List Value) : Bool := as.all (fun v => v.category == 1)
theorem lv_args_mem (b sc : Nat) : ∀ (as : List Value) (n i : Nat) (q : Nat × Value), cat1 as = true → q ∈ lc b sc i (as.map some ++ List.replicate n none) → q ∈ lv_args i (as.map (vC b sc))
  | [], 0, i, q, _, h => by simp [lc] at h
  | [], n + 1, i, q, hc, h => by
    rw [List.replicate_succ] at h
    exact absurd (lv_args_mem b sc [] n (i + 1) q hc h) (by simp [lv_args])
  | v :: as, n, i, q, hc, h => by
    simp only [cat1, List.all_cons, Bool.and_eq_true, beq_iff_eq] at hc
    rw [List.map_cons, List.cons_append, show lc b sc i (some v :: (as.map some ++ List.replicate n none)) = (i, vC b sc v) :: lc b sc (i + 1) (as.map some ++ List.replicate n none) from rfl] at h
    rw [List.map_cons, show lv_args i (vC b sc v :: as.map (vC b sc)) = (i, vC b sc v) :: lv_args (if (vC b sc v).category = 2 then i + 2 else i + 1) (as.map (vC b sc)) from rfl, vC_cat, hc.1, if_neg (by decide)]
    rcases List.mem_cons.mp h with h | h
    · exact List.mem_cons.mpr (Or.inl h)
    · exact List.mem_cons_of_mem _ (lv_args_mem b sc as n (i + 1) q hc.2 h)
theorem lg_sl_len (b sc : Nat) : ∀ (as : List Value), cat1 as = true → (lg_sl (as.map (vC b sc))).length = as.length
  | [], _ => rfl
  | v :: as, hc => by
    simp only [cat1, List.all_cons, Bool.and_eq_true, beq_iff_eq] at hc
    have ih := lg_sl_len b sc as hc.2
    simp only [lg_sl, List.map_cons, List.flatMap_cons, List.length_append] at ih ⊢
    rw [vC_cat, hc.1, if_neg (by decide), ih]
    simp
    omega
/-- the entry: a walk from pc 0 is a contract -/
theorem Sp.of {n : Nat} {as : List Value} {r : Option Value} {ds' : List CDs} {σ' : SG} (hm : mOK M n = true) (hcat : cat1 as = true) (hlen : as.length ≤ M.nL) (h : RM d M mc ms r ds' σ' 0 0 0 (as.map some ++ List.replicate (M.nL - as.length) none) [] ds σ) : Sp d M mc ms as ds σ r ds' σ' := by
  obtain ⟨m1, m2, m3, m4, m5, m6, m7, m8⟩ := mOK_of hm
  intro l b sc dC dI cI cZ
  refine Met.ofW (cc := M.cc) (maxL := M.nL) (ret := M.rt) m7 rfl ?_
  intro p e s m args below meth c s₁ B hml hv
  obtain ⟨rfl, hW, hK, hN⟩ := hv
  have hts := atoms_spec (ws := M.ws) B.pre
  have hown : s.vm.findClass (cn M.oc) = some m.cls := by rw [← m1]; exact findClass_of_methodNamed B.named
  have hl := lv_entry (as.map (vC b sc)) (n := M.nL) (by rw [lg_sl_len b sc as hcat]; exact hlen)
  rw [lg_entry_eq]
  generalize (lg_sl (as.map (vC b sc)) ++ List.replicate (M.nL - (lg_sl (as.map (vC b sc))).length) Slot.unset).toArray = ls at hl ⊢
  have hl2 : lv_has ls M.nL (lc b sc 0 (as.map some ++ List.replicate (M.nL - as.length) none)) := ⟨hl.1, hl.2.1, fun q hq => hl.2.2 q (lv_args_mem b sc as _ 0 q hcat hq)⟩
  exact h l b sc dC dI cI cZ p e s m _ below meth c ⟨B.exec, B.bytes, hml, hown, fun w hw => hts w (List.mem_cons_of_mem _ hw), hK, by have := hW.1; omega, hN⟩ B.returns B.notSynchronized (name_of_methodNamed B.named B.method).1 s.heap [] ls hW va_S.rf hl2
end RM2
