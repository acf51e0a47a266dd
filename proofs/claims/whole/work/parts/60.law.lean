/-! law: the walk of the law -/
/-! THE CLAIM OUT OF ONE WALK OF THE LAW'S BODY. Your part is whole_start (and what it stands on); all else here is the same for every law, but numbers. -/
def R_law : String := "MosaicShopLaw"
def lw_P (b : Addr) (xs : List Int32) (args : Array Value) (s : State) : Prop := args = #[.ref b] ∧ s.IntsAt b xs ∧ xs.length ≤ 3072 ∧ (Jvm.Cond.and given_1 narrow_1).before args s = true
def lw_Q (_ : Array Value) (s : State) (o : Outcome) (t : State) : Prop := o = .returned (some (.int 1)) ∧ Framed s o t [] 600000 7302250
def lw_Z (below : List Frame) (a : Array Value) (s : State) : State → Prop := fun t => ∃ o, t.status = .running ∧ Ended t below o ∧ lw_Q a s o t
/-- the law's own end, with 1 on the stack, nothing written that was there before, its room as the claim has it -/
theorem lw_ret {p : Program} {l : Launch} {e : Env} {s : State} {m : MethodId} {below : List Frame} {meth : Method} {c : Code} {b : Nat} (hx : p.tables.exec = Jvm.exec) (hb : c.code = code) (hr : meth.sig.returnType = ret) (hlocks : meth.locks = false) {pc : Nat} {H : Heap} {ls : Array Slot} (hdg : decode code pc = .ok (.ireturn, 1)) : W p l e room_1 s m #[Value.ref b] below meth c H [] 600000 7302250 (lw_Z below #[Value.ref b] s) (F0 m pc ls [.int 1]) := by
  intro T hT X
  obtain ⟨fs, hret, hrun, hended, hW, hframe⟩ := X.leave (v := some (.int 1)) (hlocks := hlocks) (fun h => by rw [hr] at h; cases h)
  have hmeth' : T.vm.method? m = some meth := X.method'
  refine ⟨T.setFrames fs, ?_, .returned (some (.int 1)), hrun, hended, rfl, ⟨_, rfl⟩, hW, hframe⟩
  jvm_step X.here [X.here.top, hx, hb, hdg, hmeth', hr, ret, narrow_b1]
  (try refine ⟨rfl, ?_⟩); (try refine ⟨rfl, ?_⟩)
  first | (intro acts; rw [hret _ acts rfl rfl rfl]) | rw [hret _ _ rfl rfl rfl]
  exact Steps.refl _
/-- what holds at the law's entry: the machine, the code, the tables' words (any of lw_tbl by 'hts w (by decide +kernel)'), the script of L ints xs at the cell b, what the Statement gives of the start (any of its parts by flat_of_before) -/
def lw_At (p : Program) (s : State) (m : MethodId) (meth : Method) (c : Code) (b L : Nat) (xs : Nat → Int32) : Prop :=
  p.tables.exec = Jvm.exec ∧ c.code = code ∧ meth.sig.returnType = ret ∧ c.maxLocals = 4 ∧ s.vm.findClass R_law = some m.cls ∧ (∀ w ∈ lw_tbl, w.before #[Value.ref b] s = true) ∧ va_X b L xs s s.heap ∧ b < s.heap.size ∧ meth.locks = false ∧ (Jvm.Cond.and given_1 narrow_1).before #[Value.ref b] s = true
def LX (b sc : Nat) (dC : Nat → ClassId) (dI : Nat → Nat → Nat) (cI cZ : ClassId) (p : Program) (s : State) (m : MethodId) (meth : Method) (c : Code) (len : Nat) (xs : Nat → Int32) : Prop := CX b dC dI cI cZ (cn 13) code 4 p s m #[Value.ref sc] c ∧ va_X sc len xs s s.heap ∧ sc < s.heap.size ∧ b = s.heap.size ∧ meth.sig.returnType = ret ∧ meth.locks = false
def LL (k : Nat) : List (Option Value) := [some .null, some (.ref 0), some (.ref 76), some (.int (nI k))]
/-- the law from pc on, with both objects made -/
def LM (len : Nat) (xs : Nat → Int32) (k pc : Nat) (st : List Value) (σ : SG) : Prop := ∀ (b sc : Nat) (dC : Nat → ClassId) (dI : Nat → Nat → Nat) (cI cZ : ClassId) (p : Program) (l : Launch) (e : Env) (s : State) (m : MethodId) (below : List Frame) (meth : Method) (c : Code), LX b sc dC dI cI cZ p s m meth c len xs → RJ b sc dC dI cI cZ 4 p l e room_1 s m #[Value.ref sc] below meth c 103 6000 (lw_Z below #[Value.ref sc] s) pc (LL k) st DS σ
section LMs
variable {len : Nat} {xs : Nat → Int32} {k pc : Nat} {st : List Value} {σ : SG}
theorem LM.blk (is : List AI) {k' pc' : Nat} {st' : List Value} {σ' : SG} (hx : nxs 13 4 code pc is = some pc') (he : exs DS is (LL k) st σ = some (LL k', st', σ')) (K : LM len xs k' pc' st' σ') : LM len xs k pc st σ := fun b sc dC dI cI cZ p l e s m below meth c h => RJ.blk h.1 is hx he (K b sc dC dI cI cZ p l e s m below meth c h)
theorem RJ.sld {b sc : Nat} {dC : Nat → ClassId} {dI : Nat → Nat → Nat} {cI cZ : ClassId} {p : Program} {l : Launch} {e : Env} {s : State} {m : MethodId} {below : List Frame} {meth : Method} {c : Code} {cells slots : Nat} {Q : State → Prop} {L : List (Option Value)} {ds : List CDs} {i : Int32} (h : LX b sc dC dI cI cZ p s m meth c len xs) (hin : vp_in i len) (hd : decode code pc = .ok (.iaload, 1)) (K : RJ b sc dC dI cI cZ 4 p l e room_1 s m #[Value.ref sc] below meth c cells slots Q (pc + 1) L (.int (xs (ix i)) :: st) ds σ) : RJ b sc dC dI cI cZ 4 p l e room_1 s m #[Value.ref sc] below meth c cells slots Q pc L (.int i :: .null :: st) ds σ := by
  obtain ⟨hC, hX, hlt, hb, -⟩ := h
  intro H locs ls hW hS hl
  exact va_sld (rest := st.map (vC b sc)) hC.1 hC.2.1 hX hlt (fun hq : b ≤ sc => by omega) hS hin hd (K H locs ls hW hS hl)
theorem RJ.slen {b sc : Nat} {dC : Nat → ClassId} {dI : Nat → Nat → Nat} {cI cZ : ClassId} {p : Program} {l : Launch} {e : Env} {s : State} {m : MethodId} {below : List Frame} {meth : Method} {c : Code} {cells slots : Nat} {Q : State → Prop} {L : List (Option Value)} {ds : List CDs} (h : LX b sc dC dI cI cZ p s m meth c len xs) (hd : decode code pc = .ok (.arraylength, 1)) (K : RJ b sc dC dI cI cZ 4 p l e room_1 s m #[Value.ref sc] below meth c cells slots Q (pc + 1) L (.int (nI len) :: st) ds σ) : RJ b sc dC dI cI cZ 4 p l e room_1 s m #[Value.ref sc] below meth c cells slots Q pc L (.null :: st) ds σ := by
  obtain ⟨hC, hX, hlt, hb, -⟩ := h
  intro H locs ls hW hS hl
  exact va_slen (rest := st.map (vC b sc)) hC.1 hC.2.1 hX hlt (fun hq : b ≤ sc => by omega) hS hd (K H locs ls hW hS hl)
theorem LM.sld {i : Int32} (hin : vp_in i len) (hd : decode code pc = .ok (.iaload, 1)) {pc3 : Nat} (K : LM len xs k pc3 (.int (xs (ix i)) :: st) σ) (hp : pc + 1 = pc3 := by rfl) : LM len xs k pc (.int i :: .null :: st) σ := by
  subst hp
  exact fun b sc dC dI cI cZ p l e s m below meth c h => RJ.sld h hin hd (K b sc dC dI cI cZ p l e s m below meth c h)
theorem LM.slen (hd : decode code pc = .ok (.arraylength, 1)) {pc3 : Nat} (K : LM len xs k pc3 (.int (nI len) :: st) σ) (hp : pc + 1 = pc3 := by rfl) : LM len xs k pc (.null :: st) σ := by
  subst hp
  exact fun b sc dC dI cI cZ p l e s m below meth c h => RJ.slen h hd (K b sc dC dI cI cZ p l e s m below meth c h)
/-- script[i + j] -/
theorem LM.arg (j : Nat) {pc4 pc5 : Nat} (hj : k + j < len) (hlen : len ≤ 3072) (hx : nxs 13 4 code pc [(2, 0, 0, .null), (1, 3, 0, .null), (0, 0, 0, .int (nI j)), (5, 0, 0, .null)] = some pc4) (hd : decode code pc4 = .ok (.iaload, 1)) (K : LM len xs k pc5 (.int (xs (k + j)) :: st) σ) (hp : pc4 + 1 = pc5 := by rfl) : LM len xs k pc st σ := by
  refine LM.blk [(2, 0, 0, .null), (1, 3, 0, .null), (0, 0, 0, .int (nI j)), (5, 0, 0, .null)] (k' := k) (st' := .int (nI k + nI j) :: .null :: st) (σ' := σ) hx rfl ?_
  rw [nI_add]
  refine LM.sld (vp_in_nI hj (by omega)) hd ?_ hp
  rw [ix_nI (by omega)]
  exact K
theorem LM.if_eq {x : Int32} {tgt : Nat} (hb : brc code pc = some (0, tgt)) (kt : x = 0 → LM len xs k tgt st σ) (kf : ¬ x = 0 → LM len xs k (pc + 3) st σ) : LM len xs k pc (.int x :: st) σ := fun b sc dC dI cI cZ p l e s m below meth c h => RJ.if_eq h.1 hb (fun q => kt q b sc dC dI cI cZ p l e s m below meth c h) (fun q => kf q b sc dC dI cI cZ p l e s m below meth c h)
theorem LM.icmp_eq {x y : Int32} {tgt : Nat} (hb : brc code pc = some (6, tgt)) (kt : x = y → LM len xs k tgt st σ) (kf : ¬ x = y → LM len xs k (pc + 3) st σ) : LM len xs k pc (.int y :: .int x :: st) σ := fun b sc dC dI cI cZ p l e s m below meth c h => RJ.icmp_eq h.1 hb (fun q => kt q b sc dC dI cI cZ p l e s m below meth c h) (fun q => kf q b sc dC dI cI cZ p l e s m below meth c h)
theorem LM.icmp_gt {x y : Int32} {tgt : Nat} (hb : brc code pc = some (10, tgt)) (kt : y < x → LM len xs k tgt st σ) (kf : ¬ y < x → LM len xs k (pc + 3) st σ) : LM len xs k pc (.int y :: .int x :: st) σ := fun b sc dC dI cI cZ p l e s m below meth c h => RJ.icmp_gt h.1 hb (fun q => kt q b sc dC dI cI cZ p l e s m below meth c h) (fun q => kf q b sc dC dI cI cZ p l e s m below meth c h)
theorem tsK_all {P P2 : Nat → Prop} {x : Int32} (h : ∀ t, P t → P2 t) : ∀ {r : List Nat} {k : Nat}, tsK P x k r → tsK P2 x k r
  | [], _, _ => trivial
  | _ :: _, _, hK => ⟨fun e => h _ (hK.1 e), tsK_all h hK.2⟩
theorem LM.tsw {x : Int32} {ts : List Nat} {df : Nat} (hb : tsc code pc = some (ts, df)) (hlen : ts.length < 1000) (K : tsK (fun t => LM len xs k t st σ) x 0 ts) (Kd : LM len xs k df st σ) : LM len xs k pc (.int x :: st) σ := fun b sc dC dI cI cZ p l e s m below meth c h => RJ.tsw h.1 hb hlen (tsK_all (fun t q => q b sc dC dI cI cZ p l e s m below meth c h) K) (fun _ => Kd b sc dC dI cI cZ p l e s m below meth c h)
/-- x != 0 -/
theorem LM.zarg {x : Int32} {T E : Nat} (hb : brc code pc = some (0, T)) (h1 : nxs 13 4 code (pc + 3) [(0, 0, 0, .int 1), (23, 0, 0, .null)] = some E) (h0 : nxs 13 4 code T [(0, 0, 0, .int 0)] = some E) (K : LM len xs k E (.int (bI (decide (¬ x = 0))) :: st) σ) : LM len xs k pc (.int x :: st) σ := by
  refine LM.if_eq hb (fun h => ?_) (fun h => ?_)
  · refine LM.blk [(0, 0, 0, .int 0)] (k' := k) (st' := .int 0 :: st) (σ' := σ) h0 rfl ?_
    rw [decide_eq_false (fun q => q h)] at K
    exact K
  · refine LM.blk [(0, 0, 0, .int 1), (23, 0, 0, .null)] (k' := k) (st' := .int 1 :: st) (σ' := σ) h1 rfl ?_
    rw [decide_eq_true h] at K
    exact K
theorem LM.callV {M : MI} {d n : Nat} {r : Option Value} {σ2 : SG} (As : List Value) {q ci : Nat} {fs : List FDs} (hS1 : SpN d M (.ref q :: As) σ r σ2) (st : List Value) {pc3 : Nat} {st3 st0 : List Value} (ho : vOK 13 code pc M = true) (hm : mOK M n = true) (hd : d ≤ 100) (K : LM len xs k pc3 st3 σ2) (hst : Nat.ble (st.map fun v => v.category).sum 8 = true := by rfl) (hna : As.length = n := by rfl) (hq : DS[q]? = some (.inl (ci, fs)) := by rfl) (hci : ci < 13 := by decide) (hcn : ci = M.oc := by rfl) (hst0 : st0 = As.reverse ++ .ref q :: st := by rfl) (hp : pc + 3 = pc3 := by rfl) (hs3 : r.toList ++ st = st3 := by rfl) : LM len xs k pc st0 σ := by
  subst hp; subst hs3
  intro b sc dC dI cI cZ p l e s m below meth c h
  exact RJ.callV h.1 hS1 ho hm hna hq hci hcn ⟨by show d + 1 ≤ 2048; omega, by show 8 + (20 + 11) + 40 * d ≤ 84000; omega, by show 103 + 0 ≤ 600000; omega, by show 6000 + 0 ≤ 7302250; omega⟩ (Nat.le_of_ble_eq_true hst) hst0 (K b sc dC dI cI cZ p l e s m below meth c h)
theorem LM.lcmp {x : Int64} (hd : decode code pc = .ok (.lcmp, 1)) {pc3 : Nat} (K : LM len xs k pc3 (.int 0 :: st) σ) (hp : pc + 1 = pc3 := by rfl) : LM len xs k pc (.long x :: .long x :: st) σ := by
  subst hp
  intro b sc dC dI cI cZ p l e s m below meth c h H locs ls hW hS hl
  refine W.lcmp (rest := st.map (vC b sc)) h.1.1 h.1.2.1 hd ?_
  have e1 : lg_cmp x x = 0 := by simp [lg_cmp]
  rw [e1]
  exact K b sc dC dI cI cZ p l e s m below meth c h H locs ls hW hS hl
theorem LM.ret (hd : decode code pc = .ok (.ireturn, 1)) : LM len xs k pc [.int 1] σ := by
  intro b sc dC dI cI cZ p l e s m below meth c h H locs ls hW hS hl
  obtain ⟨hC, hX, hlt, hb, hr, hlk⟩ := h
  refine va_forget (fun q hq => by have := hS.2.2 q hq; show s.heap.size ≤ q.base; omega) ?_
  refine W.widen (k := 600000) (n := 7302250) (by omega) (by omega) ?_
  exact lw_ret hC.1 hC.2.1 hr hlk hd
end LMs
theorem law_0 {len : Nat} {xs : Nat → Int32} {k : Nat} {σ : SG} (hlen : len ≤ 3072) (hk : k + 6 ≤ len) (hR : R σ) (K : ∀ σ', R σ' → LM len xs k 915 [] σ') : LM len xs k 144 [] σ := by
  obtain ⟨r, σ1, σ2, h1, h2, h3⟩ := op_wall hR (xs (k + 1)) (xs (k + 2))
  refine LM.blk [(2, 1, 0, .null)] (k' := k) (pc' := 145) (st' := [.ref 0]) (σ' := σ) (by decide +kernel) rfl ?_
  refine LM.arg 1 (pc4 := 149) (pc5 := 150) (by omega) hlen (by decide +kernel) (by decide +kernel) ?_
  refine LM.arg 2 (pc4 := 154) (pc5 := 155) (by omega) hlen (by decide +kernel) (by decide +kernel) ?_
  refine LM.callV [.int (xs (k + 1)), .int (xs (k + 2))] (q := 0) (s_Shop_wall σ (xs (k + 1)) (xs (k + 2)) r σ1 h1) [] (pc3 := 158) (st3 := [.int r]) (by decide +kernel) mk_Shop_wall (by decide) ?_
  refine LM.blk [(2, 2, 0, .null)] (k' := k) (pc' := 159) (st' := [.ref 76, .int r]) (σ' := σ1) (by decide +kernel) rfl ?_
  refine LM.arg 1 (pc4 := 163) (pc5 := 164) (by omega) hlen (by decide +kernel) (by decide +kernel) ?_
  refine LM.arg 2 (pc4 := 168) (pc5 := 169) (by omega) hlen (by decide +kernel) (by decide +kernel) ?_
  refine LM.callV [.int (xs (k + 1)), .int (xs (k + 2))] (q := 76) (s_Ref_wall σ1 (xs (k + 1)) (xs (k + 2)) r σ2 h2) [.int r] (pc3 := 172) (st3 := [.int r, .int r]) (by decide +kernel) mk_Ref_wall (by decide) ?_
  exact LM.icmp_eq (tgt := 915) (by decide +kernel) (fun _ => K σ2 h3) (fun h => absurd rfl h)
theorem law_1 {len : Nat} {xs : Nat → Int32} {k : Nat} {σ : SG} (hlen : len ≤ 3072) (hk : k + 6 ≤ len) (hR : R σ) (K : ∀ σ', R σ' → LM len xs k 915 [] σ') : LM len xs k 177 [] σ := by
  obtain ⟨r, σ1, σ2, h1, h2, h3⟩ := op_draw hR (xs (k + 1)) (xs (k + 2)) (xs (k + 3)) (xs (k + 4)) (xs (k + 5))
  refine LM.blk [(2, 1, 0, .null)] (k' := k) (pc' := 178) (st' := [.ref 0]) (σ' := σ) (by decide +kernel) rfl ?_
  refine LM.arg 1 (pc4 := 182) (pc5 := 183) (by omega) hlen (by decide +kernel) (by decide +kernel) ?_
  refine LM.arg 2 (pc4 := 187) (pc5 := 188) (by omega) hlen (by decide +kernel) (by decide +kernel) ?_
  refine LM.arg 3 (pc4 := 192) (pc5 := 193) (by omega) hlen (by decide +kernel) (by decide +kernel) ?_
  refine LM.arg 4 (pc4 := 197) (pc5 := 198) (by omega) hlen (by decide +kernel) (by decide +kernel) ?_
  refine LM.arg 5 (pc4 := 202) (pc5 := 203) (by omega) hlen (by decide +kernel) (by decide +kernel) ?_
  refine LM.callV [.int (xs (k + 1)), .int (xs (k + 2)), .int (xs (k + 3)), .int (xs (k + 4)), .int (xs (k + 5))] (q := 0) (s_Shop_draw σ (xs (k + 1)) (xs (k + 2)) (xs (k + 3)) (xs (k + 4)) (xs (k + 5)) r σ1 h1) [] (pc3 := 206) (st3 := [.int r]) (by decide +kernel) mk_Shop_draw (by decide) ?_
  refine LM.blk [(2, 2, 0, .null)] (k' := k) (pc' := 207) (st' := [.ref 76, .int r]) (σ' := σ1) (by decide +kernel) rfl ?_
  refine LM.arg 1 (pc4 := 211) (pc5 := 212) (by omega) hlen (by decide +kernel) (by decide +kernel) ?_
  refine LM.arg 2 (pc4 := 216) (pc5 := 217) (by omega) hlen (by decide +kernel) (by decide +kernel) ?_
  refine LM.arg 3 (pc4 := 221) (pc5 := 222) (by omega) hlen (by decide +kernel) (by decide +kernel) ?_
  refine LM.arg 4 (pc4 := 226) (pc5 := 227) (by omega) hlen (by decide +kernel) (by decide +kernel) ?_
  refine LM.arg 5 (pc4 := 231) (pc5 := 232) (by omega) hlen (by decide +kernel) (by decide +kernel) ?_
  refine LM.callV [.int (xs (k + 1)), .int (xs (k + 2)), .int (xs (k + 3)), .int (xs (k + 4)), .int (xs (k + 5))] (q := 76) (s_Ref_draw σ1 (xs (k + 1)) (xs (k + 2)) (xs (k + 3)) (xs (k + 4)) (xs (k + 5)) r σ2 h2) [.int r] (pc3 := 235) (st3 := [.int r, .int r]) (by decide +kernel) mk_Ref_draw (by decide) ?_
  exact LM.icmp_eq (tgt := 915) (by decide +kernel) (fun _ => K σ2 h3) (fun h => absurd rfl h)
theorem law_2 {len : Nat} {xs : Nat → Int32} {k : Nat} {σ : SG} (hlen : len ≤ 3072) (hk : k + 6 ≤ len) (hR : R σ) (K : ∀ σ', R σ' → LM len xs k 915 [] σ') : LM len xs k 240 [] σ := by
  have h2 := op_field hR (xs (k + 1)) (xs (k + 2))
  have h1 := s_Shop_field σ (xs (k + 1)) (xs (k + 2))
  generalize F_Shop_field σ (xs (k + 1)) (xs (k + 2)) = r at h1 h2
  refine LM.blk [(2, 1, 0, .null)] (k' := k) (pc' := 241) (st' := [.ref 0]) (σ' := σ) (by decide +kernel) rfl ?_
  refine LM.arg 1 (pc4 := 245) (pc5 := 246) (by omega) hlen (by decide +kernel) (by decide +kernel) ?_
  refine LM.arg 2 (pc4 := 250) (pc5 := 251) (by omega) hlen (by decide +kernel) (by decide +kernel) ?_
  refine LM.callV [.int (xs (k + 1)), .int (xs (k + 2))] (q := 0) h1 [] (pc3 := 254) (st3 := [.int r]) (by decide +kernel) mk_Shop_field (by decide) ?_
  refine LM.blk [(2, 2, 0, .null)] (k' := k) (pc' := 255) (st' := [.ref 76, .int r]) (σ' := σ) (by decide +kernel) rfl ?_
  refine LM.arg 1 (pc4 := 259) (pc5 := 260) (by omega) hlen (by decide +kernel) (by decide +kernel) ?_
  refine LM.arg 2 (pc4 := 264) (pc5 := 265) (by omega) hlen (by decide +kernel) (by decide +kernel) ?_
  refine LM.callV [.int (xs (k + 1)), .int (xs (k + 2))] (q := 76) (s_Ref_field σ (xs (k + 1)) (xs (k + 2)) r h2) [.int r] (pc3 := 268) (st3 := [.int r, .int r]) (by decide +kernel) mk_Ref_field (by decide) ?_
  exact LM.icmp_eq (tgt := 915) (by decide +kernel) (fun _ => K σ hR) (fun h => absurd rfl h)
theorem law_3 {len : Nat} {xs : Nat → Int32} {k : Nat} {σ : SG} (hlen : len ≤ 3072) (hk : k + 6 ≤ len) (hR : R σ) (K : ∀ σ', R σ' → LM len xs k 915 [] σ') : LM len xs k 273 [] σ := by
  obtain ⟨r, σ1, σ2, h1, h2, h3⟩ := op_colour hR (xs (k + 1)) (xs (k + 2)) (xs (k + 3)) (xs (k + 4))
  refine LM.blk [(2, 1, 0, .null)] (k' := k) (pc' := 274) (st' := [.ref 0]) (σ' := σ) (by decide +kernel) rfl ?_
  refine LM.arg 1 (pc4 := 278) (pc5 := 279) (by omega) hlen (by decide +kernel) (by decide +kernel) ?_
  refine LM.arg 2 (pc4 := 283) (pc5 := 284) (by omega) hlen (by decide +kernel) (by decide +kernel) ?_
  refine LM.arg 3 (pc4 := 288) (pc5 := 289) (by omega) hlen (by decide +kernel) (by decide +kernel) ?_
  refine LM.arg 4 (pc4 := 293) (pc5 := 294) (by omega) hlen (by decide +kernel) (by decide +kernel) ?_
  refine LM.callV [.int (xs (k + 1)), .int (xs (k + 2)), .int (xs (k + 3)), .int (xs (k + 4))] (q := 0) (s_Shop_colour σ (xs (k + 1)) (xs (k + 2)) (xs (k + 3)) (xs (k + 4)) r σ1 h1) [] (pc3 := 297) (st3 := [.int r]) (by decide +kernel) mk_Shop_colour (by decide) ?_
  refine LM.blk [(2, 2, 0, .null)] (k' := k) (pc' := 298) (st' := [.ref 76, .int r]) (σ' := σ1) (by decide +kernel) rfl ?_
  refine LM.arg 1 (pc4 := 302) (pc5 := 303) (by omega) hlen (by decide +kernel) (by decide +kernel) ?_
  refine LM.arg 2 (pc4 := 307) (pc5 := 308) (by omega) hlen (by decide +kernel) (by decide +kernel) ?_
  refine LM.arg 3 (pc4 := 312) (pc5 := 313) (by omega) hlen (by decide +kernel) (by decide +kernel) ?_
  refine LM.arg 4 (pc4 := 317) (pc5 := 318) (by omega) hlen (by decide +kernel) (by decide +kernel) ?_
  refine LM.callV [.int (xs (k + 1)), .int (xs (k + 2)), .int (xs (k + 3)), .int (xs (k + 4))] (q := 76) (s_Ref_colour σ1 (xs (k + 1)) (xs (k + 2)) (xs (k + 3)) (xs (k + 4)) r σ2 h2) [.int r] (pc3 := 321) (st3 := [.int r, .int r]) (by decide +kernel) mk_Ref_colour (by decide) ?_
  exact LM.icmp_eq (tgt := 915) (by decide +kernel) (fun _ => K σ2 h3) (fun h => absurd rfl h)
theorem law_4 {len : Nat} {xs : Nat → Int32} {k : Nat} {σ : SG} (hlen : len ≤ 3072) (hk : k + 6 ≤ len) (hR : R σ) (K : ∀ σ', R σ' → LM len xs k 915 [] σ') : LM len xs k 326 [] σ := by
  obtain ⟨r, σ1, σ2, h1, h2, h3⟩ := op_mark hR (xs (k + 1)) (xs (k + 2)) (decide (¬ xs (k + 3) = 0)) (decide (¬ xs (k + 4) = 0))
  refine LM.blk [(2, 1, 0, .null)] (k' := k) (pc' := 327) (st' := [.ref 0]) (σ' := σ) (by decide +kernel) rfl ?_
  refine LM.arg 1 (pc4 := 331) (pc5 := 332) (by omega) hlen (by decide +kernel) (by decide +kernel) ?_
  refine LM.arg 2 (pc4 := 336) (pc5 := 337) (by omega) hlen (by decide +kernel) (by decide +kernel) ?_
  refine LM.arg 3 (pc4 := 341) (pc5 := 342) (by omega) hlen (by decide +kernel) (by decide +kernel) ?_
  refine LM.zarg (T := 349) (E := 350) (by decide +kernel) (by decide +kernel) (by decide +kernel) ?_
  refine LM.arg 4 (pc4 := 354) (pc5 := 355) (by omega) hlen (by decide +kernel) (by decide +kernel) ?_
  refine LM.zarg (T := 362) (E := 363) (by decide +kernel) (by decide +kernel) (by decide +kernel) ?_
  refine LM.callV [.int (xs (k + 1)), .int (xs (k + 2)), .int (bI (decide (¬ xs (k + 3) = 0))), .int (bI (decide (¬ xs (k + 4) = 0)))] (q := 0) (s_Shop_mark σ (xs (k + 1)) (xs (k + 2)) (decide (¬ xs (k + 3) = 0)) (decide (¬ xs (k + 4) = 0)) r σ1 h1) [] (pc3 := 366) (st3 := [.int r]) (by decide +kernel) mk_Shop_mark (by decide) ?_
  refine LM.blk [(2, 2, 0, .null)] (k' := k) (pc' := 367) (st' := [.ref 76, .int r]) (σ' := σ1) (by decide +kernel) rfl ?_
  refine LM.arg 1 (pc4 := 371) (pc5 := 372) (by omega) hlen (by decide +kernel) (by decide +kernel) ?_
  refine LM.arg 2 (pc4 := 376) (pc5 := 377) (by omega) hlen (by decide +kernel) (by decide +kernel) ?_
  refine LM.arg 3 (pc4 := 381) (pc5 := 382) (by omega) hlen (by decide +kernel) (by decide +kernel) ?_
  refine LM.zarg (T := 389) (E := 390) (by decide +kernel) (by decide +kernel) (by decide +kernel) ?_
  refine LM.arg 4 (pc4 := 394) (pc5 := 395) (by omega) hlen (by decide +kernel) (by decide +kernel) ?_
  refine LM.zarg (T := 402) (E := 403) (by decide +kernel) (by decide +kernel) (by decide +kernel) ?_
  refine LM.callV [.int (xs (k + 1)), .int (xs (k + 2)), .int (bI (decide (¬ xs (k + 3) = 0))), .int (bI (decide (¬ xs (k + 4) = 0)))] (q := 76) (s_Ref_mark σ1 (xs (k + 1)) (xs (k + 2)) (decide (¬ xs (k + 3) = 0)) (decide (¬ xs (k + 4) = 0)) r σ2 h2) [.int r] (pc3 := 406) (st3 := [.int r, .int r]) (by decide +kernel) mk_Ref_mark (by decide) ?_
  exact LM.icmp_eq (tgt := 915) (by decide +kernel) (fun _ => K σ2 h3) (fun h => absurd rfl h)
theorem law_5 {len : Nat} {xs : Nat → Int32} {k : Nat} {σ : SG} (hlen : len ≤ 3072) (hk : k + 6 ≤ len) (hR : R σ) (K : ∀ σ', R σ' → LM len xs k 915 [] σ') : LM len xs k 411 [] σ := by
  obtain ⟨r, σ1, σ2, h1, h2, h3⟩ := op_lay hR
  refine LM.blk [(2, 1, 0, .null)] (k' := k) (pc' := 412) (st' := [.ref 0]) (σ' := σ) (by decide +kernel) rfl ?_
  refine LM.callV [] (q := 0) (s_Shop_lay σ r σ1 h1) [] (pc3 := 415) (st3 := [.int r]) (by decide +kernel) mk_Shop_lay (by decide) ?_
  refine LM.blk [(2, 2, 0, .null)] (k' := k) (pc' := 416) (st' := [.ref 76, .int r]) (σ' := σ1) (by decide +kernel) rfl ?_
  refine LM.callV [] (q := 76) (s_Ref_lay σ1 r σ2 h2) [.int r] (pc3 := 419) (st3 := [.int r, .int r]) (by decide +kernel) mk_Ref_lay (by decide) ?_
  exact LM.icmp_eq (tgt := 915) (by decide +kernel) (fun _ => K σ2 h3) (fun h => absurd rfl h)
theorem law_6 {len : Nat} {xs : Nat → Int32} {k : Nat} {σ : SG} (hlen : len ≤ 3072) (hk : k + 6 ≤ len) (hR : R σ) (K : ∀ σ', R σ' → LM len xs k 915 [] σ') : LM len xs k 424 [] σ := by
  have h2 := op_at hR (xs (k + 1)) (xs (k + 2))
  have h1 := s_Shop_at σ (xs (k + 1)) (xs (k + 2))
  generalize F_Shop_at σ (xs (k + 1)) (xs (k + 2)) = r at h1 h2
  refine LM.blk [(2, 1, 0, .null)] (k' := k) (pc' := 425) (st' := [.ref 0]) (σ' := σ) (by decide +kernel) rfl ?_
  refine LM.arg 1 (pc4 := 429) (pc5 := 430) (by omega) hlen (by decide +kernel) (by decide +kernel) ?_
  refine LM.arg 2 (pc4 := 434) (pc5 := 435) (by omega) hlen (by decide +kernel) (by decide +kernel) ?_
  refine LM.callV [.int (xs (k + 1)), .int (xs (k + 2))] (q := 0) h1 [] (pc3 := 438) (st3 := [.int r]) (by decide +kernel) mk_Shop_at (by decide) ?_
  refine LM.blk [(2, 2, 0, .null)] (k' := k) (pc' := 439) (st' := [.ref 76, .int r]) (σ' := σ) (by decide +kernel) rfl ?_
  refine LM.arg 1 (pc4 := 443) (pc5 := 444) (by omega) hlen (by decide +kernel) (by decide +kernel) ?_
  refine LM.arg 2 (pc4 := 448) (pc5 := 449) (by omega) hlen (by decide +kernel) (by decide +kernel) ?_
  refine LM.callV [.int (xs (k + 1)), .int (xs (k + 2))] (q := 76) (s_Ref_at σ (xs (k + 1)) (xs (k + 2)) r h2) [.int r] (pc3 := 452) (st3 := [.int r, .int r]) (by decide +kernel) mk_Ref_at (by decide) ?_
  exact LM.icmp_eq (tgt := 915) (by decide +kernel) (fun _ => K σ hR) (fun h => absurd rfl h)
theorem law_7 {len : Nat} {xs : Nat → Int32} {k : Nat} {σ : SG} (hlen : len ≤ 3072) (hk : k + 6 ≤ len) (hR : R σ) (K : ∀ σ', R σ' → LM len xs k 915 [] σ') : LM len xs k 457 [] σ := by
  have h2 := op_cube hR (xs (k + 1)) (xs (k + 2))
  have h1 := s_Shop_cube σ (xs (k + 1)) (xs (k + 2))
  generalize F_Shop_cube σ (xs (k + 1)) (xs (k + 2)) = r at h1 h2
  refine LM.blk [(2, 1, 0, .null)] (k' := k) (pc' := 458) (st' := [.ref 0]) (σ' := σ) (by decide +kernel) rfl ?_
  refine LM.arg 1 (pc4 := 462) (pc5 := 463) (by omega) hlen (by decide +kernel) (by decide +kernel) ?_
  refine LM.arg 2 (pc4 := 467) (pc5 := 468) (by omega) hlen (by decide +kernel) (by decide +kernel) ?_
  refine LM.callV [.int (xs (k + 1)), .int (xs (k + 2))] (q := 0) h1 [] (pc3 := 471) (st3 := [.int r]) (by decide +kernel) mk_Shop_cube (by decide) ?_
  refine LM.blk [(2, 2, 0, .null)] (k' := k) (pc' := 472) (st' := [.ref 76, .int r]) (σ' := σ) (by decide +kernel) rfl ?_
  refine LM.arg 1 (pc4 := 476) (pc5 := 477) (by omega) hlen (by decide +kernel) (by decide +kernel) ?_
  refine LM.arg 2 (pc4 := 481) (pc5 := 482) (by omega) hlen (by decide +kernel) (by decide +kernel) ?_
  refine LM.callV [.int (xs (k + 1)), .int (xs (k + 2))] (q := 76) (s_Ref_cube σ (xs (k + 1)) (xs (k + 2)) r h2) [.int r] (pc3 := 485) (st3 := [.int r, .int r]) (by decide +kernel) mk_Ref_cube (by decide) ?_
  exact LM.icmp_eq (tgt := 915) (by decide +kernel) (fun _ => K σ hR) (fun h => absurd rfl h)
theorem law_8 {len : Nat} {xs : Nat → Int32} {k : Nat} {σ : SG} (hlen : len ≤ 3072) (hk : k + 6 ≤ len) (hR : R σ) (K : ∀ σ', R σ' → LM len xs k 915 [] σ') : LM len xs k 490 [] σ := by
  obtain ⟨r, σ1, σ2, h1, h2, h3⟩ := op_lot hR (xs (k + 1)) (xs (k + 2)) (xs (k + 3)) (xs (k + 4))
  refine LM.blk [(2, 1, 0, .null)] (k' := k) (pc' := 491) (st' := [.ref 0]) (σ' := σ) (by decide +kernel) rfl ?_
  refine LM.arg 1 (pc4 := 495) (pc5 := 496) (by omega) hlen (by decide +kernel) (by decide +kernel) ?_
  refine LM.arg 2 (pc4 := 500) (pc5 := 501) (by omega) hlen (by decide +kernel) (by decide +kernel) ?_
  refine LM.arg 3 (pc4 := 505) (pc5 := 506) (by omega) hlen (by decide +kernel) (by decide +kernel) ?_
  refine LM.arg 4 (pc4 := 510) (pc5 := 511) (by omega) hlen (by decide +kernel) (by decide +kernel) ?_
  refine LM.callV [.int (xs (k + 1)), .int (xs (k + 2)), .int (xs (k + 3)), .int (xs (k + 4))] (q := 0) (s_Shop_lot σ (xs (k + 1)) (xs (k + 2)) (xs (k + 3)) (xs (k + 4)) r σ1 h1) [] (pc3 := 514) (st3 := [.int r]) (by decide +kernel) mk_Shop_lot (by decide) ?_
  refine LM.blk [(2, 2, 0, .null)] (k' := k) (pc' := 515) (st' := [.ref 76, .int r]) (σ' := σ1) (by decide +kernel) rfl ?_
  refine LM.arg 1 (pc4 := 519) (pc5 := 520) (by omega) hlen (by decide +kernel) (by decide +kernel) ?_
  refine LM.arg 2 (pc4 := 524) (pc5 := 525) (by omega) hlen (by decide +kernel) (by decide +kernel) ?_
  refine LM.arg 3 (pc4 := 529) (pc5 := 530) (by omega) hlen (by decide +kernel) (by decide +kernel) ?_
  refine LM.arg 4 (pc4 := 534) (pc5 := 535) (by omega) hlen (by decide +kernel) (by decide +kernel) ?_
  refine LM.callV [.int (xs (k + 1)), .int (xs (k + 2)), .int (xs (k + 3)), .int (xs (k + 4))] (q := 76) (s_Ref_lot σ1 (xs (k + 1)) (xs (k + 2)) (xs (k + 3)) (xs (k + 4)) r σ2 h2) [.int r] (pc3 := 538) (st3 := [.int r, .int r]) (by decide +kernel) mk_Ref_lot (by decide) ?_
  exact LM.icmp_eq (tgt := 915) (by decide +kernel) (fun _ => K σ2 h3) (fun h => absurd rfl h)
theorem law_9 {len : Nat} {xs : Nat → Int32} {k : Nat} {σ : SG} (hlen : len ≤ 3072) (hk : k + 6 ≤ len) (hR : R σ) (K : ∀ σ', R σ' → LM len xs k 915 [] σ') : LM len xs k 543 [] σ := by
  have h2 := op_left hR (xs (k + 1))
  have h1 := s_Shop_left σ (xs (k + 1))
  generalize F_Shop_left σ (xs (k + 1)) = r at h1 h2
  refine LM.blk [(2, 1, 0, .null)] (k' := k) (pc' := 544) (st' := [.ref 0]) (σ' := σ) (by decide +kernel) rfl ?_
  refine LM.arg 1 (pc4 := 548) (pc5 := 549) (by omega) hlen (by decide +kernel) (by decide +kernel) ?_
  refine LM.callV [.int (xs (k + 1))] (q := 0) h1 [] (pc3 := 552) (st3 := [.int r]) (by decide +kernel) mk_Shop_left (by decide) ?_
  refine LM.blk [(2, 2, 0, .null)] (k' := k) (pc' := 553) (st' := [.ref 76, .int r]) (σ' := σ) (by decide +kernel) rfl ?_
  refine LM.arg 1 (pc4 := 557) (pc5 := 558) (by omega) hlen (by decide +kernel) (by decide +kernel) ?_
  refine LM.callV [.int (xs (k + 1))] (q := 76) (s_Ref_left σ (xs (k + 1)) r h2) [.int r] (pc3 := 561) (st3 := [.int r, .int r]) (by decide +kernel) mk_Ref_left (by decide) ?_
  exact LM.icmp_eq (tgt := 915) (by decide +kernel) (fun _ => K σ hR) (fun h => absurd rfl h)
theorem law_10 {len : Nat} {xs : Nat → Int32} {k : Nat} {σ : SG} (hlen : len ≤ 3072) (hk : k + 6 ≤ len) (hR : R σ) (K : ∀ σ', R σ' → LM len xs k 915 [] σ') : LM len xs k 566 [] σ := by
  obtain ⟨r, σ1, σ2, h1, h2, h3⟩ := op_more hR (xs (k + 1)) (xs (k + 2))
  refine LM.blk [(2, 1, 0, .null)] (k' := k) (pc' := 567) (st' := [.ref 0]) (σ' := σ) (by decide +kernel) rfl ?_
  refine LM.arg 1 (pc4 := 571) (pc5 := 572) (by omega) hlen (by decide +kernel) (by decide +kernel) ?_
  refine LM.arg 2 (pc4 := 576) (pc5 := 577) (by omega) hlen (by decide +kernel) (by decide +kernel) ?_
  refine LM.callV [.int (xs (k + 1)), .int (xs (k + 2))] (q := 0) (s_Shop_more σ (xs (k + 1)) (xs (k + 2)) r σ1 h1) [] (pc3 := 580) (st3 := [.int r]) (by decide +kernel) mk_Shop_more (by decide) ?_
  refine LM.blk [(2, 2, 0, .null)] (k' := k) (pc' := 581) (st' := [.ref 76, .int r]) (σ' := σ1) (by decide +kernel) rfl ?_
  refine LM.arg 1 (pc4 := 585) (pc5 := 586) (by omega) hlen (by decide +kernel) (by decide +kernel) ?_
  refine LM.arg 2 (pc4 := 590) (pc5 := 591) (by omega) hlen (by decide +kernel) (by decide +kernel) ?_
  refine LM.callV [.int (xs (k + 1)), .int (xs (k + 2))] (q := 76) (s_Ref_more σ1 (xs (k + 1)) (xs (k + 2)) r σ2 h2) [.int r] (pc3 := 594) (st3 := [.int r, .int r]) (by decide +kernel) mk_Ref_more (by decide) ?_
  exact LM.icmp_eq (tgt := 915) (by decide +kernel) (fun _ => K σ2 h3) (fun h => absurd rfl h)
theorem law_11 {len : Nat} {xs : Nat → Int32} {k : Nat} {σ : SG} (hlen : len ≤ 3072) (hk : k + 6 ≤ len) (hR : R σ) (K : ∀ σ', R σ' → LM len xs k 915 [] σ') : LM len xs k 599 [] σ := by
  obtain ⟨r, σ1, σ2, h1, h2, h3⟩ := op_paint hR
  refine LM.blk [(2, 1, 0, .null)] (k' := k) (pc' := 600) (st' := [.ref 0]) (σ' := σ) (by decide +kernel) rfl ?_
  refine LM.callV [] (q := 0) (s_Shop_paint σ r σ1 h1) [] (pc3 := 603) (st3 := [.int r]) (by decide +kernel) mk_Shop_paint (by decide) ?_
  refine LM.blk [(2, 2, 0, .null)] (k' := k) (pc' := 604) (st' := [.ref 76, .int r]) (σ' := σ1) (by decide +kernel) rfl ?_
  refine LM.callV [] (q := 76) (s_Ref_paint σ1 r σ2 h2) [.int r] (pc3 := 607) (st3 := [.int r, .int r]) (by decide +kernel) mk_Ref_paint (by decide) ?_
  exact LM.icmp_eq (tgt := 915) (by decide +kernel) (fun _ => K σ2 h3) (fun h => absurd rfl h)
theorem law_12 {len : Nat} {xs : Nat → Int32} {k : Nat} {σ : SG} (hlen : len ≤ 3072) (hk : k + 6 ≤ len) (hR : R σ) (K : ∀ σ', R σ' → LM len xs k 915 [] σ') : LM len xs k 612 [] σ := by
  obtain ⟨r, σ1, σ2, h1, h2, h3⟩ := op_scrape hR
  refine LM.blk [(2, 1, 0, .null)] (k' := k) (pc' := 613) (st' := [.ref 0]) (σ' := σ) (by decide +kernel) rfl ?_
  refine LM.callV [] (q := 0) (s_Shop_scrape σ r σ1 h1) [] (pc3 := 616) (st3 := [.int r]) (by decide +kernel) mk_Shop_scrape (by decide) ?_
  refine LM.blk [(2, 2, 0, .null)] (k' := k) (pc' := 617) (st' := [.ref 76, .int r]) (σ' := σ1) (by decide +kernel) rfl ?_
  refine LM.callV [] (q := 76) (s_Ref_scrape σ1 r σ2 h2) [.int r] (pc3 := 620) (st3 := [.int r, .int r]) (by decide +kernel) mk_Ref_scrape (by decide) ?_
  exact LM.icmp_eq (tgt := 915) (by decide +kernel) (fun _ => K σ2 h3) (fun h => absurd rfl h)
theorem law_13 {len : Nat} {xs : Nat → Int32} {k : Nat} {σ : SG} (hlen : len ≤ 3072) (hk : k + 6 ≤ len) (hR : R σ) (K : ∀ σ', R σ' → LM len xs k 915 [] σ') : LM len xs k 625 [] σ := by
  obtain ⟨r, h1, h2⟩ := op_changes hR (xs (k + 1))
  refine LM.blk [(2, 1, 0, .null)] (k' := k) (pc' := 626) (st' := [.ref 0]) (σ' := σ) (by decide +kernel) rfl ?_
  refine LM.arg 1 (pc4 := 630) (pc5 := 631) (by omega) hlen (by decide +kernel) (by decide +kernel) ?_
  refine LM.callV [.int (xs (k + 1))] (q := 0) (s_Shop_changes σ (xs (k + 1)) r h1) [] (pc3 := 634) (st3 := [.int r]) (by decide +kernel) mk_Shop_changes (by decide) ?_
  refine LM.blk [(2, 2, 0, .null)] (k' := k) (pc' := 635) (st' := [.ref 76, .int r]) (σ' := σ) (by decide +kernel) rfl ?_
  refine LM.arg 1 (pc4 := 639) (pc5 := 640) (by omega) hlen (by decide +kernel) (by decide +kernel) ?_
  refine LM.callV [.int (xs (k + 1))] (q := 76) (s_Ref_changes σ (xs (k + 1)) r h2) [.int r] (pc3 := 643) (st3 := [.int r, .int r]) (by decide +kernel) mk_Ref_changes (by decide) ?_
  exact LM.icmp_eq (tgt := 915) (by decide +kernel) (fun _ => K σ hR) (fun h => absurd rfl h)
theorem law_14 {len : Nat} {xs : Nat → Int32} {k : Nat} {σ : SG} (hlen : len ≤ 3072) (hk : k + 6 ≤ len) (hR : R σ) (K : ∀ σ', R σ' → LM len xs k 915 [] σ') : LM len xs k 648 [] σ := by
  obtain ⟨r, σ1, σ2, h1, h2, h3⟩ := op_cut hR (xs (k + 1)) (xs (k + 2))
  refine LM.blk [(2, 1, 0, .null)] (k' := k) (pc' := 649) (st' := [.ref 0]) (σ' := σ) (by decide +kernel) rfl ?_
  refine LM.arg 1 (pc4 := 653) (pc5 := 654) (by omega) hlen (by decide +kernel) (by decide +kernel) ?_
  refine LM.arg 2 (pc4 := 658) (pc5 := 659) (by omega) hlen (by decide +kernel) (by decide +kernel) ?_
  refine LM.callV [.int (xs (k + 1)), .int (xs (k + 2))] (q := 0) (s_Shop_cut σ (xs (k + 1)) (xs (k + 2)) r σ1 h1) [] (pc3 := 662) (st3 := [.int r]) (by decide +kernel) mk_Shop_cut (by decide) ?_
  refine LM.blk [(2, 2, 0, .null)] (k' := k) (pc' := 663) (st' := [.ref 76, .int r]) (σ' := σ1) (by decide +kernel) rfl ?_
  refine LM.arg 1 (pc4 := 667) (pc5 := 668) (by omega) hlen (by decide +kernel) (by decide +kernel) ?_
  refine LM.arg 2 (pc4 := 672) (pc5 := 673) (by omega) hlen (by decide +kernel) (by decide +kernel) ?_
  refine LM.callV [.int (xs (k + 1)), .int (xs (k + 2))] (q := 76) (s_Ref_cut σ1 (xs (k + 1)) (xs (k + 2)) r σ2 h2) [.int r] (pc3 := 676) (st3 := [.int r, .int r]) (by decide +kernel) mk_Ref_cut (by decide) ?_
  exact LM.icmp_eq (tgt := 915) (by decide +kernel) (fun _ => K σ2 h3) (fun h => absurd rfl h)
theorem law_15 {len : Nat} {xs : Nat → Int32} {k : Nat} {σ : SG} (hlen : len ≤ 3072) (hk : k + 6 ≤ len) (hR : R σ) (K : ∀ σ', R σ' → LM len xs k 915 [] σ') : LM len xs k 681 [] σ := by
  obtain ⟨r, h1, h2⟩ := op_sheet hR (xs (k + 1)) (xs (k + 2))
  refine LM.blk [(2, 1, 0, .null)] (k' := k) (pc' := 682) (st' := [.ref 0]) (σ' := σ) (by decide +kernel) rfl ?_
  refine LM.arg 1 (pc4 := 686) (pc5 := 687) (by omega) hlen (by decide +kernel) (by decide +kernel) ?_
  refine LM.arg 2 (pc4 := 691) (pc5 := 692) (by omega) hlen (by decide +kernel) (by decide +kernel) ?_
  refine LM.callV [.int (xs (k + 1)), .int (xs (k + 2))] (q := 0) (s_Shop_sheet σ (xs (k + 1)) (xs (k + 2)) r h1) [] (pc3 := 695) (st3 := [.int r]) (by decide +kernel) mk_Shop_sheet (by decide) ?_
  refine LM.blk [(2, 2, 0, .null)] (k' := k) (pc' := 696) (st' := [.ref 76, .int r]) (σ' := σ) (by decide +kernel) rfl ?_
  refine LM.arg 1 (pc4 := 700) (pc5 := 701) (by omega) hlen (by decide +kernel) (by decide +kernel) ?_
  refine LM.arg 2 (pc4 := 705) (pc5 := 706) (by omega) hlen (by decide +kernel) (by decide +kernel) ?_
  refine LM.callV [.int (xs (k + 1)), .int (xs (k + 2))] (q := 76) (s_Ref_sheet σ (xs (k + 1)) (xs (k + 2)) r h2) [.int r] (pc3 := 709) (st3 := [.int r, .int r]) (by decide +kernel) mk_Ref_sheet (by decide) ?_
  exact LM.icmp_eq (tgt := 915) (by decide +kernel) (fun _ => K σ hR) (fun h => absurd rfl h)
theorem law_16 {len : Nat} {xs : Nat → Int32} {k : Nat} {σ : SG} (hlen : len ≤ 3072) (hk : k + 6 ≤ len) (hR : R σ) (K : ∀ σ', R σ' → LM len xs k 915 [] σ') : LM len xs k 714 [] σ := by
  obtain ⟨r, σ1, σ2, h1, h2, h3⟩ := op_broken hR (xs (k + 1))
  refine LM.blk [(2, 1, 0, .null)] (k' := k) (pc' := 715) (st' := [.ref 0]) (σ' := σ) (by decide +kernel) rfl ?_
  refine LM.arg 1 (pc4 := 719) (pc5 := 720) (by omega) hlen (by decide +kernel) (by decide +kernel) ?_
  refine LM.callV [.int (xs (k + 1))] (q := 0) (s_Shop_broken σ (xs (k + 1)) r σ1 h1) [] (pc3 := 723) (st3 := [.int r]) (by decide +kernel) mk_Shop_broken (by decide) ?_
  refine LM.blk [(2, 2, 0, .null)] (k' := k) (pc' := 724) (st' := [.ref 76, .int r]) (σ' := σ1) (by decide +kernel) rfl ?_
  refine LM.arg 1 (pc4 := 728) (pc5 := 729) (by omega) hlen (by decide +kernel) (by decide +kernel) ?_
  refine LM.callV [.int (xs (k + 1))] (q := 76) (s_Ref_broken σ1 (xs (k + 1)) r σ2 h2) [.int r] (pc3 := 732) (st3 := [.int r, .int r]) (by decide +kernel) mk_Ref_broken (by decide) ?_
  exact LM.icmp_eq (tgt := 915) (by decide +kernel) (fun _ => K σ2 h3) (fun h => absurd rfl h)
theorem law_17 {len : Nat} {xs : Nat → Int32} {k : Nat} {σ : SG} (hlen : len ≤ 3072) (hk : k + 6 ≤ len) (hR : R σ) (K : ∀ σ', R σ' → LM len xs k 915 [] σ') : LM len xs k 737 [] σ := by
  obtain ⟨r, h1, h2⟩ := op_crates hR (xs (k + 1))
  refine LM.blk [(2, 1, 0, .null)] (k' := k) (pc' := 738) (st' := [.ref 0]) (σ' := σ) (by decide +kernel) rfl ?_
  refine LM.arg 1 (pc4 := 742) (pc5 := 743) (by omega) hlen (by decide +kernel) (by decide +kernel) ?_
  refine LM.callV [.int (xs (k + 1))] (q := 0) (s_Shop_crates σ (xs (k + 1)) r h1) [] (pc3 := 746) (st3 := [.int r]) (by decide +kernel) mk_Shop_crates (by decide) ?_
  refine LM.blk [(2, 2, 0, .null)] (k' := k) (pc' := 747) (st' := [.ref 76, .int r]) (σ' := σ) (by decide +kernel) rfl ?_
  refine LM.arg 1 (pc4 := 751) (pc5 := 752) (by omega) hlen (by decide +kernel) (by decide +kernel) ?_
  refine LM.callV [.int (xs (k + 1))] (q := 76) (s_Ref_crates σ (xs (k + 1)) r h2) [.int r] (pc3 := 755) (st3 := [.int r, .int r]) (by decide +kernel) mk_Ref_crates (by decide) ?_
  exact LM.icmp_eq (tgt := 915) (by decide +kernel) (fun _ => K σ hR) (fun h => absurd rfl h)
theorem law_18 {len : Nat} {xs : Nat → Int32} {k : Nat} {σ : SG} (hlen : len ≤ 3072) (hk : k + 6 ≤ len) (hR : R σ) (K : ∀ σ', R σ' → LM len xs k 915 [] σ') : LM len xs k 760 [] σ := by
  obtain ⟨r, h1, h2⟩ := op_crate hR (xs (k + 1)) (xs (k + 2))
  refine LM.blk [(2, 1, 0, .null)] (k' := k) (pc' := 761) (st' := [.ref 0]) (σ' := σ) (by decide +kernel) rfl ?_
  refine LM.arg 1 (pc4 := 765) (pc5 := 766) (by omega) hlen (by decide +kernel) (by decide +kernel) ?_
  refine LM.arg 2 (pc4 := 770) (pc5 := 771) (by omega) hlen (by decide +kernel) (by decide +kernel) ?_
  refine LM.callV [.int (xs (k + 1)), .int (xs (k + 2))] (q := 0) (s_Shop_crate σ (xs (k + 1)) (xs (k + 2)) r h1) [] (pc3 := 774) (st3 := [.int r]) (by decide +kernel) mk_Shop_crate (by decide) ?_
  refine LM.blk [(2, 2, 0, .null)] (k' := k) (pc' := 775) (st' := [.ref 76, .int r]) (σ' := σ) (by decide +kernel) rfl ?_
  refine LM.arg 1 (pc4 := 779) (pc5 := 780) (by omega) hlen (by decide +kernel) (by decide +kernel) ?_
  refine LM.arg 2 (pc4 := 784) (pc5 := 785) (by omega) hlen (by decide +kernel) (by decide +kernel) ?_
  refine LM.callV [.int (xs (k + 1)), .int (xs (k + 2))] (q := 76) (s_Ref_crate σ (xs (k + 1)) (xs (k + 2)) r h2) [.int r] (pc3 := 788) (st3 := [.int r, .int r]) (by decide +kernel) mk_Ref_crate (by decide) ?_
  exact LM.icmp_eq (tgt := 915) (by decide +kernel) (fun _ => K σ hR) (fun h => absurd rfl h)
theorem law_19 {len : Nat} {xs : Nat → Int32} {k : Nat} {σ : SG} (hlen : len ≤ 3072) (hk : k + 6 ≤ len) (hR : R σ) (K : ∀ σ', R σ' → LM len xs k 915 [] σ') : LM len xs k 793 [] σ := by
  obtain ⟨r, σ1, σ2, h1, h2, h3⟩ := op_hand hR (xs (k + 1)) (decide (¬ xs (k + 2) = 0))
  refine LM.blk [(2, 1, 0, .null)] (k' := k) (pc' := 794) (st' := [.ref 0]) (σ' := σ) (by decide +kernel) rfl ?_
  refine LM.arg 1 (pc4 := 798) (pc5 := 799) (by omega) hlen (by decide +kernel) (by decide +kernel) ?_
  refine LM.arg 2 (pc4 := 803) (pc5 := 804) (by omega) hlen (by decide +kernel) (by decide +kernel) ?_
  refine LM.zarg (T := 811) (E := 812) (by decide +kernel) (by decide +kernel) (by decide +kernel) ?_
  refine LM.callV [.int (xs (k + 1)), .int (bI (decide (¬ xs (k + 2) = 0)))] (q := 0) (s_Shop_hand σ (xs (k + 1)) (decide (¬ xs (k + 2) = 0)) r σ1 h1) [] (pc3 := 815) (st3 := [.int r]) (by decide +kernel) mk_Shop_hand (by decide) ?_
  refine LM.blk [(2, 2, 0, .null)] (k' := k) (pc' := 816) (st' := [.ref 76, .int r]) (σ' := σ1) (by decide +kernel) rfl ?_
  refine LM.arg 1 (pc4 := 820) (pc5 := 821) (by omega) hlen (by decide +kernel) (by decide +kernel) ?_
  refine LM.arg 2 (pc4 := 825) (pc5 := 826) (by omega) hlen (by decide +kernel) (by decide +kernel) ?_
  refine LM.zarg (T := 833) (E := 834) (by decide +kernel) (by decide +kernel) (by decide +kernel) ?_
  refine LM.callV [.int (xs (k + 1)), .int (bI (decide (¬ xs (k + 2) = 0)))] (q := 76) (s_Ref_hand σ1 (xs (k + 1)) (decide (¬ xs (k + 2) = 0)) r σ2 h2) [.int r] (pc3 := 837) (st3 := [.int r, .int r]) (by decide +kernel) mk_Ref_hand (by decide) ?_
  exact LM.icmp_eq (tgt := 915) (by decide +kernel) (fun _ => K σ2 h3) (fun h => absurd rfl h)
theorem law_20 {len : Nat} {xs : Nat → Int32} {k : Nat} {σ : SG} (hlen : len ≤ 3072) (hk : k + 6 ≤ len) (hR : R σ) (K : ∀ σ', R σ' → LM len xs k 915 [] σ') : LM len xs k 842 [] σ := by
  obtain ⟨r, σ1, σ2, h1, h2, h3⟩ := op_days hR
  refine LM.blk [(2, 1, 0, .null)] (k' := k) (pc' := 843) (st' := [.ref 0]) (σ' := σ) (by decide +kernel) rfl ?_
  refine LM.callV [] (q := 0) (s_Shop_days σ r σ1 h1) [] (pc3 := 846) (st3 := [.int r]) (by decide +kernel) mk_Shop_days (by decide) ?_
  refine LM.blk [(2, 2, 0, .null)] (k' := k) (pc' := 847) (st' := [.ref 76, .int r]) (σ' := σ1) (by decide +kernel) rfl ?_
  refine LM.callV [] (q := 76) (s_Ref_days σ1 r σ2 h2) [.int r] (pc3 := 850) (st3 := [.int r, .int r]) (by decide +kernel) mk_Ref_days (by decide) ?_
  exact LM.icmp_eq (tgt := 915) (by decide +kernel) (fun _ => K σ2 h3) (fun h => absurd rfl h)
theorem law_21 {len : Nat} {xs : Nat → Int32} {k : Nat} {σ : SG} (hlen : len ≤ 3072) (hk : k + 6 ≤ len) (hR : R σ) (K : ∀ σ', R σ' → LM len xs k 915 [] σ') : LM len xs k 855 [] σ := by
  obtain ⟨r, σ1, σ2, h1, h2, h3⟩ := op_dealt hR (xs (k + 1))
  refine LM.blk [(2, 1, 0, .null)] (k' := k) (pc' := 856) (st' := [.ref 0]) (σ' := σ) (by decide +kernel) rfl ?_
  refine LM.arg 1 (pc4 := 860) (pc5 := 861) (by omega) hlen (by decide +kernel) (by decide +kernel) ?_
  refine LM.callV [.int (xs (k + 1))] (q := 0) (s_Shop_dealt σ (xs (k + 1)) r σ1 h1) [] (pc3 := 864) (st3 := [.int r]) (by decide +kernel) mk_Shop_dealt (by decide) ?_
  refine LM.blk [(2, 2, 0, .null)] (k' := k) (pc' := 865) (st' := [.ref 76, .int r]) (σ' := σ1) (by decide +kernel) rfl ?_
  refine LM.arg 1 (pc4 := 869) (pc5 := 870) (by omega) hlen (by decide +kernel) (by decide +kernel) ?_
  refine LM.callV [.int (xs (k + 1))] (q := 76) (s_Ref_dealt σ1 (xs (k + 1)) r σ2 h2) [.int r] (pc3 := 873) (st3 := [.int r, .int r]) (by decide +kernel) mk_Ref_dealt (by decide) ?_
  exact LM.icmp_eq (tgt := 915) (by decide +kernel) (fun _ => K σ2 h3) (fun h => absurd rfl h)
theorem law_22 {len : Nat} {xs : Nat → Int32} {k : Nat} {σ : SG} (hlen : len ≤ 3072) (hk : k + 6 ≤ len) (hR : R σ) (K : ∀ σ', R σ' → LM len xs k 915 [] σ') : LM len xs k 878 [] σ := by
  obtain ⟨r, h1, h2⟩ := op_count hR (xs (k + 1))
  refine LM.blk [(2, 1, 0, .null)] (k' := k) (pc' := 879) (st' := [.ref 0]) (σ' := σ) (by decide +kernel) rfl ?_
  refine LM.arg 1 (pc4 := 883) (pc5 := 884) (by omega) hlen (by decide +kernel) (by decide +kernel) ?_
  refine LM.callV [.int (xs (k + 1))] (q := 0) (s_Shop_count σ (xs (k + 1)) r h1) [] (pc3 := 887) (st3 := [.int r]) (by decide +kernel) mk_Shop_count (by decide) ?_
  refine LM.blk [(2, 2, 0, .null)] (k' := k) (pc' := 888) (st' := [.ref 76, .int r]) (σ' := σ) (by decide +kernel) rfl ?_
  refine LM.arg 1 (pc4 := 892) (pc5 := 893) (by omega) hlen (by decide +kernel) (by decide +kernel) ?_
  refine LM.callV [.int (xs (k + 1))] (q := 76) (s_Ref_count σ (xs (k + 1)) r h2) [.int r] (pc3 := 896) (st3 := [.int r, .int r]) (by decide +kernel) mk_Ref_count (by decide) ?_
  exact LM.icmp_eq (tgt := 915) (by decide +kernel) (fun _ => K σ hR) (fun h => absurd rfl h)
theorem law_23 {len : Nat} {xs : Nat → Int32} {k : Nat} {σ : SG} (hlen : len ≤ 3072) (hk : k + 6 ≤ len) (hR : R σ) (K : ∀ σ', R σ' → LM len xs k 915 [] σ') : LM len xs k 901 [] σ := by
  obtain ⟨r, h1, h2⟩ := op_digest hR
  refine LM.blk [(2, 1, 0, .null)] (k' := k) (pc' := 902) (st' := [.ref 0]) (σ' := σ) (by decide +kernel) rfl ?_
  refine LM.callV [] (q := 0) (s_Shop_digest σ r h1) [] (pc3 := 905) (st3 := [.long r]) (by decide +kernel) mk_Shop_digest (by decide) ?_
  refine LM.blk [(2, 2, 0, .null)] (k' := k) (pc' := 906) (st' := [.ref 76, .long r]) (σ' := σ) (by decide +kernel) rfl ?_
  refine LM.callV [] (q := 76) (s_Ref_digest σ r h2) [.long r] (pc3 := 909) (st3 := [.long r, .long r]) (by decide +kernel) mk_Ref_digest (by decide) ?_
  refine LM.lcmp (pc3 := 910) (by decide +kernel) ?_
  exact LM.if_eq (tgt := 915) (by decide +kernel) (fun _ => K σ hR) (fun h => absurd rfl h)
theorem law_loop {len : Nat} {xs : Nat → Int32} (hlen : len ≤ 3072) : ∀ (n k : Nat) (σ : SG), len ≤ k + n → k ≤ len → R σ → LM len xs k 18 [] σ := by
  intro n
  induction n using Nat.strongRecOn with
  | _ n ih =>
    intro k σ hn hk hR
    refine LM.blk [(1, 3, 0, .null), (2, 0, 0, .null)] (k' := k) (pc' := 20) (st' := [.null, .int (nI k)]) (σ' := σ) (by decide +kernel) rfl ?_
    refine LM.slen (pc3 := 21) (by decide +kernel) ?_
    refine LM.blk [(0, 0, 0, .int 6), (6, 0, 0, .null)] (k' := k) (pc' := 24) (st' := [.int (nI len - 6), .int (nI k)]) (σ' := σ) (by decide +kernel) rfl ?_
    have hcmp : nI len - 6 < nI k ↔ len < k + 6 := by
      rw [lt_T, show (6 : Int32) = nI 6 from rfl, pk_sub_toInt (by omega) (by decide), nI_toInt (by omega)]
      omega
    refine LM.icmp_gt (tgt := 921) (by decide +kernel) (fun _ => ?_) (fun h => ?_)
    · refine LM.blk [(0, 0, 0, .int 1)] (k' := k) (pc' := 922) (st' := [.int 1]) (σ' := σ) (by decide +kernel) rfl ?_
      exact LM.ret (by decide +kernel)
    · have hk6 : k + 6 ≤ len := by
        have := mt hcmp.mpr h
        omega
      have KK : ∀ σ', R σ' → LM len xs k 915 [] σ' := by
        intro σ' hR'
        refine LM.blk [(10, 3, 0, .int 6), (23, 0, 0, .null)] (k' := k + 6) (pc' := 18) (st' := []) (σ' := σ') (by decide +kernel) ?_ (ih (n - 6) (by omega) (k + 6) σ' (by omega) hk6 hR')
        show some ([some Value.null, some (Value.ref 0), some (Value.ref 76), some (Value.int (nI k + 6))], ([] : List Value), σ') = some (LL (k + 6), [], σ')
        rw [show (6 : Int32) = nI 6 from rfl, nI_add]
        rfl
      refine LM.blk [(2, 0, 0, .null), (1, 3, 0, .null)] (k' := k) (pc' := 29) (st' := [.int (nI k), .null]) (σ' := σ) (by decide +kernel) rfl ?_
      refine LM.sld (pc3 := 30) (vp_in_nI (by omega) (by omega)) (by decide +kernel) ?_
      refine LM.blk [(0, 0, 0, .int 31), (8, 0, 0, .null)] (k' := k) (pc' := 33) (st' := [.int (xs (ix (nI k)) &&& 31)]) (σ' := σ) (by decide +kernel) rfl ?_
      refine LM.tsw (ts := [144, 177, 240, 273, 326, 411, 424, 457, 490, 543, 566, 599, 612, 625, 648, 681, 714, 737, 760, 793, 842, 855, 878, 901]) (df := 915) (by decide +kernel) (by decide) ⟨fun _ => law_0 hlen hk6 hR KK, fun _ => law_1 hlen hk6 hR KK, fun _ => law_2 hlen hk6 hR KK, fun _ => law_3 hlen hk6 hR KK, fun _ => law_4 hlen hk6 hR KK, fun _ => law_5 hlen hk6 hR KK, fun _ => law_6 hlen hk6 hR KK, fun _ => law_7 hlen hk6 hR KK, fun _ => law_8 hlen hk6 hR KK, fun _ => law_9 hlen hk6 hR KK, fun _ => law_10 hlen hk6 hR KK, fun _ => law_11 hlen hk6 hR KK, fun _ => law_12 hlen hk6 hR KK, fun _ => law_13 hlen hk6 hR KK, fun _ => law_14 hlen hk6 hR KK, fun _ => law_15 hlen hk6 hR KK, fun _ => law_16 hlen hk6 hR KK, fun _ => law_17 hlen hk6 hR KK, fun _ => law_18 hlen hk6 hR KK, fun _ => law_19 hlen hk6 hR KK, fun _ => law_20 hlen hk6 hR KK, fun _ => law_21 hlen hk6 hR KK, fun _ => law_22 hlen hk6 hR KK, fun _ => law_23 hlen hk6 hR KK, trivial⟩ (KK σ hR)
theorem R_start : R (Z_Ref_init (up0 (Z_Shop_init (up0 (fun _ _ => 0) 0)) 76)) := by
  refine ⟨1, 1, 0, 0, 0, 0, false, ⟨rfl, rfl, rfl, rfl, by decide, by decide, by decide, by decide, rfl, fun k _ => ⟨0, by decide, rfl⟩⟩, ⟨rfl, rfl, fun f hf => ⟨⟨0, 0, 0, by decide, by decide, by decide, rfl, rfl, rfl, rfl, rfl, rfl⟩, ⟨3, by decide, by decide, if_pos hf, rfl⟩, ⟨false, rfl⟩, ⟨false, rfl⟩⟩⟩, ⟨rfl, rfl, by decide, rfl, fun l _ => ⟨0, 0, 0, by decide, by decide, by decide, rfl, rfl, rfl, rfl, rfl, rfl⟩⟩, ⟨rfl, rfl, by decide, rfl, rfl, fun k hk => by omega⟩, RC_0 rfl rfl rfl (fun k hk => ?_) ⟨rfl, rfl, rfl, rfl, rfl, rfl⟩⟩
  rcases hk with rfl | rfl | rfl | rfl | rfl <;> rfl
theorem NWL_in : ∀ q ∈ NWL, Cond.methodLinkNest q.1 q.2.1 q.2.2 "MosaicShop" ∈ lw_tbl := by decide +kernel
theorem inst_in : ∀ ci, ci < 13 → Cond.instantiable (cn ci) (cN ci) ∈ lw_tbl := by
  intro ci h
  have : ∀ c ∈ List.range 13, Cond.instantiable (cn c) (cN c) ∈ lw_tbl := by decide +kernel
  exact this ci (List.mem_range.mpr h)
theorem whole_start {p : Program} {e : Env} {s : State} {m : MethodId} {below : List Frame} {meth : Method} {c : Code} (l : Launch) (hflags : l.flags = flags0) {b L : Nat} {xs : Nat → Int32} (hL : L ≤ 3072) (C0 : lw_At p s m meth c b L xs) : W p l e room_1 s m #[Value.ref b] below meth c s.heap [] 0 0 (lw_Z below #[Value.ref b] s) (entryFrame m ([Value.ref b] : List Value).toArray 4) := by
  obtain ⟨hx, hb, hr, hml, hown, hts, hX, hbl, hlocks, hgv⟩ := id C0
  have htb : ∀ w ∈ TB, w.before #[Value.ref b] s = true := fun w hw => hts w (List.mem_filter.mp hw).1
  obtain ⟨f, hf⟩ : ∃ f : Nat → ClassId × (Nat → Nat), ∀ ci q, vwCl[ci]? = some q → u_Kn s q.1 q.2.1 q.2.2 (f ci).1 (f ci).2 := by
    have h : ∀ ci : Nat, ∃ D : ClassId × (Nat → Nat), ∀ q, vwCl[ci]? = some q → u_Kn s q.1 q.2.1 q.2.2 D.1 D.2 := by
      intro ci
      by_cases h13 : ci < 13
      · obtain ⟨cC, iS, hK⟩ := u_known (C := cn ci) (T := cT ci) (N := cN ci) (n := cN ci) htb (ws_in ci h13) (hts _ (inst_in ci h13))
        refine ⟨(cC, iS), fun q hq => ?_⟩
        rw [cq_in ci h13] at hq
        cases hq
        exact hK
      · refine ⟨(m.cls, fun _ => 0), fun q hq => ?_⟩
        have h1 : vwCl.length = 13 := by decide +kernel
        have := (List.getElem?_eq_some_iff.mp hq).1
        omega
    exact ⟨fun ci => Classical.choose (h ci), fun ci => Classical.choose_spec (h ci)⟩
  obtain ⟨cI, kI, compI, i1, i2, i3⟩ := Cond.arrayClass_spec (hts (.arrayClass .int) (by decide +kernel))
  obtain ⟨cZ, kZ, compZ, z1, z2, z3⟩ := Cond.arrayClass_spec (hts (.arrayClass .boolean) (by decide +kernel))
  have hK : va_K (fun ci => (f ci).1, fun ci => (f ci).2) vwCl (tyC cI cZ) s := by
    refine ⟨hf, fun k q hk => ?_⟩
    match k, hk with
    | 0, hk => cases hk; exact ⟨fun n z => ⟨fun k h => (by cases h), kI, i2, compI, i3⟩, i1⟩
    | 1, hk => cases hk; exact ⟨fun n z => ⟨fun k h => (by cases h), kZ, z2, compZ, z3⟩, z1⟩
    | k + 2, hk => simp [tyC] at hk
  have hC : CX s.heap.size (fun ci => (f ci).1) (fun ci => (f ci).2) cI cZ (cn 13) code 4 p s m #[Value.ref b] c := ⟨hx, hb, hml, hown, htb, hK, Nat.le_refl _, fun q hq => va_Nw.of rfl (hts _ (NWL_in q hq))⟩
  have hLX : LX s.heap.size b (fun ci => (f ci).1) (fun ci => (f ci).2) cI cZ p s m meth c L xs := ⟨hC, hX, hbl, rfl, hr, hlocks⟩
  have key : RJ s.heap.size b (fun ci => (f ci).1) (fun ci => (f ci).2) cI cZ 4 p l e room_1 s m #[Value.ref b] below meth c 0 0 (lw_Z below #[Value.ref b] s) 0 [some .null, none, none, none] [] [] (fun _ _ => 0) := by
    refine RJ.new hC (ci := 11) (by decide +kernel) ⟨by decide, by decide +kernel⟩ ?_
    refine RJ.blk hC [(11, 0, 0, .null)] (pc' := 4) (L' := [some .null, none, none, none]) (st' := [.ref 0, .ref 0]) (by decide +kernel) rfl ?_
    refine RJ.callI hC (q := 0) (As := []) (ds' := dsP 76 []) (st := [.ref 0]) (n := 0) (mc := 75) (ms := 2948) (by
      have h := s_Shop_init (up0 (fun _ _ => 0) 0)
      rw [show dsP 1 [(0, .inl (11, [some none, some none, some none, some none, some none, some none, some none, some none, some none]))] = [] ++ [.inl (11, fs0 11)] by decide +kernel] at h
      exact h) (by decide +kernel) mk_Shop_init rfl ⟨by decide, by decide, by decide +kernel, by decide +kernel⟩ (by decide) rfl ?_
    refine RJ.blk hC [(22, 1, 0, .null)] (pc' := 8) (L' := [some .null, some (.ref 0), none, none]) (st' := []) (by decide +kernel) rfl ?_
    have hlen : (dsP 76 []).length = 76 := by decide +kernel
    refine RJ.new hC (ci := 12) (by decide +kernel) ⟨by decide, by decide +kernel⟩ ?_
    rw [hlen]
    refine RJ.blk hC [(11, 0, 0, .null)] (pc' := 12) (L' := [some .null, some (.ref 0), none, none]) (st' := [.ref 76, .ref 76]) (by decide +kernel) rfl ?_
    refine RJ.callI hC (q := 76) (As := []) (ds' := DS) (st := [.ref 76]) (n := 0) (mc := 26) (ms := 2166) (by
      have h := s_Ref_init (up0 (Z_Shop_init (up0 (fun _ _ => 0) 0)) 76)
      rw [show dsP 77 [(76, .inl (12, [none, none, some none, some none, some none, some none, some none, none, none, none, none, some none, some none, some none, some none, some none, some none, none, none, some none, some none, none, some none, some none, some none, some none, some none, some none, some none, some none, some none, none, some none, none, some none, some none, some none]))] = dsP 76 [] ++ [.inl (12, fs0 12)] by decide +kernel, show dsP 103 [] = DS by decide +kernel] at h
      exact h) (by decide +kernel) mk_Ref_init rfl ⟨by decide, by decide, by decide +kernel, by decide +kernel⟩ (by decide) rfl ?_
    refine RJ.blk hC [(22, 2, 0, .null), (0, 0, 0, .int 0), (4, 3, 0, .null)] (pc' := 18) (L' := LL 0) (st' := []) (by decide +kernel) rfl ?_
    intro H locs ls hW hS hl
    refine W.widen (k := 103) (n := 6000) (by decide +kernel) (by decide +kernel) ?_
    exact law_loop hL L 0 _ (by omega) (Nat.zero_le L) R_start s.heap.size b (fun ci => (f ci).1) (fun ci => (f ci).2) cI cZ p l e s m below meth c hLX H locs ls hW hS hl
  have hl := lv_entry ([.ref b]) (n := 4) (Nat.le_of_ble_eq_true rfl)
  rw [lg_entry_eq]
  generalize (lg_sl ([.ref b]) ++ List.replicate (4 - (lg_sl ([.ref b])).length) Slot.unset).toArray = ls at hl ⊢
  have hl : lv_has ls 4 (lc s.heap.size b 0 [some .null, none, none, none]) := hl
  exact key s.heap [] ls ⟨rfl, fun k q h => by simp [wls] at h⟩ va_S.rf hl
set_option maxHeartbeats 4000000 in
theorem lw_walk (l : Launch) (hflags : l.flags = flags0) (b : Addr) (xs : List Int32) : MetFree l x (headSpec (Jvm.Cond.code x code maxLocals ret :: tables_1) room_1) (lw_P b xs) (fun _ _ _ _ _ => True) lw_Q := by
  refine MetFree.of_bodyS (code := code) (maxLocals := maxLocals) (ret := ret) (by decide) ?_ ?_
  · intro args s m h hn
    obtain ⟨meth, c, h1, h2, h3, h4, h5, h6, -, -⟩ := Cond.code_spec hn (atoms_spec (ws := Jvm.Cond.code x code maxLocals ret :: tables_1) h _ List.mem_cons_self)
    exact ⟨meth, c, h1, h2, h3, h4, h5, h6⟩
  · intro p e s m args below meth c s₁ B hml0 hP _
    obtain ⟨rfl, hx, hbd, hgv⟩ := hP
    obtain ⟨scr, harrAt, hlist, hof, hsmall⟩ := hx
    obtain ⟨hcb, hkn, -, -⟩ := State.arrayAt?_spec harrAt
    have hown : s.vm.findClass R_law = some m.cls := findClass_of_methodNamed B.named
    have hts0 : ∀ c ∈ (Jvm.Cond.code x code maxLocals ret :: tables_1), c.before #[Value.ref b] s = true := atoms_spec (ws := Jvm.Cond.code x code maxLocals ret :: tables_1) B.pre
    have hts : ∀ w ∈ lw_tbl, w.before #[Value.ref b] s = true := k2_hts_sels lw_privs (fun w hw => hts0 w (List.mem_cons_of_mem _ hw)) lw_privs_ok
    have hml : c.maxLocals = 4 := B.maxLocals_eq (hts0 _ List.mem_cons_self)
    have X₀ : Stand p l e room_1 s m #[Value.ref b] below meth c s₁ [] 0 0 := Stand.of_body B
    have hh0 : s₁.heap = s.heap := by rw [B.state]; rfl
    have hsz : scr.slots.size = xs.length := by rw [← Array.length_toList, hlist, List.length_map]
    have hval : ∀ j : Nat, j < xs.length → scr.slots[j]? = some (.int (xs.getD j 0)) := fun j hj => by
      rw [← Array.getElem?_toList, hlist]
      simp [hj]
    have hbl : b < s.heap.size := (Array.getElem?_eq_some_iff.mp hcb).1
    have hX : va_X b xs.length (fun j => xs.getD j 0) s s.heap := ⟨scr, hcb, hof, hkn, hsz, hval⟩
    have K : W p l e room_1 s m #[Value.ref b] below meth c s₁.heap [] 0 0 (lw_Z below #[Value.ref b] s) (entryFrame m ([Value.ref b] : List Value).toArray 4) := by
      rw [hh0]
      exact whole_start l hflags hbd ⟨B.exec, B.bytes, B.returns, hml, hown, hts, hX, hbl, B.notSynchronized, hgv⟩
    obtain ⟨t, a1, o, b1, b2, b3⟩ := K s₁ rfl X₀
    exact ⟨t, o, a1, b1, b2, b3⟩
theorem lw_pre_spec {args : Array Value} {s : State} (h : (Jvm.Cond.and given_1 narrow_1).before args s = true) (hr : rest_1_c.before args s = true) : ∃ (b : Addr) (xs : List Int32), lw_P b xs args s := by
  have hs := flat_of_before _ h
  have hq := flat_of_before _ hr
  have hc : (Cond.count 1).before args s = true := hs _ (by decide +kernel)
  have harr : (Cond.arrayOf (.arg 0) .int).before args s = true := hs _ (by decide +kernel)
  have hle : (Cond.le (.length (.arg 0)) (.int 3072)).before args s = true := hs _ (by decide +kernel)
  have hlen : (Cond.isInt (.length (.arg 0))).before args s = true := hq _ (by decide +kernel)
  have hall : (Cond.all (.arg 0) (.isInt (.elem (.arg 0) (.index 0)))).before args s = true := hq _ (by decide +kernel)
  obtain ⟨b, xs, hb, hx⟩ := State.ints_of_pre rfl harr hlen hall
  have hsm : xs.length < 2 ^ 31 := hx.choose_spec.2.2.2
  have hev : (Term.length (.arg 0)).eval args s none [] s = some (.int xs.length.toInt32) := hx.length_eval hb
  have hv := Cond.le_ints hev (show (Term.int 3072).eval args s none [] s = some (.int 3072) from rfl)
  have hd : xs.length.toInt32 ≤ 3072 := by
    simpa [Cond.before, Cond.holds, hv] using hle
  have hN : xs.length ≤ 3072 := (Int32.ofNat_le_ofNat hsm (by decide)).mp (show Int32.ofNat xs.length ≤ Int32.ofNat 3072 from hd)
  exact ⟨b, xs, Cond.one_arg hc (show args[0]? = some (.ref b) from hb), hx, hN, h⟩
theorem lw_comes (l : Launch) (hflags : l.flags = flags0) : Comes l x (Jvm.Cond.code x code maxLocals ret :: tables_1) room_1 (fun tb e args s => Calls_1 tb e args s ∧ rest_1 tb e args s ∧ Pre_1 tb e args s)
    (fun _ _ args s o t => lw_Q args s o t) := by
  intro p e ha hc hk s m args below hf hfit hheap happ hpre
  obtain ⟨b, xs, hP⟩ := lw_pre_spec hpre.2.2 hpre.2.1
  obtain ⟨k, o, h1, h2, h3, hQ⟩ := lw_walk l hflags b xs p e ha hc hk s m args below hf ((Spec.applies_iff_loose hf).mp happ).1 hP trivial
  exact ⟨k, o, h1, h2, h3, hQ⟩
theorem lw_frame {s t : State} {o : Outcome} {args : Array Value} (h : Framed s o t [] 600000 7302250) :
    Framed s o t (fieldLocs frame_1_writes args s ++ arrayLocs frame_1_arrays args s ++ staticLocs frame_1_statics s) 600000 7302250 := h
theorem lw_limb (L : Cond) (hL : ∀ (args : Array Value) (s t : State), L.after args s (.returned (some (.int 1))) t = true) :
    ArmFor flags0 classFile x code maxLocals ret World_1 tables_1 room_1 Calls_1 rest_1 Pre_1
      (fun tb e a s o t => postC L tb e a s o t ∧ Framed s o t (fieldLocs frame_1_writes a s ++ arrayLocs frame_1_arrays a s ++ staticLocs frame_1_statics s) 600000 7302250) := by
  intro l hflags _ _ p e ha hc hk s m args below hf hfit hheap happ hpre
  obtain ⟨k, o, h1, h2, h3, rfl, hF⟩ := lw_comes l hflags p e ha hc hk s m args below hf hfit hheap happ hpre
  exact ⟨k, _, h1, h2, h3, hL args s _, lw_frame hF⟩
theorem i_vc : Claimed_1_1 ∧ Claimed_1_2 := ⟨lw_limb limb_1_1 (fun args s t => by simp [limb_1_1, Cond.after, Cond.holds, Cond.value]), lw_limb limb_1_2 (fun args s t => Cond.after_iff.mpr (by
  first | (rw [show limb_1_2 = Cond.eq .result (.int 1) from rfl, Cond.eq_ints (x := 1) (y := 1) rfl rfl]; simp; done) | (simp [limb_1_2, Cond.value, Term.eval]; done)))⟩
