/-! methods: Cubes_rightOf, Sheets_rightEdge, Sheets_tell, Shop_sheet, Painter_makeAnew, Shop_broken, Sheets_latestCrate, Shop_crates, Shop_crate, Hands_hire, Shop_hand, Hands_isMaster, Hands_haveMaster, Dealer_gather, Hands_daysFor, Dealer_dealFrom, Dealer_dealSheets, Shop_days, Dealer_handOf, Shop_dealt, Lots_leftInAll, Drawing_placesOfAll, Shop_count -/
def M_Cubes_rightOf : MI := (yX1_rightOf, cX1_rightOf, 2, some .int, 1)
theorem mk_Cubes_rightOf : mOK M_Cubes_rightOf 1 = true := by decide +kernel
set_option maxRecDepth 100000 in
set_option maxHeartbeats 4000000 in
theorem s_Cubes_rightOf (σ : SG) (p0 : Int32) : SpN 3 M_Cubes_rightOf [.ref 18, .int p0] σ (some (.int (F_Cubes_rightOf σ p0))) σ := by
  generalize h : F_Cubes_rightOf σ p0 = rr
  unfold F_Cubes_rightOf at h
  refine Sp.of mk_Cubes_rightOf rfl (Nat.le_of_ble_eq_true rfl) ?_
  refine RM.blk [(2, 0, 0, .null), (3, 1, 2, .null), (1, 1, 0, .null)] (pc' := 5) (L' := [some (.ref 18), some (.int p0)]) (st' := [.int p0, .ref 21]) (σ1 := σ) (by decide +kernel) rfl ?_
  refine RN.callV [.int p0] (s_Row_get (q := 21) (a := 22) (n := 240) ⟨rfl, rfl, by decide⟩ σ p0) [] (pc3 := 8) (st3 := [.int (rg σ 22 240 p0)]) (by decide +kernel) mk_Row_get (by decide) ?_
  refine RM.blk [(2, 0, 0, .null), (3, 1, 3, .null), (1, 1, 0, .null)] (pc' := 13) (L' := [some (.ref 18), some (.int p0)]) (st' := [.int p0, .ref 23, .int (rg σ 22 240 p0)]) (σ1 := σ) (by decide +kernel) rfl ?_
  refine RN.callV [.int p0] (s_Row_get (q := 23) (a := 24) (n := 240) ⟨rfl, rfl, by decide⟩ σ p0) [.int (rg σ 22 240 p0)] (pc3 := 16) (st3 := [.int (rg σ 24 240 p0), .int (rg σ 22 240 p0)]) (by decide +kernel) mk_Row_get (by decide) ?_
  refine RM.blk [(5, 0, 0, .null)] (pc' := 17) (L' := [some (.ref 18), some (.int p0)]) (st' := [.int ((rg σ 22 240 p0) + (rg σ 24 240 p0))]) (σ1 := σ) (by decide +kernel) rfl ?_
  obtain rfl := h
  exact RM.reti (by decide +kernel) rfl
def M_Sheets_rightEdge : MI := (yX10_rightEdge, cX10_rightEdge, 4, some .int, 10)
theorem mk_Sheets_rightEdge : mOK M_Sheets_rightEdge 1 = true := by decide +kernel
set_option maxRecDepth 100000 in
set_option maxHeartbeats 4000000 in
theorem s_Sheets_rightEdge (σ : SG) (p0 : Int32) (rr : Int32) (h : F_Sheets_rightEdge σ p0 = some rr) : SpN 4 M_Sheets_rightEdge [.ref 57, .int p0] σ (some (.int rr)) σ := by
  unfold F_Sheets_rightEdge at h
  refine Sp.of mk_Sheets_rightEdge rfl (Nat.le_of_ble_eq_true rfl) ?_
  refine RM.blk [(0, 0, 0, .int (-1)), (4, 2, 0, .null), (0, 0, 0, .int 0), (4, 3, 0, .null)] (pc' := 4) (L' := [some (.ref 57), some (.int p0), some (.int (-1)), some (.int 0)]) (st' := []) (σ1 := σ) (by decide +kernel) rfl ?_
  have hL1 : ∀ (n : Nat) (x1 : Int32 × Int32) (y1 : Int32), lpW (L_Sheets_rightEdge_4 σ p0) n x1 = some y1 → RN 4 M_Sheets_rightEdge (some (.int rr)) σ 49 [none, none, some (.int y1), none] [] σ → RN 4 M_Sheets_rightEdge (some (.int rr)) σ 4 [some (.ref 57), some (.int p0), some (.int x1.1), some (.int x1.2)] [] σ := by
    intro n
    induction n with
    | zero => intro x1 y1 hy1; cases hy1
    | succ n ih1 =>
      intro x1 y1 hy1 hK1
      obtain ⟨z1, e1, hy1⟩ := ob_some hy1
      unfold L_Sheets_rightEdge_4 at e1
      refine RM.blk [(1, 3, 0, .null), (2, 0, 0, .null), (3, 10, 4, .null), (3, 1, 0, .null)] (pc' := 12) (L' := [some (.ref 57), some (.int p0), some (.int x1.1), some (.int x1.2)]) (st' := [.int (σ 18 0), .int x1.2]) (σ1 := σ) (by decide +kernel) rfl ?_
      refine RM.icmp_ge (tgt := 49) (by decide +kernel) (fun c2 => ?_) (fun c2 => ?_)
      · rw [if_pos c2] at e1
        obtain rfl := Option.some.inj e1
        obtain rfl := Option.some.inj (show some (x1.1 : Int32) = some y1 from hy1)
        refine RN.dropB [false, false, true, false] rfl ?_
        exact hK1
      · rw [if_neg c2] at e1
        refine RM.blk [(2, 0, 0, .null), (3, 10, 4, .null), (3, 1, 6, .null), (1, 3, 0, .null)] (pc' := 23) (L' := [some (.ref 57), some (.int p0), some (.int x1.1), some (.int x1.2)]) (st' := [.int x1.2, .ref 29]) (σ1 := σ) (by decide +kernel) rfl ?_
        refine RN.callV [.int x1.2] (s_Row_get (q := 29) (a := 30) (n := 240) ⟨rfl, rfl, by decide⟩ σ x1.2) [] (pc3 := 26) (st3 := [.int (rg σ 30 240 x1.2)]) (by decide +kernel) mk_Row_get (by decide) ?_
        refine RM.blk [(1, 1, 0, .null)] (pc' := 27) (L' := [some (.ref 57), some (.int p0), some (.int x1.1), some (.int x1.2)]) (st' := [.int p0, .int (rg σ 30 240 x1.2)]) (σ1 := σ) (by decide +kernel) rfl ?_
        refine RM.icmp_ne (tgt := 43) (by decide +kernel) (fun c3 => ?_) (fun c3 => ?_)
        · rw [if_neg c3] at e1
          refine RM.blk [(10, 3, 0, .int 1), (23, 0, 0, .null)] (pc' := 4) (L' := [some (.ref 57), some (.int p0), some (.int x1.1), some (.int (x1.2 + 1))]) (st' := []) (σ1 := σ) (by decide +kernel) rfl ?_
          obtain rfl := Option.some.inj e1
          refine RN.dropB [true, true, true, true] rfl ?_
          exact ih1 (x1.1, (x1.2 + 1)) _ hy1 hK1
        · rw [if_pos c3] at e1
          refine RM.blk [(1, 2, 0, .null), (2, 0, 0, .null), (3, 10, 4, .null), (1, 3, 0, .null)] (pc' := 36) (L' := [some (.ref 57), some (.int p0), some (.int x1.1), some (.int x1.2)]) (st' := [.int x1.2, .ref 18, .int x1.1]) (σ1 := σ) (by decide +kernel) rfl ?_
          refine RN.callV [.int x1.2] (s_Cubes_rightOf σ x1.2) [.int x1.1] (pc3 := 39) (st3 := [.int (F_Cubes_rightOf σ x1.2), .int x1.1]) (by decide +kernel) mk_Cubes_rightOf (by decide) ?_
          refine RM.mmax (by decide +kernel) (by decide) (Nat.le_of_ble_eq_true rfl) ⟨Nat.le_refl _, Nat.le_refl _⟩ ?_
          refine RM.blk [(4, 2, 0, .null), (10, 3, 0, .int 1), (23, 0, 0, .null)] (pc' := 4) (L' := [some (.ref 57), some (.int p0), some (.int (mxI x1.1 (F_Cubes_rightOf σ x1.2))), some (.int (x1.2 + 1))]) (st' := []) (σ1 := σ) (by decide +kernel) rfl ?_
          obtain rfl := Option.some.inj e1
          refine RN.dropB [true, true, true, true] rfl ?_
          exact ih1 ((mxI x1.1 (F_Cubes_rightOf σ x1.2)), (x1.2 + 1)) _ hy1 hK1
  obtain ⟨y1, hl1, h⟩ := ob_some h
  refine RN.dropB [true, true, true, true] rfl ?_
  refine hL1 FU ((-1), 0) y1 hl1 ?_
  refine RM.blk [(1, 2, 0, .null)] (pc' := 50) (L' := [none, none, some (.int y1), none]) (st' := [.int y1]) (σ1 := σ) (by decide +kernel) rfl ?_
  obtain rfl := (Option.some.inj h)
  exact RM.reti (by decide +kernel) rfl
def M_Sheets_tell : MI := (yX10_tell, cX10_tell, 3, some .int, 10)
theorem mk_Sheets_tell : mOK M_Sheets_tell 2 = true := by decide +kernel
set_option maxRecDepth 100000 in
set_option maxHeartbeats 4000000 in
theorem s_Sheets_tell (σ : SG) (p0 : Int32) (p1 : Int32) (rr : Int32) (h : F_Sheets_tell σ p0 p1 = some rr) : SpN 5 M_Sheets_tell [.ref 57, .int p0, .int p1] σ (some (.int rr)) σ := by
  unfold F_Sheets_tell at h
  refine Sp.of mk_Sheets_tell rfl (Nat.le_of_ble_eq_true rfl) ?_
  refine RM.blk [(1, 2, 0, .null)] (pc' := 1) (L' := [some (.ref 57), some (.int p0), some (.int p1)]) (st' := [.int p1]) (σ1 := σ) (by decide +kernel) rfl ?_
  refine RM.tsw (ts := [36, 42, 51, 64, 78]) (df := 84) (by decide +kernel) (by decide) ⟨fun c1 => ?_, fun c1 => ?_, fun c1 => ?_, fun c1 => ?_, fun c1 => ?_, trivial⟩ (fun c1 => ?_)
  · rw [tsS_at (j := 0) c1 rfl rfl] at h
    refine RM.blk [(2, 0, 0, .null), (1, 1, 0, .null)] (pc' := 38) (L' := [some (.ref 57), some (.int p0), some (.int p1)]) (st' := [.int p0, .ref 57]) (σ1 := σ) (by decide +kernel) rfl ?_
    obtain ⟨v2, hv2, h⟩ := ob_some h
    refine RN.callV [.int p0] (s_Sheets_cubesOn σ p0 v2 hv2) [] (pc3 := 41) (st3 := [.int v2]) (by decide +kernel) mk_Sheets_cubesOn (by decide) ?_
    obtain rfl := (Option.some.inj h)
    exact RM.reti (by decide +kernel) rfl
  · rw [tsS_at (j := 1) c1 rfl rfl] at h
    refine RM.blk [(2, 0, 0, .null), (3, 10, 1, .null), (1, 1, 0, .null)] (pc' := 47) (L' := [some (.ref 57), some (.int p0), some (.int p1)]) (st' := [.int p0, .ref 58]) (σ1 := σ) (by decide +kernel) rfl ?_
    refine RN.callV [.int p0] (s_Row_get (q := 58) (a := 59) (n := 240) ⟨rfl, rfl, by decide⟩ σ p0) [] (pc3 := 50) (st3 := [.int (rg σ 59 240 p0)]) (by decide +kernel) mk_Row_get (by decide) ?_
    obtain rfl := (Option.some.inj h)
    exact RM.reti (by decide +kernel) rfl
  · rw [tsS_at (j := 2) c1 rfl rfl] at h
    refine RM.blk [(2, 0, 0, .null), (1, 1, 0, .null), (2, 0, 0, .null), (3, 10, 3, .null), (3, 4, 2, .null)] (pc' := 60) (L' := [some (.ref 57), some (.int p0), some (.int p1)]) (st' := [.ref 14, .int p0, .ref 57]) (σ1 := σ) (by decide +kernel) rfl ?_
    obtain ⟨v3, hv3, h⟩ := ob_some h
    refine RN.callV [.int p0, .ref 14] (s_Sheets_placesMarked_14 σ p0 v3 hv3) [] (pc3 := 63) (st3 := [.int v3]) (by decide +kernel) mk_Sheets_placesMarked (by decide) ?_
    obtain rfl := (Option.some.inj h)
    exact RM.reti (by decide +kernel) rfl
  · rw [tsS_at (j := 3) c1 rfl rfl] at h
    refine RM.blk [(2, 0, 0, .null), (1, 1, 0, .null)] (pc' := 66) (L' := [some (.ref 57), some (.int p0), some (.int p1)]) (st' := [.int p0, .ref 57]) (σ1 := σ) (by decide +kernel) rfl ?_
    obtain ⟨v4, hv4, h⟩ := ob_some h
    refine RN.callV [.int p0] (s_Sheets_hasHead σ p0 v4 hv4) [] (pc3 := 69) (st3 := [.int (bI v4)]) (by decide +kernel) mk_Sheets_hasHead (by decide) ?_
    refine RM.zeq (tgt := 76) (by decide +kernel) (fun c5 => ?_) (fun c5 => ?_)
    · rw [if_neg (bf c5)] at h
      refine RM.blk [(0, 0, 0, .int 0)] (pc' := 77) (L' := [some (.ref 57), some (.int p0), some (.int p1)]) (st' := [.int 0]) (σ1 := σ) (by decide +kernel) rfl ?_
      obtain rfl := (Option.some.inj h)
      exact RM.reti (by decide +kernel) rfl
    · rw [if_pos c5] at h
      refine RM.blk [(0, 0, 0, .int 1), (23, 0, 0, .null)] (pc' := 77) (L' := [some (.ref 57), some (.int p0), some (.int p1)]) (st' := [.int 1]) (σ1 := σ) (by decide +kernel) rfl ?_
      obtain rfl := (Option.some.inj h)
      exact RM.reti (by decide +kernel) rfl
  · rw [tsS_at (j := 4) c1 rfl rfl] at h
    refine RM.blk [(2, 0, 0, .null), (1, 1, 0, .null)] (pc' := 80) (L' := [some (.ref 57), some (.int p0), some (.int p1)]) (st' := [.int p0, .ref 57]) (σ1 := σ) (by decide +kernel) rfl ?_
    obtain ⟨v6, hv6, h⟩ := ob_some h
    refine RN.callV [.int p0] (s_Sheets_leftEdge σ p0 v6 hv6) [] (pc3 := 83) (st3 := [.int v6]) (by decide +kernel) mk_Sheets_leftEdge (by decide) ?_
    obtain rfl := (Option.some.inj h)
    exact RM.reti (by decide +kernel) rfl
  · rw [tsS_out c1 rfl] at h
    refine RM.blk [(2, 0, 0, .null), (1, 1, 0, .null)] (pc' := 86) (L' := [some (.ref 57), some (.int p0), some (.int p1)]) (st' := [.int p0, .ref 57]) (σ1 := σ) (by decide +kernel) rfl ?_
    obtain ⟨v7, hv7, h⟩ := ob_some h
    refine RN.callV [.int p0] (s_Sheets_rightEdge σ p0 v7 hv7) [] (pc3 := 89) (st3 := [.int v7]) (by decide +kernel) mk_Sheets_rightEdge (by decide) ?_
    obtain rfl := (Option.some.inj h)
    exact RM.reti (by decide +kernel) rfl
def M_Shop_sheet : MI := (yX11_sheet, cX11_sheet, 3, some .int, 11)
theorem mk_Shop_sheet : mOK M_Shop_sheet 2 = true := by decide +kernel
set_option maxRecDepth 100000 in
set_option maxHeartbeats 4000000 in
theorem s_Shop_sheet (σ : SG) (p0 : Int32) (p1 : Int32) (rr : Int32) (h : F_Shop_sheet σ p0 p1 = some rr) : SpN 6 M_Shop_sheet [.ref 0, .int p0, .int p1] σ (some (.int rr)) σ := by
  unfold F_Shop_sheet at h
  refine Sp.of mk_Shop_sheet rfl (Nat.le_of_ble_eq_true rfl) ?_
  refine RM.blk [(2, 0, 0, .null), (1, 1, 0, .null)] (pc' := 2) (L' := [some (.ref 0), some (.int p0), some (.int p1)]) (st' := [.int p0, .ref 0]) (σ1 := σ) (by decide +kernel) rfl ?_
  refine RN.callV [.int p0] (s_Shop_maySheet σ p0) [] (pc3 := 5) (st3 := [.int (bI (F_Shop_maySheet σ p0))]) (by decide +kernel) mk_Shop_maySheet (by decide) ?_
  refine RM.zeq (tgt := 17) (by decide +kernel) (fun c1 => ?_) (fun c1 => ?_)
  · rw [if_neg (bf c1)] at h
    refine RM.blk [(0, 0, 0, .int (-2))] (pc' := 19) (L' := [some (.ref 0), some (.int p0), some (.int p1)]) (st' := [.int (-2)]) (σ1 := σ) (by decide +kernel) rfl ?_
    obtain rfl := (Option.some.inj h)
    exact RM.reti (by decide +kernel) rfl
  · rw [if_pos c1] at h
    refine RM.blk [(1, 2, 0, .null), (0, 0, 0, .int 0), (0, 0, 0, .int 5)] (pc' := 11) (L' := [some (.ref 0), some (.int p0), some (.int p1)]) (st' := [.int 5, .int 0, .int p1]) (σ1 := σ) (by decide +kernel) rfl ?_
    refine RN.callS [.int p1, .int 0, .int 5] (s_Shop_within σ p1 0 5) [] (pc3 := 14) (st3 := [.int (bI (F_Shop_within p1 0 5))]) (by decide +kernel) mk_Shop_within (by decide) ?_
    refine RM.zne (tgt := 20) (by decide +kernel) (fun c2 => ?_) (fun c2 => ?_)
    · rw [if_pos c2] at h
      refine RM.blk [(2, 0, 0, .null)] (pc' := 21) (L' := [some (.ref 0), some (.int p0), some (.int p1)]) (st' := [.ref 0]) (σ1 := σ) (by decide +kernel) rfl ?_
      refine RN.callV [] (s_Shop_isCut σ) [] (pc3 := 24) (st3 := [.int (bI (F_Shop_isCut σ))]) (by decide +kernel) mk_Shop_isCut (by decide) ?_
      refine RM.zeq (tgt := 39) (by decide +kernel) (fun c3 => ?_) (fun c3 => ?_)
      · rw [if_neg (bf c3)] at h
        refine RM.blk [(0, 0, 0, .int (-3))] (pc' := 41) (L' := [some (.ref 0), some (.int p0), some (.int p1)]) (st' := [.int (-3)]) (σ1 := σ) (by decide +kernel) rfl ?_
        obtain rfl := (Option.some.inj h)
        exact RM.reti (by decide +kernel) rfl
      · rw [if_pos c3] at h
        refine RM.blk [(2, 0, 0, .null), (3, 11, 6, .null), (1, 1, 0, .null), (1, 2, 0, .null)] (pc' := 33) (L' := [some (.ref 0), some (.int p0), some (.int p1)]) (st' := [.int p1, .int p0, .ref 57]) (σ1 := σ) (by decide +kernel) rfl ?_
        obtain ⟨v4, hv4, h⟩ := ob_some h
        refine RN.callV [.int p0, .int p1] (s_Sheets_tell σ p0 p1 v4 hv4) [] (pc3 := 36) (st3 := [.int v4]) (by decide +kernel) mk_Sheets_tell (by decide) ?_
        refine RM.blk [(23, 0, 0, .null)] (pc' := 41) (L' := [some (.ref 0), some (.int p0), some (.int p1)]) (st' := [.int v4]) (σ1 := σ) (by decide +kernel) rfl ?_
        obtain rfl := (Option.some.inj h)
        exact RM.reti (by decide +kernel) rfl
    · rw [if_neg (bf c2)] at h
      refine RM.blk [(0, 0, 0, .int (-2))] (pc' := 19) (L' := [some (.ref 0), some (.int p0), some (.int p1)]) (st' := [.int (-2)]) (σ1 := σ) (by decide +kernel) rfl ?_
      obtain rfl := (Option.some.inj h)
      exact RM.reti (by decide +kernel) rfl
def M_Painter_makeAnew : MI := (yX8_makeAnew, cX8_makeAnew, 6, some .int, 8)
theorem mk_Painter_makeAnew : mOK M_Painter_makeAnew 1 = true := by decide +kernel
set_option maxRecDepth 100000 in
set_option maxHeartbeats 4000000 in
theorem s_Painter_makeAnew (σ : SG) (p0 : Int32) (rr : Int32) (so : SG) (h : F_Painter_makeAnew σ p0 = some (rr, so)) : SpN 6 M_Painter_makeAnew [.ref 52, .int p0] σ (some (.int rr)) so := by
  unfold F_Painter_makeAnew at h
  refine Sp.of mk_Painter_makeAnew rfl (Nat.le_of_ble_eq_true rfl) ?_
  refine RM.blk [(2, 0, 0, .null), (3, 8, 5, .null), (2, 0, 0, .null), (3, 8, 4, .null), (3, 7, 1, .null)] (pc' := 11) (L' := [some (.ref 52), some (.int p0), none, none, none, none]) (st' := [.ref 43, .ref 53]) (σ1 := σ) (by decide +kernel) rfl ?_
  refine RN.callV [.ref 43] (s_Row_copyFrom (q := 53) (a := 54) (n := 10) ⟨rfl, rfl, by decide⟩ (q2 := 43) (a2 := 44) (n2 := 10) ⟨rfl, rfl, by decide⟩ (by decide) σ) [] (pc3 := 14) (st3 := []) (by decide +kernel) mk_Row_copyFrom (by decide) ?_
  refine RM.blk [(2, 0, 0, .null), (3, 8, 6, .null), (2, 0, 0, .null), (3, 8, 3, .null), (3, 1, 5, .null)] (pc' := 25) (L' := [some (.ref 52), some (.int p0), none, none, none, none]) (st' := [.ref 27, .ref 55]) (σ1 := (rc σ 54 10 44 10)) (by decide +kernel) rfl ?_
  refine RN.callV [.ref 27] (s_Row_copyFrom (q := 55) (a := 56) (n := 240) ⟨rfl, rfl, by decide⟩ (q2 := 27) (a2 := 28) (n2 := 240) ⟨rfl, rfl, by decide⟩ (by decide) (rc σ 54 10 44 10)) [] (pc3 := 28) (st3 := []) (by decide +kernel) mk_Row_copyFrom (by decide) ?_
  refine RM.blk [(0, 0, 0, .int 0), (4, 2, 0, .null), (0, 0, 0, .int 0), (4, 3, 0, .null)] (pc' := 32) (L' := [some (.ref 52), some (.int p0), some (.int 0), some (.int 0), none, none]) (st' := []) (σ1 := (rc (rc σ 54 10 44 10) 56 240 28 240)) (by decide +kernel) rfl ?_
  have hL1 : ∀ (n : Nat) (x1 : Int32 × Int32 × SG) (y1 : (Int32 × SG) ⊕ (Int32 × SG)), lpW (L_Painter_makeAnew_32 p0) n x1 = some y1 → Sum.elim (fun y1 : Int32 × SG => RN 6 M_Painter_makeAnew (some (.int rr)) so 180 [none, none, some (.int y1.1), none, none, none] [] y1.2) (fun q : Int32 × SG => q = (rr, so)) y1 → RN 6 M_Painter_makeAnew (some (.int rr)) so 32 [some (.ref 52), some (.int p0), some (.int x1.1), some (.int x1.2.1), none, none] [] x1.2.2 := by
    intro n
    induction n with
    | zero => intro x1 y1 hy1; cases hy1
    | succ n ih1 =>
      intro x1 y1 hy1 hK1
      obtain ⟨z1, e1, hy1⟩ := ob_some hy1
      unfold L_Painter_makeAnew_32 at e1
      refine RM.blk [(1, 3, 0, .null), (2, 0, 0, .null), (3, 8, 3, .null), (3, 1, 0, .null)] (pc' := 40) (L' := [some (.ref 52), some (.int p0), some (.int x1.1), some (.int x1.2.1), none, none]) (st' := [.int (x1.2.2 18 0), .int x1.2.1]) (σ1 := x1.2.2) (by decide +kernel) rfl ?_
      refine RM.icmp_ge (tgt := 180) (by decide +kernel) (fun c2 => ?_) (fun c2 => ?_)
      · rw [if_pos c2] at e1
        obtain rfl := Option.some.inj e1
        obtain rfl := Option.some.inj (show some ((.inl (x1.1, x1.2.2)) : (Int32 × SG) ⊕ (Int32 × SG)) = some y1 from hy1)
        refine RN.dropB [false, false, true, false, false, false] rfl ?_
        exact hK1
      · rw [if_neg c2] at e1
        refine RM.blk [(2, 0, 0, .null), (3, 8, 3, .null), (3, 1, 5, .null), (1, 3, 0, .null)] (pc' := 51) (L' := [some (.ref 52), some (.int p0), some (.int x1.1), some (.int x1.2.1), none, none]) (st' := [.int x1.2.1, .ref 27]) (σ1 := x1.2.2) (by decide +kernel) rfl ?_
        refine RN.callV [.int x1.2.1] (s_Row_get (q := 27) (a := 28) (n := 240) ⟨rfl, rfl, by decide⟩ x1.2.2 x1.2.1) [] (pc3 := 54) (st3 := [.int (rg x1.2.2 28 240 x1.2.1)]) (by decide +kernel) mk_Row_get (by decide) ?_
        refine RM.blk [(4, 4, 0, .null), (2, 0, 0, .null), (3, 8, 3, .null), (3, 1, 6, .null), (1, 3, 0, .null)] (pc' := 64) (L' := [some (.ref 52), some (.int p0), some (.int x1.1), some (.int x1.2.1), some (.int (rg x1.2.2 28 240 x1.2.1)), none]) (st' := [.int x1.2.1, .ref 29]) (σ1 := x1.2.2) (by decide +kernel) rfl ?_
        refine RN.callV [.int x1.2.1] (s_Row_get (q := 29) (a := 30) (n := 240) ⟨rfl, rfl, by decide⟩ x1.2.2 x1.2.1) [] (pc3 := 67) (st3 := [.int (rg x1.2.2 30 240 x1.2.1)]) (by decide +kernel) mk_Row_get (by decide) ?_
        refine RM.blk [(1, 1, 0, .null)] (pc' := 68) (L' := [some (.ref 52), some (.int p0), some (.int x1.1), some (.int x1.2.1), some (.int (rg x1.2.2 28 240 x1.2.1)), none]) (st' := [.int p0, .int (rg x1.2.2 30 240 x1.2.1)]) (σ1 := x1.2.2) (by decide +kernel) rfl ?_
        refine RM.icmp_ne (tgt := 174) (by decide +kernel) (fun c3 => ?_) (fun c3 => ?_)
        · rw [if_neg c3] at e1
          refine RM.blk [(10, 3, 0, .int 1), (23, 0, 0, .null)] (pc' := 32) (L' := [some (.ref 52), some (.int p0), some (.int x1.1), some (.int (x1.2.1 + 1)), some (.int (rg x1.2.2 28 240 x1.2.1)), none]) (st' := []) (σ1 := x1.2.2) (by decide +kernel) rfl ?_
          obtain rfl := Option.some.inj e1
          refine RN.dropB [true, true, true, true, false, false] rfl ?_
          exact ih1 (x1.1, (x1.2.1 + 1), x1.2.2) _ hy1 hK1
        · rw [if_pos c3] at e1
          refine RM.blk [(1, 4, 0, .null), (0, 0, 0, .int (-1))] (pc' := 74) (L' := [some (.ref 52), some (.int p0), some (.int x1.1), some (.int x1.2.1), some (.int (rg x1.2.2 28 240 x1.2.1)), none]) (st' := [.int (-1), .int (rg x1.2.2 28 240 x1.2.1)]) (σ1 := x1.2.2) (by decide +kernel) rfl ?_
          refine RM.icmp_eq (tgt := 174) (by decide +kernel) (fun c4 => ?_) (fun c4 => ?_)
          · rw [if_pos c4] at e1
            refine RM.blk [(10, 3, 0, .int 1), (23, 0, 0, .null)] (pc' := 32) (L' := [some (.ref 52), some (.int p0), some (.int x1.1), some (.int (x1.2.1 + 1)), some (.int (rg x1.2.2 28 240 x1.2.1)), none]) (st' := []) (σ1 := x1.2.2) (by decide +kernel) rfl ?_
            obtain rfl := Option.some.inj e1
            refine RN.dropB [true, true, true, true, false, false] rfl ?_
            exact ih1 (x1.1, (x1.2.1 + 1), x1.2.2) _ hy1 hK1
          · rw [if_neg c4] at e1
            refine RM.blk [(2, 0, 0, .null), (3, 8, 4, .null), (3, 7, 1, .null), (1, 4, 0, .null)] (pc' := 86) (L' := [some (.ref 52), some (.int p0), some (.int x1.1), some (.int x1.2.1), some (.int (rg x1.2.2 28 240 x1.2.1)), none]) (st' := [.int (rg x1.2.2 28 240 x1.2.1), .ref 43]) (σ1 := x1.2.2) (by decide +kernel) rfl ?_
            refine RN.callV [.int (rg x1.2.2 28 240 x1.2.1)] (s_Row_get (q := 43) (a := 44) (n := 10) ⟨rfl, rfl, by decide⟩ x1.2.2 (rg x1.2.2 28 240 x1.2.1)) [] (pc3 := 89) (st3 := [.int (rg x1.2.2 44 10 (rg x1.2.2 28 240 x1.2.1))]) (by decide +kernel) mk_Row_get (by decide) ?_
            refine RM.blk [(2, 0, 0, .null), (3, 8, 3, .null), (3, 1, 3, .null), (1, 3, 0, .null)] (pc' := 97) (L' := [some (.ref 52), some (.int p0), some (.int x1.1), some (.int x1.2.1), some (.int (rg x1.2.2 28 240 x1.2.1)), none]) (st' := [.int x1.2.1, .ref 23, .int (rg x1.2.2 44 10 (rg x1.2.2 28 240 x1.2.1))]) (σ1 := x1.2.2) (by decide +kernel) rfl ?_
            refine RN.callV [.int x1.2.1] (s_Row_get (q := 23) (a := 24) (n := 240) ⟨rfl, rfl, by decide⟩ x1.2.2 x1.2.1) [.int (rg x1.2.2 44 10 (rg x1.2.2 28 240 x1.2.1))] (pc3 := 100) (st3 := [.int (rg x1.2.2 24 240 x1.2.1), .int (rg x1.2.2 44 10 (rg x1.2.2 28 240 x1.2.1))]) (by decide +kernel) mk_Row_get (by decide) ?_
            refine RM.icmp_lt (tgt := 108) (by decide +kernel) (fun c5 => ?_) (fun c5 => ?_)
            · rw [if_pos c5] at e1
              refine RM.blk [(2, 0, 0, .null), (1, 3, 0, .null)] (pc' := 110) (L' := [some (.ref 52), some (.int p0), some (.int x1.1), some (.int x1.2.1), some (.int (rg x1.2.2 28 240 x1.2.1)), none]) (st' := [.int x1.2.1, .ref 52]) (σ1 := x1.2.2) (by decide +kernel) rfl ?_
              obtain ⟨v6, hv6, e1⟩ := ob_some e1
              refine RN.callV [.int x1.2.1] (s_Painter_nearestFor x1.2.2 x1.2.1 v6 hv6) [] (pc3 := 113) (st3 := [.int v6]) (by decide +kernel) mk_Painter_nearestFor (by decide) ?_
              refine RM.blk [(4, 5, 0, .null), (1, 5, 0, .null), (0, 0, 0, .int (-1))] (pc' := 118) (L' := [some (.ref 52), some (.int p0), some (.int x1.1), some (.int x1.2.1), some (.int (rg x1.2.2 28 240 x1.2.1)), some (.int v6)]) (st' := [.int (-1), .int v6]) (σ1 := x1.2.2) (by decide +kernel) rfl ?_
              refine RM.icmp_ne (tgt := 152) (by decide +kernel) (fun c7 => ?_) (fun c7 => ?_)
              · rw [if_neg c7] at e1
                refine RM.blk [(2, 0, 0, .null), (1, 5, 0, .null), (1, 3, 0, .null)] (pc' := 156) (L' := [some (.ref 52), some (.int p0), some (.int x1.1), some (.int x1.2.1), some (.int (rg x1.2.2 28 240 x1.2.1)), some (.int v6)]) (st' := [.int x1.2.1, .int v6, .ref 52]) (σ1 := x1.2.2) (by decide +kernel) rfl ?_
                refine RN.callV [.int v6, .int x1.2.1] (s_Painter_give x1.2.2 v6 x1.2.1 _ rfl) [] (pc3 := 159) (st3 := []) (by decide +kernel) mk_Painter_give (by decide) ?_
                refine RM.blk [(1, 2, 0, .null), (1, 5, 0, .null), (1, 4, 0, .null)] (pc' := 164) (L' := [some (.ref 52), some (.int p0), some (.int x1.1), some (.int x1.2.1), some (.int (rg x1.2.2 28 240 x1.2.1)), some (.int v6)]) (st' := [.int (rg x1.2.2 28 240 x1.2.1), .int v6, .int x1.1]) (σ1 := (F_Painter_give x1.2.2 v6 x1.2.1)) (by decide +kernel) rfl ?_
                refine RM.icmp_eq (tgt := 171) (by decide +kernel) (fun c8 => ?_) (fun c8 => ?_)
                · rw [if_pos c8] at e1
                  refine RM.blk [(0, 0, 0, .int 0), (5, 0, 0, .null), (4, 2, 0, .null), (10, 3, 0, .int 1), (23, 0, 0, .null)] (pc' := 32) (L' := [some (.ref 52), some (.int p0), some (.int (x1.1 + 0)), some (.int (x1.2.1 + 1)), some (.int (rg x1.2.2 28 240 x1.2.1)), some (.int v6)]) (st' := []) (σ1 := (F_Painter_give x1.2.2 v6 x1.2.1)) (by decide +kernel) rfl ?_
                  obtain rfl := Option.some.inj e1
                  refine RN.dropB [true, true, true, true, false, false] rfl ?_
                  exact ih1 ((x1.1 + 0), (x1.2.1 + 1), (F_Painter_give x1.2.2 v6 x1.2.1)) _ hy1 hK1
                · rw [if_neg c8] at e1
                  refine RM.blk [(0, 0, 0, .int 1), (23, 0, 0, .null), (5, 0, 0, .null), (4, 2, 0, .null), (10, 3, 0, .int 1), (23, 0, 0, .null)] (pc' := 32) (L' := [some (.ref 52), some (.int p0), some (.int (x1.1 + 1)), some (.int (x1.2.1 + 1)), some (.int (rg x1.2.2 28 240 x1.2.1)), some (.int v6)]) (st' := []) (σ1 := (F_Painter_give x1.2.2 v6 x1.2.1)) (by decide +kernel) rfl ?_
                  obtain rfl := Option.some.inj e1
                  refine RN.dropB [true, true, true, true, false, false] rfl ?_
                  exact ih1 ((x1.1 + 1), (x1.2.1 + 1), (F_Painter_give x1.2.2 v6 x1.2.1)) _ hy1 hK1
              · rw [if_pos c7] at e1
                refine RM.blk [(2, 0, 0, .null), (3, 8, 4, .null), (3, 7, 1, .null), (2, 0, 0, .null), (3, 8, 5, .null)] (pc' := 132) (L' := [some (.ref 52), some (.int p0), some (.int x1.1), some (.int x1.2.1), some (.int (rg x1.2.2 28 240 x1.2.1)), some (.int v6)]) (st' := [.ref 53, .ref 43]) (σ1 := x1.2.2) (by decide +kernel) rfl ?_
                refine RN.callV [.ref 53] (s_Row_copyFrom (q := 43) (a := 44) (n := 10) ⟨rfl, rfl, by decide⟩ (q2 := 53) (a2 := 54) (n2 := 10) ⟨rfl, rfl, by decide⟩ (by decide) x1.2.2) [] (pc3 := 135) (st3 := []) (by decide +kernel) mk_Row_copyFrom (by decide) ?_
                refine RM.blk [(2, 0, 0, .null), (3, 8, 3, .null), (3, 1, 5, .null), (2, 0, 0, .null), (3, 8, 6, .null)] (pc' := 146) (L' := [some (.ref 52), some (.int p0), some (.int x1.1), some (.int x1.2.1), some (.int (rg x1.2.2 28 240 x1.2.1)), some (.int v6)]) (st' := [.ref 55, .ref 27]) (σ1 := (rc x1.2.2 44 10 54 10)) (by decide +kernel) rfl ?_
                refine RN.callV [.ref 55] (s_Row_copyFrom (q := 27) (a := 28) (n := 240) ⟨rfl, rfl, by decide⟩ (q2 := 55) (a2 := 56) (n2 := 240) ⟨rfl, rfl, by decide⟩ (by decide) (rc x1.2.2 44 10 54 10)) [] (pc3 := 149) (st3 := []) (by decide +kernel) mk_Row_copyFrom (by decide) ?_
                refine RM.blk [(0, 0, 0, .int (-3))] (pc' := 151) (L' := [some (.ref 52), some (.int p0), some (.int x1.1), some (.int x1.2.1), some (.int (rg x1.2.2 28 240 x1.2.1)), some (.int v6)]) (st' := [.int (-3)]) (σ1 := (rc (rc x1.2.2 44 10 54 10) 28 240 56 240)) (by decide +kernel) rfl ?_
                obtain rfl := Option.some.inj e1
                obtain rfl := Option.some.inj (show some (.inr ((-3), (rc (rc x1.2.2 44 10 54 10) 28 240 56 240)) : (Int32 × SG) ⊕ (Int32 × SG)) = some y1 from hy1)
                obtain ⟨rfl, rfl⟩ := Prod.mk.inj (show (((-3), (rc (rc x1.2.2 44 10 54 10) 28 240 56 240)) : Int32 × SG) = (rr, so) from hK1)
                exact RM.reti (by decide +kernel) rfl
            · rw [if_neg c5] at e1
              refine RM.blk [(1, 4, 0, .null), (23, 0, 0, .null), (4, 5, 0, .null), (1, 5, 0, .null), (0, 0, 0, .int (-1))] (pc' := 118) (L' := [some (.ref 52), some (.int p0), some (.int x1.1), some (.int x1.2.1), some (.int (rg x1.2.2 28 240 x1.2.1)), some (.int (rg x1.2.2 28 240 x1.2.1))]) (st' := [.int (-1), .int (rg x1.2.2 28 240 x1.2.1)]) (σ1 := x1.2.2) (by decide +kernel) rfl ?_
              refine RM.icmp_ne (tgt := 152) (by decide +kernel) (fun c9 => ?_) (fun c9 => ?_)
              · rw [if_neg c9] at e1
                refine RM.blk [(2, 0, 0, .null), (1, 5, 0, .null), (1, 3, 0, .null)] (pc' := 156) (L' := [some (.ref 52), some (.int p0), some (.int x1.1), some (.int x1.2.1), some (.int (rg x1.2.2 28 240 x1.2.1)), some (.int (rg x1.2.2 28 240 x1.2.1))]) (st' := [.int x1.2.1, .int (rg x1.2.2 28 240 x1.2.1), .ref 52]) (σ1 := x1.2.2) (by decide +kernel) rfl ?_
                refine RN.callV [.int (rg x1.2.2 28 240 x1.2.1), .int x1.2.1] (s_Painter_give x1.2.2 (rg x1.2.2 28 240 x1.2.1) x1.2.1 _ rfl) [] (pc3 := 159) (st3 := []) (by decide +kernel) mk_Painter_give (by decide) ?_
                generalize ns10 : (F_Painter_give x1.2.2 (rg x1.2.2 28 240 x1.2.1) x1.2.1) = s10 at e1 ⊢
                replace e1 := nm_h e1
                refine RM.blk [(1, 2, 0, .null), (1, 5, 0, .null), (1, 4, 0, .null)] (pc' := 164) (L' := [some (.ref 52), some (.int p0), some (.int x1.1), some (.int x1.2.1), some (.int (rg x1.2.2 28 240 x1.2.1)), some (.int (rg x1.2.2 28 240 x1.2.1))]) (st' := [.int (rg x1.2.2 28 240 x1.2.1), .int (rg x1.2.2 28 240 x1.2.1), .int x1.1]) (σ1 := s10) (by decide +kernel) rfl ?_
                refine RM.icmp_eq (tgt := 171) (by decide +kernel) (fun c11 => ?_) (fun c11 => ?_)
                · rw [if_pos c11] at e1
                  refine RM.blk [(0, 0, 0, .int 0), (5, 0, 0, .null), (4, 2, 0, .null), (10, 3, 0, .int 1), (23, 0, 0, .null)] (pc' := 32) (L' := [some (.ref 52), some (.int p0), some (.int (x1.1 + 0)), some (.int (x1.2.1 + 1)), some (.int (rg x1.2.2 28 240 x1.2.1)), some (.int (rg x1.2.2 28 240 x1.2.1))]) (st' := []) (σ1 := s10) (by decide +kernel) rfl ?_
                  obtain rfl := Option.some.inj e1
                  refine RN.dropB [true, true, true, true, false, false] rfl ?_
                  exact ih1 ((x1.1 + 0), (x1.2.1 + 1), s10) _ hy1 hK1
                · rw [if_neg c11] at e1
                  refine RM.blk [(0, 0, 0, .int 1), (23, 0, 0, .null), (5, 0, 0, .null), (4, 2, 0, .null), (10, 3, 0, .int 1), (23, 0, 0, .null)] (pc' := 32) (L' := [some (.ref 52), some (.int p0), some (.int (x1.1 + 1)), some (.int (x1.2.1 + 1)), some (.int (rg x1.2.2 28 240 x1.2.1)), some (.int (rg x1.2.2 28 240 x1.2.1))]) (st' := []) (σ1 := s10) (by decide +kernel) rfl ?_
                  obtain rfl := Option.some.inj e1
                  refine RN.dropB [true, true, true, true, false, false] rfl ?_
                  exact ih1 ((x1.1 + 1), (x1.2.1 + 1), s10) _ hy1 hK1
              · rw [if_pos c9] at e1
                refine RM.blk [(2, 0, 0, .null), (3, 8, 4, .null), (3, 7, 1, .null), (2, 0, 0, .null), (3, 8, 5, .null)] (pc' := 132) (L' := [some (.ref 52), some (.int p0), some (.int x1.1), some (.int x1.2.1), some (.int (rg x1.2.2 28 240 x1.2.1)), some (.int (rg x1.2.2 28 240 x1.2.1))]) (st' := [.ref 53, .ref 43]) (σ1 := x1.2.2) (by decide +kernel) rfl ?_
                refine RN.callV [.ref 53] (s_Row_copyFrom (q := 43) (a := 44) (n := 10) ⟨rfl, rfl, by decide⟩ (q2 := 53) (a2 := 54) (n2 := 10) ⟨rfl, rfl, by decide⟩ (by decide) x1.2.2) [] (pc3 := 135) (st3 := []) (by decide +kernel) mk_Row_copyFrom (by decide) ?_
                refine RM.blk [(2, 0, 0, .null), (3, 8, 3, .null), (3, 1, 5, .null), (2, 0, 0, .null), (3, 8, 6, .null)] (pc' := 146) (L' := [some (.ref 52), some (.int p0), some (.int x1.1), some (.int x1.2.1), some (.int (rg x1.2.2 28 240 x1.2.1)), some (.int (rg x1.2.2 28 240 x1.2.1))]) (st' := [.ref 55, .ref 27]) (σ1 := (rc x1.2.2 44 10 54 10)) (by decide +kernel) rfl ?_
                refine RN.callV [.ref 55] (s_Row_copyFrom (q := 27) (a := 28) (n := 240) ⟨rfl, rfl, by decide⟩ (q2 := 55) (a2 := 56) (n2 := 240) ⟨rfl, rfl, by decide⟩ (by decide) (rc x1.2.2 44 10 54 10)) [] (pc3 := 149) (st3 := []) (by decide +kernel) mk_Row_copyFrom (by decide) ?_
                refine RM.blk [(0, 0, 0, .int (-3))] (pc' := 151) (L' := [some (.ref 52), some (.int p0), some (.int x1.1), some (.int x1.2.1), some (.int (rg x1.2.2 28 240 x1.2.1)), some (.int (rg x1.2.2 28 240 x1.2.1))]) (st' := [.int (-3)]) (σ1 := (rc (rc x1.2.2 44 10 54 10) 28 240 56 240)) (by decide +kernel) rfl ?_
                obtain rfl := Option.some.inj e1
                obtain rfl := Option.some.inj (show some (.inr ((-3), (rc (rc x1.2.2 44 10 54 10) 28 240 56 240)) : (Int32 × SG) ⊕ (Int32 × SG)) = some y1 from hy1)
                obtain ⟨rfl, rfl⟩ := Prod.mk.inj (show (((-3), (rc (rc x1.2.2 44 10 54 10) 28 240 56 240)) : Int32 × SG) = (rr, so) from hK1)
                exact RM.reti (by decide +kernel) rfl
  obtain ⟨y1, hl1, h⟩ := ob_some h
  refine RN.dropB [true, true, true, true, false, false] rfl ?_
  refine hL1 FU (0, 0, (rc (rc σ 54 10 44 10) 56 240 28 240)) y1 hl1 ?_
  rcases y1 with y1 | q1
  · simp only [Sum.elim_inl] at h ⊢
    refine RM.blk [(1, 2, 0, .null)] (pc' := 181) (L' := [none, none, some (.int y1.1), none, none, none]) (st' := [.int y1.1]) (σ1 := y1.2) (by decide +kernel) rfl ?_
    obtain ⟨rfl, rfl⟩ := Prod.mk.inj (Option.some.inj h)
    exact RM.reti (by decide +kernel) rfl
  · simp only [Sum.elim_inr] at h ⊢
    exact Option.some.inj h
def M_Shop_broken : MI := (yX11_broken, cX11_broken, 2, some .int, 11)
theorem mk_Shop_broken : mOK M_Shop_broken 1 = true := by decide +kernel
set_option maxRecDepth 100000 in
set_option maxHeartbeats 4000000 in
theorem s_Shop_broken (σ : SG) (p0 : Int32) (rr : Int32) (so : SG) (h : F_Shop_broken σ p0 = some (rr, so)) : SpN 7 M_Shop_broken [.ref 0, .int p0] σ (some (.int rr)) so := by
  unfold F_Shop_broken at h
  refine Sp.of mk_Shop_broken rfl (Nat.le_of_ble_eq_true rfl) ?_
  refine RM.blk [(2, 0, 0, .null), (1, 1, 0, .null)] (pc' := 2) (L' := [some (.ref 0), some (.int p0)]) (st' := [.int p0, .ref 0]) (σ1 := σ) (by decide +kernel) rfl ?_
  refine RN.callV [.int p0] (s_Shop_maySheet σ p0) [] (pc3 := 5) (st3 := [.int (bI (F_Shop_maySheet σ p0))]) (by decide +kernel) mk_Shop_maySheet (by decide) ?_
  refine RM.zne (tgt := 11) (by decide +kernel) (fun c1 => ?_) (fun c1 => ?_)
  · rw [if_pos c1] at h
    refine RM.blk [(2, 0, 0, .null)] (pc' := 12) (L' := [some (.ref 0), some (.int p0)]) (st' := [.ref 0]) (σ1 := σ) (by decide +kernel) rfl ?_
    refine RN.callV [] (s_Shop_isCut σ) [] (pc3 := 15) (st3 := [.int (bI (F_Shop_isCut σ))]) (by decide +kernel) mk_Shop_isCut (by decide) ?_
    refine RM.zeq (tgt := 39) (by decide +kernel) (fun c2 => ?_) (fun c2 => ?_)
    · rw [if_neg (bf c2)] at h
      refine RM.blk [(0, 0, 0, .int (-3))] (pc' := 41) (L' := [some (.ref 0), some (.int p0)]) (st' := [.int (-3)]) (σ1 := σ) (by decide +kernel) rfl ?_
      obtain ⟨rfl, rfl⟩ := Prod.mk.inj (Option.some.inj h)
      exact RM.reti (by decide +kernel) rfl
    · rw [if_pos c2] at h
      refine RM.blk [(2, 0, 0, .null), (3, 11, 5, .null), (3, 8, 0, .null)] (pc' := 25) (L' := [some (.ref 0), some (.int p0)]) (st' := [.int (σ 52 0)]) (σ1 := σ) (by decide +kernel) rfl ?_
      refine RM.if_eq (tgt := 39) (by decide +kernel) (fun c3 => ?_) (fun c3 => ?_)
      · rw [if_pos c3] at h
        refine RM.blk [(0, 0, 0, .int (-3))] (pc' := 41) (L' := [some (.ref 0), some (.int p0)]) (st' := [.int (-3)]) (σ1 := σ) (by decide +kernel) rfl ?_
        obtain ⟨rfl, rfl⟩ := Prod.mk.inj (Option.some.inj h)
        exact RM.reti (by decide +kernel) rfl
      · rw [if_neg c3] at h
        refine RM.blk [(2, 0, 0, .null), (3, 11, 5, .null), (1, 1, 0, .null)] (pc' := 33) (L' := [some (.ref 0), some (.int p0)]) (st' := [.int p0, .ref 52]) (σ1 := σ) (by decide +kernel) rfl ?_
        obtain ⟨v4, hv4, h⟩ := ob_some h
        refine RN.callV [.int p0] (s_Painter_makeAnew σ p0 v4.1 v4.2 hv4) [] (pc3 := 36) (st3 := [.int v4.1]) (by decide +kernel) mk_Painter_makeAnew (by decide) ?_
        refine RM.blk [(23, 0, 0, .null)] (pc' := 41) (L' := [some (.ref 0), some (.int p0)]) (st' := [.int v4.1]) (σ1 := v4.2) (by decide +kernel) rfl ?_
        obtain ⟨rfl, rfl⟩ := Prod.mk.inj (Option.some.inj h)
        exact RM.reti (by decide +kernel) rfl
  · rw [if_neg (bf c1)] at h
    refine RM.blk [(0, 0, 0, .int (-2))] (pc' := 10) (L' := [some (.ref 0), some (.int p0)]) (st' := [.int (-2)]) (σ1 := σ) (by decide +kernel) rfl ?_
    obtain ⟨rfl, rfl⟩ := Prod.mk.inj (Option.some.inj h)
    exact RM.reti (by decide +kernel) rfl
def M_Sheets_latestCrate : MI := (yX10_latestCrate, cX10_latestCrate, 7, some .int, 10)
theorem mk_Sheets_latestCrate : mOK M_Sheets_latestCrate 2 = true := by decide +kernel
set_option maxRecDepth 100000 in
set_option maxHeartbeats 4000000 in
theorem s_Sheets_latestCrate (σ : SG) (p0 : Int32) (p1 : Int32) (rr : Int32) (h : F_Sheets_latestCrate σ p0 p1 = some rr) : SpN 3 M_Sheets_latestCrate [.ref 57, .int p0, .int p1] σ (some (.int rr)) σ := by
  unfold F_Sheets_latestCrate at h
  refine Sp.of mk_Sheets_latestCrate rfl (Nat.le_of_ble_eq_true rfl) ?_
  refine RM.blk [(0, 0, 0, .int (-1)), (4, 3, 0, .null), (0, 0, 0, .int 0), (4, 4, 0, .null), (0, 0, 0, .int 0), (4, 5, 0, .null)] (pc' := 8) (L' := [some (.ref 57), some (.int p0), some (.int p1), some (.int (-1)), some (.int 0), some (.int 0), none]) (st' := []) (σ1 := σ) (by decide +kernel) rfl ?_
  have hL1 : ∀ (n : Nat) (x1 : Int32 × Int32 × Int32) (y1 : Int32), lpW (L_Sheets_latestCrate_8 σ p0 p1) n x1 = some y1 → RN 3 M_Sheets_latestCrate (some (.int rr)) σ 72 [none, none, none, some (.int y1), none, none, none] [] σ → RN 3 M_Sheets_latestCrate (some (.int rr)) σ 8 [some (.ref 57), some (.int p0), some (.int p1), some (.int x1.1), some (.int x1.2.1), some (.int x1.2.2), none] [] σ := by
    intro n
    induction n with
    | zero => intro x1 y1 hy1; cases hy1
    | succ n ih1 =>
      intro x1 y1 hy1 hK1
      obtain ⟨z1, e1, hy1⟩ := ob_some hy1
      unfold L_Sheets_latestCrate_8 at e1
      refine RM.blk [(1, 5, 0, .null), (1, 2, 0, .null)] (pc' := 11) (L' := [some (.ref 57), some (.int p0), some (.int p1), some (.int x1.1), some (.int x1.2.1), some (.int x1.2.2), none]) (st' := [.int p1, .int x1.2.2]) (σ1 := σ) (by decide +kernel) rfl ?_
      refine RM.icmp_gt (tgt := 72) (by decide +kernel) (fun c2 => ?_) (fun c2 => ?_)
      · rw [if_pos c2] at e1
        obtain rfl := Option.some.inj e1
        obtain rfl := Option.some.inj (show some (x1.1 : Int32) = some y1 from hy1)
        refine RN.dropB [false, false, false, true, false, false, false] rfl ?_
        exact hK1
      · rw [if_neg c2] at e1
        refine RM.blk [(1, 5, 0, .null), (2, 0, 0, .null), (3, 10, 0, .null)] (pc' := 20) (L' := [some (.ref 57), some (.int p0), some (.int p1), some (.int x1.1), some (.int x1.2.1), some (.int x1.2.2), none]) (st' := [.int (σ 57 0), .int x1.2.2]) (σ1 := σ) (by decide +kernel) rfl ?_
        refine RM.icmp_ge (tgt := 72) (by decide +kernel) (fun c3 => ?_) (fun c3 => ?_)
        · rw [if_pos c3] at e1
          obtain rfl := Option.some.inj e1
          obtain rfl := Option.some.inj (show some (x1.1 : Int32) = some y1 from hy1)
          refine RN.dropB [false, false, false, true, false, false, false] rfl ?_
          exact hK1
        · rw [if_neg c3] at e1
          refine RM.blk [(2, 0, 0, .null), (3, 10, 1, .null), (1, 5, 0, .null)] (pc' := 29) (L' := [some (.ref 57), some (.int p0), some (.int p1), some (.int x1.1), some (.int x1.2.1), some (.int x1.2.2), none]) (st' := [.int x1.2.2, .ref 58]) (σ1 := σ) (by decide +kernel) rfl ?_
          refine RN.callV [.int x1.2.2] (s_Row_get (q := 58) (a := 59) (n := 240) ⟨rfl, rfl, by decide⟩ σ x1.2.2) [] (pc3 := 32) (st3 := [.int (rg σ 59 240 x1.2.2)]) (by decide +kernel) mk_Row_get (by decide) ?_
          refine RM.blk [(4, 6, 0, .null), (1, 6, 0, .null)] (pc' := 36) (L' := [some (.ref 57), some (.int p0), some (.int p1), some (.int x1.1), some (.int x1.2.1), some (.int x1.2.2), some (.int (rg σ 59 240 x1.2.2))]) (st' := [.int (rg σ 59 240 x1.2.2)]) (σ1 := σ) (by decide +kernel) rfl ?_
          refine RM.if_le (tgt := 59) (by decide +kernel) (fun c4 => ?_) (fun c4 => ?_)
          · rw [if_pos c4] at e1
            refine RM.blk [(1, 4, 0, .null), (1, 6, 0, .null), (5, 0, 0, .null), (4, 4, 0, .null), (10, 5, 0, .int 1), (23, 0, 0, .null)] (pc' := 8) (L' := [some (.ref 57), some (.int p0), some (.int p1), some (.int x1.1), some (.int (x1.2.1 + (rg σ 59 240 x1.2.2))), some (.int (x1.2.2 + 1)), some (.int (rg σ 59 240 x1.2.2))]) (st' := []) (σ1 := σ) (by decide +kernel) rfl ?_
            obtain rfl := Option.some.inj e1
            refine RN.dropB [true, true, true, true, true, true, false] rfl ?_
            exact ih1 (x1.1, (x1.2.1 + (rg σ 59 240 x1.2.2)), (x1.2.2 + 1)) _ hy1 hK1
          · rw [if_neg c4] at e1
            refine RM.blk [(1, 3, 0, .null), (0, 0, 0, .int (-1))] (pc' := 41) (L' := [some (.ref 57), some (.int p0), some (.int p1), some (.int x1.1), some (.int x1.2.1), some (.int x1.2.2), some (.int (rg σ 59 240 x1.2.2))]) (st' := [.int (-1), .int x1.1]) (σ1 := σ) (by decide +kernel) rfl ?_
            refine RM.icmp_eq (tgt := 53) (by decide +kernel) (fun c5 => ?_) (fun c5 => ?_)
            · rw [if_pos c5] at e1
              refine RM.blk [(10, 3, 0, .int 1), (0, 0, 0, .int 0), (4, 4, 0, .null), (1, 4, 0, .null), (1, 6, 0, .null), (5, 0, 0, .null), (4, 4, 0, .null), (10, 5, 0, .int 1), (23, 0, 0, .null)] (pc' := 8) (L' := [some (.ref 57), some (.int p0), some (.int p1), some (.int (x1.1 + 1)), some (.int (0 + (rg σ 59 240 x1.2.2))), some (.int (x1.2.2 + 1)), some (.int (rg σ 59 240 x1.2.2))]) (st' := []) (σ1 := σ) (by decide +kernel) rfl ?_
              obtain rfl := Option.some.inj e1
              refine RN.dropB [true, true, true, true, true, true, false] rfl ?_
              exact ih1 ((x1.1 + 1), (0 + (rg σ 59 240 x1.2.2)), (x1.2.2 + 1)) _ hy1 hK1
            · rw [if_neg c5] at e1
              refine RM.blk [(1, 4, 0, .null), (1, 6, 0, .null), (5, 0, 0, .null), (1, 1, 0, .null)] (pc' := 50) (L' := [some (.ref 57), some (.int p0), some (.int p1), some (.int x1.1), some (.int x1.2.1), some (.int x1.2.2), some (.int (rg σ 59 240 x1.2.2))]) (st' := [.int p0, .int (x1.2.1 + (rg σ 59 240 x1.2.2))]) (σ1 := σ) (by decide +kernel) rfl ?_
              refine RM.icmp_le (tgt := 59) (by decide +kernel) (fun c6 => ?_) (fun c6 => ?_)
              · rw [if_pos c6] at e1
                refine RM.blk [(1, 4, 0, .null), (1, 6, 0, .null), (5, 0, 0, .null), (4, 4, 0, .null), (10, 5, 0, .int 1), (23, 0, 0, .null)] (pc' := 8) (L' := [some (.ref 57), some (.int p0), some (.int p1), some (.int x1.1), some (.int (x1.2.1 + (rg σ 59 240 x1.2.2))), some (.int (x1.2.2 + 1)), some (.int (rg σ 59 240 x1.2.2))]) (st' := []) (σ1 := σ) (by decide +kernel) rfl ?_
                obtain rfl := Option.some.inj e1
                refine RN.dropB [true, true, true, true, true, true, false] rfl ?_
                exact ih1 (x1.1, (x1.2.1 + (rg σ 59 240 x1.2.2)), (x1.2.2 + 1)) _ hy1 hK1
              · rw [if_neg c6] at e1
                refine RM.blk [(10, 3, 0, .int 1), (0, 0, 0, .int 0), (4, 4, 0, .null), (1, 4, 0, .null), (1, 6, 0, .null), (5, 0, 0, .null), (4, 4, 0, .null), (10, 5, 0, .int 1), (23, 0, 0, .null)] (pc' := 8) (L' := [some (.ref 57), some (.int p0), some (.int p1), some (.int (x1.1 + 1)), some (.int (0 + (rg σ 59 240 x1.2.2))), some (.int (x1.2.2 + 1)), some (.int (rg σ 59 240 x1.2.2))]) (st' := []) (σ1 := σ) (by decide +kernel) rfl ?_
                obtain rfl := Option.some.inj e1
                refine RN.dropB [true, true, true, true, true, true, false] rfl ?_
                exact ih1 ((x1.1 + 1), (0 + (rg σ 59 240 x1.2.2)), (x1.2.2 + 1)) _ hy1 hK1
  obtain ⟨y1, hl1, h⟩ := ob_some h
  refine RN.dropB [true, true, true, true, true, true, false] rfl ?_
  refine hL1 FU ((-1), 0, 0) y1 hl1 ?_
  refine RM.blk [(1, 3, 0, .null)] (pc' := 73) (L' := [none, none, none, some (.int y1), none, none, none]) (st' := [.int y1]) (σ1 := σ) (by decide +kernel) rfl ?_
  obtain rfl := (Option.some.inj h)
  exact RM.reti (by decide +kernel) rfl
def M_Shop_crates : MI := (yX11_crates, cX11_crates, 2, some .int, 11)
theorem mk_Shop_crates : mOK M_Shop_crates 1 = true := by decide +kernel
set_option maxRecDepth 100000 in
set_option maxHeartbeats 4000000 in
theorem s_Shop_crates (σ : SG) (p0 : Int32) (rr : Int32) (h : F_Shop_crates σ p0 = some rr) : SpN 4 M_Shop_crates [.ref 0, .int p0] σ (some (.int rr)) σ := by
  unfold F_Shop_crates at h
  refine Sp.of mk_Shop_crates rfl (Nat.le_of_ble_eq_true rfl) ?_
  refine RM.blk [(1, 1, 0, .null), (0, 0, 0, .int 1), (0, 0, 0, .int 240)] (pc' := 5) (L' := [some (.ref 0), some (.int p0)]) (st' := [.int 240, .int 1, .int p0]) (σ1 := σ) (by decide +kernel) rfl ?_
  refine RN.callS [.int p0, .int 1, .int 240] (s_Shop_within σ p0 1 240) [] (pc3 := 8) (st3 := [.int (bI (F_Shop_within p0 1 240))]) (by decide +kernel) mk_Shop_within (by decide) ?_
  refine RM.zne (tgt := 14) (by decide +kernel) (fun c1 => ?_) (fun c1 => ?_)
  · rw [if_pos c1] at h
    refine RM.blk [(2, 0, 0, .null)] (pc' := 15) (L' := [some (.ref 0), some (.int p0)]) (st' := [.ref 0]) (σ1 := σ) (by decide +kernel) rfl ?_
    refine RN.callV [] (s_Shop_isCut σ) [] (pc3 := 18) (st3 := [.int (bI (F_Shop_isCut σ))]) (by decide +kernel) mk_Shop_isCut (by decide) ?_
    refine RM.zeq (tgt := 43) (by decide +kernel) (fun c2 => ?_) (fun c2 => ?_)
    · rw [if_neg (bf c2)] at h
      refine RM.blk [(0, 0, 0, .int (-3))] (pc' := 45) (L' := [some (.ref 0), some (.int p0)]) (st' := [.int (-3)]) (σ1 := σ) (by decide +kernel) rfl ?_
      obtain rfl := (Option.some.inj h)
      exact RM.reti (by decide +kernel) rfl
    · rw [if_pos c2] at h
      refine RM.blk [(2, 0, 0, .null), (3, 11, 6, .null), (1, 1, 0, .null), (2, 0, 0, .null), (3, 11, 6, .null), (3, 10, 0, .null), (0, 0, 0, .int 1), (6, 0, 0, .null)] (pc' := 35) (L' := [some (.ref 0), some (.int p0)]) (st' := [.int ((σ 57 0) - 1), .int p0, .ref 57]) (σ1 := σ) (by decide +kernel) rfl ?_
      obtain ⟨v3, hv3, h⟩ := ob_some h
      refine RN.callV [.int p0, .int ((σ 57 0) - 1)] (s_Sheets_latestCrate σ p0 ((σ 57 0) - 1) v3 hv3) [] (pc3 := 38) (st3 := [.int v3]) (by decide +kernel) mk_Sheets_latestCrate (by decide) ?_
      refine RM.blk [(0, 0, 0, .int 1), (5, 0, 0, .null), (23, 0, 0, .null)] (pc' := 45) (L' := [some (.ref 0), some (.int p0)]) (st' := [.int (v3 + 1)]) (σ1 := σ) (by decide +kernel) rfl ?_
      obtain rfl := (Option.some.inj h)
      exact RM.reti (by decide +kernel) rfl
  · rw [if_neg (bf c1)] at h
    refine RM.blk [(0, 0, 0, .int (-2))] (pc' := 13) (L' := [some (.ref 0), some (.int p0)]) (st' := [.int (-2)]) (σ1 := σ) (by decide +kernel) rfl ?_
    obtain rfl := (Option.some.inj h)
    exact RM.reti (by decide +kernel) rfl
def M_Shop_crate : MI := (yX11_crate, cX11_crate, 3, some .int, 11)
theorem mk_Shop_crate : mOK M_Shop_crate 2 = true := by decide +kernel
set_option maxRecDepth 100000 in
set_option maxHeartbeats 4000000 in
theorem s_Shop_crate (σ : SG) (p0 : Int32) (p1 : Int32) (rr : Int32) (h : F_Shop_crate σ p0 p1 = some rr) : SpN 4 M_Shop_crate [.ref 0, .int p0, .int p1] σ (some (.int rr)) σ := by
  unfold F_Shop_crate at h
  refine Sp.of mk_Shop_crate rfl (Nat.le_of_ble_eq_true rfl) ?_
  refine RM.blk [(1, 1, 0, .null), (0, 0, 0, .int 1), (0, 0, 0, .int 240)] (pc' := 5) (L' := [some (.ref 0), some (.int p0), some (.int p1)]) (st' := [.int 240, .int 1, .int p0]) (σ1 := σ) (by decide +kernel) rfl ?_
  refine RN.callS [.int p0, .int 1, .int 240] (s_Shop_within σ p0 1 240) [] (pc3 := 8) (st3 := [.int (bI (F_Shop_within p0 1 240))]) (by decide +kernel) mk_Shop_within (by decide) ?_
  refine RM.zeq (tgt := 19) (by decide +kernel) (fun c1 => ?_) (fun c1 => ?_)
  · rw [if_neg (bf c1)] at h
    refine RM.blk [(0, 0, 0, .int (-2))] (pc' := 21) (L' := [some (.ref 0), some (.int p0), some (.int p1)]) (st' := [.int (-2)]) (σ1 := σ) (by decide +kernel) rfl ?_
    obtain rfl := (Option.some.inj h)
    exact RM.reti (by decide +kernel) rfl
  · rw [if_pos c1] at h
    refine RM.blk [(2, 0, 0, .null), (1, 2, 0, .null)] (pc' := 13) (L' := [some (.ref 0), some (.int p0), some (.int p1)]) (st' := [.int p1, .ref 0]) (σ1 := σ) (by decide +kernel) rfl ?_
    refine RN.callV [.int p1] (s_Shop_maySheet σ p1) [] (pc3 := 16) (st3 := [.int (bI (F_Shop_maySheet σ p1))]) (by decide +kernel) mk_Shop_maySheet (by decide) ?_
    refine RM.zne (tgt := 22) (by decide +kernel) (fun c2 => ?_) (fun c2 => ?_)
    · rw [if_pos c2] at h
      refine RM.blk [(2, 0, 0, .null)] (pc' := 23) (L' := [some (.ref 0), some (.int p0), some (.int p1)]) (st' := [.ref 0]) (σ1 := σ) (by decide +kernel) rfl ?_
      refine RN.callV [] (s_Shop_isCut σ) [] (pc3 := 26) (st3 := [.int (bI (F_Shop_isCut σ))]) (by decide +kernel) mk_Shop_isCut (by decide) ?_
      refine RM.zne (tgt := 32) (by decide +kernel) (fun c3 => ?_) (fun c3 => ?_)
      · rw [if_pos c3] at h
        refine RM.blk [(2, 0, 0, .null), (3, 11, 6, .null), (3, 10, 1, .null), (1, 2, 0, .null)] (pc' := 40) (L' := [some (.ref 0), some (.int p0), some (.int p1)]) (st' := [.int p1, .ref 58]) (σ1 := σ) (by decide +kernel) rfl ?_
        refine RN.callV [.int p1] (s_Row_get (q := 58) (a := 59) (n := 240) ⟨rfl, rfl, by decide⟩ σ p1) [] (pc3 := 43) (st3 := [.int (rg σ 59 240 p1)]) (by decide +kernel) mk_Row_get (by decide) ?_
        refine RM.if_le (tgt := 58) (by decide +kernel) (fun c4 => ?_) (fun c4 => ?_)
        · rw [if_pos c4] at h
          refine RM.blk [(0, 0, 0, .int (-1))] (pc' := 59) (L' := [some (.ref 0), some (.int p0), some (.int p1)]) (st' := [.int (-1)]) (σ1 := σ) (by decide +kernel) rfl ?_
          obtain rfl := (Option.some.inj h)
          exact RM.reti (by decide +kernel) rfl
        · rw [if_neg c4] at h
          refine RM.blk [(2, 0, 0, .null), (3, 11, 6, .null), (1, 1, 0, .null), (1, 2, 0, .null)] (pc' := 52) (L' := [some (.ref 0), some (.int p0), some (.int p1)]) (st' := [.int p1, .int p0, .ref 57]) (σ1 := σ) (by decide +kernel) rfl ?_
          obtain ⟨v5, hv5, h⟩ := ob_some h
          refine RN.callV [.int p0, .int p1] (s_Sheets_latestCrate σ p0 p1 v5 hv5) [] (pc3 := 55) (st3 := [.int v5]) (by decide +kernel) mk_Sheets_latestCrate (by decide) ?_
          refine RM.blk [(23, 0, 0, .null)] (pc' := 59) (L' := [some (.ref 0), some (.int p0), some (.int p1)]) (st' := [.int v5]) (σ1 := σ) (by decide +kernel) rfl ?_
          obtain rfl := (Option.some.inj h)
          exact RM.reti (by decide +kernel) rfl
      · rw [if_neg (bf c3)] at h
        refine RM.blk [(0, 0, 0, .int (-3))] (pc' := 31) (L' := [some (.ref 0), some (.int p0), some (.int p1)]) (st' := [.int (-3)]) (σ1 := σ) (by decide +kernel) rfl ?_
        obtain rfl := (Option.some.inj h)
        exact RM.reti (by decide +kernel) rfl
    · rw [if_neg (bf c2)] at h
      refine RM.blk [(0, 0, 0, .int (-2))] (pc' := 21) (L' := [some (.ref 0), some (.int p0), some (.int p1)]) (st' := [.int (-2)]) (σ1 := σ) (by decide +kernel) rfl ?_
      obtain rfl := (Option.some.inj h)
      exact RM.reti (by decide +kernel) rfl
def M_Hands_hire : MI := (yX5_hire, cX5_hire, 3, some .int, 5)
theorem mk_Hands_hire : mOK M_Hands_hire 2 = true := by decide +kernel
set_option maxRecDepth 100000 in
set_option maxHeartbeats 4000000 in
theorem s_Hands_hire (σ : SG) (p0 : Int32) (p1 : Bool) (rr : Int32) (so : SG) (h : F_Hands_hire σ p0 p1 = (rr, so)) : SpN 3 M_Hands_hire [.ref 60, .int p0, .int (bI p1)] σ (some (.int rr)) so := by
  unfold F_Hands_hire at h
  refine Sp.of mk_Hands_hire rfl (Nat.le_of_ble_eq_true rfl) ?_
  refine RM.blk [(2, 0, 0, .null), (3, 5, 1, .null), (2, 0, 0, .null), (3, 5, 0, .null), (1, 1, 0, .null)] (pc' := 9) (L' := [some (.ref 60), some (.int p0), some (.int (bI p1))]) (st' := [.int p0, .int (σ 60 0), .ref 61]) (σ1 := σ) (by decide +kernel) rfl ?_
  refine RN.callV [.int (σ 60 0), .int p0] (s_Row_set (q := 61) (a := 62) (n := 4) ⟨rfl, rfl, by decide⟩ σ (σ 60 0) p0) [] (pc3 := 12) (st3 := []) (by decide +kernel) mk_Row_set (by decide) ?_
  refine RM.blk [(2, 0, 0, .null), (3, 5, 2, .null), (2, 0, 0, .null), (3, 5, 0, .null), (1, 2, 0, .null)] (pc' := 21) (L' := [some (.ref 60), some (.int p0), some (.int (bI p1))]) (st' := [.int (bI p1), .int ((rs σ 62 4 (σ 60 0) p0) 60 0), .ref 63]) (σ1 := (rs σ 62 4 (σ 60 0) p0)) (by decide +kernel) rfl ?_
  refine RM.zeq (tgt := 28) (by decide +kernel) (fun c1 => ?_) (fun c1 => ?_)
  · rw [if_neg (bf c1)] at h
    refine RM.blk [(0, 0, 0, .int 0)] (pc' := 29) (L' := [some (.ref 60), some (.int p0), some (.int (bI p1))]) (st' := [.int 0, .int ((rs σ 62 4 (σ 60 0) p0) 60 0), .ref 63]) (σ1 := (rs σ 62 4 (σ 60 0) p0)) (by decide +kernel) rfl ?_
    refine RN.callV [.int ((rs σ 62 4 (σ 60 0) p0) 60 0), .int 0] (s_Row_set (q := 63) (a := 64) (n := 4) ⟨rfl, rfl, by decide⟩ (rs σ 62 4 (σ 60 0) p0) ((rs σ 62 4 (σ 60 0) p0) 60 0) 0) [] (pc3 := 32) (st3 := []) (by decide +kernel) mk_Row_set (by decide) ?_
    generalize ns2 : (rs (rs σ 62 4 (σ 60 0) p0) 64 4 ((rs σ 62 4 (σ 60 0) p0) 60 0) 0) = s2 at h ⊢
    replace h := nm_h h
    refine RM.blk [(2, 0, 0, .null), (11, 0, 0, .null), (3, 5, 0, .null), (0, 0, 0, .int 1), (5, 0, 0, .null), (15, 5, 0, .null), (2, 0, 0, .null), (3, 5, 0, .null), (0, 0, 0, .int 1), (6, 0, 0, .null)] (pc' := 48) (L' := [some (.ref 60), some (.int p0), some (.int (bI p1))]) (st' := [.int (((up s2 60 0 ((s2 60 0) + 1)) 60 0) - 1)]) (σ1 := (up s2 60 0 ((s2 60 0) + 1))) (by decide +kernel) rfl ?_
    obtain ⟨rfl, rfl⟩ := Prod.mk.inj h
    exact RM.reti (by decide +kernel) rfl
  · rw [if_pos c1] at h
    refine RM.blk [(0, 0, 0, .int 1), (23, 0, 0, .null)] (pc' := 29) (L' := [some (.ref 60), some (.int p0), some (.int (bI p1))]) (st' := [.int 1, .int ((rs σ 62 4 (σ 60 0) p0) 60 0), .ref 63]) (σ1 := (rs σ 62 4 (σ 60 0) p0)) (by decide +kernel) rfl ?_
    refine RN.callV [.int ((rs σ 62 4 (σ 60 0) p0) 60 0), .int 1] (s_Row_set (q := 63) (a := 64) (n := 4) ⟨rfl, rfl, by decide⟩ (rs σ 62 4 (σ 60 0) p0) ((rs σ 62 4 (σ 60 0) p0) 60 0) 1) [] (pc3 := 32) (st3 := []) (by decide +kernel) mk_Row_set (by decide) ?_
    generalize ns3 : (rs (rs σ 62 4 (σ 60 0) p0) 64 4 ((rs σ 62 4 (σ 60 0) p0) 60 0) 1) = s3 at h ⊢
    replace h := nm_h h
    refine RM.blk [(2, 0, 0, .null), (11, 0, 0, .null), (3, 5, 0, .null), (0, 0, 0, .int 1), (5, 0, 0, .null), (15, 5, 0, .null), (2, 0, 0, .null), (3, 5, 0, .null), (0, 0, 0, .int 1), (6, 0, 0, .null)] (pc' := 48) (L' := [some (.ref 60), some (.int p0), some (.int (bI p1))]) (st' := [.int (((up s3 60 0 ((s3 60 0) + 1)) 60 0) - 1)]) (σ1 := (up s3 60 0 ((s3 60 0) + 1))) (by decide +kernel) rfl ?_
    obtain ⟨rfl, rfl⟩ := Prod.mk.inj h
    exact RM.reti (by decide +kernel) rfl
def M_Shop_hand : MI := (yX11_hand, cX11_hand, 3, some .int, 11)
theorem mk_Shop_hand : mOK M_Shop_hand 2 = true := by decide +kernel
set_option maxRecDepth 100000 in
set_option maxHeartbeats 4000000 in
theorem s_Shop_hand (σ : SG) (p0 : Int32) (p1 : Bool) (rr : Int32) (so : SG) (h : F_Shop_hand σ p0 p1 = (rr, so)) : SpN 4 M_Shop_hand [.ref 0, .int p0, .int (bI p1)] σ (some (.int rr)) so := by
  unfold F_Shop_hand at h
  refine Sp.of mk_Shop_hand rfl (Nat.le_of_ble_eq_true rfl) ?_
  refine RM.blk [(1, 1, 0, .null), (0, 0, 0, .int 1), (0, 0, 0, .int 20)] (pc' := 4) (L' := [some (.ref 0), some (.int p0), some (.int (bI p1))]) (st' := [.int 20, .int 1, .int p0]) (σ1 := σ) (by decide +kernel) rfl ?_
  refine RN.callS [.int p0, .int 1, .int 20] (s_Shop_within σ p0 1 20) [] (pc3 := 7) (st3 := [.int (bI (F_Shop_within p0 1 20))]) (by decide +kernel) mk_Shop_within (by decide) ?_
  refine RM.zne (tgt := 13) (by decide +kernel) (fun c1 => ?_) (fun c1 => ?_)
  · rw [if_pos c1] at h
    refine RM.blk [(2, 0, 0, .null), (3, 11, 7, .null), (3, 5, 0, .null), (0, 0, 0, .int 4)] (pc' := 21) (L' := [some (.ref 0), some (.int p0), some (.int (bI p1))]) (st' := [.int 4, .int (σ 60 0)]) (σ1 := σ) (by decide +kernel) rfl ?_
    refine RM.icmp_ge (tgt := 36) (by decide +kernel) (fun c2 => ?_) (fun c2 => ?_)
    · rw [if_pos c2] at h
      refine RM.blk [(0, 0, 0, .int (-4))] (pc' := 38) (L' := [some (.ref 0), some (.int p0), some (.int (bI p1))]) (st' := [.int (-4)]) (σ1 := σ) (by decide +kernel) rfl ?_
      obtain ⟨rfl, rfl⟩ := Prod.mk.inj h
      exact RM.reti (by decide +kernel) rfl
    · rw [if_neg c2] at h
      refine RM.blk [(2, 0, 0, .null), (3, 11, 7, .null), (1, 1, 0, .null), (1, 2, 0, .null)] (pc' := 30) (L' := [some (.ref 0), some (.int p0), some (.int (bI p1))]) (st' := [.int (bI p1), .int p0, .ref 60]) (σ1 := σ) (by decide +kernel) rfl ?_
      refine RN.callV [.int p0, .int (bI p1)] (s_Hands_hire σ p0 p1 _ _ rfl) [] (pc3 := 33) (st3 := [.int ((F_Hands_hire σ p0 p1).1)]) (by decide +kernel) mk_Hands_hire (by decide) ?_
      refine RM.blk [(23, 0, 0, .null)] (pc' := 38) (L' := [some (.ref 0), some (.int p0), some (.int (bI p1))]) (st' := [.int ((F_Hands_hire σ p0 p1).1)]) (σ1 := (F_Hands_hire σ p0 p1).2) (by decide +kernel) rfl ?_
      obtain ⟨rfl, rfl⟩ := Prod.mk.inj h
      exact RM.reti (by decide +kernel) rfl
  · rw [if_neg (bf c1)] at h
    refine RM.blk [(0, 0, 0, .int (-2))] (pc' := 12) (L' := [some (.ref 0), some (.int p0), some (.int (bI p1))]) (st' := [.int (-2)]) (σ1 := σ) (by decide +kernel) rfl ?_
    obtain ⟨rfl, rfl⟩ := Prod.mk.inj h
    exact RM.reti (by decide +kernel) rfl
def M_Hands_isMaster : MI := (yX5_isMaster, cX5_isMaster, 2, some .boolean, 5)
theorem mk_Hands_isMaster : mOK M_Hands_isMaster 1 = true := by decide +kernel
set_option maxRecDepth 100000 in
set_option maxHeartbeats 4000000 in
theorem s_Hands_isMaster (σ : SG) (p0 : Int32) : SpN 3 M_Hands_isMaster [.ref 60, .int p0] σ (some (.int (bI (F_Hands_isMaster σ p0)))) σ := by
  generalize h : F_Hands_isMaster σ p0 = rr
  unfold F_Hands_isMaster at h
  refine Sp.of mk_Hands_isMaster rfl (Nat.le_of_ble_eq_true rfl) ?_
  refine RM.blk [(2, 0, 0, .null), (3, 5, 2, .null), (1, 1, 0, .null)] (pc' := 5) (L' := [some (.ref 60), some (.int p0)]) (st' := [.int p0, .ref 63]) (σ1 := σ) (by decide +kernel) rfl ?_
  refine RN.callV [.int p0] (s_Row_get (q := 63) (a := 64) (n := 4) ⟨rfl, rfl, by decide⟩ σ p0) [] (pc3 := 8) (st3 := [.int (rg σ 64 4 p0)]) (by decide +kernel) mk_Row_get (by decide) ?_
  refine RM.blk [(0, 0, 0, .int 1)] (pc' := 9) (L' := [some (.ref 60), some (.int p0)]) (st' := [.int 1, .int (rg σ 64 4 p0)]) (σ1 := σ) (by decide +kernel) rfl ?_
  refine RM.icmp_ne (tgt := 16) (by decide +kernel) (fun c1 => ?_) (fun c1 => ?_)
  · rw [if_neg c1] at h
    refine RM.blk [(0, 0, 0, .int 0)] (pc' := 17) (L' := [some (.ref 60), some (.int p0)]) (st' := [.int 0]) (σ1 := σ) (by decide +kernel) rfl ?_
    obtain rfl := h
    exact RM.retz (z := false) (by decide +kernel) rfl
  · rw [if_pos c1] at h
    refine RM.blk [(0, 0, 0, .int 1), (23, 0, 0, .null)] (pc' := 17) (L' := [some (.ref 60), some (.int p0)]) (st' := [.int 1]) (σ1 := σ) (by decide +kernel) rfl ?_
    obtain rfl := h
    exact RM.retz (z := true) (by decide +kernel) rfl
def M_Hands_haveMaster : MI := (yX5_haveMaster, cX5_haveMaster, 3, some .boolean, 5)
theorem mk_Hands_haveMaster : mOK M_Hands_haveMaster 0 = true := by decide +kernel
set_option maxRecDepth 100000 in
set_option maxHeartbeats 4000000 in
theorem s_Hands_haveMaster (σ : SG) (rr : Bool) (h : F_Hands_haveMaster σ = some rr) : SpN 4 M_Hands_haveMaster [.ref 60] σ (some (.int (bI rr))) σ := by
  unfold F_Hands_haveMaster at h
  refine Sp.of mk_Hands_haveMaster rfl (Nat.le_of_ble_eq_true rfl) ?_
  refine RM.blk [(0, 0, 0, .int 0), (4, 1, 0, .null), (0, 0, 0, .int 0), (4, 2, 0, .null)] (pc' := 4) (L' := [some (.ref 60), some (.int (bI false)), some (.int 0)]) (st' := []) (σ1 := σ) (by decide +kernel) rfl ?_
  have hL1 : ∀ (n : Nat) (x1 : Bool × Int32) (y1 : Bool), lpW (L_Hands_haveMaster_4 σ) n x1 = some y1 → RN 4 M_Hands_haveMaster (some (.int (bI rr))) σ 36 [none, some (.int (bI y1)), none] [] σ → RN 4 M_Hands_haveMaster (some (.int (bI rr))) σ 4 [some (.ref 60), some (.int (bI x1.1)), some (.int x1.2)] [] σ := by
    intro n
    induction n with
    | zero => intro x1 y1 hy1; cases hy1
    | succ n ih1 =>
      intro x1 y1 hy1 hK1
      obtain ⟨z1, e1, hy1⟩ := ob_some hy1
      unfold L_Hands_haveMaster_4 at e1
      refine RM.blk [(1, 2, 0, .null), (2, 0, 0, .null), (3, 5, 0, .null)] (pc' := 9) (L' := [some (.ref 60), some (.int (bI x1.1)), some (.int x1.2)]) (st' := [.int (σ 60 0), .int x1.2]) (σ1 := σ) (by decide +kernel) rfl ?_
      refine RM.icmp_ge (tgt := 36) (by decide +kernel) (fun c2 => ?_) (fun c2 => ?_)
      · rw [if_pos c2] at e1
        obtain rfl := Option.some.inj e1
        obtain rfl := Option.some.inj (show some (x1.1 : Bool) = some y1 from hy1)
        refine RN.dropB [false, true, false] rfl ?_
        exact hK1
      · rw [if_neg c2] at e1
        refine RM.blk [(1, 1, 0, .null)] (pc' := 13) (L' := [some (.ref 60), some (.int (bI x1.1)), some (.int x1.2)]) (st' := [.int (bI x1.1)]) (σ1 := σ) (by decide +kernel) rfl ?_
        refine RM.zne (tgt := 24) (by decide +kernel) (fun c3 => ?_) (fun c3 => ?_)
        · rw [if_pos c3] at e1
          refine RM.blk [(0, 0, 0, .int 1), (23, 0, 0, .null), (4, 1, 0, .null), (10, 2, 0, .int 1), (23, 0, 0, .null)] (pc' := 4) (L' := [some (.ref 60), some (.int (bI true)), some (.int (x1.2 + 1))]) (st' := []) (σ1 := σ) (by decide +kernel) rfl ?_
          obtain rfl := Option.some.inj e1
          refine RN.dropB [true, true, true] rfl ?_
          exact ih1 (true, (x1.2 + 1)) _ hy1 hK1
        · rw [if_neg (bf c3)] at e1
          refine RM.blk [(2, 0, 0, .null), (1, 2, 0, .null)] (pc' := 18) (L' := [some (.ref 60), some (.int (bI x1.1)), some (.int x1.2)]) (st' := [.int x1.2, .ref 60]) (σ1 := σ) (by decide +kernel) rfl ?_
          refine RN.callV [.int x1.2] (s_Hands_isMaster σ x1.2) [] (pc3 := 21) (st3 := [.int (bI (F_Hands_isMaster σ x1.2))]) (by decide +kernel) mk_Hands_isMaster (by decide) ?_
          refine RM.zeq (tgt := 28) (by decide +kernel) (fun c4 => ?_) (fun c4 => ?_)
          · rw [if_neg (bf c4)] at e1
            refine RM.blk [(0, 0, 0, .int 0), (4, 1, 0, .null), (10, 2, 0, .int 1), (23, 0, 0, .null)] (pc' := 4) (L' := [some (.ref 60), some (.int (bI false)), some (.int (x1.2 + 1))]) (st' := []) (σ1 := σ) (by decide +kernel) rfl ?_
            obtain rfl := Option.some.inj e1
            refine RN.dropB [true, true, true] rfl ?_
            exact ih1 (false, (x1.2 + 1)) _ hy1 hK1
          · rw [if_pos c4] at e1
            refine RM.blk [(0, 0, 0, .int 1), (23, 0, 0, .null), (4, 1, 0, .null), (10, 2, 0, .int 1), (23, 0, 0, .null)] (pc' := 4) (L' := [some (.ref 60), some (.int (bI true)), some (.int (x1.2 + 1))]) (st' := []) (σ1 := σ) (by decide +kernel) rfl ?_
            obtain rfl := Option.some.inj e1
            refine RN.dropB [true, true, true] rfl ?_
            exact ih1 (true, (x1.2 + 1)) _ hy1 hK1
  obtain ⟨y1, hl1, h⟩ := ob_some h
  refine RN.dropB [true, true, true] rfl ?_
  refine hL1 FU (false, 0) y1 hl1 ?_
  refine RM.blk [(1, 1, 0, .null)] (pc' := 37) (L' := [none, some (.int (bI y1)), none]) (st' := [.int (bI y1)]) (σ1 := σ) (by decide +kernel) rfl ?_
  obtain rfl := (Option.some.inj h)
  exact RM.retz (z := y1) (by decide +kernel) rfl
def M_Dealer_gather : MI := (yX2_gather, cX2_gather, 3, some .boolean, 2)
theorem mk_Dealer_gather : mOK M_Dealer_gather 0 = true := by decide +kernel
set_option maxRecDepth 100000 in
set_option maxHeartbeats 4000000 in
theorem s_Dealer_gather (σ : SG) (rr : Bool) (so : SG) (h : F_Dealer_gather σ = some (rr, so)) : SpN 5 M_Dealer_gather [.ref 65] σ (some (.int (bI rr))) so := by
  unfold F_Dealer_gather at h
  refine Sp.of mk_Dealer_gather rfl (Nat.le_of_ble_eq_true rfl) ?_
  refine RM.blk [(2, 0, 0, .null), (0, 0, 0, .int 0), (15, 2, 3, .null), (0, 0, 0, .int 0), (4, 1, 0, .null)] (pc' := 7) (L' := [some (.ref 65), some (.int 0), none]) (st' := []) (σ1 := (up σ 65 3 0)) (by decide +kernel) rfl ?_
  have hL1 : ∀ (n : Nat) (x1 : Int32 × SG) (y1 : (SG) ⊕ (Bool × SG)), lpW L_Dealer_gather_7 n x1 = some y1 → Sum.elim (fun y1 : SG => RN 5 M_Dealer_gather (some (.int (bI rr))) so 114 [none, none, none] [] y1) (fun q : Bool × SG => q = (rr, so)) y1 → RN 5 M_Dealer_gather (some (.int (bI rr))) so 7 [some (.ref 65), some (.int x1.1), none] [] x1.2 := by
    intro n
    induction n with
    | zero => intro x1 y1 hy1; cases hy1
    | succ n ih1 =>
      intro x1 y1 hy1 hK1
      obtain ⟨z1, e1, hy1⟩ := ob_some hy1
      unfold L_Dealer_gather_7 at e1
      refine RM.blk [(1, 1, 0, .null), (2, 0, 0, .null), (3, 2, 1, .null), (3, 10, 0, .null)] (pc' := 15) (L' := [some (.ref 65), some (.int x1.1), none]) (st' := [.int (x1.2 57 0), .int x1.1]) (σ1 := x1.2) (by decide +kernel) rfl ?_
      refine RM.icmp_ge (tgt := 114) (by decide +kernel) (fun c2 => ?_) (fun c2 => ?_)
      · rw [if_pos c2] at e1
        obtain rfl := Option.some.inj e1
        obtain rfl := Option.some.inj (show some ((.inl x1.2) : (SG) ⊕ (Bool × SG)) = some y1 from hy1)
        refine RN.dropB [false, false, false] rfl ?_
        exact hK1
      · rw [if_neg c2] at e1
        refine RM.blk [(2, 0, 0, .null), (3, 2, 1, .null), (3, 10, 1, .null), (1, 1, 0, .null)] (pc' := 26) (L' := [some (.ref 65), some (.int x1.1), none]) (st' := [.int x1.1, .ref 58]) (σ1 := x1.2) (by decide +kernel) rfl ?_
        refine RN.callV [.int x1.1] (s_Row_get (q := 58) (a := 59) (n := 240) ⟨rfl, rfl, by decide⟩ x1.2 x1.1) [] (pc3 := 29) (st3 := [.int (rg x1.2 59 240 x1.1)]) (by decide +kernel) mk_Row_get (by decide) ?_
        refine RM.if_le (tgt := 108) (by decide +kernel) (fun c3 => ?_) (fun c3 => ?_)
        · rw [if_pos c3] at e1
          refine RM.blk [(10, 1, 0, .int 1), (23, 0, 0, .null)] (pc' := 7) (L' := [some (.ref 65), some (.int (x1.1 + 1)), none]) (st' := []) (σ1 := x1.2) (by decide +kernel) rfl ?_
          obtain rfl := Option.some.inj e1
          refine RN.dropB [true, true, false] rfl ?_
          exact ih1 ((x1.1 + 1), x1.2) _ hy1 hK1
        · rw [if_neg c3] at e1
          refine RM.blk [(2, 0, 0, .null), (3, 2, 1, .null), (1, 1, 0, .null)] (pc' := 37) (L' := [some (.ref 65), some (.int x1.1), none]) (st' := [.int x1.1, .ref 57]) (σ1 := x1.2) (by decide +kernel) rfl ?_
          obtain ⟨v4, hv4, e1⟩ := ob_some e1
          refine RN.callV [.int x1.1] (s_Sheets_hasHead x1.2 x1.1 v4 hv4) [] (pc3 := 40) (st3 := [.int (bI v4)]) (by decide +kernel) mk_Sheets_hasHead (by decide) ?_
          refine RM.blk [(4, 2, 0, .null), (2, 0, 0, .null), (3, 2, 3, .null), (0, 0, 0, .int 9)] (pc' := 47) (L' := [some (.ref 65), some (.int x1.1), some (.int (bI v4))]) (st' := [.int 9, .int (x1.2 65 3)]) (σ1 := x1.2) (by decide +kernel) rfl ?_
          refine RM.icmp_eq (tgt := 64) (by decide +kernel) (fun c5 => ?_) (fun c5 => ?_)
          · rw [if_pos c5] at e1
            refine RM.blk [(0, 0, 0, .int 0)] (pc' := 65) (L' := [some (.ref 65), some (.int x1.1), some (.int (bI v4))]) (st' := [.int 0]) (σ1 := x1.2) (by decide +kernel) rfl ?_
            obtain rfl := Option.some.inj e1
            obtain rfl := Option.some.inj (show some (.inr (false, x1.2) : (SG) ⊕ (Bool × SG)) = some y1 from hy1)
            obtain ⟨rfl, rfl⟩ := Prod.mk.inj (show ((false, x1.2) : Bool × SG) = (rr, so) from hK1)
            exact RM.retz (z := false) (by decide +kernel) rfl
          · rw [if_neg c5] at e1
            refine RM.blk [(1, 2, 0, .null)] (pc' := 51) (L' := [some (.ref 65), some (.int x1.1), some (.int (bI v4))]) (st' := [.int (bI v4)]) (σ1 := x1.2) (by decide +kernel) rfl ?_
            refine RM.zeq (tgt := 66) (by decide +kernel) (fun c6 => ?_) (fun c6 => ?_)
            · rw [if_neg (bf c6)] at e1
              refine RM.blk [(2, 0, 0, .null), (3, 2, 4, .null), (2, 0, 0, .null), (3, 2, 3, .null), (1, 1, 0, .null)] (pc' := 75) (L' := [some (.ref 65), some (.int x1.1), some (.int (bI v4))]) (st' := [.int x1.1, .int (x1.2 65 3), .ref 66]) (σ1 := x1.2) (by decide +kernel) rfl ?_
              refine RN.callV [.int (x1.2 65 3), .int x1.1] (s_Row_set (q := 66) (a := 67) (n := 9) ⟨rfl, rfl, by decide⟩ x1.2 (x1.2 65 3) x1.1) [] (pc3 := 78) (st3 := []) (by decide +kernel) mk_Row_set (by decide) ?_
              refine RM.blk [(2, 0, 0, .null), (3, 2, 5, .null), (2, 0, 0, .null), (3, 2, 3, .null), (1, 2, 0, .null)] (pc' := 87) (L' := [some (.ref 65), some (.int x1.1), some (.int (bI v4))]) (st' := [.int (bI v4), .int ((rs x1.2 67 9 (x1.2 65 3) x1.1) 65 3), .ref 68]) (σ1 := (rs x1.2 67 9 (x1.2 65 3) x1.1)) (by decide +kernel) rfl ?_
              refine RM.zeq (tgt := 94) (by decide +kernel) (fun c7 => ?_) (fun c7 => ?_)
              · rw [if_neg (bf c7)] at e1
                refine RM.blk [(0, 0, 0, .int 0)] (pc' := 95) (L' := [some (.ref 65), some (.int x1.1), some (.int (bI v4))]) (st' := [.int 0, .int ((rs x1.2 67 9 (x1.2 65 3) x1.1) 65 3), .ref 68]) (σ1 := (rs x1.2 67 9 (x1.2 65 3) x1.1)) (by decide +kernel) rfl ?_
                refine RN.callV [.int ((rs x1.2 67 9 (x1.2 65 3) x1.1) 65 3), .int 0] (s_Row_set (q := 68) (a := 69) (n := 9) ⟨rfl, rfl, by decide⟩ (rs x1.2 67 9 (x1.2 65 3) x1.1) ((rs x1.2 67 9 (x1.2 65 3) x1.1) 65 3) 0) [] (pc3 := 98) (st3 := []) (by decide +kernel) mk_Row_set (by decide) ?_
                generalize ns8 : (rs (rs x1.2 67 9 (x1.2 65 3) x1.1) 69 9 ((rs x1.2 67 9 (x1.2 65 3) x1.1) 65 3) 0) = s8 at e1 ⊢
                replace e1 := nm_h e1
                refine RM.blk [(2, 0, 0, .null), (11, 0, 0, .null), (3, 2, 3, .null), (0, 0, 0, .int 1), (5, 0, 0, .null), (15, 2, 3, .null), (10, 1, 0, .int 1), (23, 0, 0, .null)] (pc' := 7) (L' := [some (.ref 65), some (.int (x1.1 + 1)), some (.int (bI v4))]) (st' := []) (σ1 := (up s8 65 3 ((s8 65 3) + 1))) (by decide +kernel) rfl ?_
                obtain rfl := Option.some.inj e1
                refine RN.dropB [true, true, false] rfl ?_
                exact ih1 ((x1.1 + 1), (up s8 65 3 ((s8 65 3) + 1))) _ hy1 hK1
              · rw [if_pos c7] at e1
                refine RM.blk [(0, 0, 0, .int 1), (23, 0, 0, .null)] (pc' := 95) (L' := [some (.ref 65), some (.int x1.1), some (.int (bI v4))]) (st' := [.int 1, .int ((rs x1.2 67 9 (x1.2 65 3) x1.1) 65 3), .ref 68]) (σ1 := (rs x1.2 67 9 (x1.2 65 3) x1.1)) (by decide +kernel) rfl ?_
                refine RN.callV [.int ((rs x1.2 67 9 (x1.2 65 3) x1.1) 65 3), .int 1] (s_Row_set (q := 68) (a := 69) (n := 9) ⟨rfl, rfl, by decide⟩ (rs x1.2 67 9 (x1.2 65 3) x1.1) ((rs x1.2 67 9 (x1.2 65 3) x1.1) 65 3) 1) [] (pc3 := 98) (st3 := []) (by decide +kernel) mk_Row_set (by decide) ?_
                generalize ns9 : (rs (rs x1.2 67 9 (x1.2 65 3) x1.1) 69 9 ((rs x1.2 67 9 (x1.2 65 3) x1.1) 65 3) 1) = s9 at e1 ⊢
                replace e1 := nm_h e1
                refine RM.blk [(2, 0, 0, .null), (11, 0, 0, .null), (3, 2, 3, .null), (0, 0, 0, .int 1), (5, 0, 0, .null), (15, 2, 3, .null), (10, 1, 0, .int 1), (23, 0, 0, .null)] (pc' := 7) (L' := [some (.ref 65), some (.int (x1.1 + 1)), some (.int (bI v4))]) (st' := []) (σ1 := (up s9 65 3 ((s9 65 3) + 1))) (by decide +kernel) rfl ?_
                obtain rfl := Option.some.inj e1
                refine RN.dropB [true, true, false] rfl ?_
                exact ih1 ((x1.1 + 1), (up s9 65 3 ((s9 65 3) + 1))) _ hy1 hK1
            · rw [if_pos c6] at e1
              refine RM.blk [(2, 0, 0, .null), (3, 2, 2, .null)] (pc' := 58) (L' := [some (.ref 65), some (.int x1.1), some (.int (bI v4))]) (st' := [.ref 60]) (σ1 := x1.2) (by decide +kernel) rfl ?_
              obtain ⟨v10, hv10, e1⟩ := ob_some e1
              refine RN.callV [] (s_Hands_haveMaster x1.2 v10 hv10) [] (pc3 := 61) (st3 := [.int (bI v10)]) (by decide +kernel) mk_Hands_haveMaster (by decide) ?_
              refine RM.zne (tgt := 66) (by decide +kernel) (fun c11 => ?_) (fun c11 => ?_)
              · rw [if_pos c11] at e1
                refine RM.blk [(2, 0, 0, .null), (3, 2, 4, .null), (2, 0, 0, .null), (3, 2, 3, .null), (1, 1, 0, .null)] (pc' := 75) (L' := [some (.ref 65), some (.int x1.1), some (.int (bI v4))]) (st' := [.int x1.1, .int (x1.2 65 3), .ref 66]) (σ1 := x1.2) (by decide +kernel) rfl ?_
                refine RN.callV [.int (x1.2 65 3), .int x1.1] (s_Row_set (q := 66) (a := 67) (n := 9) ⟨rfl, rfl, by decide⟩ x1.2 (x1.2 65 3) x1.1) [] (pc3 := 78) (st3 := []) (by decide +kernel) mk_Row_set (by decide) ?_
                refine RM.blk [(2, 0, 0, .null), (3, 2, 5, .null), (2, 0, 0, .null), (3, 2, 3, .null), (1, 2, 0, .null)] (pc' := 87) (L' := [some (.ref 65), some (.int x1.1), some (.int (bI v4))]) (st' := [.int (bI v4), .int ((rs x1.2 67 9 (x1.2 65 3) x1.1) 65 3), .ref 68]) (σ1 := (rs x1.2 67 9 (x1.2 65 3) x1.1)) (by decide +kernel) rfl ?_
                refine RM.zeq (tgt := 94) (by decide +kernel) (fun c12 => ?_) (fun c12 => ?_)
                · rw [if_neg (bf c12)] at e1
                  refine RM.blk [(0, 0, 0, .int 0)] (pc' := 95) (L' := [some (.ref 65), some (.int x1.1), some (.int (bI v4))]) (st' := [.int 0, .int ((rs x1.2 67 9 (x1.2 65 3) x1.1) 65 3), .ref 68]) (σ1 := (rs x1.2 67 9 (x1.2 65 3) x1.1)) (by decide +kernel) rfl ?_
                  refine RN.callV [.int ((rs x1.2 67 9 (x1.2 65 3) x1.1) 65 3), .int 0] (s_Row_set (q := 68) (a := 69) (n := 9) ⟨rfl, rfl, by decide⟩ (rs x1.2 67 9 (x1.2 65 3) x1.1) ((rs x1.2 67 9 (x1.2 65 3) x1.1) 65 3) 0) [] (pc3 := 98) (st3 := []) (by decide +kernel) mk_Row_set (by decide) ?_
                  generalize ns13 : (rs (rs x1.2 67 9 (x1.2 65 3) x1.1) 69 9 ((rs x1.2 67 9 (x1.2 65 3) x1.1) 65 3) 0) = s13 at e1 ⊢
                  replace e1 := nm_h e1
                  refine RM.blk [(2, 0, 0, .null), (11, 0, 0, .null), (3, 2, 3, .null), (0, 0, 0, .int 1), (5, 0, 0, .null), (15, 2, 3, .null), (10, 1, 0, .int 1), (23, 0, 0, .null)] (pc' := 7) (L' := [some (.ref 65), some (.int (x1.1 + 1)), some (.int (bI v4))]) (st' := []) (σ1 := (up s13 65 3 ((s13 65 3) + 1))) (by decide +kernel) rfl ?_
                  obtain rfl := Option.some.inj e1
                  refine RN.dropB [true, true, false] rfl ?_
                  exact ih1 ((x1.1 + 1), (up s13 65 3 ((s13 65 3) + 1))) _ hy1 hK1
                · rw [if_pos c12] at e1
                  refine RM.blk [(0, 0, 0, .int 1), (23, 0, 0, .null)] (pc' := 95) (L' := [some (.ref 65), some (.int x1.1), some (.int (bI v4))]) (st' := [.int 1, .int ((rs x1.2 67 9 (x1.2 65 3) x1.1) 65 3), .ref 68]) (σ1 := (rs x1.2 67 9 (x1.2 65 3) x1.1)) (by decide +kernel) rfl ?_
                  refine RN.callV [.int ((rs x1.2 67 9 (x1.2 65 3) x1.1) 65 3), .int 1] (s_Row_set (q := 68) (a := 69) (n := 9) ⟨rfl, rfl, by decide⟩ (rs x1.2 67 9 (x1.2 65 3) x1.1) ((rs x1.2 67 9 (x1.2 65 3) x1.1) 65 3) 1) [] (pc3 := 98) (st3 := []) (by decide +kernel) mk_Row_set (by decide) ?_
                  generalize ns14 : (rs (rs x1.2 67 9 (x1.2 65 3) x1.1) 69 9 ((rs x1.2 67 9 (x1.2 65 3) x1.1) 65 3) 1) = s14 at e1 ⊢
                  replace e1 := nm_h e1
                  refine RM.blk [(2, 0, 0, .null), (11, 0, 0, .null), (3, 2, 3, .null), (0, 0, 0, .int 1), (5, 0, 0, .null), (15, 2, 3, .null), (10, 1, 0, .int 1), (23, 0, 0, .null)] (pc' := 7) (L' := [some (.ref 65), some (.int (x1.1 + 1)), some (.int (bI v4))]) (st' := []) (σ1 := (up s14 65 3 ((s14 65 3) + 1))) (by decide +kernel) rfl ?_
                  obtain rfl := Option.some.inj e1
                  refine RN.dropB [true, true, false] rfl ?_
                  exact ih1 ((x1.1 + 1), (up s14 65 3 ((s14 65 3) + 1))) _ hy1 hK1
              · rw [if_neg (bf c11)] at e1
                refine RM.blk [(0, 0, 0, .int 0)] (pc' := 65) (L' := [some (.ref 65), some (.int x1.1), some (.int (bI v4))]) (st' := [.int 0]) (σ1 := x1.2) (by decide +kernel) rfl ?_
                obtain rfl := Option.some.inj e1
                obtain rfl := Option.some.inj (show some (.inr (false, x1.2) : (SG) ⊕ (Bool × SG)) = some y1 from hy1)
                obtain ⟨rfl, rfl⟩ := Prod.mk.inj (show ((false, x1.2) : Bool × SG) = (rr, so) from hK1)
                exact RM.retz (z := false) (by decide +kernel) rfl
  obtain ⟨y1, hl1, h⟩ := ob_some h
  refine RN.dropB [true, true, false] rfl ?_
  refine hL1 FU (0, (up σ 65 3 0)) y1 hl1 ?_
  rcases y1 with y1 | q1
  · simp only [Sum.elim_inl] at h ⊢
    refine RM.blk [(0, 0, 0, .int 1)] (pc' := 115) (L' := [none, none, none]) (st' := [.int 1]) (σ1 := y1) (by decide +kernel) rfl ?_
    obtain ⟨rfl, rfl⟩ := Prod.mk.inj (Option.some.inj h)
    exact RM.retz (z := true) (by decide +kernel) rfl
  · simp only [Sum.elim_inr] at h ⊢
    exact Option.some.inj h
def M_Hands_daysFor : MI := (yX5_daysFor, cX5_daysFor, 3, some .int, 5)
theorem mk_Hands_daysFor : mOK M_Hands_daysFor 2 = true := by decide +kernel
set_option maxRecDepth 100000 in
set_option maxHeartbeats 4000000 in
theorem s_Hands_daysFor (σ : SG) (p0 : Int32) (p1 : Int32) (rr : Int32) (h : F_Hands_daysFor σ p0 p1 = some rr) : SpN 3 M_Hands_daysFor [.ref 60, .int p0, .int p1] σ (some (.int rr)) σ := by
  unfold F_Hands_daysFor at h
  refine Sp.of mk_Hands_daysFor rfl (Nat.le_of_ble_eq_true rfl) ?_
  refine RM.blk [(1, 1, 0, .null), (2, 0, 0, .null), (3, 5, 1, .null), (1, 2, 0, .null)] (pc' := 6) (L' := [some (.ref 60), some (.int p0), some (.int p1)]) (st' := [.int p1, .ref 61, .int p0]) (σ1 := σ) (by decide +kernel) rfl ?_
  refine RN.callV [.int p1] (s_Row_get (q := 61) (a := 62) (n := 4) ⟨rfl, rfl, by decide⟩ σ p1) [.int p0] (pc3 := 9) (st3 := [.int (rg σ 62 4 p1), .int p0]) (by decide +kernel) mk_Row_get (by decide) ?_
  obtain ⟨v1, hv1, h⟩ := ob_some h
  refine RN.callS [.int p0, .int (rg σ 62 4 p1)] (s_Shop_roundedUp σ p0 (rg σ 62 4 p1) v1 hv1) [] (pc3 := 12) (st3 := [.int v1]) (by decide +kernel) mk_Shop_roundedUp (by decide) ?_
  obtain rfl := (Option.some.inj h)
  exact RM.reti (by decide +kernel) rfl
def M_Dealer_dealFrom : MI := (yX2_dealFrom, cX2_dealFrom, 8, none, 2)
theorem mk_Dealer_dealFrom : mOK M_Dealer_dealFrom 3 = true := by decide +kernel
set_option maxRecDepth 100000 in
set_option maxHeartbeats 4000000 in
theorem sB_Dealer_dealFrom (R0 : SG → Int32 → Int32 → Option SG) (dR : Nat) (hdR : 9 ≤ dR) (hR0 : ∀ (σ : SG) (p0 p1 : Int32) (so : SG), R0 σ p0 p1 = some so → SpN dR M_Dealer_dealFrom [.ref 65, .int p0, .int p1] σ none so) (σ : SG) (p0 : Int32) (p1 : Int32) (so : SG) (h : B_Dealer_dealFrom R0 σ p0 p1 = some so) : SpN (dR + 1) M_Dealer_dealFrom [.ref 65, .int p0, .int p1] σ none so := by
  unfold B_Dealer_dealFrom at h
  refine Sp.of mk_Dealer_dealFrom rfl (Nat.le_of_ble_eq_true rfl) ?_
  refine RM.blk [(1, 1, 0, .null), (2, 0, 0, .null), (3, 2, 3, .null)] (pc' := 5) (L' := [some (.ref 65), some (.int p0), some (.int p1), none, none, none, none, none]) (st' := [.int (σ 65 3), .int p0]) (σ1 := σ) (by decide +kernel) rfl ?_
  refine RM.icmp_ge (tgt := 14) (by decide +kernel) (fun c1 => ?_) (fun c1 => ?_)
  · rw [if_pos c1] at h
    refine RM.blk [(2, 0, 0, .null), (1, 2, 0, .null), (15, 2, 0, .null), (2, 0, 0, .null), (3, 2, 7, .null), (2, 0, 0, .null), (3, 2, 6, .null)] (pc' := 27) (L' := [some (.ref 65), some (.int p0), some (.int p1), none, none, none, none, none]) (st' := [.ref 70, .ref 72]) (σ1 := (up σ 65 0 p1)) (by decide +kernel) rfl ?_
    refine RN.callV [.ref 70] (s_Row_copyFrom (q := 72) (a := 73) (n := 9) ⟨rfl, rfl, by decide⟩ (q2 := 70) (a2 := 71) (n2 := 9) ⟨rfl, rfl, by decide⟩ (by decide) (up σ 65 0 p1)) [] (pc3 := 30) (st3 := []) (by decide +kernel) mk_Row_copyFrom (by omega) ?_
    obtain rfl := (Option.some.inj h)
    exact RM.retv (by decide +kernel) rfl
  · rw [if_neg c1] at h
    refine RM.blk [(1, 1, 0, .null), (0, 0, 0, .int 9)] (pc' := 11) (L' := [some (.ref 65), some (.int p0), some (.int p1), none, none, none, none, none]) (st' := [.int 9, .int p0]) (σ1 := σ) (by decide +kernel) rfl ?_
    refine RM.icmp_lt (tgt := 31) (by decide +kernel) (fun c2 => ?_) (fun c2 => ?_)
    · rw [if_pos c2] at h
      refine RM.blk [(2, 0, 0, .null), (3, 2, 1, .null), (3, 10, 1, .null), (2, 0, 0, .null), (3, 2, 4, .null), (1, 1, 0, .null)] (pc' := 43) (L' := [some (.ref 65), some (.int p0), some (.int p1), none, none, none, none, none]) (st' := [.int p0, .ref 66, .ref 58]) (σ1 := σ) (by decide +kernel) rfl ?_
      refine RN.callV [.int p0] (s_Row_get (q := 66) (a := 67) (n := 9) ⟨rfl, rfl, by decide⟩ σ p0) [.ref 58] (pc3 := 46) (st3 := [.int (rg σ 67 9 p0), .ref 58]) (by decide +kernel) mk_Row_get (by omega) ?_
      refine RN.callV [.int (rg σ 67 9 p0)] (s_Row_get (q := 58) (a := 59) (n := 240) ⟨rfl, rfl, by decide⟩ σ (rg σ 67 9 p0)) [] (pc3 := 49) (st3 := [.int (rg σ 59 240 (rg σ 67 9 p0))]) (by decide +kernel) mk_Row_get (by omega) ?_
      refine RM.blk [(4, 3, 0, .null), (0, 0, 0, .int 0), (4, 4, 0, .null)] (pc' := 53) (L' := [some (.ref 65), some (.int p0), some (.int p1), some (.int (rg σ 59 240 (rg σ 67 9 p0))), some (.int 0), none, none, none]) (st' := []) (σ1 := σ) (by decide +kernel) rfl ?_
      have hL3 : ∀ (n : Nat) (x3 : Int32 × SG) (y3 : SG), lpW (L_Dealer_dealFrom_53 R0 p0 p1 (rg σ 59 240 (rg σ 67 9 p0))) n x3 = some y3 → RN (dR + 1) M_Dealer_dealFrom none so 193 [none, none, none, none, none, none, none, none] [] y3 → RN (dR + 1) M_Dealer_dealFrom none so 53 [some (.ref 65), some (.int p0), some (.int p1), some (.int (rg σ 59 240 (rg σ 67 9 p0))), some (.int x3.1), none, none, none] [] x3.2 := by
        intro n
        induction n with
        | zero => intro x3 y3 hy3; cases hy3
        | succ n ih3 =>
          intro x3 y3 hy3 hK3
          obtain ⟨z3, e3, hy3⟩ := ob_some hy3
          unfold L_Dealer_dealFrom_53 at e3
          refine RM.blk [(1, 4, 0, .null), (2, 0, 0, .null), (3, 2, 2, .null), (3, 5, 0, .null)] (pc' := 62) (L' := [some (.ref 65), some (.int p0), some (.int p1), some (.int ((rg σ 59 240 (rg σ 67 9 p0)))), some (.int x3.1), none, none, none]) (st' := [.int (x3.2 60 0), .int x3.1]) (σ1 := x3.2) (by decide +kernel) rfl ?_
          refine RM.icmp_ge (tgt := 193) (by decide +kernel) (fun c4 => ?_) (fun c4 => ?_)
          · rw [if_pos c4] at e3
            obtain rfl := Option.some.inj e3
            obtain rfl := Option.some.inj (show some (x3.2 : SG) = some y3 from hy3)
            refine RN.dropB [false, false, false, false, false, false, false, false] rfl ?_
            exact hK3
          · rw [if_neg c4] at e3
            refine RM.blk [(2, 0, 0, .null), (3, 2, 2, .null), (1, 3, 0, .null), (1, 4, 0, .null)] (pc' := 72) (L' := [some (.ref 65), some (.int p0), some (.int p1), some (.int ((rg σ 59 240 (rg σ 67 9 p0)))), some (.int x3.1), none, none, none]) (st' := [.int x3.1, .int ((rg σ 59 240 (rg σ 67 9 p0))), .ref 60]) (σ1 := x3.2) (by decide +kernel) rfl ?_
            obtain ⟨v5, hv5, e3⟩ := ob_some e3
            refine RN.callV [.int ((rg σ 59 240 (rg σ 67 9 p0))), .int x3.1] (s_Hands_daysFor x3.2 ((rg σ 59 240 (rg σ 67 9 p0))) x3.1 v5 hv5) [] (pc3 := 75) (st3 := [.int v5]) (by decide +kernel) mk_Hands_daysFor (by omega) ?_
            refine RM.blk [(4, 5, 0, .null), (2, 0, 0, .null), (3, 2, 8, .null), (1, 4, 0, .null)] (pc' := 83) (L' := [some (.ref 65), some (.int p0), some (.int p1), some (.int ((rg σ 59 240 (rg σ 67 9 p0)))), some (.int x3.1), some (.int v5), none, none]) (st' := [.int x3.1, .ref 74]) (σ1 := x3.2) (by decide +kernel) rfl ?_
            refine RN.callV [.int x3.1] (s_Row_get (q := 74) (a := 75) (n := 4) ⟨rfl, rfl, by decide⟩ x3.2 x3.1) [] (pc3 := 86) (st3 := [.int (rg x3.2 75 4 x3.1)]) (by decide +kernel) mk_Row_get (by omega) ?_
            refine RM.blk [(1, 5, 0, .null), (5, 0, 0, .null), (4, 6, 0, .null), (2, 0, 0, .null), (3, 2, 5, .null), (1, 1, 0, .null)] (pc' := 96) (L' := [some (.ref 65), some (.int p0), some (.int p1), some (.int ((rg σ 59 240 (rg σ 67 9 p0)))), some (.int x3.1), some (.int v5), some (.int ((rg x3.2 75 4 x3.1) + v5)), none]) (st' := [.int p0, .ref 68]) (σ1 := x3.2) (by decide +kernel) rfl ?_
            refine RN.callV [.int p0] (s_Row_get (q := 68) (a := 69) (n := 9) ⟨rfl, rfl, by decide⟩ x3.2 p0) [] (pc3 := 99) (st3 := [.int (rg x3.2 69 9 p0)]) (by decide +kernel) mk_Row_get (by omega) ?_
            refine RM.if_eq (tgt := 114) (by decide +kernel) (fun c6 => ?_) (fun c6 => ?_)
            · rw [if_pos c6] at e3
              refine RM.blk [(0, 0, 0, .int 1), (23, 0, 0, .null), (4, 7, 0, .null), (1, 7, 0, .null)] (pc' := 123) (L' := [some (.ref 65), some (.int p0), some (.int p1), some (.int ((rg σ 59 240 (rg σ 67 9 p0)))), some (.int x3.1), some (.int v5), some (.int ((rg x3.2 75 4 x3.1) + v5)), some (.int (bI true))]) (st' := [.int (bI true)]) (σ1 := x3.2) (by decide +kernel) rfl ?_
              refine RM.zeq (tgt := 187) (by decide +kernel) (fun c7 => ?_) (fun c7 => ?_)
              · rw [if_neg (bf c7)] at e3
                refine RM.blk [(10, 4, 0, .int 1), (23, 0, 0, .null)] (pc' := 53) (L' := [some (.ref 65), some (.int p0), some (.int p1), some (.int ((rg σ 59 240 (rg σ 67 9 p0)))), some (.int (x3.1 + 1)), some (.int v5), some (.int ((rg x3.2 75 4 x3.1) + v5)), some (.int (bI true))]) (st' := []) (σ1 := x3.2) (by decide +kernel) rfl ?_
                obtain rfl := Option.some.inj e3
                refine RN.dropB [true, true, true, true, true, false, false, false] rfl ?_
                exact ih3 ((x3.1 + 1), x3.2) _ hy3 hK3
              · rw [if_pos c7] at e3
                refine RM.blk [(1, 2, 0, .null), (1, 6, 0, .null)] (pc' := 129) (L' := [some (.ref 65), some (.int p0), some (.int p1), some (.int ((rg σ 59 240 (rg σ 67 9 p0)))), some (.int x3.1), some (.int v5), some (.int ((rg x3.2 75 4 x3.1) + v5)), some (.int (bI true))]) (st' := [.int ((rg x3.2 75 4 x3.1) + v5), .int p1]) (σ1 := x3.2) (by decide +kernel) rfl ?_
                refine RM.mmax (by decide +kernel) (by omega) (Nat.le_of_ble_eq_true rfl) ⟨Nat.le_refl _, Nat.le_refl _⟩ ?_
                refine RM.blk [(2, 0, 0, .null), (3, 2, 0, .null)] (pc' := 136) (L' := [some (.ref 65), some (.int p0), some (.int p1), some (.int ((rg σ 59 240 (rg σ 67 9 p0)))), some (.int x3.1), some (.int v5), some (.int ((rg x3.2 75 4 x3.1) + v5)), some (.int (bI true))]) (st' := [.int (x3.2 65 0), .int (mxI p1 ((rg x3.2 75 4 x3.1) + v5))]) (σ1 := x3.2) (by decide +kernel) rfl ?_
                refine RM.icmp_ge (tgt := 187) (by decide +kernel) (fun c8 => ?_) (fun c8 => ?_)
                · rw [if_pos c8] at e3
                  refine RM.blk [(10, 4, 0, .int 1), (23, 0, 0, .null)] (pc' := 53) (L' := [some (.ref 65), some (.int p0), some (.int p1), some (.int ((rg σ 59 240 (rg σ 67 9 p0)))), some (.int (x3.1 + 1)), some (.int v5), some (.int ((rg x3.2 75 4 x3.1) + v5)), some (.int (bI true))]) (st' := []) (σ1 := x3.2) (by decide +kernel) rfl ?_
                  obtain rfl := Option.some.inj e3
                  refine RN.dropB [true, true, true, true, true, false, false, false] rfl ?_
                  exact ih3 ((x3.1 + 1), x3.2) _ hy3 hK3
                · rw [if_neg c8] at e3
                  refine RM.blk [(2, 0, 0, .null), (3, 2, 6, .null), (1, 1, 0, .null), (1, 4, 0, .null)] (pc' := 146) (L' := [some (.ref 65), some (.int p0), some (.int p1), some (.int ((rg σ 59 240 (rg σ 67 9 p0)))), some (.int x3.1), some (.int v5), some (.int ((rg x3.2 75 4 x3.1) + v5)), some (.int (bI true))]) (st' := [.int x3.1, .int p0, .ref 70]) (σ1 := x3.2) (by decide +kernel) rfl ?_
                  refine RN.callV [.int p0, .int x3.1] (s_Row_set (q := 70) (a := 71) (n := 9) ⟨rfl, rfl, by decide⟩ x3.2 p0 x3.1) [] (pc3 := 149) (st3 := []) (by decide +kernel) mk_Row_set (by omega) ?_
                  refine RM.blk [(2, 0, 0, .null), (3, 2, 8, .null), (1, 4, 0, .null), (1, 6, 0, .null)] (pc' := 157) (L' := [some (.ref 65), some (.int p0), some (.int p1), some (.int ((rg σ 59 240 (rg σ 67 9 p0)))), some (.int x3.1), some (.int v5), some (.int ((rg x3.2 75 4 x3.1) + v5)), some (.int (bI true))]) (st' := [.int ((rg x3.2 75 4 x3.1) + v5), .int x3.1, .ref 74]) (σ1 := (rs x3.2 71 9 p0 x3.1)) (by decide +kernel) rfl ?_
                  refine RN.callV [.int x3.1, .int ((rg x3.2 75 4 x3.1) + v5)] (s_Row_set (q := 74) (a := 75) (n := 4) ⟨rfl, rfl, by decide⟩ (rs x3.2 71 9 p0 x3.1) x3.1 ((rg x3.2 75 4 x3.1) + v5)) [] (pc3 := 160) (st3 := []) (by decide +kernel) mk_Row_set (by omega) ?_
                  generalize ns9 : (rs (rs x3.2 71 9 p0 x3.1) 75 4 x3.1 ((rg x3.2 75 4 x3.1) + v5)) = s9 at e3 ⊢
                  replace e3 := nm_h e3
                  refine RM.blk [(2, 0, 0, .null), (1, 1, 0, .null), (0, 0, 0, .int 1), (5, 0, 0, .null), (1, 2, 0, .null), (1, 6, 0, .null)] (pc' := 167) (L' := [some (.ref 65), some (.int p0), some (.int p1), some (.int ((rg σ 59 240 (rg σ 67 9 p0)))), some (.int x3.1), some (.int v5), some (.int ((rg x3.2 75 4 x3.1) + v5)), some (.int (bI true))]) (st' := [.int ((rg x3.2 75 4 x3.1) + v5), .int p1, .int (p0 + 1), .ref 65]) (σ1 := s9) (by decide +kernel) rfl ?_
                  refine RM.mmax (by decide +kernel) (by omega) (Nat.le_of_ble_eq_true rfl) ⟨Nat.le_refl _, Nat.le_refl _⟩ ?_
                  obtain ⟨v10, hv10, e3⟩ := ob_some e3
                  refine RN.callS [.ref 65, .int (p0 + 1), .int (mxI p1 ((rg x3.2 75 4 x3.1) + v5))] (hR0 s9 (p0 + 1) (mxI p1 ((rg x3.2 75 4 x3.1) + v5)) v10 hv10) [] (pc3 := 173) (st3 := []) (by decide +kernel) mk_Dealer_dealFrom (by omega) ?_
                  refine RM.blk [(2, 0, 0, .null), (3, 2, 8, .null), (1, 4, 0, .null), (1, 6, 0, .null), (1, 5, 0, .null), (6, 0, 0, .null)] (pc' := 184) (L' := [some (.ref 65), some (.int p0), some (.int p1), some (.int ((rg σ 59 240 (rg σ 67 9 p0)))), some (.int x3.1), some (.int v5), some (.int ((rg x3.2 75 4 x3.1) + v5)), some (.int (bI true))]) (st' := [.int (((rg x3.2 75 4 x3.1) + v5) - v5), .int x3.1, .ref 74]) (σ1 := v10) (by decide +kernel) rfl ?_
                  refine RN.callV [.int x3.1, .int (((rg x3.2 75 4 x3.1) + v5) - v5)] (s_Row_set (q := 74) (a := 75) (n := 4) ⟨rfl, rfl, by decide⟩ v10 x3.1 (((rg x3.2 75 4 x3.1) + v5) - v5)) [] (pc3 := 187) (st3 := []) (by decide +kernel) mk_Row_set (by omega) ?_
                  generalize ns11 : (rs v10 75 4 x3.1 (((rg x3.2 75 4 x3.1) + v5) - v5)) = s11 at e3 ⊢
                  replace e3 := nm_h e3
                  refine RM.blk [(10, 4, 0, .int 1), (23, 0, 0, .null)] (pc' := 53) (L' := [some (.ref 65), some (.int p0), some (.int p1), some (.int ((rg σ 59 240 (rg σ 67 9 p0)))), some (.int (x3.1 + 1)), some (.int v5), some (.int ((rg x3.2 75 4 x3.1) + v5)), some (.int (bI true))]) (st' := []) (σ1 := s11) (by decide +kernel) rfl ?_
                  obtain rfl := Option.some.inj e3
                  refine RN.dropB [true, true, true, true, true, false, false, false] rfl ?_
                  exact ih3 ((x3.1 + 1), s11) _ hy3 hK3
            · rw [if_neg c6] at e3
              refine RM.blk [(2, 0, 0, .null), (3, 2, 2, .null), (1, 4, 0, .null)] (pc' := 108) (L' := [some (.ref 65), some (.int p0), some (.int p1), some (.int ((rg σ 59 240 (rg σ 67 9 p0)))), some (.int x3.1), some (.int v5), some (.int ((rg x3.2 75 4 x3.1) + v5)), none]) (st' := [.int x3.1, .ref 60]) (σ1 := x3.2) (by decide +kernel) rfl ?_
              refine RN.callV [.int x3.1] (s_Hands_isMaster x3.2 x3.1) [] (pc3 := 111) (st3 := [.int (bI (F_Hands_isMaster x3.2 x3.1))]) (by decide +kernel) mk_Hands_isMaster (by omega) ?_
              refine RM.zeq (tgt := 118) (by decide +kernel) (fun c12 => ?_) (fun c12 => ?_)
              · rw [if_neg (bf c12)] at e3
                refine RM.blk [(0, 0, 0, .int 0), (4, 7, 0, .null), (1, 7, 0, .null)] (pc' := 123) (L' := [some (.ref 65), some (.int p0), some (.int p1), some (.int ((rg σ 59 240 (rg σ 67 9 p0)))), some (.int x3.1), some (.int v5), some (.int ((rg x3.2 75 4 x3.1) + v5)), some (.int (bI false))]) (st' := [.int (bI false)]) (σ1 := x3.2) (by decide +kernel) rfl ?_
                refine RM.zeq (tgt := 187) (by decide +kernel) (fun c13 => ?_) (fun c13 => ?_)
                · rw [if_neg (bf c13)] at e3
                  refine RM.blk [(10, 4, 0, .int 1), (23, 0, 0, .null)] (pc' := 53) (L' := [some (.ref 65), some (.int p0), some (.int p1), some (.int ((rg σ 59 240 (rg σ 67 9 p0)))), some (.int (x3.1 + 1)), some (.int v5), some (.int ((rg x3.2 75 4 x3.1) + v5)), some (.int (bI false))]) (st' := []) (σ1 := x3.2) (by decide +kernel) rfl ?_
                  obtain rfl := Option.some.inj e3
                  refine RN.dropB [true, true, true, true, true, false, false, false] rfl ?_
                  exact ih3 ((x3.1 + 1), x3.2) _ hy3 hK3
                · rw [if_pos c13] at e3
                  refine RM.blk [(1, 2, 0, .null), (1, 6, 0, .null)] (pc' := 129) (L' := [some (.ref 65), some (.int p0), some (.int p1), some (.int ((rg σ 59 240 (rg σ 67 9 p0)))), some (.int x3.1), some (.int v5), some (.int ((rg x3.2 75 4 x3.1) + v5)), some (.int (bI false))]) (st' := [.int ((rg x3.2 75 4 x3.1) + v5), .int p1]) (σ1 := x3.2) (by decide +kernel) rfl ?_
                  refine RM.mmax (by decide +kernel) (by omega) (Nat.le_of_ble_eq_true rfl) ⟨Nat.le_refl _, Nat.le_refl _⟩ ?_
                  refine RM.blk [(2, 0, 0, .null), (3, 2, 0, .null)] (pc' := 136) (L' := [some (.ref 65), some (.int p0), some (.int p1), some (.int ((rg σ 59 240 (rg σ 67 9 p0)))), some (.int x3.1), some (.int v5), some (.int ((rg x3.2 75 4 x3.1) + v5)), some (.int (bI false))]) (st' := [.int (x3.2 65 0), .int (mxI p1 ((rg x3.2 75 4 x3.1) + v5))]) (σ1 := x3.2) (by decide +kernel) rfl ?_
                  refine RM.icmp_ge (tgt := 187) (by decide +kernel) (fun c14 => ?_) (fun c14 => ?_)
                  · rw [if_pos c14] at e3
                    refine RM.blk [(10, 4, 0, .int 1), (23, 0, 0, .null)] (pc' := 53) (L' := [some (.ref 65), some (.int p0), some (.int p1), some (.int ((rg σ 59 240 (rg σ 67 9 p0)))), some (.int (x3.1 + 1)), some (.int v5), some (.int ((rg x3.2 75 4 x3.1) + v5)), some (.int (bI false))]) (st' := []) (σ1 := x3.2) (by decide +kernel) rfl ?_
                    obtain rfl := Option.some.inj e3
                    refine RN.dropB [true, true, true, true, true, false, false, false] rfl ?_
                    exact ih3 ((x3.1 + 1), x3.2) _ hy3 hK3
                  · rw [if_neg c14] at e3
                    refine RM.blk [(2, 0, 0, .null), (3, 2, 6, .null), (1, 1, 0, .null), (1, 4, 0, .null)] (pc' := 146) (L' := [some (.ref 65), some (.int p0), some (.int p1), some (.int ((rg σ 59 240 (rg σ 67 9 p0)))), some (.int x3.1), some (.int v5), some (.int ((rg x3.2 75 4 x3.1) + v5)), some (.int (bI false))]) (st' := [.int x3.1, .int p0, .ref 70]) (σ1 := x3.2) (by decide +kernel) rfl ?_
                    refine RN.callV [.int p0, .int x3.1] (s_Row_set (q := 70) (a := 71) (n := 9) ⟨rfl, rfl, by decide⟩ x3.2 p0 x3.1) [] (pc3 := 149) (st3 := []) (by decide +kernel) mk_Row_set (by omega) ?_
                    refine RM.blk [(2, 0, 0, .null), (3, 2, 8, .null), (1, 4, 0, .null), (1, 6, 0, .null)] (pc' := 157) (L' := [some (.ref 65), some (.int p0), some (.int p1), some (.int ((rg σ 59 240 (rg σ 67 9 p0)))), some (.int x3.1), some (.int v5), some (.int ((rg x3.2 75 4 x3.1) + v5)), some (.int (bI false))]) (st' := [.int ((rg x3.2 75 4 x3.1) + v5), .int x3.1, .ref 74]) (σ1 := (rs x3.2 71 9 p0 x3.1)) (by decide +kernel) rfl ?_
                    refine RN.callV [.int x3.1, .int ((rg x3.2 75 4 x3.1) + v5)] (s_Row_set (q := 74) (a := 75) (n := 4) ⟨rfl, rfl, by decide⟩ (rs x3.2 71 9 p0 x3.1) x3.1 ((rg x3.2 75 4 x3.1) + v5)) [] (pc3 := 160) (st3 := []) (by decide +kernel) mk_Row_set (by omega) ?_
                    generalize ns15 : (rs (rs x3.2 71 9 p0 x3.1) 75 4 x3.1 ((rg x3.2 75 4 x3.1) + v5)) = s15 at e3 ⊢
                    replace e3 := nm_h e3
                    refine RM.blk [(2, 0, 0, .null), (1, 1, 0, .null), (0, 0, 0, .int 1), (5, 0, 0, .null), (1, 2, 0, .null), (1, 6, 0, .null)] (pc' := 167) (L' := [some (.ref 65), some (.int p0), some (.int p1), some (.int ((rg σ 59 240 (rg σ 67 9 p0)))), some (.int x3.1), some (.int v5), some (.int ((rg x3.2 75 4 x3.1) + v5)), some (.int (bI false))]) (st' := [.int ((rg x3.2 75 4 x3.1) + v5), .int p1, .int (p0 + 1), .ref 65]) (σ1 := s15) (by decide +kernel) rfl ?_
                    refine RM.mmax (by decide +kernel) (by omega) (Nat.le_of_ble_eq_true rfl) ⟨Nat.le_refl _, Nat.le_refl _⟩ ?_
                    obtain ⟨v16, hv16, e3⟩ := ob_some e3
                    refine RN.callS [.ref 65, .int (p0 + 1), .int (mxI p1 ((rg x3.2 75 4 x3.1) + v5))] (hR0 s15 (p0 + 1) (mxI p1 ((rg x3.2 75 4 x3.1) + v5)) v16 hv16) [] (pc3 := 173) (st3 := []) (by decide +kernel) mk_Dealer_dealFrom (by omega) ?_
                    refine RM.blk [(2, 0, 0, .null), (3, 2, 8, .null), (1, 4, 0, .null), (1, 6, 0, .null), (1, 5, 0, .null), (6, 0, 0, .null)] (pc' := 184) (L' := [some (.ref 65), some (.int p0), some (.int p1), some (.int ((rg σ 59 240 (rg σ 67 9 p0)))), some (.int x3.1), some (.int v5), some (.int ((rg x3.2 75 4 x3.1) + v5)), some (.int (bI false))]) (st' := [.int (((rg x3.2 75 4 x3.1) + v5) - v5), .int x3.1, .ref 74]) (σ1 := v16) (by decide +kernel) rfl ?_
                    refine RN.callV [.int x3.1, .int (((rg x3.2 75 4 x3.1) + v5) - v5)] (s_Row_set (q := 74) (a := 75) (n := 4) ⟨rfl, rfl, by decide⟩ v16 x3.1 (((rg x3.2 75 4 x3.1) + v5) - v5)) [] (pc3 := 187) (st3 := []) (by decide +kernel) mk_Row_set (by omega) ?_
                    generalize ns17 : (rs v16 75 4 x3.1 (((rg x3.2 75 4 x3.1) + v5) - v5)) = s17 at e3 ⊢
                    replace e3 := nm_h e3
                    refine RM.blk [(10, 4, 0, .int 1), (23, 0, 0, .null)] (pc' := 53) (L' := [some (.ref 65), some (.int p0), some (.int p1), some (.int ((rg σ 59 240 (rg σ 67 9 p0)))), some (.int (x3.1 + 1)), some (.int v5), some (.int ((rg x3.2 75 4 x3.1) + v5)), some (.int (bI false))]) (st' := []) (σ1 := s17) (by decide +kernel) rfl ?_
                    obtain rfl := Option.some.inj e3
                    refine RN.dropB [true, true, true, true, true, false, false, false] rfl ?_
                    exact ih3 ((x3.1 + 1), s17) _ hy3 hK3
              · rw [if_pos c12] at e3
                refine RM.blk [(0, 0, 0, .int 1), (23, 0, 0, .null), (4, 7, 0, .null), (1, 7, 0, .null)] (pc' := 123) (L' := [some (.ref 65), some (.int p0), some (.int p1), some (.int ((rg σ 59 240 (rg σ 67 9 p0)))), some (.int x3.1), some (.int v5), some (.int ((rg x3.2 75 4 x3.1) + v5)), some (.int (bI true))]) (st' := [.int (bI true)]) (σ1 := x3.2) (by decide +kernel) rfl ?_
                refine RM.zeq (tgt := 187) (by decide +kernel) (fun c18 => ?_) (fun c18 => ?_)
                · rw [if_neg (bf c18)] at e3
                  refine RM.blk [(10, 4, 0, .int 1), (23, 0, 0, .null)] (pc' := 53) (L' := [some (.ref 65), some (.int p0), some (.int p1), some (.int ((rg σ 59 240 (rg σ 67 9 p0)))), some (.int (x3.1 + 1)), some (.int v5), some (.int ((rg x3.2 75 4 x3.1) + v5)), some (.int (bI true))]) (st' := []) (σ1 := x3.2) (by decide +kernel) rfl ?_
                  obtain rfl := Option.some.inj e3
                  refine RN.dropB [true, true, true, true, true, false, false, false] rfl ?_
                  exact ih3 ((x3.1 + 1), x3.2) _ hy3 hK3
                · rw [if_pos c18] at e3
                  refine RM.blk [(1, 2, 0, .null), (1, 6, 0, .null)] (pc' := 129) (L' := [some (.ref 65), some (.int p0), some (.int p1), some (.int ((rg σ 59 240 (rg σ 67 9 p0)))), some (.int x3.1), some (.int v5), some (.int ((rg x3.2 75 4 x3.1) + v5)), some (.int (bI true))]) (st' := [.int ((rg x3.2 75 4 x3.1) + v5), .int p1]) (σ1 := x3.2) (by decide +kernel) rfl ?_
                  refine RM.mmax (by decide +kernel) (by omega) (Nat.le_of_ble_eq_true rfl) ⟨Nat.le_refl _, Nat.le_refl _⟩ ?_
                  refine RM.blk [(2, 0, 0, .null), (3, 2, 0, .null)] (pc' := 136) (L' := [some (.ref 65), some (.int p0), some (.int p1), some (.int ((rg σ 59 240 (rg σ 67 9 p0)))), some (.int x3.1), some (.int v5), some (.int ((rg x3.2 75 4 x3.1) + v5)), some (.int (bI true))]) (st' := [.int (x3.2 65 0), .int (mxI p1 ((rg x3.2 75 4 x3.1) + v5))]) (σ1 := x3.2) (by decide +kernel) rfl ?_
                  refine RM.icmp_ge (tgt := 187) (by decide +kernel) (fun c19 => ?_) (fun c19 => ?_)
                  · rw [if_pos c19] at e3
                    refine RM.blk [(10, 4, 0, .int 1), (23, 0, 0, .null)] (pc' := 53) (L' := [some (.ref 65), some (.int p0), some (.int p1), some (.int ((rg σ 59 240 (rg σ 67 9 p0)))), some (.int (x3.1 + 1)), some (.int v5), some (.int ((rg x3.2 75 4 x3.1) + v5)), some (.int (bI true))]) (st' := []) (σ1 := x3.2) (by decide +kernel) rfl ?_
                    obtain rfl := Option.some.inj e3
                    refine RN.dropB [true, true, true, true, true, false, false, false] rfl ?_
                    exact ih3 ((x3.1 + 1), x3.2) _ hy3 hK3
                  · rw [if_neg c19] at e3
                    refine RM.blk [(2, 0, 0, .null), (3, 2, 6, .null), (1, 1, 0, .null), (1, 4, 0, .null)] (pc' := 146) (L' := [some (.ref 65), some (.int p0), some (.int p1), some (.int ((rg σ 59 240 (rg σ 67 9 p0)))), some (.int x3.1), some (.int v5), some (.int ((rg x3.2 75 4 x3.1) + v5)), some (.int (bI true))]) (st' := [.int x3.1, .int p0, .ref 70]) (σ1 := x3.2) (by decide +kernel) rfl ?_
                    refine RN.callV [.int p0, .int x3.1] (s_Row_set (q := 70) (a := 71) (n := 9) ⟨rfl, rfl, by decide⟩ x3.2 p0 x3.1) [] (pc3 := 149) (st3 := []) (by decide +kernel) mk_Row_set (by omega) ?_
                    refine RM.blk [(2, 0, 0, .null), (3, 2, 8, .null), (1, 4, 0, .null), (1, 6, 0, .null)] (pc' := 157) (L' := [some (.ref 65), some (.int p0), some (.int p1), some (.int ((rg σ 59 240 (rg σ 67 9 p0)))), some (.int x3.1), some (.int v5), some (.int ((rg x3.2 75 4 x3.1) + v5)), some (.int (bI true))]) (st' := [.int ((rg x3.2 75 4 x3.1) + v5), .int x3.1, .ref 74]) (σ1 := (rs x3.2 71 9 p0 x3.1)) (by decide +kernel) rfl ?_
                    refine RN.callV [.int x3.1, .int ((rg x3.2 75 4 x3.1) + v5)] (s_Row_set (q := 74) (a := 75) (n := 4) ⟨rfl, rfl, by decide⟩ (rs x3.2 71 9 p0 x3.1) x3.1 ((rg x3.2 75 4 x3.1) + v5)) [] (pc3 := 160) (st3 := []) (by decide +kernel) mk_Row_set (by omega) ?_
                    generalize ns20 : (rs (rs x3.2 71 9 p0 x3.1) 75 4 x3.1 ((rg x3.2 75 4 x3.1) + v5)) = s20 at e3 ⊢
                    replace e3 := nm_h e3
                    refine RM.blk [(2, 0, 0, .null), (1, 1, 0, .null), (0, 0, 0, .int 1), (5, 0, 0, .null), (1, 2, 0, .null), (1, 6, 0, .null)] (pc' := 167) (L' := [some (.ref 65), some (.int p0), some (.int p1), some (.int ((rg σ 59 240 (rg σ 67 9 p0)))), some (.int x3.1), some (.int v5), some (.int ((rg x3.2 75 4 x3.1) + v5)), some (.int (bI true))]) (st' := [.int ((rg x3.2 75 4 x3.1) + v5), .int p1, .int (p0 + 1), .ref 65]) (σ1 := s20) (by decide +kernel) rfl ?_
                    refine RM.mmax (by decide +kernel) (by omega) (Nat.le_of_ble_eq_true rfl) ⟨Nat.le_refl _, Nat.le_refl _⟩ ?_
                    obtain ⟨v21, hv21, e3⟩ := ob_some e3
                    refine RN.callS [.ref 65, .int (p0 + 1), .int (mxI p1 ((rg x3.2 75 4 x3.1) + v5))] (hR0 s20 (p0 + 1) (mxI p1 ((rg x3.2 75 4 x3.1) + v5)) v21 hv21) [] (pc3 := 173) (st3 := []) (by decide +kernel) mk_Dealer_dealFrom (by omega) ?_
                    refine RM.blk [(2, 0, 0, .null), (3, 2, 8, .null), (1, 4, 0, .null), (1, 6, 0, .null), (1, 5, 0, .null), (6, 0, 0, .null)] (pc' := 184) (L' := [some (.ref 65), some (.int p0), some (.int p1), some (.int ((rg σ 59 240 (rg σ 67 9 p0)))), some (.int x3.1), some (.int v5), some (.int ((rg x3.2 75 4 x3.1) + v5)), some (.int (bI true))]) (st' := [.int (((rg x3.2 75 4 x3.1) + v5) - v5), .int x3.1, .ref 74]) (σ1 := v21) (by decide +kernel) rfl ?_
                    refine RN.callV [.int x3.1, .int (((rg x3.2 75 4 x3.1) + v5) - v5)] (s_Row_set (q := 74) (a := 75) (n := 4) ⟨rfl, rfl, by decide⟩ v21 x3.1 (((rg x3.2 75 4 x3.1) + v5) - v5)) [] (pc3 := 187) (st3 := []) (by decide +kernel) mk_Row_set (by omega) ?_
                    generalize ns22 : (rs v21 75 4 x3.1 (((rg x3.2 75 4 x3.1) + v5) - v5)) = s22 at e3 ⊢
                    replace e3 := nm_h e3
                    refine RM.blk [(10, 4, 0, .int 1), (23, 0, 0, .null)] (pc' := 53) (L' := [some (.ref 65), some (.int p0), some (.int p1), some (.int ((rg σ 59 240 (rg σ 67 9 p0)))), some (.int (x3.1 + 1)), some (.int v5), some (.int ((rg x3.2 75 4 x3.1) + v5)), some (.int (bI true))]) (st' := []) (σ1 := s22) (by decide +kernel) rfl ?_
                    obtain rfl := Option.some.inj e3
                    refine RN.dropB [true, true, true, true, true, false, false, false] rfl ?_
                    exact ih3 ((x3.1 + 1), s22) _ hy3 hK3
      obtain ⟨y3, hl3, h⟩ := ob_some h
      refine RN.dropB [true, true, true, true, true, false, false, false] rfl ?_
      refine hL3 FU (0, σ) y3 hl3 ?_
      obtain rfl := (Option.some.inj h)
      exact RM.retv (by decide +kernel) rfl
    · rw [if_neg c2] at h
      refine RM.blk [(2, 0, 0, .null), (1, 2, 0, .null), (15, 2, 0, .null), (2, 0, 0, .null), (3, 2, 7, .null), (2, 0, 0, .null), (3, 2, 6, .null)] (pc' := 27) (L' := [some (.ref 65), some (.int p0), some (.int p1), none, none, none, none, none]) (st' := [.ref 70, .ref 72]) (σ1 := (up σ 65 0 p1)) (by decide +kernel) rfl ?_
      refine RN.callV [.ref 70] (s_Row_copyFrom (q := 72) (a := 73) (n := 9) ⟨rfl, rfl, by decide⟩ (q2 := 70) (a2 := 71) (n2 := 9) ⟨rfl, rfl, by decide⟩ (by decide) (up σ 65 0 p1)) [] (pc3 := 30) (st3 := []) (by decide +kernel) mk_Row_copyFrom (by omega) ?_
      obtain rfl := (Option.some.inj h)
      exact RM.retv (by decide +kernel) rfl
theorem sR_Dealer_dealFrom : ∀ (n : Nat) (σ : SG) (p0 p1 : Int32) (so : SG), R_Dealer_dealFrom n σ p0 p1 = some so → SpN (9 + n) M_Dealer_dealFrom [.ref 65, .int p0, .int p1] σ none so
  | 0, σ, p0, p1, so, h => by cases h
  | n + 1, σ, p0, p1, so, h => sB_Dealer_dealFrom (R_Dealer_dealFrom n) (9 + n) (by omega) (sR_Dealer_dealFrom n) σ p0 p1 so h
theorem s_Dealer_dealFrom (σ : SG) (p0 p1 : Int32) (so : SG) (h : F_Dealer_dealFrom σ p0 p1 = some so) : SpN 20 M_Dealer_dealFrom [.ref 65, .int p0, .int p1] σ none so := sR_Dealer_dealFrom 11 σ p0 p1 so h
def M_Dealer_dealSheets : MI := (yX2_dealSheets, cX2_dealSheets, 1, some .boolean, 2)
theorem mk_Dealer_dealSheets : mOK M_Dealer_dealSheets 0 = true := by decide +kernel
set_option maxRecDepth 100000 in
set_option maxHeartbeats 4000000 in
theorem s_Dealer_dealSheets (σ : SG) (rr : Bool) (so : SG) (h : F_Dealer_dealSheets σ = some (rr, so)) : SpN 21 M_Dealer_dealSheets [.ref 65] σ (some (.int (bI rr))) so := by
  unfold F_Dealer_dealSheets at h
  refine Sp.of mk_Dealer_dealSheets rfl (Nat.le_of_ble_eq_true rfl) ?_
  refine RM.blk [(2, 0, 0, .null), (3, 2, 2, .null), (3, 5, 0, .null)] (pc' := 7) (L' := [some (.ref 65)]) (st' := [.int (σ 60 0)]) (σ1 := σ) (by decide +kernel) rfl ?_
  refine RM.if_eq (tgt := 17) (by decide +kernel) (fun c1 => ?_) (fun c1 => ?_)
  · rw [if_pos c1] at h
    refine RM.blk [(0, 0, 0, .int 0)] (pc' := 18) (L' := [some (.ref 65)]) (st' := [.int 0]) (σ1 := σ) (by decide +kernel) rfl ?_
    obtain ⟨rfl, rfl⟩ := Prod.mk.inj (Option.some.inj h)
    exact RM.retz (z := false) (by decide +kernel) rfl
  · rw [if_neg c1] at h
    refine RM.blk [(2, 0, 0, .null)] (pc' := 11) (L' := [some (.ref 65)]) (st' := [.ref 65]) (σ1 := σ) (by decide +kernel) rfl ?_
    obtain ⟨v2, hv2, h⟩ := ob_some h
    refine RN.callV [] (s_Dealer_gather σ v2.1 v2.2 hv2) [] (pc3 := 14) (st3 := [.int (bI v2.1)]) (by decide +kernel) mk_Dealer_gather (by decide) ?_
    refine RM.zne (tgt := 19) (by decide +kernel) (fun c3 => ?_) (fun c3 => ?_)
    · rw [if_pos c3] at h
      refine RM.blk [(2, 0, 0, .null), (0, 0, 0, .int 1000000), (15, 2, 0, .null), (2, 0, 0, .null), (3, 2, 8, .null), (0, 0, 0, .int 0)] (pc' := 30) (L' := [some (.ref 65)]) (st' := [.int 0, .ref 74]) (σ1 := (up v2.2 65 0 1000000)) (by decide +kernel) rfl ?_
      refine RN.callV [.int 0] (s_Row_fill (q := 74) (a := 75) (n := 4) ⟨rfl, rfl, by decide⟩ (up v2.2 65 0 1000000) 0) [] (pc3 := 33) (st3 := []) (by decide +kernel) mk_Row_fill (by decide) ?_
      refine RM.blk [(2, 0, 0, .null), (0, 0, 0, .int 0), (0, 0, 0, .int 0)] (pc' := 36) (L' := [some (.ref 65)]) (st' := [.int 0, .int 0, .ref 65]) (σ1 := (rf (up v2.2 65 0 1000000) 75 4 0)) (by decide +kernel) rfl ?_
      obtain ⟨v4, hv4, h⟩ := ob_some h
      refine RN.callS [.ref 65, .int 0, .int 0] (s_Dealer_dealFrom (rf (up v2.2 65 0 1000000) 75 4 0) 0 0 v4 hv4) [] (pc3 := 39) (st3 := []) (by decide +kernel) mk_Dealer_dealFrom (by decide) ?_
      refine RM.blk [(0, 0, 0, .int 1)] (pc' := 40) (L' := [some (.ref 65)]) (st' := [.int 1]) (σ1 := v4) (by decide +kernel) rfl ?_
      obtain ⟨rfl, rfl⟩ := Prod.mk.inj (Option.some.inj h)
      exact RM.retz (z := true) (by decide +kernel) rfl
    · rw [if_neg (bf c3)] at h
      refine RM.blk [(0, 0, 0, .int 0)] (pc' := 18) (L' := [some (.ref 65)]) (st' := [.int 0]) (σ1 := v2.2) (by decide +kernel) rfl ?_
      obtain ⟨rfl, rfl⟩ := Prod.mk.inj (Option.some.inj h)
      exact RM.retz (z := false) (by decide +kernel) rfl
def M_Shop_days : MI := (yX11_days, cX11_days, 1, some .int, 11)
theorem mk_Shop_days : mOK M_Shop_days 0 = true := by decide +kernel
set_option maxRecDepth 100000 in
set_option maxHeartbeats 4000000 in
theorem s_Shop_days (σ : SG) (rr : Int32) (so : SG) (h : F_Shop_days σ = some (rr, so)) : SpN 22 M_Shop_days [.ref 0] σ (some (.int rr)) so := by
  unfold F_Shop_days at h
  refine Sp.of mk_Shop_days rfl (Nat.le_of_ble_eq_true rfl) ?_
  refine RM.blk [(2, 0, 0, .null)] (pc' := 1) (L' := [some (.ref 0)]) (st' := [.ref 0]) (σ1 := σ) (by decide +kernel) rfl ?_
  refine RN.callV [] (s_Shop_isCut σ) [] (pc3 := 4) (st3 := [.int (bI (F_Shop_isCut σ))]) (by decide +kernel) mk_Shop_isCut (by decide) ?_
  refine RM.zeq (tgt := 27) (by decide +kernel) (fun c1 => ?_) (fun c1 => ?_)
  · rw [if_neg (bf c1)] at h
    refine RM.blk [(0, 0, 0, .int (-3))] (pc' := 29) (L' := [some (.ref 0)]) (st' := [.int (-3)]) (σ1 := σ) (by decide +kernel) rfl ?_
    obtain ⟨rfl, rfl⟩ := Prod.mk.inj (Option.some.inj h)
    exact RM.reti (by decide +kernel) rfl
  · rw [if_pos c1] at h
    refine RM.blk [(2, 0, 0, .null), (3, 11, 8, .null)] (pc' := 11) (L' := [some (.ref 0)]) (st' := [.ref 65]) (σ1 := σ) (by decide +kernel) rfl ?_
    obtain ⟨v2, hv2, h⟩ := ob_some h
    refine RN.callV [] (s_Dealer_dealSheets σ v2.1 v2.2 hv2) [] (pc3 := 14) (st3 := [.int (bI v2.1)]) (by decide +kernel) mk_Dealer_dealSheets (by decide) ?_
    refine RM.zeq (tgt := 27) (by decide +kernel) (fun c3 => ?_) (fun c3 => ?_)
    · rw [if_neg (bf c3)] at h
      refine RM.blk [(0, 0, 0, .int (-3))] (pc' := 29) (L' := [some (.ref 0)]) (st' := [.int (-3)]) (σ1 := v2.2) (by decide +kernel) rfl ?_
      obtain ⟨rfl, rfl⟩ := Prod.mk.inj (Option.some.inj h)
      exact RM.reti (by decide +kernel) rfl
    · rw [if_pos c3] at h
      refine RM.blk [(2, 0, 0, .null), (3, 11, 8, .null), (3, 2, 0, .null), (23, 0, 0, .null)] (pc' := 29) (L' := [some (.ref 0)]) (st' := [.int (v2.2 65 0)]) (σ1 := v2.2) (by decide +kernel) rfl ?_
      obtain ⟨rfl, rfl⟩ := Prod.mk.inj (Option.some.inj h)
      exact RM.reti (by decide +kernel) rfl
def M_Dealer_handOf : MI := (yX2_handOf, cX2_handOf, 3, some .int, 2)
theorem mk_Dealer_handOf : mOK M_Dealer_handOf 1 = true := by decide +kernel
set_option maxRecDepth 100000 in
set_option maxHeartbeats 4000000 in
theorem s_Dealer_handOf (σ : SG) (p0 : Int32) (rr : Int32) (h : F_Dealer_handOf σ p0 = some rr) : SpN 3 M_Dealer_handOf [.ref 65, .int p0] σ (some (.int rr)) σ := by
  unfold F_Dealer_handOf at h
  refine Sp.of mk_Dealer_handOf rfl (Nat.le_of_ble_eq_true rfl) ?_
  refine RM.blk [(0, 0, 0, .int 0), (4, 2, 0, .null)] (pc' := 2) (L' := [some (.ref 65), some (.int p0), some (.int 0)]) (st' := []) (σ1 := σ) (by decide +kernel) rfl ?_
  have hL1 : ∀ (n : Nat) (x1 : Int32) (y1 : (Unit) ⊕ (Int32)), lpW (L_Dealer_handOf_2 σ p0) n x1 = some y1 → Sum.elim (fun y1 : Unit => RN 3 M_Dealer_handOf (some (.int rr)) σ 37 [none, none, none] [] σ) (fun q : Int32 => q = rr) y1 → RN 3 M_Dealer_handOf (some (.int rr)) σ 2 [some (.ref 65), some (.int p0), some (.int x1)] [] σ := by
    intro n
    induction n with
    | zero => intro x1 y1 hy1; cases hy1
    | succ n ih1 =>
      intro x1 y1 hy1 hK1
      obtain ⟨z1, e1, hy1⟩ := ob_some hy1
      unfold L_Dealer_handOf_2 at e1
      refine RM.blk [(1, 2, 0, .null), (2, 0, 0, .null), (3, 2, 3, .null)] (pc' := 7) (L' := [some (.ref 65), some (.int p0), some (.int x1)]) (st' := [.int (σ 65 3), .int x1]) (σ1 := σ) (by decide +kernel) rfl ?_
      refine RM.icmp_ge (tgt := 37) (by decide +kernel) (fun c2 => ?_) (fun c2 => ?_)
      · rw [if_pos c2] at e1
        obtain rfl := Option.some.inj e1
        obtain rfl := Option.some.inj (show some ((.inl ()) : (Unit) ⊕ (Int32)) = some y1 from hy1)
        refine RN.dropB [false, false, false] rfl ?_
        exact hK1
      · rw [if_neg c2] at e1
        refine RM.blk [(2, 0, 0, .null), (3, 2, 4, .null), (1, 2, 0, .null)] (pc' := 15) (L' := [some (.ref 65), some (.int p0), some (.int x1)]) (st' := [.int x1, .ref 66]) (σ1 := σ) (by decide +kernel) rfl ?_
        refine RN.callV [.int x1] (s_Row_get (q := 66) (a := 67) (n := 9) ⟨rfl, rfl, by decide⟩ σ x1) [] (pc3 := 18) (st3 := [.int (rg σ 67 9 x1)]) (by decide +kernel) mk_Row_get (by decide) ?_
        refine RM.blk [(1, 1, 0, .null)] (pc' := 19) (L' := [some (.ref 65), some (.int p0), some (.int x1)]) (st' := [.int p0, .int (rg σ 67 9 x1)]) (σ1 := σ) (by decide +kernel) rfl ?_
        refine RM.icmp_ne (tgt := 31) (by decide +kernel) (fun c3 => ?_) (fun c3 => ?_)
        · rw [if_neg c3] at e1
          refine RM.blk [(10, 2, 0, .int 1), (23, 0, 0, .null)] (pc' := 2) (L' := [some (.ref 65), some (.int p0), some (.int (x1 + 1))]) (st' := []) (σ1 := σ) (by decide +kernel) rfl ?_
          obtain rfl := Option.some.inj e1
          refine RN.dropB [true, true, true] rfl ?_
          exact ih1 (x1 + 1) _ hy1 hK1
        · rw [if_pos c3] at e1
          refine RM.blk [(2, 0, 0, .null), (3, 2, 7, .null), (1, 2, 0, .null)] (pc' := 27) (L' := [some (.ref 65), some (.int p0), some (.int x1)]) (st' := [.int x1, .ref 72]) (σ1 := σ) (by decide +kernel) rfl ?_
          refine RN.callV [.int x1] (s_Row_get (q := 72) (a := 73) (n := 9) ⟨rfl, rfl, by decide⟩ σ x1) [] (pc3 := 30) (st3 := [.int (rg σ 73 9 x1)]) (by decide +kernel) mk_Row_get (by decide) ?_
          obtain rfl := Option.some.inj e1
          obtain rfl := Option.some.inj (show some (.inr (rg σ 73 9 x1) : (Unit) ⊕ (Int32)) = some y1 from hy1)
          obtain rfl := (show ((rg σ 73 9 x1) : Int32) = rr from hK1)
          exact RM.reti (by decide +kernel) rfl
  obtain ⟨y1, hl1, h⟩ := ob_some h
  refine RN.dropB [true, true, true] rfl ?_
  refine hL1 FU 0 y1 hl1 ?_
  rcases y1 with y1 | q1
  · simp only [Sum.elim_inl] at h ⊢
    refine RM.blk [(0, 0, 0, .int (-1))] (pc' := 38) (L' := [none, none, none]) (st' := [.int (-1)]) (σ1 := σ) (by decide +kernel) rfl ?_
    obtain rfl := (Option.some.inj h)
    exact RM.reti (by decide +kernel) rfl
  · simp only [Sum.elim_inr] at h ⊢
    exact Option.some.inj h
def M_Shop_dealt : MI := (yX11_dealt, cX11_dealt, 2, some .int, 11)
theorem mk_Shop_dealt : mOK M_Shop_dealt 1 = true := by decide +kernel
set_option maxRecDepth 100000 in
set_option maxHeartbeats 4000000 in
theorem s_Shop_dealt (σ : SG) (p0 : Int32) (rr : Int32) (so : SG) (h : F_Shop_dealt σ p0 = some (rr, so)) : SpN 22 M_Shop_dealt [.ref 0, .int p0] σ (some (.int rr)) so := by
  unfold F_Shop_dealt at h
  refine Sp.of mk_Shop_dealt rfl (Nat.le_of_ble_eq_true rfl) ?_
  refine RM.blk [(2, 0, 0, .null), (1, 1, 0, .null)] (pc' := 2) (L' := [some (.ref 0), some (.int p0)]) (st' := [.int p0, .ref 0]) (σ1 := σ) (by decide +kernel) rfl ?_
  refine RN.callV [.int p0] (s_Shop_maySheet σ p0) [] (pc3 := 5) (st3 := [.int (bI (F_Shop_maySheet σ p0))]) (by decide +kernel) mk_Shop_maySheet (by decide) ?_
  refine RM.zne (tgt := 11) (by decide +kernel) (fun c1 => ?_) (fun c1 => ?_)
  · rw [if_pos c1] at h
    refine RM.blk [(2, 0, 0, .null)] (pc' := 12) (L' := [some (.ref 0), some (.int p0)]) (st' := [.ref 0]) (σ1 := σ) (by decide +kernel) rfl ?_
    refine RN.callV [] (s_Shop_isCut σ) [] (pc3 := 15) (st3 := [.int (bI (F_Shop_isCut σ))]) (by decide +kernel) mk_Shop_isCut (by decide) ?_
    refine RM.zeq (tgt := 39) (by decide +kernel) (fun c2 => ?_) (fun c2 => ?_)
    · rw [if_neg (bf c2)] at h
      refine RM.blk [(0, 0, 0, .int (-3))] (pc' := 41) (L' := [some (.ref 0), some (.int p0)]) (st' := [.int (-3)]) (σ1 := σ) (by decide +kernel) rfl ?_
      obtain ⟨rfl, rfl⟩ := Prod.mk.inj (Option.some.inj h)
      exact RM.reti (by decide +kernel) rfl
    · rw [if_pos c2] at h
      refine RM.blk [(2, 0, 0, .null), (3, 11, 8, .null)] (pc' := 22) (L' := [some (.ref 0), some (.int p0)]) (st' := [.ref 65]) (σ1 := σ) (by decide +kernel) rfl ?_
      obtain ⟨v3, hv3, h⟩ := ob_some h
      refine RN.callV [] (s_Dealer_dealSheets σ v3.1 v3.2 hv3) [] (pc3 := 25) (st3 := [.int (bI v3.1)]) (by decide +kernel) mk_Dealer_dealSheets (by decide) ?_
      refine RM.zeq (tgt := 39) (by decide +kernel) (fun c4 => ?_) (fun c4 => ?_)
      · rw [if_neg (bf c4)] at h
        refine RM.blk [(0, 0, 0, .int (-3))] (pc' := 41) (L' := [some (.ref 0), some (.int p0)]) (st' := [.int (-3)]) (σ1 := v3.2) (by decide +kernel) rfl ?_
        obtain ⟨rfl, rfl⟩ := Prod.mk.inj (Option.some.inj h)
        exact RM.reti (by decide +kernel) rfl
      · rw [if_pos c4] at h
        refine RM.blk [(2, 0, 0, .null), (3, 11, 8, .null), (1, 1, 0, .null)] (pc' := 33) (L' := [some (.ref 0), some (.int p0)]) (st' := [.int p0, .ref 65]) (σ1 := v3.2) (by decide +kernel) rfl ?_
        obtain ⟨v5, hv5, h⟩ := ob_some h
        refine RN.callV [.int p0] (s_Dealer_handOf v3.2 p0 v5 hv5) [] (pc3 := 36) (st3 := [.int v5]) (by decide +kernel) mk_Dealer_handOf (by decide) ?_
        refine RM.blk [(23, 0, 0, .null)] (pc' := 41) (L' := [some (.ref 0), some (.int p0)]) (st' := [.int v5]) (σ1 := v3.2) (by decide +kernel) rfl ?_
        obtain ⟨rfl, rfl⟩ := Prod.mk.inj (Option.some.inj h)
        exact RM.reti (by decide +kernel) rfl
  · rw [if_neg (bf c1)] at h
    refine RM.blk [(0, 0, 0, .int (-2))] (pc' := 10) (L' := [some (.ref 0), some (.int p0)]) (st' := [.int (-2)]) (σ1 := σ) (by decide +kernel) rfl ?_
    obtain ⟨rfl, rfl⟩ := Prod.mk.inj (Option.some.inj h)
    exact RM.reti (by decide +kernel) rfl
def M_Lots_leftInAll : MI := (yX7_leftInAll, cX7_leftInAll, 3, some .int, 7)
theorem mk_Lots_leftInAll : mOK M_Lots_leftInAll 0 = true := by decide +kernel
set_option maxRecDepth 100000 in
set_option maxHeartbeats 4000000 in
theorem s_Lots_leftInAll (σ : SG) (rr : Int32) (h : F_Lots_leftInAll σ = some rr) : SpN 3 M_Lots_leftInAll [.ref 42] σ (some (.int rr)) σ := by
  unfold F_Lots_leftInAll at h
  refine Sp.of mk_Lots_leftInAll rfl (Nat.le_of_ble_eq_true rfl) ?_
  refine RM.blk [(0, 0, 0, .int 0), (4, 1, 0, .null), (0, 0, 0, .int 0), (4, 2, 0, .null)] (pc' := 4) (L' := [some (.ref 42), some (.int 0), some (.int 0)]) (st' := []) (σ1 := σ) (by decide +kernel) rfl ?_
  have hL1 : ∀ (n : Nat) (x1 : Int32 × Int32) (y1 : Int32), lpW (L_Lots_leftInAll_4 σ) n x1 = some y1 → RN 3 M_Lots_leftInAll (some (.int rr)) σ 29 [none, some (.int y1), none] [] σ → RN 3 M_Lots_leftInAll (some (.int rr)) σ 4 [some (.ref 42), some (.int x1.1), some (.int x1.2)] [] σ := by
    intro n
    induction n with
    | zero => intro x1 y1 hy1; cases hy1
    | succ n ih1 =>
      intro x1 y1 hy1 hK1
      obtain ⟨z1, e1, hy1⟩ := ob_some hy1
      unfold L_Lots_leftInAll_4 at e1
      refine RM.blk [(1, 2, 0, .null), (2, 0, 0, .null), (3, 7, 0, .null)] (pc' := 9) (L' := [some (.ref 42), some (.int x1.1), some (.int x1.2)]) (st' := [.int (σ 42 0), .int x1.2]) (σ1 := σ) (by decide +kernel) rfl ?_
      refine RM.icmp_ge (tgt := 29) (by decide +kernel) (fun c2 => ?_) (fun c2 => ?_)
      · rw [if_pos c2] at e1
        obtain rfl := Option.some.inj e1
        obtain rfl := Option.some.inj (show some (x1.1 : Int32) = some y1 from hy1)
        refine RN.dropB [false, true, false] rfl ?_
        exact hK1
      · rw [if_neg c2] at e1
        refine RM.blk [(1, 1, 0, .null), (2, 0, 0, .null), (3, 7, 1, .null), (1, 2, 0, .null)] (pc' := 18) (L' := [some (.ref 42), some (.int x1.1), some (.int x1.2)]) (st' := [.int x1.2, .ref 43, .int x1.1]) (σ1 := σ) (by decide +kernel) rfl ?_
        refine RN.callV [.int x1.2] (s_Row_get (q := 43) (a := 44) (n := 10) ⟨rfl, rfl, by decide⟩ σ x1.2) [.int x1.1] (pc3 := 21) (st3 := [.int (rg σ 44 10 x1.2), .int x1.1]) (by decide +kernel) mk_Row_get (by decide) ?_
        refine RM.blk [(5, 0, 0, .null), (4, 1, 0, .null), (10, 2, 0, .int 1), (23, 0, 0, .null)] (pc' := 4) (L' := [some (.ref 42), some (.int (x1.1 + (rg σ 44 10 x1.2))), some (.int (x1.2 + 1))]) (st' := []) (σ1 := σ) (by decide +kernel) rfl ?_
        obtain rfl := Option.some.inj e1
        refine RN.dropB [true, true, true] rfl ?_
        exact ih1 ((x1.1 + (rg σ 44 10 x1.2)), (x1.2 + 1)) _ hy1 hK1
  obtain ⟨y1, hl1, h⟩ := ob_some h
  refine RN.dropB [true, true, true] rfl ?_
  refine hL1 FU (0, 0) y1 hl1 ?_
  refine RM.blk [(1, 1, 0, .null)] (pc' := 30) (L' := [none, some (.int y1), none]) (st' := [.int y1]) (σ1 := σ) (by decide +kernel) rfl ?_
  obtain rfl := (Option.some.inj h)
  exact RM.reti (by decide +kernel) rfl
def M_Drawing_placesOfAll : MI := (yX3_placesOfAll, cX3_placesOfAll, 4, some .int, 3)
theorem mk_Drawing_placesOfAll : mOK M_Drawing_placesOfAll 1 = true := by decide +kernel
set_option maxRecDepth 100000 in
set_option maxHeartbeats 4000000 in
theorem s_Drawing_placesOfAll (σ : SG) (rr : Int32) (h : F_Drawing_placesOfAll σ = some rr) : SpN 5 M_Drawing_placesOfAll [.ref 1, .ref 14] σ (some (.int rr)) σ := by
  unfold F_Drawing_placesOfAll at h
  refine Sp.of mk_Drawing_placesOfAll rfl (Nat.le_of_ble_eq_true rfl) ?_
  refine RM.blk [(0, 0, 0, .int 0), (4, 2, 0, .null), (0, 0, 0, .int 0), (4, 3, 0, .null)] (pc' := 4) (L' := [some (.ref 1), some (.ref 14), some (.int 0), some (.int 0)]) (st' := []) (σ1 := σ) (by decide +kernel) rfl ?_
  have hL1 : ∀ (n : Nat) (x1 : Int32 × Int32) (y1 : Int32), lpW (L_Drawing_placesOfAll_4 σ) n x1 = some y1 → RN 5 M_Drawing_placesOfAll (some (.int rr)) σ 33 [none, none, some (.int y1), none] [] σ → RN 5 M_Drawing_placesOfAll (some (.int rr)) σ 4 [some (.ref 1), some (.ref 14), some (.int x1.1), some (.int x1.2)] [] σ := by
    intro n
    induction n with
    | zero => intro x1 y1 hy1; cases hy1
    | succ n ih1 =>
      intro x1 y1 hy1 hK1
      obtain ⟨z1, e1, hy1⟩ := ob_some hy1
      unfold L_Drawing_placesOfAll_4 at e1
      refine RM.blk [(1, 3, 0, .null), (0, 0, 0, .int 8)] (pc' := 7) (L' := [some (.ref 1), some (.ref 14), some (.int x1.1), some (.int x1.2)]) (st' := [.int 8, .int x1.2]) (σ1 := σ) (by decide +kernel) rfl ?_
      refine RM.icmp_ge (tgt := 33) (by decide +kernel) (fun c2 => ?_) (fun c2 => ?_)
      · rw [if_pos c2] at e1
        obtain rfl := Option.some.inj e1
        obtain rfl := Option.some.inj (show some (x1.1 : Int32) = some y1 from hy1)
        refine RN.dropB [false, false, true, false] rfl ?_
        exact hK1
      · rw [if_neg c2] at e1
        refine RM.blk [(2, 1, 0, .null), (1, 3, 0, .null)] (pc' := 12) (L' := [some (.ref 1), some (.ref 14), some (.int x1.1), some (.int x1.2)]) (st' := [.int x1.2, .ref 14]) (σ1 := σ) (by decide +kernel) rfl ?_
        refine RN.callV [.int x1.2] (s_Row_get (q := 14) (a := 15) (n := 8) ⟨rfl, rfl, by decide⟩ σ x1.2) [] (pc3 := 15) (st3 := [.int (rg σ 15 8 x1.2)]) (by decide +kernel) mk_Row_get (by decide) ?_
        refine RM.blk [(0, 0, 0, .int 1)] (pc' := 16) (L' := [some (.ref 1), some (.ref 14), some (.int x1.1), some (.int x1.2)]) (st' := [.int 1, .int (rg σ 15 8 x1.2)]) (σ1 := σ) (by decide +kernel) rfl ?_
        refine RM.icmp_ne (tgt := 27) (by decide +kernel) (fun c3 => ?_) (fun c3 => ?_)
        · rw [if_neg c3] at e1
          refine RM.blk [(10, 3, 0, .int 1), (23, 0, 0, .null)] (pc' := 4) (L' := [some (.ref 1), some (.ref 14), some (.int x1.1), some (.int (x1.2 + 1))]) (st' := []) (σ1 := σ) (by decide +kernel) rfl ?_
          obtain rfl := Option.some.inj e1
          refine RN.dropB [true, true, true, true] rfl ?_
          exact ih1 (x1.1, (x1.2 + 1)) _ hy1 hK1
        · rw [if_pos c3] at e1
          refine RM.blk [(1, 2, 0, .null), (2, 0, 0, .null), (1, 3, 0, .null)] (pc' := 22) (L' := [some (.ref 1), some (.ref 14), some (.int x1.1), some (.int x1.2)]) (st' := [.int x1.2, .ref 1, .int x1.1]) (σ1 := σ) (by decide +kernel) rfl ?_
          obtain ⟨v4, hv4, e1⟩ := ob_some e1
          refine RN.callV [.int x1.2] (s_Drawing_placesOf σ x1.2 v4 hv4) [.int x1.1] (pc3 := 25) (st3 := [.int v4, .int x1.1]) (by decide +kernel) mk_Drawing_placesOf (by decide) ?_
          refine RM.blk [(5, 0, 0, .null), (4, 2, 0, .null), (10, 3, 0, .int 1), (23, 0, 0, .null)] (pc' := 4) (L' := [some (.ref 1), some (.ref 14), some (.int (x1.1 + v4)), some (.int (x1.2 + 1))]) (st' := []) (σ1 := σ) (by decide +kernel) rfl ?_
          obtain rfl := Option.some.inj e1
          refine RN.dropB [true, true, true, true] rfl ?_
          exact ih1 ((x1.1 + v4), (x1.2 + 1)) _ hy1 hK1
  obtain ⟨y1, hl1, h⟩ := ob_some h
  refine RN.dropB [true, true, true, true] rfl ?_
  refine hL1 FU (0, 0) y1 hl1 ?_
  refine RM.blk [(1, 2, 0, .null)] (pc' := 34) (L' := [none, none, some (.int y1), none]) (st' := [.int y1]) (σ1 := σ) (by decide +kernel) rfl ?_
  obtain rfl := (Option.some.inj h)
  exact RM.reti (by decide +kernel) rfl
def M_Shop_count : MI := (yX11_count, cX11_count, 2, some .int, 11)
theorem mk_Shop_count : mOK M_Shop_count 1 = true := by decide +kernel
set_option maxRecDepth 100000 in
set_option maxHeartbeats 4000000 in
theorem s_Shop_count (σ : SG) (p0 : Int32) (rr : Int32) (h : F_Shop_count σ p0 = some rr) : SpN 6 M_Shop_count [.ref 0, .int p0] σ (some (.int rr)) σ := by
  unfold F_Shop_count at h
  refine Sp.of mk_Shop_count rfl (Nat.le_of_ble_eq_true rfl) ?_
  refine RM.blk [(1, 1, 0, .null), (0, 0, 0, .int 0), (0, 0, 0, .int 8)] (pc' := 4) (L' := [some (.ref 0), some (.int p0)]) (st' := [.int 8, .int 0, .int p0]) (σ1 := σ) (by decide +kernel) rfl ?_
  refine RN.callS [.int p0, .int 0, .int 8] (s_Shop_within σ p0 0 8) [] (pc3 := 7) (st3 := [.int (bI (F_Shop_within p0 0 8))]) (by decide +kernel) mk_Shop_within (by decide) ?_
  refine RM.zne (tgt := 13) (by decide +kernel) (fun c1 => ?_) (fun c1 => ?_)
  · rw [if_pos c1] at h
    refine RM.blk [(1, 1, 0, .null)] (pc' := 14) (L' := [some (.ref 0), some (.int p0)]) (st' := [.int p0]) (σ1 := σ) (by decide +kernel) rfl ?_
    refine RM.tsw (ts := [60, 68, 76, 84, 107, 115, 123, 131]) (df := 139) (by decide +kernel) (by decide) ⟨fun c2 => ?_, fun c2 => ?_, fun c2 => ?_, fun c2 => ?_, fun c2 => ?_, fun c2 => ?_, fun c2 => ?_, fun c2 => ?_, trivial⟩ (fun c2 => ?_)
    · rw [tsS_at (j := 0) c2 rfl rfl] at h
      refine RM.blk [(2, 0, 0, .null), (3, 11, 0, .null), (3, 3, 0, .null)] (pc' := 67) (L' := [some (.ref 0), some (.int p0)]) (st' := [.int (σ 1 0)]) (σ1 := σ) (by decide +kernel) rfl ?_
      obtain rfl := (Option.some.inj h)
      exact RM.reti (by decide +kernel) rfl
    · rw [tsS_at (j := 1) c2 rfl rfl] at h
      refine RM.blk [(2, 0, 0, .null), (3, 11, 0, .null), (3, 3, 1, .null)] (pc' := 75) (L' := [some (.ref 0), some (.int p0)]) (st' := [.int (σ 1 1)]) (σ1 := σ) (by decide +kernel) rfl ?_
      obtain rfl := (Option.some.inj h)
      exact RM.reti (by decide +kernel) rfl
    · rw [tsS_at (j := 2) c2 rfl rfl] at h
      refine RM.blk [(2, 0, 0, .null), (3, 11, 2, .null), (3, 1, 0, .null)] (pc' := 83) (L' := [some (.ref 0), some (.int p0)]) (st' := [.int (σ 18 0)]) (σ1 := σ) (by decide +kernel) rfl ?_
      obtain rfl := (Option.some.inj h)
      exact RM.reti (by decide +kernel) rfl
    · rw [tsS_at (j := 3) c2 rfl rfl] at h
      refine RM.blk [(2, 0, 0, .null), (3, 11, 5, .null), (3, 8, 0, .null)] (pc' := 91) (L' := [some (.ref 0), some (.int p0)]) (st' := [.int (σ 52 0)]) (σ1 := σ) (by decide +kernel) rfl ?_
      refine RM.if_eq (tgt := 104) (by decide +kernel) (fun c3 => ?_) (fun c3 => ?_)
      · rw [if_pos c3] at h
        refine RM.blk [(0, 0, 0, .int (-3))] (pc' := 106) (L' := [some (.ref 0), some (.int p0)]) (st' := [.int (-3)]) (σ1 := σ) (by decide +kernel) rfl ?_
        obtain rfl := (Option.some.inj h)
        exact RM.reti (by decide +kernel) rfl
      · rw [if_neg c3] at h
        refine RM.blk [(2, 0, 0, .null), (3, 11, 5, .null)] (pc' := 98) (L' := [some (.ref 0), some (.int p0)]) (st' := [.ref 52]) (σ1 := σ) (by decide +kernel) rfl ?_
        obtain ⟨v4, hv4, h⟩ := ob_some h
        refine RN.callV [] (s_Painter_bareCubes σ v4 hv4) [] (pc3 := 101) (st3 := [.int v4]) (by decide +kernel) mk_Painter_bareCubes (by decide) ?_
        refine RM.blk [(23, 0, 0, .null)] (pc' := 106) (L' := [some (.ref 0), some (.int p0)]) (st' := [.int v4]) (σ1 := σ) (by decide +kernel) rfl ?_
        obtain rfl := (Option.some.inj h)
        exact RM.reti (by decide +kernel) rfl
    · rw [tsS_at (j := 4) c2 rfl rfl] at h
      refine RM.blk [(2, 0, 0, .null), (3, 11, 4, .null), (3, 7, 0, .null)] (pc' := 114) (L' := [some (.ref 0), some (.int p0)]) (st' := [.int (σ 42 0)]) (σ1 := σ) (by decide +kernel) rfl ?_
      obtain rfl := (Option.some.inj h)
      exact RM.reti (by decide +kernel) rfl
    · rw [tsS_at (j := 5) c2 rfl rfl] at h
      refine RM.blk [(2, 0, 0, .null), (3, 11, 6, .null), (3, 10, 0, .null)] (pc' := 122) (L' := [some (.ref 0), some (.int p0)]) (st' := [.int (σ 57 0)]) (σ1 := σ) (by decide +kernel) rfl ?_
      obtain rfl := (Option.some.inj h)
      exact RM.reti (by decide +kernel) rfl
    · rw [tsS_at (j := 6) c2 rfl rfl] at h
      refine RM.blk [(2, 0, 0, .null), (3, 11, 7, .null), (3, 5, 0, .null)] (pc' := 130) (L' := [some (.ref 0), some (.int p0)]) (st' := [.int (σ 60 0)]) (σ1 := σ) (by decide +kernel) rfl ?_
      obtain rfl := (Option.some.inj h)
      exact RM.reti (by decide +kernel) rfl
    · rw [tsS_at (j := 7) c2 rfl rfl] at h
      refine RM.blk [(2, 0, 0, .null), (3, 11, 4, .null)] (pc' := 135) (L' := [some (.ref 0), some (.int p0)]) (st' := [.ref 42]) (σ1 := σ) (by decide +kernel) rfl ?_
      obtain ⟨v5, hv5, h⟩ := ob_some h
      refine RN.callV [] (s_Lots_leftInAll σ v5 hv5) [] (pc3 := 138) (st3 := [.int v5]) (by decide +kernel) mk_Lots_leftInAll (by decide) ?_
      obtain rfl := (Option.some.inj h)
      exact RM.reti (by decide +kernel) rfl
    · rw [tsS_out c2 rfl] at h
      refine RM.blk [(2, 0, 0, .null)] (pc' := 140) (L' := [some (.ref 0), some (.int p0)]) (st' := [.ref 0]) (σ1 := σ) (by decide +kernel) rfl ?_
      refine RN.callV [] (s_Shop_isLaid σ) [] (pc3 := 143) (st3 := [.int (bI (F_Shop_isLaid σ))]) (by decide +kernel) mk_Shop_isLaid (by decide) ?_
      refine RM.zeq (tgt := 163) (by decide +kernel) (fun c6 => ?_) (fun c6 => ?_)
      · rw [if_neg (bf c6)] at h
        refine RM.blk [(0, 0, 0, .int (-3))] (pc' := 165) (L' := [some (.ref 0), some (.int p0)]) (st' := [.int (-3)]) (σ1 := σ) (by decide +kernel) rfl ?_
        obtain rfl := (Option.some.inj h)
        exact RM.reti (by decide +kernel) rfl
      · rw [if_pos c6] at h
        refine RM.blk [(2, 0, 0, .null), (3, 11, 0, .null), (2, 0, 0, .null), (3, 11, 1, .null), (3, 4, 2, .null)] (pc' := 157) (L' := [some (.ref 0), some (.int p0)]) (st' := [.ref 14, .ref 1]) (σ1 := σ) (by decide +kernel) rfl ?_
        obtain ⟨v7, hv7, h⟩ := ob_some h
        refine RN.callV [.ref 14] (s_Drawing_placesOfAll σ v7 hv7) [] (pc3 := 160) (st3 := [.int v7]) (by decide +kernel) mk_Drawing_placesOfAll (by decide) ?_
        refine RM.blk [(23, 0, 0, .null)] (pc' := 165) (L' := [some (.ref 0), some (.int p0)]) (st' := [.int v7]) (σ1 := σ) (by decide +kernel) rfl ?_
        obtain rfl := (Option.some.inj h)
        exact RM.reti (by decide +kernel) rfl
  · rw [if_neg (bf c1)] at h
    refine RM.blk [(0, 0, 0, .int (-2))] (pc' := 12) (L' := [some (.ref 0), some (.int p0)]) (st' := [.int (-2)]) (σ1 := σ) (by decide +kernel) rfl ?_
    obtain rfl := (Option.some.inj h)
    exact RM.reti (by decide +kernel) rfl
