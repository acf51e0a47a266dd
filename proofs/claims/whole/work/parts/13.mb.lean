/-! methods: Drawing_placesOf, Colours_apart, Lots_nearest, Painter_nearestFor, Painter_give, Painter_paintField, Painter_paintFields, Painter_bareCubes, Shop_paint, Painter_giveBack, Shop_scrape, Painter_changesOf, Shop_changes, Shop_roundedUp, Sheets_isBorder, Sheets_cutNear, Sheets_cutsLeftOf, Sheets_turnOver, Sheets_cutWall, Shop_cut, Shop_isCut, Shop_maySheet, Sheets_cubesOn, Sheets_placesMarked_14, Sheets_placesMarked_16, Sheets_hasHead, Sheets_leftEdge -/
def M_Drawing_placesOf : MI := (yX3_placesOf, cX3_placesOf, 5, some .int, 3)
theorem mk_Drawing_placesOf : mOK M_Drawing_placesOf 1 = true := by decide +kernel
set_option maxRecDepth 100000 in
set_option maxHeartbeats 4000000 in
theorem s_Drawing_placesOf (σ : SG) (p0 : Int32) (rr : Int32) (h : F_Drawing_placesOf σ p0 = some rr) : SpN 4 M_Drawing_placesOf [.ref 1, .int p0] σ (some (.int rr)) σ := by
  unfold F_Drawing_placesOf at h
  refine Sp.of mk_Drawing_placesOf rfl (Nat.le_of_ble_eq_true rfl) ?_
  refine RM.blk [(0, 0, 0, .int 0), (4, 2, 0, .null), (0, 0, 0, .int 0), (4, 3, 0, .null)] (pc' := 4) (L' := [some (.ref 1), some (.int p0), some (.int 0), some (.int 0), none]) (st' := []) (σ1 := σ) (by decide +kernel) rfl ?_
  have hL1 : ∀ (n : Nat) (x1 : Int32 × Int32) (y1 : Int32), lpW (L_Drawing_placesOf_4 σ p0) n x1 = some y1 → RN 4 M_Drawing_placesOf (some (.int rr)) σ 50 [none, none, some (.int y1), none, none] [] σ → RN 4 M_Drawing_placesOf (some (.int rr)) σ 4 [some (.ref 1), some (.int p0), some (.int x1.1), some (.int x1.2), none] [] σ := by
    intro n
    induction n with
    | zero => intro x1 y1 hy1; cases hy1
    | succ n ih1 =>
      intro x1 y1 hy1 hK1
      obtain ⟨z1, e1, hy1⟩ := ob_some hy1
      unfold L_Drawing_placesOf_4 at e1
      refine RM.blk [(1, 3, 0, .null), (2, 0, 0, .null), (3, 3, 1, .null)] (pc' := 9) (L' := [some (.ref 1), some (.int p0), some (.int x1.1), some (.int x1.2), none]) (st' := [.int (σ 1 1), .int x1.2]) (σ1 := σ) (by decide +kernel) rfl ?_
      refine RM.icmp_ge (tgt := 50) (by decide +kernel) (fun c2 => ?_) (fun c2 => ?_)
      · rw [if_pos c2] at e1
        obtain rfl := Option.some.inj e1
        obtain rfl := Option.some.inj (show some (x1.1 : Int32) = some y1 from hy1)
        refine RN.dropB [false, false, true, false, false] rfl ?_
        exact hK1
      · rw [if_neg c2] at e1
        refine RM.blk [(0, 0, 0, .int 0), (4, 4, 0, .null)] (pc' := 15) (L' := [some (.ref 1), some (.int p0), some (.int x1.1), some (.int x1.2), some (.int 0)]) (st' := []) (σ1 := σ) (by decide +kernel) rfl ?_
        have hL3 : ∀ (n : Nat) (x3 : Int32 × Int32) (y3 : Int32), lpW (L_Drawing_placesOf_15 σ p0 x1.2) n x3 = some y3 → RN 4 M_Drawing_placesOf (some (.int rr)) σ 44 [some (.ref 1), some (.int p0), some (.int y3), some (.int x1.2), none] [] σ → RN 4 M_Drawing_placesOf (some (.int rr)) σ 15 [some (.ref 1), some (.int p0), some (.int x3.1), some (.int x1.2), some (.int x3.2)] [] σ := by
          intro n
          induction n with
          | zero => intro x3 y3 hy3; cases hy3
          | succ n ih3 =>
            intro x3 y3 hy3 hK3
            obtain ⟨z3, e3, hy3⟩ := ob_some hy3
            unfold L_Drawing_placesOf_15 at e3
            refine RM.blk [(1, 4, 0, .null), (2, 0, 0, .null), (3, 3, 0, .null)] (pc' := 21) (L' := [some (.ref 1), some (.int p0), some (.int x3.1), some (.int (x1.2)), some (.int x3.2)]) (st' := [.int (σ 1 0), .int x3.2]) (σ1 := σ) (by decide +kernel) rfl ?_
            refine RM.icmp_ge (tgt := 44) (by decide +kernel) (fun c4 => ?_) (fun c4 => ?_)
            · rw [if_pos c4] at e3
              obtain rfl := Option.some.inj e3
              obtain rfl := Option.some.inj (show some (x3.1 : Int32) = some y3 from hy3)
              refine RN.dropB [true, true, true, true, false] rfl ?_
              exact hK3
            · rw [if_neg c4] at e3
              refine RM.blk [(2, 0, 0, .null), (1, 4, 0, .null), (1, 3, 0, .null)] (pc' := 28) (L' := [some (.ref 1), some (.int p0), some (.int x3.1), some (.int (x1.2)), some (.int x3.2)]) (st' := [.int (x1.2), .int x3.2, .ref 1]) (σ1 := σ) (by decide +kernel) rfl ?_
              refine RN.callV [.int x3.2, .int (x1.2)] (s_Drawing_fieldAt σ x3.2 (x1.2)) [] (pc3 := 31) (st3 := [.int (F_Drawing_fieldAt σ x3.2 (x1.2))]) (by decide +kernel) mk_Drawing_fieldAt (by decide) ?_
              refine RM.blk [(1, 1, 0, .null)] (pc' := 32) (L' := [some (.ref 1), some (.int p0), some (.int x3.1), some (.int (x1.2)), some (.int x3.2)]) (st' := [.int p0, .int (F_Drawing_fieldAt σ x3.2 (x1.2))]) (σ1 := σ) (by decide +kernel) rfl ?_
              refine RM.icmp_ne (tgt := 38) (by decide +kernel) (fun c5 => ?_) (fun c5 => ?_)
              · rw [if_neg c5] at e3
                refine RM.blk [(10, 4, 0, .int 1), (23, 0, 0, .null)] (pc' := 15) (L' := [some (.ref 1), some (.int p0), some (.int x3.1), some (.int (x1.2)), some (.int (x3.2 + 1))]) (st' := []) (σ1 := σ) (by decide +kernel) rfl ?_
                obtain rfl := Option.some.inj e3
                refine RN.dropB [true, true, true, true, true] rfl ?_
                exact ih3 (x3.1, (x3.2 + 1)) _ hy3 hK3
              · rw [if_pos c5] at e3
                refine RM.blk [(10, 2, 0, .int 1), (10, 4, 0, .int 1), (23, 0, 0, .null)] (pc' := 15) (L' := [some (.ref 1), some (.int p0), some (.int (x3.1 + 1)), some (.int (x1.2)), some (.int (x3.2 + 1))]) (st' := []) (σ1 := σ) (by decide +kernel) rfl ?_
                obtain rfl := Option.some.inj e3
                refine RN.dropB [true, true, true, true, true] rfl ?_
                exact ih3 ((x3.1 + 1), (x3.2 + 1)) _ hy3 hK3
        obtain ⟨y3, hl3, e1⟩ := ob_some e1
        refine RN.dropB [true, true, true, true, true] rfl ?_
        refine hL3 FU (x1.1, 0) y3 hl3 ?_
        refine RM.blk [(10, 3, 0, .int 1), (23, 0, 0, .null)] (pc' := 4) (L' := [some (.ref 1), some (.int p0), some (.int y3), some (.int (x1.2 + 1)), none]) (st' := []) (σ1 := σ) (by decide +kernel) rfl ?_
        obtain rfl := Option.some.inj e1
        refine RN.dropB [true, true, true, true, false] rfl ?_
        exact ih1 (y3, (x1.2 + 1)) _ hy1 hK1
  obtain ⟨y1, hl1, h⟩ := ob_some h
  refine RN.dropB [true, true, true, true, false] rfl ?_
  refine hL1 FU (0, 0) y1 hl1 ?_
  refine RM.blk [(1, 2, 0, .null)] (pc' := 51) (L' := [none, none, some (.int y1), none, none]) (st' := [.int y1]) (σ1 := σ) (by decide +kernel) rfl ?_
  obtain rfl := (Option.some.inj h)
  exact RM.reti (by decide +kernel) rfl
def M_Colours_apart : MI := (yX0_apart, cX0_apart, 7, some .int, 0)
theorem mk_Colours_apart : mOK M_Colours_apart 3 = true := by decide +kernel
set_option maxRecDepth 100000 in
set_option maxHeartbeats 4000000 in
theorem s_Colours_apart (σ : SG) (p0 : Int32) (p1 : Int32) : SpN 3 M_Colours_apart [.ref 45, .int p0, .ref 5, .int p1] σ (some (.int (F_Colours_apart σ p0 p1))) σ := by
  generalize h : F_Colours_apart σ p0 p1 = rr
  unfold F_Colours_apart at h
  refine Sp.of mk_Colours_apart rfl (Nat.le_of_ble_eq_true rfl) ?_
  refine RM.blk [(2, 0, 0, .null), (3, 0, 0, .null), (1, 1, 0, .null)] (pc' := 5) (L' := [some (.ref 45), some (.int p0), some (.ref 5), some (.int p1), none, none, none]) (st' := [.int p0, .ref 46]) (σ1 := σ) (by decide +kernel) rfl ?_
  refine RN.callV [.int p0] (s_Row_get (q := 46) (a := 47) (n := 10) ⟨rfl, rfl, by decide⟩ σ p0) [] (pc3 := 8) (st3 := [.int (rg σ 47 10 p0)]) (by decide +kernel) mk_Row_get (by decide) ?_
  refine RM.blk [(2, 2, 0, .null), (3, 0, 0, .null), (1, 3, 0, .null)] (pc' := 13) (L' := [some (.ref 45), some (.int p0), some (.ref 5), some (.int p1), none, none, none]) (st' := [.int p1, .ref 6, .int (rg σ 47 10 p0)]) (σ1 := σ) (by decide +kernel) rfl ?_
  refine RN.callV [.int p1] (s_Row_get (q := 6) (a := 7) (n := 8) ⟨rfl, rfl, by decide⟩ σ p1) [.int (rg σ 47 10 p0)] (pc3 := 16) (st3 := [.int (rg σ 7 8 p1), .int (rg σ 47 10 p0)]) (by decide +kernel) mk_Row_get (by decide) ?_
  refine RM.blk [(6, 0, 0, .null), (4, 4, 0, .null), (2, 0, 0, .null), (3, 0, 1, .null), (1, 1, 0, .null)] (pc' := 24) (L' := [some (.ref 45), some (.int p0), some (.ref 5), some (.int p1), some (.int ((rg σ 47 10 p0) - (rg σ 7 8 p1))), none, none]) (st' := [.int p0, .ref 48]) (σ1 := σ) (by decide +kernel) rfl ?_
  refine RN.callV [.int p0] (s_Row_get (q := 48) (a := 49) (n := 10) ⟨rfl, rfl, by decide⟩ σ p0) [] (pc3 := 27) (st3 := [.int (rg σ 49 10 p0)]) (by decide +kernel) mk_Row_get (by decide) ?_
  refine RM.blk [(2, 2, 0, .null), (3, 0, 1, .null), (1, 3, 0, .null)] (pc' := 32) (L' := [some (.ref 45), some (.int p0), some (.ref 5), some (.int p1), some (.int ((rg σ 47 10 p0) - (rg σ 7 8 p1))), none, none]) (st' := [.int p1, .ref 8, .int (rg σ 49 10 p0)]) (σ1 := σ) (by decide +kernel) rfl ?_
  refine RN.callV [.int p1] (s_Row_get (q := 8) (a := 9) (n := 8) ⟨rfl, rfl, by decide⟩ σ p1) [.int (rg σ 49 10 p0)] (pc3 := 35) (st3 := [.int (rg σ 9 8 p1), .int (rg σ 49 10 p0)]) (by decide +kernel) mk_Row_get (by decide) ?_
  refine RM.blk [(6, 0, 0, .null), (4, 5, 0, .null), (2, 0, 0, .null), (3, 0, 2, .null), (1, 1, 0, .null)] (pc' := 43) (L' := [some (.ref 45), some (.int p0), some (.ref 5), some (.int p1), some (.int ((rg σ 47 10 p0) - (rg σ 7 8 p1))), some (.int ((rg σ 49 10 p0) - (rg σ 9 8 p1))), none]) (st' := [.int p0, .ref 50]) (σ1 := σ) (by decide +kernel) rfl ?_
  refine RN.callV [.int p0] (s_Row_get (q := 50) (a := 51) (n := 10) ⟨rfl, rfl, by decide⟩ σ p0) [] (pc3 := 46) (st3 := [.int (rg σ 51 10 p0)]) (by decide +kernel) mk_Row_get (by decide) ?_
  refine RM.blk [(2, 2, 0, .null), (3, 0, 2, .null), (1, 3, 0, .null)] (pc' := 51) (L' := [some (.ref 45), some (.int p0), some (.ref 5), some (.int p1), some (.int ((rg σ 47 10 p0) - (rg σ 7 8 p1))), some (.int ((rg σ 49 10 p0) - (rg σ 9 8 p1))), none]) (st' := [.int p1, .ref 10, .int (rg σ 51 10 p0)]) (σ1 := σ) (by decide +kernel) rfl ?_
  refine RN.callV [.int p1] (s_Row_get (q := 10) (a := 11) (n := 8) ⟨rfl, rfl, by decide⟩ σ p1) [.int (rg σ 51 10 p0)] (pc3 := 54) (st3 := [.int (rg σ 11 8 p1), .int (rg σ 51 10 p0)]) (by decide +kernel) mk_Row_get (by decide) ?_
  refine RM.blk [(6, 0, 0, .null), (4, 6, 0, .null), (1, 4, 0, .null), (1, 4, 0, .null), (7, 0, 0, .null), (1, 5, 0, .null), (1, 5, 0, .null), (7, 0, 0, .null), (5, 0, 0, .null), (1, 6, 0, .null), (1, 6, 0, .null), (7, 0, 0, .null), (5, 0, 0, .null)] (pc' := 74) (L' := [some (.ref 45), some (.int p0), some (.ref 5), some (.int p1), some (.int ((rg σ 47 10 p0) - (rg σ 7 8 p1))), some (.int ((rg σ 49 10 p0) - (rg σ 9 8 p1))), some (.int ((rg σ 51 10 p0) - (rg σ 11 8 p1)))]) (st' := [.int (((((rg σ 47 10 p0) - (rg σ 7 8 p1)) * ((rg σ 47 10 p0) - (rg σ 7 8 p1))) + (((rg σ 49 10 p0) - (rg σ 9 8 p1)) * ((rg σ 49 10 p0) - (rg σ 9 8 p1)))) + (((rg σ 51 10 p0) - (rg σ 11 8 p1)) * ((rg σ 51 10 p0) - (rg σ 11 8 p1))))]) (σ1 := σ) (by decide +kernel) rfl ?_
  obtain rfl := h
  exact RM.reti (by decide +kernel) rfl
def M_Lots_nearest : MI := (yX7_nearest, cX7_nearest, 8, some .int, 7)
theorem mk_Lots_nearest : mOK M_Lots_nearest 3 = true := by decide +kernel
set_option maxRecDepth 100000 in
set_option maxHeartbeats 4000000 in
theorem s_Lots_nearest (σ : SG) (p0 : Int32) (p1 : Int32) (rr : Int32) (h : F_Lots_nearest σ p0 p1 = some rr) : SpN 4 M_Lots_nearest [.ref 42, .ref 5, .int p0, .int p1] σ (some (.int rr)) σ := by
  unfold F_Lots_nearest at h
  refine Sp.of mk_Lots_nearest rfl (Nat.le_of_ble_eq_true rfl) ?_
  refine RM.blk [(0, 0, 0, .int (-1)), (4, 4, 0, .null), (0, 0, 0, .int 1000000), (4, 5, 0, .null), (0, 0, 0, .int 0), (4, 6, 0, .null)] (pc' := 10) (L' := [some (.ref 42), some (.ref 5), some (.int p0), some (.int p1), some (.int (-1)), some (.int 1000000), some (.int 0), none]) (st' := []) (σ1 := σ) (by decide +kernel) rfl ?_
  have hL1 : ∀ (n : Nat) (x1 : Int32 × Int32 × Int32) (y1 : Int32), lpW (L_Lots_nearest_10 σ p0 p1) n x1 = some y1 → RN 4 M_Lots_nearest (some (.int rr)) σ 66 [none, none, none, none, some (.int y1), none, none, none] [] σ → RN 4 M_Lots_nearest (some (.int rr)) σ 10 [some (.ref 42), some (.ref 5), some (.int p0), some (.int p1), some (.int x1.1), some (.int x1.2.1), some (.int x1.2.2), none] [] σ := by
    intro n
    induction n with
    | zero => intro x1 y1 hy1; cases hy1
    | succ n ih1 =>
      intro x1 y1 hy1 hK1
      obtain ⟨z1, e1, hy1⟩ := ob_some hy1
      unfold L_Lots_nearest_10 at e1
      refine RM.blk [(1, 6, 0, .null), (2, 0, 0, .null), (3, 7, 0, .null)] (pc' := 16) (L' := [some (.ref 42), some (.ref 5), some (.int p0), some (.int p1), some (.int x1.1), some (.int x1.2.1), some (.int x1.2.2), none]) (st' := [.int (σ 42 0), .int x1.2.2]) (σ1 := σ) (by decide +kernel) rfl ?_
      refine RM.icmp_ge (tgt := 66) (by decide +kernel) (fun c2 => ?_) (fun c2 => ?_)
      · rw [if_pos c2] at e1
        obtain rfl := Option.some.inj e1
        obtain rfl := Option.some.inj (show some (x1.1 : Int32) = some y1 from hy1)
        refine RN.dropB [false, false, false, false, true, false, false, false] rfl ?_
        exact hK1
      · rw [if_neg c2] at e1
        refine RM.blk [(2, 0, 0, .null), (3, 7, 2, .null), (1, 6, 0, .null), (2, 1, 0, .null), (1, 2, 0, .null)] (pc' := 27) (L' := [some (.ref 42), some (.ref 5), some (.int p0), some (.int p1), some (.int x1.1), some (.int x1.2.1), some (.int x1.2.2), none]) (st' := [.int p0, .ref 5, .int x1.2.2, .ref 45]) (σ1 := σ) (by decide +kernel) rfl ?_
        refine RN.callV [.int x1.2.2, .ref 5, .int p0] (s_Colours_apart σ x1.2.2 p0) [] (pc3 := 30) (st3 := [.int (F_Colours_apart σ x1.2.2 p0)]) (by decide +kernel) mk_Colours_apart (by decide) ?_
        refine RM.blk [(4, 7, 0, .null), (2, 0, 0, .null), (3, 7, 1, .null), (1, 6, 0, .null)] (pc' := 38) (L' := [some (.ref 42), some (.ref 5), some (.int p0), some (.int p1), some (.int x1.1), some (.int x1.2.1), some (.int x1.2.2), some (.int (F_Colours_apart σ x1.2.2 p0))]) (st' := [.int x1.2.2, .ref 43]) (σ1 := σ) (by decide +kernel) rfl ?_
        refine RN.callV [.int x1.2.2] (s_Row_get (q := 43) (a := 44) (n := 10) ⟨rfl, rfl, by decide⟩ σ x1.2.2) [] (pc3 := 41) (st3 := [.int (rg σ 44 10 x1.2.2)]) (by decide +kernel) mk_Row_get (by decide) ?_
        refine RM.blk [(1, 3, 0, .null)] (pc' := 42) (L' := [some (.ref 42), some (.ref 5), some (.int p0), some (.int p1), some (.int x1.1), some (.int x1.2.1), some (.int x1.2.2), some (.int (F_Colours_apart σ x1.2.2 p0))]) (st' := [.int p1, .int (rg σ 44 10 x1.2.2)]) (σ1 := σ) (by decide +kernel) rfl ?_
        refine RM.icmp_lt (tgt := 60) (by decide +kernel) (fun c3 => ?_) (fun c3 => ?_)
        · rw [if_pos c3] at e1
          refine RM.blk [(10, 6, 0, .int 1), (23, 0, 0, .null)] (pc' := 10) (L' := [some (.ref 42), some (.ref 5), some (.int p0), some (.int p1), some (.int x1.1), some (.int x1.2.1), some (.int (x1.2.2 + 1)), some (.int (F_Colours_apart σ x1.2.2 p0))]) (st' := []) (σ1 := σ) (by decide +kernel) rfl ?_
          obtain rfl := Option.some.inj e1
          refine RN.dropB [true, true, true, true, true, true, true, false] rfl ?_
          exact ih1 (x1.1, x1.2.1, (x1.2.2 + 1)) _ hy1 hK1
        · rw [if_neg c3] at e1
          refine RM.blk [(1, 7, 0, .null), (1, 5, 0, .null)] (pc' := 49) (L' := [some (.ref 42), some (.ref 5), some (.int p0), some (.int p1), some (.int x1.1), some (.int x1.2.1), some (.int x1.2.2), some (.int (F_Colours_apart σ x1.2.2 p0))]) (st' := [.int x1.2.1, .int (F_Colours_apart σ x1.2.2 p0)]) (σ1 := σ) (by decide +kernel) rfl ?_
          refine RM.icmp_ge (tgt := 60) (by decide +kernel) (fun c4 => ?_) (fun c4 => ?_)
          · rw [if_pos c4] at e1
            refine RM.blk [(10, 6, 0, .int 1), (23, 0, 0, .null)] (pc' := 10) (L' := [some (.ref 42), some (.ref 5), some (.int p0), some (.int p1), some (.int x1.1), some (.int x1.2.1), some (.int (x1.2.2 + 1)), some (.int (F_Colours_apart σ x1.2.2 p0))]) (st' := []) (σ1 := σ) (by decide +kernel) rfl ?_
            obtain rfl := Option.some.inj e1
            refine RN.dropB [true, true, true, true, true, true, true, false] rfl ?_
            exact ih1 (x1.1, x1.2.1, (x1.2.2 + 1)) _ hy1 hK1
          · rw [if_neg c4] at e1
            refine RM.blk [(1, 6, 0, .null), (4, 4, 0, .null), (1, 7, 0, .null), (4, 5, 0, .null), (10, 6, 0, .int 1), (23, 0, 0, .null)] (pc' := 10) (L' := [some (.ref 42), some (.ref 5), some (.int p0), some (.int p1), some (.int x1.2.2), some (.int (F_Colours_apart σ x1.2.2 p0)), some (.int (x1.2.2 + 1)), some (.int (F_Colours_apart σ x1.2.2 p0))]) (st' := []) (σ1 := σ) (by decide +kernel) rfl ?_
            obtain rfl := Option.some.inj e1
            refine RN.dropB [true, true, true, true, true, true, true, false] rfl ?_
            exact ih1 (x1.2.2, (F_Colours_apart σ x1.2.2 p0), (x1.2.2 + 1)) _ hy1 hK1
  obtain ⟨y1, hl1, h⟩ := ob_some h
  refine RN.dropB [true, true, true, true, true, true, true, false] rfl ?_
  refine hL1 FU ((-1), 1000000, 0) y1 hl1 ?_
  refine RM.blk [(1, 4, 0, .null)] (pc' := 68) (L' := [none, none, none, none, some (.int y1), none, none, none]) (st' := [.int y1]) (σ1 := σ) (by decide +kernel) rfl ?_
  obtain rfl := (Option.some.inj h)
  exact RM.reti (by decide +kernel) rfl
def M_Painter_nearestFor : MI := (yX8_nearestFor, cX8_nearestFor, 2, some .int, 8)
theorem mk_Painter_nearestFor : mOK M_Painter_nearestFor 1 = true := by decide +kernel
set_option maxRecDepth 100000 in
set_option maxHeartbeats 4000000 in
theorem s_Painter_nearestFor (σ : SG) (p0 : Int32) (rr : Int32) (h : F_Painter_nearestFor σ p0 = some rr) : SpN 5 M_Painter_nearestFor [.ref 52, .int p0] σ (some (.int rr)) σ := by
  unfold F_Painter_nearestFor at h
  refine Sp.of mk_Painter_nearestFor rfl (Nat.le_of_ble_eq_true rfl) ?_
  refine RM.blk [(2, 0, 0, .null), (3, 8, 4, .null), (2, 0, 0, .null), (3, 8, 2, .null), (3, 4, 0, .null), (2, 0, 0, .null), (3, 8, 3, .null), (3, 1, 4, .null), (1, 1, 0, .null)] (pc' := 19) (L' := [some (.ref 52), some (.int p0)]) (st' := [.int p0, .ref 25, .ref 5, .ref 42]) (σ1 := σ) (by decide +kernel) rfl ?_
  refine RN.callV [.int p0] (s_Row_get (q := 25) (a := 26) (n := 240) ⟨rfl, rfl, by decide⟩ σ p0) [.ref 5, .ref 42] (pc3 := 22) (st3 := [.int (rg σ 26 240 p0), .ref 5, .ref 42]) (by decide +kernel) mk_Row_get (by decide) ?_
  refine RM.blk [(2, 0, 0, .null), (3, 8, 3, .null), (3, 1, 3, .null), (1, 1, 0, .null)] (pc' := 30) (L' := [some (.ref 52), some (.int p0)]) (st' := [.int p0, .ref 23, .int (rg σ 26 240 p0), .ref 5, .ref 42]) (σ1 := σ) (by decide +kernel) rfl ?_
  refine RN.callV [.int p0] (s_Row_get (q := 23) (a := 24) (n := 240) ⟨rfl, rfl, by decide⟩ σ p0) [.int (rg σ 26 240 p0), .ref 5, .ref 42] (pc3 := 33) (st3 := [.int (rg σ 24 240 p0), .int (rg σ 26 240 p0), .ref 5, .ref 42]) (by decide +kernel) mk_Row_get (by decide) ?_
  obtain ⟨v1, hv1, h⟩ := ob_some h
  refine RN.callV [.ref 5, .int (rg σ 26 240 p0), .int (rg σ 24 240 p0)] (s_Lots_nearest σ (rg σ 26 240 p0) (rg σ 24 240 p0) v1 hv1) [] (pc3 := 36) (st3 := [.int v1]) (by decide +kernel) mk_Lots_nearest (by decide) ?_
  obtain rfl := (Option.some.inj h)
  exact RM.reti (by decide +kernel) rfl
def M_Painter_give : MI := (yX8_give, cX8_give, 3, none, 8)
theorem mk_Painter_give : mOK M_Painter_give 2 = true := by decide +kernel
set_option maxRecDepth 100000 in
set_option maxHeartbeats 4000000 in
theorem s_Painter_give (σ : SG) (p0 : Int32) (p1 : Int32) (so : SG) (h : F_Painter_give σ p0 p1 = so) : SpN 4 M_Painter_give [.ref 52, .int p0, .int p1] σ none so := by
  unfold F_Painter_give at h
  refine Sp.of mk_Painter_give rfl (Nat.le_of_ble_eq_true rfl) ?_
  refine RM.blk [(2, 0, 0, .null), (3, 8, 3, .null), (3, 1, 5, .null), (1, 2, 0, .null), (1, 1, 0, .null)] (pc' := 9) (L' := [some (.ref 52), some (.int p0), some (.int p1)]) (st' := [.int p0, .int p1, .ref 27]) (σ1 := σ) (by decide +kernel) rfl ?_
  refine RN.callV [.int p1, .int p0] (s_Row_set (q := 27) (a := 28) (n := 240) ⟨rfl, rfl, by decide⟩ σ p1 p0) [] (pc3 := 12) (st3 := []) (by decide +kernel) mk_Row_set (by decide) ?_
  refine RM.blk [(1, 1, 0, .null), (0, 0, 0, .int (-1))] (pc' := 14) (L' := [some (.ref 52), some (.int p0), some (.int p1)]) (st' := [.int (-1), .int p0]) (σ1 := (rs σ 28 240 p1 p0)) (by decide +kernel) rfl ?_
  refine RM.icmp_eq (tgt := 40) (by decide +kernel) (fun c1 => ?_) (fun c1 => ?_)
  · rw [if_pos c1] at h
    obtain rfl := h
    exact RM.retv (by decide +kernel) rfl
  · rw [if_neg c1] at h
    refine RM.blk [(2, 0, 0, .null), (3, 8, 4, .null), (3, 7, 1, .null), (1, 1, 0, .null), (2, 0, 0, .null), (3, 8, 3, .null), (3, 1, 3, .null), (1, 2, 0, .null)] (pc' := 33) (L' := [some (.ref 52), some (.int p0), some (.int p1)]) (st' := [.int p1, .ref 23, .int p0, .ref 43]) (σ1 := (rs σ 28 240 p1 p0)) (by decide +kernel) rfl ?_
    refine RN.callV [.int p1] (s_Row_get (q := 23) (a := 24) (n := 240) ⟨rfl, rfl, by decide⟩ (rs σ 28 240 p1 p0) p1) [.int p0, .ref 43] (pc3 := 36) (st3 := [.int (rg (rs σ 28 240 p1 p0) 24 240 p1), .int p0, .ref 43]) (by decide +kernel) mk_Row_get (by decide) ?_
    refine RM.blk [(9, 0, 0, .null)] (pc' := 37) (L' := [some (.ref 52), some (.int p0), some (.int p1)]) (st' := [.int (-(rg (rs σ 28 240 p1 p0) 24 240 p1)), .int p0, .ref 43]) (σ1 := (rs σ 28 240 p1 p0)) (by decide +kernel) rfl ?_
    refine RN.callV [.int p0, .int (-(rg (rs σ 28 240 p1 p0) 24 240 p1))] (s_Row_add (q := 43) (a := 44) (n := 10) ⟨rfl, rfl, by decide⟩ (rs σ 28 240 p1 p0) p0 (-(rg (rs σ 28 240 p1 p0) 24 240 p1))) [] (pc3 := 40) (st3 := []) (by decide +kernel) mk_Row_add (by decide) ?_
    generalize ns2 : (ra (rs σ 28 240 p1 p0) 44 10 p0 (-(rg (rs σ 28 240 p1 p0) 24 240 p1))) = s2 at h ⊢
    replace h := nm_h h
    obtain rfl := h
    exact RM.retv (by decide +kernel) rfl
def M_Painter_paintField : MI := (yX8_paintField, cX8_paintField, 6, none, 8)
theorem mk_Painter_paintField : mOK M_Painter_paintField 2 = true := by decide +kernel
set_option maxRecDepth 100000 in
set_option maxHeartbeats 4000000 in
theorem s_Painter_paintField (σ : SG) (p0 : Int32) (p1 : Int32) (so : SG) (h : F_Painter_paintField σ p0 p1 = some so) : SpN 6 M_Painter_paintField [.ref 52, .int p0, .int p1] σ none so := by
  unfold F_Painter_paintField at h
  refine Sp.of mk_Painter_paintField rfl (Nat.le_of_ble_eq_true rfl) ?_
  refine RM.blk [(2, 0, 0, .null), (3, 8, 4, .null), (2, 0, 0, .null), (3, 8, 2, .null), (3, 4, 0, .null), (1, 1, 0, .null), (1, 2, 0, .null)] (pc' := 13) (L' := [some (.ref 52), some (.int p0), some (.int p1), none, none, none]) (st' := [.int p1, .int p0, .ref 5, .ref 42]) (σ1 := σ) (by decide +kernel) rfl ?_
  obtain ⟨v1, hv1, h⟩ := ob_some h
  refine RN.callV [.ref 5, .int p0, .int p1] (s_Lots_nearest σ p0 p1 v1 hv1) [] (pc3 := 16) (st3 := [.int v1]) (by decide +kernel) mk_Lots_nearest (by decide) ?_
  refine RM.blk [(4, 3, 0, .null), (0, 0, 0, .int 0), (4, 4, 0, .null)] (pc' := 20) (L' := [some (.ref 52), some (.int p0), some (.int p1), some (.int v1), some (.int 0), none]) (st' := []) (σ1 := σ) (by decide +kernel) rfl ?_
  have hL2 : ∀ (n : Nat) (x2 : Int32 × SG) (y2 : SG), lpW (L_Painter_paintField_20 p0 v1) n x2 = some y2 → RN 6 M_Painter_paintField none so 79 [none, none, none, none, none, none] [] y2 → RN 6 M_Painter_paintField none so 20 [some (.ref 52), some (.int p0), none, some (.int v1), some (.int x2.1), none] [] x2.2 := by
    intro n
    induction n with
    | zero => intro x2 y2 hy2; cases hy2
    | succ n ih2 =>
      intro x2 y2 hy2 hK2
      obtain ⟨z2, e2, hy2⟩ := ob_some hy2
      unfold L_Painter_paintField_20 at e2
      refine RM.blk [(1, 4, 0, .null), (2, 0, 0, .null), (3, 8, 3, .null), (3, 1, 0, .null)] (pc' := 29) (L' := [some (.ref 52), some (.int p0), none, some (.int (v1)), some (.int x2.1), none]) (st' := [.int (x2.2 18 0), .int x2.1]) (σ1 := x2.2) (by decide +kernel) rfl ?_
      refine RM.icmp_ge (tgt := 79) (by decide +kernel) (fun c3 => ?_) (fun c3 => ?_)
      · rw [if_pos c3] at e2
        obtain rfl := Option.some.inj e2
        obtain rfl := Option.some.inj (show some (x2.2 : SG) = some y2 from hy2)
        refine RN.dropB [false, false, false, false, false, false] rfl ?_
        exact hK2
      · rw [if_neg c3] at e2
        refine RM.blk [(2, 0, 0, .null), (3, 8, 3, .null), (3, 1, 4, .null), (1, 4, 0, .null)] (pc' := 41) (L' := [some (.ref 52), some (.int p0), none, some (.int (v1)), some (.int x2.1), none]) (st' := [.int x2.1, .ref 25]) (σ1 := x2.2) (by decide +kernel) rfl ?_
        refine RN.callV [.int x2.1] (s_Row_get (q := 25) (a := 26) (n := 240) ⟨rfl, rfl, by decide⟩ x2.2 x2.1) [] (pc3 := 44) (st3 := [.int (rg x2.2 26 240 x2.1)]) (by decide +kernel) mk_Row_get (by decide) ?_
        refine RM.blk [(1, 1, 0, .null)] (pc' := 45) (L' := [some (.ref 52), some (.int p0), none, some (.int (v1)), some (.int x2.1), none]) (st' := [.int p0, .int (rg x2.2 26 240 x2.1)]) (σ1 := x2.2) (by decide +kernel) rfl ?_
        refine RM.icmp_ne (tgt := 73) (by decide +kernel) (fun c4 => ?_) (fun c4 => ?_)
        · rw [if_neg c4] at e2
          refine RM.blk [(10, 4, 0, .int 1), (23, 0, 0, .null)] (pc' := 20) (L' := [some (.ref 52), some (.int p0), none, some (.int (v1)), some (.int (x2.1 + 1)), none]) (st' := []) (σ1 := x2.2) (by decide +kernel) rfl ?_
          obtain rfl := Option.some.inj e2
          refine RN.dropB [true, true, false, true, true, false] rfl ?_
          exact ih2 ((x2.1 + 1), x2.2) _ hy2 hK2
        · rw [if_pos c4] at e2
          refine RM.blk [(1, 3, 0, .null), (0, 0, 0, .int (-1))] (pc' := 50) (L' := [some (.ref 52), some (.int p0), none, some (.int (v1)), some (.int x2.1), none]) (st' := [.int (-1), .int (v1)]) (σ1 := x2.2) (by decide +kernel) rfl ?_
          refine RM.icmp_eq (tgt := 57) (by decide +kernel) (fun c5 => ?_) (fun c5 => ?_)
          · rw [if_pos c5] at e2
            refine RM.blk [(2, 0, 0, .null), (1, 4, 0, .null)] (pc' := 60) (L' := [some (.ref 52), some (.int p0), none, some (.int (v1)), some (.int x2.1), none]) (st' := [.int x2.1, .ref 52]) (σ1 := x2.2) (by decide +kernel) rfl ?_
            obtain ⟨v6, hv6, e2⟩ := ob_some e2
            refine RN.callV [.int x2.1] (s_Painter_nearestFor x2.2 x2.1 v6 hv6) [] (pc3 := 63) (st3 := [.int v6]) (by decide +kernel) mk_Painter_nearestFor (by decide) ?_
            refine RM.blk [(4, 5, 0, .null), (2, 0, 0, .null), (1, 5, 0, .null), (1, 4, 0, .null)] (pc' := 70) (L' := [some (.ref 52), some (.int p0), none, some (.int (v1)), some (.int x2.1), some (.int v6)]) (st' := [.int x2.1, .int v6, .ref 52]) (σ1 := x2.2) (by decide +kernel) rfl ?_
            refine RN.callV [.int v6, .int x2.1] (s_Painter_give x2.2 v6 x2.1 _ rfl) [] (pc3 := 73) (st3 := []) (by decide +kernel) mk_Painter_give (by decide) ?_
            refine RM.blk [(10, 4, 0, .int 1), (23, 0, 0, .null)] (pc' := 20) (L' := [some (.ref 52), some (.int p0), none, some (.int (v1)), some (.int (x2.1 + 1)), some (.int v6)]) (st' := []) (σ1 := (F_Painter_give x2.2 v6 x2.1)) (by decide +kernel) rfl ?_
            obtain rfl := Option.some.inj e2
            refine RN.dropB [true, true, false, true, true, false] rfl ?_
            exact ih2 ((x2.1 + 1), (F_Painter_give x2.2 v6 x2.1)) _ hy2 hK2
          · rw [if_neg c5] at e2
            refine RM.blk [(1, 3, 0, .null), (23, 0, 0, .null), (4, 5, 0, .null), (2, 0, 0, .null), (1, 5, 0, .null), (1, 4, 0, .null)] (pc' := 70) (L' := [some (.ref 52), some (.int p0), none, some (.int (v1)), some (.int x2.1), some (.int (v1))]) (st' := [.int x2.1, .int (v1), .ref 52]) (σ1 := x2.2) (by decide +kernel) rfl ?_
            refine RN.callV [.int (v1), .int x2.1] (s_Painter_give x2.2 (v1) x2.1 _ rfl) [] (pc3 := 73) (st3 := []) (by decide +kernel) mk_Painter_give (by decide) ?_
            refine RM.blk [(10, 4, 0, .int 1), (23, 0, 0, .null)] (pc' := 20) (L' := [some (.ref 52), some (.int p0), none, some (.int (v1)), some (.int (x2.1 + 1)), some (.int (v1))]) (st' := []) (σ1 := (F_Painter_give x2.2 (v1) x2.1)) (by decide +kernel) rfl ?_
            obtain rfl := Option.some.inj e2
            refine RN.dropB [true, true, false, true, true, false] rfl ?_
            exact ih2 ((x2.1 + 1), (F_Painter_give x2.2 (v1) x2.1)) _ hy2 hK2
  obtain ⟨y2, hl2, h⟩ := ob_some h
  refine RN.dropB [true, true, false, true, true, false] rfl ?_
  refine hL2 FU (0, σ) y2 hl2 ?_
  obtain rfl := (Option.some.inj h)
  exact RM.retv (by decide +kernel) rfl
def M_Painter_paintFields : MI := (yX8_paintFields, cX8_paintFields, 2, none, 8)
theorem mk_Painter_paintFields : mOK M_Painter_paintFields 0 = true := by decide +kernel
set_option maxRecDepth 100000 in
set_option maxHeartbeats 4000000 in
theorem s_Painter_paintFields (σ : SG) (so : SG) (h : F_Painter_paintFields σ = some so) : SpN 7 M_Painter_paintFields [.ref 52] σ none so := by
  unfold F_Painter_paintFields at h
  refine Sp.of mk_Painter_paintFields rfl (Nat.le_of_ble_eq_true rfl) ?_
  refine RM.blk [(0, 0, 0, .int 0), (4, 1, 0, .null)] (pc' := 2) (L' := [some (.ref 52), some (.int 0)]) (st' := []) (σ1 := σ) (by decide +kernel) rfl ?_
  have hL1 : ∀ (n : Nat) (x1 : Int32 × SG) (y1 : SG), lpW L_Painter_paintFields_2 n x1 = some y1 → RN 7 M_Painter_paintFields none so 27 [some (.ref 52), none] [] y1 → RN 7 M_Painter_paintFields none so 2 [some (.ref 52), some (.int x1.1)] [] x1.2 := by
    intro n
    induction n with
    | zero => intro x1 y1 hy1; cases hy1
    | succ n ih1 =>
      intro x1 y1 hy1 hK1
      obtain ⟨z1, e1, hy1⟩ := ob_some hy1
      unfold L_Painter_paintFields_2 at e1
      refine RM.blk [(1, 1, 0, .null), (0, 0, 0, .int 8)] (pc' := 5) (L' := [some (.ref 52), some (.int x1.1)]) (st' := [.int 8, .int x1.1]) (σ1 := x1.2) (by decide +kernel) rfl ?_
      refine RM.icmp_ge (tgt := 27) (by decide +kernel) (fun c2 => ?_) (fun c2 => ?_)
      · rw [if_pos c2] at e1
        obtain rfl := Option.some.inj e1
        obtain rfl := Option.some.inj (show some (x1.2 : SG) = some y1 from hy1)
        refine RN.dropB [true, false] rfl ?_
        exact hK1
      · rw [if_neg c2] at e1
        refine RM.blk [(2, 0, 0, .null), (1, 1, 0, .null), (2, 0, 0, .null), (3, 8, 1, .null), (1, 1, 0, .null)] (pc' := 15) (L' := [some (.ref 52), some (.int x1.1)]) (st' := [.int x1.1, .ref 1, .int x1.1, .ref 52]) (σ1 := x1.2) (by decide +kernel) rfl ?_
        obtain ⟨v3, hv3, e1⟩ := ob_some e1
        refine RN.callV [.int x1.1] (s_Drawing_placesOf x1.2 x1.1 v3 hv3) [.int x1.1, .ref 52] (pc3 := 18) (st3 := [.int v3, .int x1.1, .ref 52]) (by decide +kernel) mk_Drawing_placesOf (by decide) ?_
        obtain ⟨v4, hv4, e1⟩ := ob_some e1
        refine RN.callV [.int x1.1, .int v3] (s_Painter_paintField x1.2 x1.1 v3 v4 hv4) [] (pc3 := 21) (st3 := []) (by decide +kernel) mk_Painter_paintField (by decide) ?_
        refine RM.blk [(10, 1, 0, .int 1), (23, 0, 0, .null)] (pc' := 2) (L' := [some (.ref 52), some (.int (x1.1 + 1))]) (st' := []) (σ1 := v4) (by decide +kernel) rfl ?_
        obtain rfl := Option.some.inj e1
        refine RN.dropB [true, true] rfl ?_
        exact ih1 ((x1.1 + 1), v4) _ hy1 hK1
  obtain ⟨y1, hl1, h⟩ := ob_some h
  refine RN.dropB [true, true] rfl ?_
  refine hL1 FU (0, σ) y1 hl1 ?_
  refine RM.blk [(2, 0, 0, .null), (0, 0, 0, .int 1), (16, 8, 0, .null)] (pc' := 32) (L' := [some (.ref 52), none]) (st' := []) (σ1 := (up y1 52 0 1)) (by decide +kernel) rfl ?_
  obtain rfl := (Option.some.inj h)
  exact RM.retv (by decide +kernel) rfl
def M_Painter_bareCubes : MI := (yX8_bareCubes, cX8_bareCubes, 3, some .int, 8)
theorem mk_Painter_bareCubes : mOK M_Painter_bareCubes 0 = true := by decide +kernel
set_option maxRecDepth 100000 in
set_option maxHeartbeats 4000000 in
theorem s_Painter_bareCubes (σ : SG) (rr : Int32) (h : F_Painter_bareCubes σ = some rr) : SpN 3 M_Painter_bareCubes [.ref 52] σ (some (.int rr)) σ := by
  unfold F_Painter_bareCubes at h
  refine Sp.of mk_Painter_bareCubes rfl (Nat.le_of_ble_eq_true rfl) ?_
  refine RM.blk [(0, 0, 0, .int 0), (4, 1, 0, .null), (0, 0, 0, .int 0), (4, 2, 0, .null)] (pc' := 4) (L' := [some (.ref 52), some (.int 0), some (.int 0)]) (st' := []) (σ1 := σ) (by decide +kernel) rfl ?_
  have hL1 : ∀ (n : Nat) (x1 : Int32 × Int32) (y1 : Int32), lpW (L_Painter_bareCubes_4 σ) n x1 = some y1 → RN 3 M_Painter_bareCubes (some (.int rr)) σ 39 [none, some (.int y1), none] [] σ → RN 3 M_Painter_bareCubes (some (.int rr)) σ 4 [some (.ref 52), some (.int x1.1), some (.int x1.2)] [] σ := by
    intro n
    induction n with
    | zero => intro x1 y1 hy1; cases hy1
    | succ n ih1 =>
      intro x1 y1 hy1 hK1
      obtain ⟨z1, e1, hy1⟩ := ob_some hy1
      unfold L_Painter_bareCubes_4 at e1
      refine RM.blk [(1, 2, 0, .null), (2, 0, 0, .null), (3, 8, 3, .null), (3, 1, 0, .null)] (pc' := 12) (L' := [some (.ref 52), some (.int x1.1), some (.int x1.2)]) (st' := [.int (σ 18 0), .int x1.2]) (σ1 := σ) (by decide +kernel) rfl ?_
      refine RM.icmp_ge (tgt := 39) (by decide +kernel) (fun c2 => ?_) (fun c2 => ?_)
      · rw [if_pos c2] at e1
        obtain rfl := Option.some.inj e1
        obtain rfl := Option.some.inj (show some (x1.1 : Int32) = some y1 from hy1)
        refine RN.dropB [false, true, false] rfl ?_
        exact hK1
      · rw [if_neg c2] at e1
        refine RM.blk [(2, 0, 0, .null), (3, 8, 3, .null), (3, 1, 5, .null), (1, 2, 0, .null)] (pc' := 23) (L' := [some (.ref 52), some (.int x1.1), some (.int x1.2)]) (st' := [.int x1.2, .ref 27]) (σ1 := σ) (by decide +kernel) rfl ?_
        refine RN.callV [.int x1.2] (s_Row_get (q := 27) (a := 28) (n := 240) ⟨rfl, rfl, by decide⟩ σ x1.2) [] (pc3 := 26) (st3 := [.int (rg σ 28 240 x1.2)]) (by decide +kernel) mk_Row_get (by decide) ?_
        refine RM.blk [(0, 0, 0, .int (-1))] (pc' := 27) (L' := [some (.ref 52), some (.int x1.1), some (.int x1.2)]) (st' := [.int (-1), .int (rg σ 28 240 x1.2)]) (σ1 := σ) (by decide +kernel) rfl ?_
        refine RM.icmp_ne (tgt := 33) (by decide +kernel) (fun c3 => ?_) (fun c3 => ?_)
        · rw [if_neg c3] at e1
          refine RM.blk [(10, 2, 0, .int 1), (23, 0, 0, .null)] (pc' := 4) (L' := [some (.ref 52), some (.int x1.1), some (.int (x1.2 + 1))]) (st' := []) (σ1 := σ) (by decide +kernel) rfl ?_
          obtain rfl := Option.some.inj e1
          refine RN.dropB [true, true, true] rfl ?_
          exact ih1 (x1.1, (x1.2 + 1)) _ hy1 hK1
        · rw [if_pos c3] at e1
          refine RM.blk [(10, 1, 0, .int 1), (10, 2, 0, .int 1), (23, 0, 0, .null)] (pc' := 4) (L' := [some (.ref 52), some (.int (x1.1 + 1)), some (.int (x1.2 + 1))]) (st' := []) (σ1 := σ) (by decide +kernel) rfl ?_
          obtain rfl := Option.some.inj e1
          refine RN.dropB [true, true, true] rfl ?_
          exact ih1 ((x1.1 + 1), (x1.2 + 1)) _ hy1 hK1
  obtain ⟨y1, hl1, h⟩ := ob_some h
  refine RN.dropB [true, true, true] rfl ?_
  refine hL1 FU (0, 0) y1 hl1 ?_
  refine RM.blk [(1, 1, 0, .null)] (pc' := 40) (L' := [none, some (.int y1), none]) (st' := [.int y1]) (σ1 := σ) (by decide +kernel) rfl ?_
  obtain rfl := (Option.some.inj h)
  exact RM.reti (by decide +kernel) rfl
def M_Shop_paint : MI := (yX11_paint, cX11_paint, 1, some .int, 11)
theorem mk_Shop_paint : mOK M_Shop_paint 0 = true := by decide +kernel
set_option maxRecDepth 100000 in
set_option maxHeartbeats 4000000 in
theorem s_Shop_paint (σ : SG) (rr : Int32) (so : SG) (h : F_Shop_paint σ = some (rr, so)) : SpN 8 M_Shop_paint [.ref 0] σ (some (.int rr)) so := by
  unfold F_Shop_paint at h
  refine Sp.of mk_Shop_paint rfl (Nat.le_of_ble_eq_true rfl) ?_
  refine RM.blk [(2, 0, 0, .null)] (pc' := 1) (L' := [some (.ref 0)]) (st' := [.ref 0]) (σ1 := σ) (by decide +kernel) rfl ?_
  refine RN.callV [] (s_Shop_isLaid σ) [] (pc3 := 4) (st3 := [.int (bI (F_Shop_isLaid σ))]) (by decide +kernel) mk_Shop_isLaid (by decide) ?_
  refine RM.zeq (tgt := 17) (by decide +kernel) (fun c1 => ?_) (fun c1 => ?_)
  · rw [if_neg (bf c1)] at h
    refine RM.blk [(0, 0, 0, .int (-3))] (pc' := 19) (L' := [some (.ref 0)]) (st' := [.int (-3)]) (σ1 := σ) (by decide +kernel) rfl ?_
    obtain ⟨rfl, rfl⟩ := Prod.mk.inj (Option.some.inj h)
    exact RM.reti (by decide +kernel) rfl
  · rw [if_pos c1] at h
    refine RM.blk [(2, 0, 0, .null), (3, 11, 5, .null), (3, 8, 0, .null)] (pc' := 14) (L' := [some (.ref 0)]) (st' := [.int (σ 52 0)]) (σ1 := σ) (by decide +kernel) rfl ?_
    refine RM.if_eq (tgt := 20) (by decide +kernel) (fun c2 => ?_) (fun c2 => ?_)
    · rw [if_pos c2] at h
      refine RM.blk [(2, 0, 0, .null), (3, 11, 5, .null)] (pc' := 24) (L' := [some (.ref 0)]) (st' := [.ref 52]) (σ1 := σ) (by decide +kernel) rfl ?_
      obtain ⟨v3, hv3, h⟩ := ob_some h
      refine RN.callV [] (s_Painter_paintFields σ v3 hv3) [] (pc3 := 27) (st3 := []) (by decide +kernel) mk_Painter_paintFields (by decide) ?_
      refine RM.blk [(2, 0, 0, .null), (3, 11, 5, .null)] (pc' := 31) (L' := [some (.ref 0)]) (st' := [.ref 52]) (σ1 := v3) (by decide +kernel) rfl ?_
      obtain ⟨v4, hv4, h⟩ := ob_some h
      refine RN.callV [] (s_Painter_bareCubes v3 v4 hv4) [] (pc3 := 34) (st3 := [.int v4]) (by decide +kernel) mk_Painter_bareCubes (by decide) ?_
      obtain ⟨rfl, rfl⟩ := Prod.mk.inj (Option.some.inj h)
      exact RM.reti (by decide +kernel) rfl
    · rw [if_neg c2] at h
      refine RM.blk [(0, 0, 0, .int (-3))] (pc' := 19) (L' := [some (.ref 0)]) (st' := [.int (-3)]) (σ1 := σ) (by decide +kernel) rfl ?_
      obtain ⟨rfl, rfl⟩ := Prod.mk.inj (Option.some.inj h)
      exact RM.reti (by decide +kernel) rfl
def M_Painter_giveBack : MI := (yX8_giveBack, cX8_giveBack, 5, some .int, 8)
theorem mk_Painter_giveBack : mOK M_Painter_giveBack 0 = true := by decide +kernel
set_option maxRecDepth 100000 in
set_option maxHeartbeats 4000000 in
theorem s_Painter_giveBack (σ : SG) (rr : Int32) (so : SG) (h : F_Painter_giveBack σ = some (rr, so)) : SpN 3 M_Painter_giveBack [.ref 52] σ (some (.int rr)) so := by
  unfold F_Painter_giveBack at h
  refine Sp.of mk_Painter_giveBack rfl (Nat.le_of_ble_eq_true rfl) ?_
  refine RM.blk [(0, 0, 0, .int 0), (4, 1, 0, .null), (0, 0, 0, .int 0), (4, 2, 0, .null)] (pc' := 4) (L' := [some (.ref 52), some (.int 0), some (.int 0), none, none]) (st' := []) (σ1 := σ) (by decide +kernel) rfl ?_
  have hL1 : ∀ (n : Nat) (x1 : Int32 × Int32 × SG) (y1 : Int32 × SG), lpW L_Painter_giveBack_4 n x1 = some y1 → RN 3 M_Painter_giveBack (some (.int rr)) so 99 [some (.ref 52), some (.int y1.1), none, none, none] [] y1.2 → RN 3 M_Painter_giveBack (some (.int rr)) so 4 [some (.ref 52), some (.int x1.1), some (.int x1.2.1), none, none] [] x1.2.2 := by
    intro n
    induction n with
    | zero => intro x1 y1 hy1; cases hy1
    | succ n ih1 =>
      intro x1 y1 hy1 hK1
      obtain ⟨z1, e1, hy1⟩ := ob_some hy1
      unfold L_Painter_giveBack_4 at e1
      refine RM.blk [(1, 2, 0, .null), (2, 0, 0, .null), (3, 8, 3, .null), (3, 1, 0, .null)] (pc' := 12) (L' := [some (.ref 52), some (.int x1.1), some (.int x1.2.1), none, none]) (st' := [.int (x1.2.2 18 0), .int x1.2.1]) (σ1 := x1.2.2) (by decide +kernel) rfl ?_
      refine RM.icmp_ge (tgt := 99) (by decide +kernel) (fun c2 => ?_) (fun c2 => ?_)
      · rw [if_pos c2] at e1
        obtain rfl := Option.some.inj e1
        obtain rfl := Option.some.inj (show some ((x1.1, x1.2.2) : Int32 × SG) = some y1 from hy1)
        refine RN.dropB [true, true, false, false, false] rfl ?_
        exact hK1
      · rw [if_neg c2] at e1
        refine RM.blk [(2, 0, 0, .null), (3, 8, 3, .null), (3, 1, 5, .null), (1, 2, 0, .null)] (pc' := 23) (L' := [some (.ref 52), some (.int x1.1), some (.int x1.2.1), none, none]) (st' := [.int x1.2.1, .ref 27]) (σ1 := x1.2.2) (by decide +kernel) rfl ?_
        refine RN.callV [.int x1.2.1] (s_Row_get (q := 27) (a := 28) (n := 240) ⟨rfl, rfl, by decide⟩ x1.2.2 x1.2.1) [] (pc3 := 26) (st3 := [.int (rg x1.2.2 28 240 x1.2.1)]) (by decide +kernel) mk_Row_get (by decide) ?_
        refine RM.blk [(4, 3, 0, .null), (1, 3, 0, .null), (0, 0, 0, .int (-1))] (pc' := 29) (L' := [some (.ref 52), some (.int x1.1), some (.int x1.2.1), some (.int (rg x1.2.2 28 240 x1.2.1)), none]) (st' := [.int (-1), .int (rg x1.2.2 28 240 x1.2.1)]) (σ1 := x1.2.2) (by decide +kernel) rfl ?_
        refine RM.icmp_eq (tgt := 93) (by decide +kernel) (fun c3 => ?_) (fun c3 => ?_)
        · rw [if_pos c3] at e1
          refine RM.blk [(10, 2, 0, .int 1), (23, 0, 0, .null)] (pc' := 4) (L' := [some (.ref 52), some (.int x1.1), some (.int (x1.2.1 + 1)), some (.int (rg x1.2.2 28 240 x1.2.1)), none]) (st' := []) (σ1 := x1.2.2) (by decide +kernel) rfl ?_
          obtain rfl := Option.some.inj e1
          refine RN.dropB [true, true, true, false, false] rfl ?_
          exact ih1 (x1.1, (x1.2.1 + 1), x1.2.2) _ hy1 hK1
        · rw [if_neg c3] at e1
          refine RM.blk [(2, 0, 0, .null), (3, 8, 3, .null), (3, 1, 3, .null), (1, 2, 0, .null)] (pc' := 40) (L' := [some (.ref 52), some (.int x1.1), some (.int x1.2.1), some (.int (rg x1.2.2 28 240 x1.2.1)), none]) (st' := [.int x1.2.1, .ref 23]) (σ1 := x1.2.2) (by decide +kernel) rfl ?_
          refine RN.callV [.int x1.2.1] (s_Row_get (q := 23) (a := 24) (n := 240) ⟨rfl, rfl, by decide⟩ x1.2.2 x1.2.1) [] (pc3 := 43) (st3 := [.int (rg x1.2.2 24 240 x1.2.1)]) (by decide +kernel) mk_Row_get (by decide) ?_
          refine RM.blk [(4, 4, 0, .null), (1, 1, 0, .null), (1, 4, 0, .null), (5, 0, 0, .null), (4, 1, 0, .null), (2, 0, 0, .null), (3, 8, 4, .null), (3, 7, 1, .null), (1, 3, 0, .null), (0, 0, 0, .int 1000), (2, 0, 0, .null), (3, 8, 4, .null), (3, 7, 1, .null), (1, 3, 0, .null)] (pc' := 69) (L' := [some (.ref 52), some (.int (x1.1 + (rg x1.2.2 24 240 x1.2.1))), some (.int x1.2.1), some (.int (rg x1.2.2 28 240 x1.2.1)), some (.int (rg x1.2.2 24 240 x1.2.1))]) (st' := [.int (rg x1.2.2 28 240 x1.2.1), .ref 43, .int 1000, .int (rg x1.2.2 28 240 x1.2.1), .ref 43]) (σ1 := x1.2.2) (by decide +kernel) rfl ?_
          refine RN.callV [.int (rg x1.2.2 28 240 x1.2.1)] (s_Row_get (q := 43) (a := 44) (n := 10) ⟨rfl, rfl, by decide⟩ x1.2.2 (rg x1.2.2 28 240 x1.2.1)) [.int 1000, .int (rg x1.2.2 28 240 x1.2.1), .ref 43] (pc3 := 72) (st3 := [.int (rg x1.2.2 44 10 (rg x1.2.2 28 240 x1.2.1)), .int 1000, .int (rg x1.2.2 28 240 x1.2.1), .ref 43]) (by decide +kernel) mk_Row_get (by decide) ?_
          refine RM.blk [(1, 4, 0, .null), (5, 0, 0, .null)] (pc' := 75) (L' := [some (.ref 52), some (.int (x1.1 + (rg x1.2.2 24 240 x1.2.1))), some (.int x1.2.1), some (.int (rg x1.2.2 28 240 x1.2.1)), some (.int (rg x1.2.2 24 240 x1.2.1))]) (st' := [.int ((rg x1.2.2 44 10 (rg x1.2.2 28 240 x1.2.1)) + (rg x1.2.2 24 240 x1.2.1)), .int 1000, .int (rg x1.2.2 28 240 x1.2.1), .ref 43]) (σ1 := x1.2.2) (by decide +kernel) rfl ?_
          refine RM.mmin (by decide +kernel) (by decide) (Nat.le_of_ble_eq_true rfl) ⟨Nat.le_refl _, Nat.le_refl _⟩ ?_
          refine RN.callV [.int (rg x1.2.2 28 240 x1.2.1), .int (mnI 1000 ((rg x1.2.2 44 10 (rg x1.2.2 28 240 x1.2.1)) + (rg x1.2.2 24 240 x1.2.1)))] (s_Row_set (q := 43) (a := 44) (n := 10) ⟨rfl, rfl, by decide⟩ x1.2.2 (rg x1.2.2 28 240 x1.2.1) (mnI 1000 ((rg x1.2.2 44 10 (rg x1.2.2 28 240 x1.2.1)) + (rg x1.2.2 24 240 x1.2.1)))) [] (pc3 := 81) (st3 := []) (by decide +kernel) mk_Row_set (by decide) ?_
          generalize ns4 : (rs x1.2.2 44 10 (rg x1.2.2 28 240 x1.2.1) (mnI 1000 ((rg x1.2.2 44 10 (rg x1.2.2 28 240 x1.2.1)) + (rg x1.2.2 24 240 x1.2.1)))) = s4 at e1 ⊢
          replace e1 := nm_h e1
          refine RM.blk [(2, 0, 0, .null), (3, 8, 3, .null), (3, 1, 5, .null), (1, 2, 0, .null), (0, 0, 0, .int (-1))] (pc' := 90) (L' := [some (.ref 52), some (.int (x1.1 + (rg x1.2.2 24 240 x1.2.1))), some (.int x1.2.1), some (.int (rg x1.2.2 28 240 x1.2.1)), some (.int (rg x1.2.2 24 240 x1.2.1))]) (st' := [.int (-1), .int x1.2.1, .ref 27]) (σ1 := s4) (by decide +kernel) rfl ?_
          refine RN.callV [.int x1.2.1, .int (-1)] (s_Row_set (q := 27) (a := 28) (n := 240) ⟨rfl, rfl, by decide⟩ s4 x1.2.1 (-1)) [] (pc3 := 93) (st3 := []) (by decide +kernel) mk_Row_set (by decide) ?_
          refine RM.blk [(10, 2, 0, .int 1), (23, 0, 0, .null)] (pc' := 4) (L' := [some (.ref 52), some (.int (x1.1 + (rg x1.2.2 24 240 x1.2.1))), some (.int (x1.2.1 + 1)), some (.int (rg x1.2.2 28 240 x1.2.1)), some (.int (rg x1.2.2 24 240 x1.2.1))]) (st' := []) (σ1 := (rs s4 28 240 x1.2.1 (-1))) (by decide +kernel) rfl ?_
          obtain rfl := Option.some.inj e1
          refine RN.dropB [true, true, true, false, false] rfl ?_
          exact ih1 ((x1.1 + (rg x1.2.2 24 240 x1.2.1)), (x1.2.1 + 1), (rs s4 28 240 x1.2.1 (-1))) _ hy1 hK1
  obtain ⟨y1, hl1, h⟩ := ob_some h
  refine RN.dropB [true, true, true, false, false] rfl ?_
  refine hL1 FU (0, 0, σ) y1 hl1 ?_
  refine RM.blk [(2, 0, 0, .null), (0, 0, 0, .int 0), (16, 8, 0, .null), (1, 1, 0, .null)] (pc' := 105) (L' := [some (.ref 52), some (.int y1.1), none, none, none]) (st' := [.int y1.1]) (σ1 := (up y1.2 52 0 0)) (by decide +kernel) rfl ?_
  obtain ⟨rfl, rfl⟩ := Prod.mk.inj (Option.some.inj h)
  exact RM.reti (by decide +kernel) rfl
def M_Shop_scrape : MI := (yX11_scrape, cX11_scrape, 1, some .int, 11)
theorem mk_Shop_scrape : mOK M_Shop_scrape 0 = true := by decide +kernel
set_option maxRecDepth 100000 in
set_option maxHeartbeats 4000000 in
theorem s_Shop_scrape (σ : SG) (rr : Int32) (so : SG) (h : F_Shop_scrape σ = some (rr, so)) : SpN 4 M_Shop_scrape [.ref 0] σ (some (.int rr)) so := by
  unfold F_Shop_scrape at h
  refine Sp.of mk_Shop_scrape rfl (Nat.le_of_ble_eq_true rfl) ?_
  refine RM.blk [(2, 0, 0, .null), (3, 11, 5, .null), (3, 8, 0, .null)] (pc' := 7) (L' := [some (.ref 0)]) (st' := [.int (σ 52 0)]) (σ1 := σ) (by decide +kernel) rfl ?_
  refine RM.if_eq (tgt := 20) (by decide +kernel) (fun c1 => ?_) (fun c1 => ?_)
  · rw [if_pos c1] at h
    refine RM.blk [(0, 0, 0, .int (-3))] (pc' := 22) (L' := [some (.ref 0)]) (st' := [.int (-3)]) (σ1 := σ) (by decide +kernel) rfl ?_
    obtain ⟨rfl, rfl⟩ := Prod.mk.inj (Option.some.inj h)
    exact RM.reti (by decide +kernel) rfl
  · rw [if_neg c1] at h
    refine RM.blk [(2, 0, 0, .null), (3, 11, 5, .null)] (pc' := 14) (L' := [some (.ref 0)]) (st' := [.ref 52]) (σ1 := σ) (by decide +kernel) rfl ?_
    obtain ⟨v2, hv2, h⟩ := ob_some h
    refine RN.callV [] (s_Painter_giveBack σ v2.1 v2.2 hv2) [] (pc3 := 17) (st3 := [.int v2.1]) (by decide +kernel) mk_Painter_giveBack (by decide) ?_
    refine RM.blk [(23, 0, 0, .null)] (pc' := 22) (L' := [some (.ref 0)]) (st' := [.int v2.1]) (σ1 := v2.2) (by decide +kernel) rfl ?_
    obtain ⟨rfl, rfl⟩ := Prod.mk.inj (Option.some.inj h)
    exact RM.reti (by decide +kernel) rfl
def M_Painter_changesOf : MI := (yX8_changesOf, cX8_changesOf, 7, some .int, 8)
theorem mk_Painter_changesOf : mOK M_Painter_changesOf 1 = true := by decide +kernel
set_option maxRecDepth 100000 in
set_option maxHeartbeats 4000000 in
theorem s_Painter_changesOf (σ : SG) (p0 : Int32) (rr : Int32) (h : F_Painter_changesOf σ p0 = some rr) : SpN 3 M_Painter_changesOf [.ref 52, .int p0] σ (some (.int rr)) σ := by
  unfold F_Painter_changesOf at h
  refine Sp.of mk_Painter_changesOf rfl (Nat.le_of_ble_eq_true rfl) ?_
  refine RM.blk [(0, 0, 0, .int 0), (4, 2, 0, .null), (0, 0, 0, .int (-1)), (4, 3, 0, .null), (0, 0, 0, .int 1), (4, 4, 0, .null), (0, 0, 0, .int 0), (4, 5, 0, .null)] (pc' := 10) (L' := [some (.ref 52), some (.int p0), some (.int 0), some (.int (-1)), some (.int (bI true)), some (.int 0), none]) (st' := []) (σ1 := σ) (by decide +kernel) rfl ?_
  have hL1 : ∀ (n : Nat) (x1 : Int32 × Int32 × Bool × Int32) (y1 : Int32), lpW (L_Painter_changesOf_10 σ p0) n x1 = some y1 → RN 3 M_Painter_changesOf (some (.int rr)) σ 78 [none, none, some (.int y1), none, none, none, none] [] σ → RN 3 M_Painter_changesOf (some (.int rr)) σ 10 [some (.ref 52), some (.int p0), some (.int x1.1), some (.int x1.2.1), some (.int (bI x1.2.2.1)), some (.int x1.2.2.2), none] [] σ := by
    intro n
    induction n with
    | zero => intro x1 y1 hy1; cases hy1
    | succ n ih1 =>
      intro x1 y1 hy1 hK1
      obtain ⟨z1, e1, hy1⟩ := ob_some hy1
      unfold L_Painter_changesOf_10 at e1
      refine RM.blk [(1, 5, 0, .null), (2, 0, 0, .null), (3, 8, 3, .null), (3, 1, 0, .null)] (pc' := 19) (L' := [some (.ref 52), some (.int p0), some (.int x1.1), some (.int x1.2.1), some (.int (bI x1.2.2.1)), some (.int x1.2.2.2), none]) (st' := [.int (σ 18 0), .int x1.2.2.2]) (σ1 := σ) (by decide +kernel) rfl ?_
      refine RM.icmp_ge (tgt := 78) (by decide +kernel) (fun c2 => ?_) (fun c2 => ?_)
      · rw [if_pos c2] at e1
        obtain rfl := Option.some.inj e1
        obtain rfl := Option.some.inj (show some (x1.1 : Int32) = some y1 from hy1)
        refine RN.dropB [false, false, true, false, false, false, false] rfl ?_
        exact hK1
      · rw [if_neg c2] at e1
        refine RM.blk [(2, 0, 0, .null), (3, 8, 3, .null), (3, 1, 4, .null), (1, 5, 0, .null)] (pc' := 31) (L' := [some (.ref 52), some (.int p0), some (.int x1.1), some (.int x1.2.1), some (.int (bI x1.2.2.1)), some (.int x1.2.2.2), none]) (st' := [.int x1.2.2.2, .ref 25]) (σ1 := σ) (by decide +kernel) rfl ?_
        refine RN.callV [.int x1.2.2.2] (s_Row_get (q := 25) (a := 26) (n := 240) ⟨rfl, rfl, by decide⟩ σ x1.2.2.2) [] (pc3 := 34) (st3 := [.int (rg σ 26 240 x1.2.2.2)]) (by decide +kernel) mk_Row_get (by decide) ?_
        refine RM.blk [(1, 1, 0, .null)] (pc' := 35) (L' := [some (.ref 52), some (.int p0), some (.int x1.1), some (.int x1.2.1), some (.int (bI x1.2.2.1)), some (.int x1.2.2.2), none]) (st' := [.int p0, .int (rg σ 26 240 x1.2.2.2)]) (σ1 := σ) (by decide +kernel) rfl ?_
        refine RM.icmp_ne (tgt := 72) (by decide +kernel) (fun c3 => ?_) (fun c3 => ?_)
        · rw [if_neg c3] at e1
          refine RM.blk [(10, 5, 0, .int 1), (23, 0, 0, .null)] (pc' := 10) (L' := [some (.ref 52), some (.int p0), some (.int x1.1), some (.int x1.2.1), some (.int (bI x1.2.2.1)), some (.int (x1.2.2.2 + 1)), none]) (st' := []) (σ1 := σ) (by decide +kernel) rfl ?_
          obtain rfl := Option.some.inj e1
          refine RN.dropB [true, true, true, true, true, true, false] rfl ?_
          exact ih1 (x1.1, x1.2.1, x1.2.2.1, (x1.2.2.2 + 1)) _ hy1 hK1
        · rw [if_pos c3] at e1
          refine RM.blk [(2, 0, 0, .null), (3, 8, 3, .null), (3, 1, 5, .null), (1, 5, 0, .null)] (pc' := 47) (L' := [some (.ref 52), some (.int p0), some (.int x1.1), some (.int x1.2.1), some (.int (bI x1.2.2.1)), some (.int x1.2.2.2), none]) (st' := [.int x1.2.2.2, .ref 27]) (σ1 := σ) (by decide +kernel) rfl ?_
          refine RN.callV [.int x1.2.2.2] (s_Row_get (q := 27) (a := 28) (n := 240) ⟨rfl, rfl, by decide⟩ σ x1.2.2.2) [] (pc3 := 50) (st3 := [.int (rg σ 28 240 x1.2.2.2)]) (by decide +kernel) mk_Row_get (by decide) ?_
          refine RM.blk [(4, 6, 0, .null), (1, 4, 0, .null)] (pc' := 54) (L' := [some (.ref 52), some (.int p0), some (.int x1.1), some (.int x1.2.1), some (.int (bI x1.2.2.1)), some (.int x1.2.2.2), some (.int (rg σ 28 240 x1.2.2.2))]) (st' := [.int (bI x1.2.2.1)]) (σ1 := σ) (by decide +kernel) rfl ?_
          refine RM.zne (tgt := 66) (by decide +kernel) (fun c4 => ?_) (fun c4 => ?_)
          · rw [if_pos c4] at e1
            refine RM.blk [(0, 0, 0, .int 0), (4, 4, 0, .null), (1, 6, 0, .null), (4, 3, 0, .null), (10, 5, 0, .int 1), (23, 0, 0, .null)] (pc' := 10) (L' := [some (.ref 52), some (.int p0), some (.int x1.1), some (.int (rg σ 28 240 x1.2.2.2)), some (.int (bI false)), some (.int (x1.2.2.2 + 1)), some (.int (rg σ 28 240 x1.2.2.2))]) (st' := []) (σ1 := σ) (by decide +kernel) rfl ?_
            obtain rfl := Option.some.inj e1
            refine RN.dropB [true, true, true, true, true, true, false] rfl ?_
            exact ih1 (x1.1, (rg σ 28 240 x1.2.2.2), false, (x1.2.2.2 + 1)) _ hy1 hK1
          · rw [if_neg (bf c4)] at e1
            refine RM.blk [(1, 6, 0, .null), (1, 3, 0, .null)] (pc' := 60) (L' := [some (.ref 52), some (.int p0), some (.int x1.1), some (.int x1.2.1), some (.int (bI x1.2.2.1)), some (.int x1.2.2.2), some (.int (rg σ 28 240 x1.2.2.2))]) (st' := [.int x1.2.1, .int (rg σ 28 240 x1.2.2.2)]) (σ1 := σ) (by decide +kernel) rfl ?_
            refine RM.icmp_eq (tgt := 66) (by decide +kernel) (fun c5 => ?_) (fun c5 => ?_)
            · rw [if_pos c5] at e1
              refine RM.blk [(0, 0, 0, .int 0), (4, 4, 0, .null), (1, 6, 0, .null), (4, 3, 0, .null), (10, 5, 0, .int 1), (23, 0, 0, .null)] (pc' := 10) (L' := [some (.ref 52), some (.int p0), some (.int x1.1), some (.int (rg σ 28 240 x1.2.2.2)), some (.int (bI false)), some (.int (x1.2.2.2 + 1)), some (.int (rg σ 28 240 x1.2.2.2))]) (st' := []) (σ1 := σ) (by decide +kernel) rfl ?_
              obtain rfl := Option.some.inj e1
              refine RN.dropB [true, true, true, true, true, true, false] rfl ?_
              exact ih1 (x1.1, (rg σ 28 240 x1.2.2.2), false, (x1.2.2.2 + 1)) _ hy1 hK1
            · rw [if_neg c5] at e1
              refine RM.blk [(10, 2, 0, .int 1), (0, 0, 0, .int 0), (4, 4, 0, .null), (1, 6, 0, .null), (4, 3, 0, .null), (10, 5, 0, .int 1), (23, 0, 0, .null)] (pc' := 10) (L' := [some (.ref 52), some (.int p0), some (.int (x1.1 + 1)), some (.int (rg σ 28 240 x1.2.2.2)), some (.int (bI false)), some (.int (x1.2.2.2 + 1)), some (.int (rg σ 28 240 x1.2.2.2))]) (st' := []) (σ1 := σ) (by decide +kernel) rfl ?_
              obtain rfl := Option.some.inj e1
              refine RN.dropB [true, true, true, true, true, true, false] rfl ?_
              exact ih1 ((x1.1 + 1), (rg σ 28 240 x1.2.2.2), false, (x1.2.2.2 + 1)) _ hy1 hK1
  obtain ⟨y1, hl1, h⟩ := ob_some h
  refine RN.dropB [true, true, true, true, true, true, false] rfl ?_
  refine hL1 FU (0, (-1), true, 0) y1 hl1 ?_
  refine RM.blk [(1, 2, 0, .null)] (pc' := 79) (L' := [none, none, some (.int y1), none, none, none, none]) (st' := [.int y1]) (σ1 := σ) (by decide +kernel) rfl ?_
  obtain rfl := (Option.some.inj h)
  exact RM.reti (by decide +kernel) rfl
def M_Shop_changes : MI := (yX11_changes, cX11_changes, 2, some .int, 11)
theorem mk_Shop_changes : mOK M_Shop_changes 1 = true := by decide +kernel
set_option maxRecDepth 100000 in
set_option maxHeartbeats 4000000 in
theorem s_Shop_changes (σ : SG) (p0 : Int32) (rr : Int32) (h : F_Shop_changes σ p0 = some rr) : SpN 4 M_Shop_changes [.ref 0, .int p0] σ (some (.int rr)) σ := by
  unfold F_Shop_changes at h
  refine Sp.of mk_Shop_changes rfl (Nat.le_of_ble_eq_true rfl) ?_
  refine RM.blk [(1, 1, 0, .null)] (pc' := 1) (L' := [some (.ref 0), some (.int p0)]) (st' := [.int p0]) (σ1 := σ) (by decide +kernel) rfl ?_
  refine RN.callS [.int p0] (s_Shop_isField σ p0) [] (pc3 := 4) (st3 := [.int (bI (F_Shop_isField p0))]) (by decide +kernel) mk_Shop_isField (by decide) ?_
  refine RM.zne (tgt := 10) (by decide +kernel) (fun c1 => ?_) (fun c1 => ?_)
  · rw [if_pos c1] at h
    refine RM.blk [(2, 0, 0, .null), (3, 11, 5, .null), (3, 8, 0, .null)] (pc' := 17) (L' := [some (.ref 0), some (.int p0)]) (st' := [.int (σ 52 0)]) (σ1 := σ) (by decide +kernel) rfl ?_
    refine RM.if_eq (tgt := 31) (by decide +kernel) (fun c2 => ?_) (fun c2 => ?_)
    · rw [if_pos c2] at h
      refine RM.blk [(0, 0, 0, .int (-3))] (pc' := 33) (L' := [some (.ref 0), some (.int p0)]) (st' := [.int (-3)]) (σ1 := σ) (by decide +kernel) rfl ?_
      obtain rfl := (Option.some.inj h)
      exact RM.reti (by decide +kernel) rfl
    · rw [if_neg c2] at h
      refine RM.blk [(2, 0, 0, .null), (3, 11, 5, .null), (1, 1, 0, .null)] (pc' := 25) (L' := [some (.ref 0), some (.int p0)]) (st' := [.int p0, .ref 52]) (σ1 := σ) (by decide +kernel) rfl ?_
      obtain ⟨v3, hv3, h⟩ := ob_some h
      refine RN.callV [.int p0] (s_Painter_changesOf σ p0 v3 hv3) [] (pc3 := 28) (st3 := [.int v3]) (by decide +kernel) mk_Painter_changesOf (by decide) ?_
      refine RM.blk [(23, 0, 0, .null)] (pc' := 33) (L' := [some (.ref 0), some (.int p0)]) (st' := [.int v3]) (σ1 := σ) (by decide +kernel) rfl ?_
      obtain rfl := (Option.some.inj h)
      exact RM.reti (by decide +kernel) rfl
  · rw [if_neg (bf c1)] at h
    refine RM.blk [(0, 0, 0, .int (-2))] (pc' := 9) (L' := [some (.ref 0), some (.int p0)]) (st' := [.int (-2)]) (σ1 := σ) (by decide +kernel) rfl ?_
    obtain rfl := (Option.some.inj h)
    exact RM.reti (by decide +kernel) rfl
def M_Shop_roundedUp : MI := (yX11_roundedUp, cX11_roundedUp, 2, some .int, 11)
theorem mk_Shop_roundedUp : mOK M_Shop_roundedUp 2 = true := by decide +kernel
set_option maxRecDepth 100000 in
set_option maxHeartbeats 4000000 in
theorem s_Shop_roundedUp (σ : SG) (p0 : Int32) (p1 : Int32) (rr : Int32) (h : F_Shop_roundedUp p0 p1 = some rr) : SpN 1 M_Shop_roundedUp [.int p0, .int p1] σ (some (.int rr)) σ := by
  unfold F_Shop_roundedUp at h
  refine Sp.of mk_Shop_roundedUp rfl (Nat.le_of_ble_eq_true rfl) ?_
  refine RM.blk [(1, 1, 0, .null), (0, 0, 0, .int 1)] (pc' := 2) (L' := [some (.int p0), some (.int p1)]) (st' := [.int 1, .int p1]) (σ1 := σ) (by decide +kernel) rfl ?_
  refine RM.icmp_ge (tgt := 9) (by decide +kernel) (fun c1 => ?_) (fun c1 => ?_)
  · rw [if_pos c1] at h
    refine RM.blk [(1, 0, 0, .null), (1, 1, 0, .null), (5, 0, 0, .null), (0, 0, 0, .int 1), (6, 0, 0, .null), (1, 1, 0, .null)] (pc' := 15) (L' := [some (.int p0), some (.int p1)]) (st' := [.int p1, .int ((p0 + p1) - 1)]) (σ1 := σ) (by decide +kernel) rfl ?_
    obtain ⟨g2, h⟩ := og_some h
    refine RM.idiv (by decide +kernel) (nz_of g2) ?_
    obtain rfl := (Option.some.inj h)
    exact RM.reti (by decide +kernel) rfl
  · rw [if_neg c1] at h
    refine RM.blk [(0, 0, 0, .int 0), (23, 0, 0, .null)] (pc' := 16) (L' := [some (.int p0), some (.int p1)]) (st' := [.int 0]) (σ1 := σ) (by decide +kernel) rfl ?_
    obtain rfl := (Option.some.inj h)
    exact RM.reti (by decide +kernel) rfl
def M_Sheets_isBorder : MI := (yX10_isBorder, cX10_isBorder, 3, some .boolean, 10)
theorem mk_Sheets_isBorder : mOK M_Sheets_isBorder 2 = true := by decide +kernel
set_option maxRecDepth 100000 in
set_option maxHeartbeats 4000000 in
theorem s_Sheets_isBorder (σ : SG) (p0 : Int32) (p1 : Int32) : SpN 4 M_Sheets_isBorder [.ref 57, .int p0, .int p1] σ (some (.int (bI (F_Sheets_isBorder σ p0 p1)))) σ := by
  generalize h : F_Sheets_isBorder σ p0 p1 = rr
  unfold F_Sheets_isBorder at h
  refine Sp.of mk_Sheets_isBorder rfl (Nat.le_of_ble_eq_true rfl) ?_
  refine RM.blk [(1, 1, 0, .null), (2, 0, 0, .null), (3, 10, 2, .null), (3, 3, 0, .null)] (pc' := 8) (L' := [some (.ref 57), some (.int p0), some (.int p1)]) (st' := [.int (σ 1 0), .int p0]) (σ1 := σ) (by decide +kernel) rfl ?_
  refine RM.icmp_eq (tgt := 46) (by decide +kernel) (fun c1 => ?_) (fun c1 => ?_)
  · rw [if_pos c1] at h
    refine RM.blk [(0, 0, 0, .int 1), (23, 0, 0, .null)] (pc' := 51) (L' := [some (.ref 57), some (.int p0), some (.int p1)]) (st' := [.int 1]) (σ1 := σ) (by decide +kernel) rfl ?_
    obtain rfl := h
    exact RM.retz (z := true) (by decide +kernel) rfl
  · rw [if_neg c1] at h
    refine RM.blk [(2, 0, 0, .null), (3, 10, 2, .null), (1, 1, 0, .null), (1, 2, 0, .null)] (pc' := 17) (L' := [some (.ref 57), some (.int p0), some (.int p1)]) (st' := [.int p1, .int p0, .ref 1]) (σ1 := σ) (by decide +kernel) rfl ?_
    refine RN.callV [.int p0, .int p1] (s_Drawing_has σ p0 p1) [] (pc3 := 20) (st3 := [.int (bI (F_Drawing_has σ p0 p1))]) (by decide +kernel) mk_Drawing_has (by decide) ?_
    refine RM.zeq (tgt := 50) (by decide +kernel) (fun c2 => ?_) (fun c2 => ?_)
    · rw [if_neg (bf c2)] at h
      refine RM.blk [(0, 0, 0, .int 0)] (pc' := 51) (L' := [some (.ref 57), some (.int p0), some (.int p1)]) (st' := [.int 0]) (σ1 := σ) (by decide +kernel) rfl ?_
      obtain rfl := h
      exact RM.retz (z := false) (by decide +kernel) rfl
    · rw [if_pos c2] at h
      refine RM.blk [(2, 0, 0, .null), (3, 10, 4, .null), (3, 1, 2, .null), (2, 0, 0, .null), (3, 10, 4, .null), (1, 1, 0, .null), (1, 2, 0, .null)] (pc' := 36) (L' := [some (.ref 57), some (.int p0), some (.int p1)]) (st' := [.int p1, .int p0, .ref 18, .ref 21]) (σ1 := σ) (by decide +kernel) rfl ?_
      refine RN.callV [.int p0, .int p1] (s_Cubes_over σ p0 p1) [.ref 21] (pc3 := 39) (st3 := [.int (F_Cubes_over σ p0 p1), .ref 21]) (by decide +kernel) mk_Cubes_over (by decide) ?_
      refine RN.callV [.int (F_Cubes_over σ p0 p1)] (s_Row_get (q := 21) (a := 22) (n := 240) ⟨rfl, rfl, by decide⟩ σ (F_Cubes_over σ p0 p1)) [] (pc3 := 42) (st3 := [.int (rg σ 22 240 (F_Cubes_over σ p0 p1))]) (by decide +kernel) mk_Row_get (by decide) ?_
      refine RM.blk [(1, 1, 0, .null)] (pc' := 43) (L' := [some (.ref 57), some (.int p0), some (.int p1)]) (st' := [.int p0, .int (rg σ 22 240 (F_Cubes_over σ p0 p1))]) (σ1 := σ) (by decide +kernel) rfl ?_
      refine RM.icmp_ne (tgt := 50) (by decide +kernel) (fun c3 => ?_) (fun c3 => ?_)
      · rw [if_neg c3] at h
        refine RM.blk [(0, 0, 0, .int 0)] (pc' := 51) (L' := [some (.ref 57), some (.int p0), some (.int p1)]) (st' := [.int 0]) (σ1 := σ) (by decide +kernel) rfl ?_
        obtain rfl := h
        exact RM.retz (z := false) (by decide +kernel) rfl
      · rw [if_pos c3] at h
        refine RM.blk [(0, 0, 0, .int 1), (23, 0, 0, .null)] (pc' := 51) (L' := [some (.ref 57), some (.int p0), some (.int p1)]) (st' := [.int 1]) (σ1 := σ) (by decide +kernel) rfl ?_
        obtain rfl := h
        exact RM.retz (z := true) (by decide +kernel) rfl
def M_Sheets_cutNear : MI := (yX10_cutNear, cX10_cutNear, 4, some .int, 10)
theorem mk_Sheets_cutNear : mOK M_Sheets_cutNear 2 = true := by decide +kernel
set_option maxRecDepth 100000 in
set_option maxHeartbeats 4000000 in
theorem s_Sheets_cutNear (σ : SG) (p0 : Int32) (p1 : Int32) (rr : Int32) (h : F_Sheets_cutNear σ p0 p1 = some rr) : SpN 5 M_Sheets_cutNear [.ref 57, .int p0, .int p1] σ (some (.int rr)) σ := by
  unfold F_Sheets_cutNear at h
  refine Sp.of mk_Sheets_cutNear rfl (Nat.le_of_ble_eq_true rfl) ?_
  refine RM.blk [(0, 0, 0, .int 0), (4, 3, 0, .null)] (pc' := 2) (L' := [some (.ref 57), some (.int p0), some (.int p1), some (.int 0)]) (st' := []) (σ1 := σ) (by decide +kernel) rfl ?_
  have hL1 : ∀ (n : Nat) (x1 : Int32) (y1 : (Unit) ⊕ (Int32)), lpW (L_Sheets_cutNear_2 σ p0 p1) n x1 = some y1 → Sum.elim (fun y1 : Unit => RN 5 M_Sheets_cutNear (some (.int rr)) σ 49 [none, none, none, none] [] σ) (fun q : Int32 => q = rr) y1 → RN 5 M_Sheets_cutNear (some (.int rr)) σ 2 [some (.ref 57), some (.int p0), some (.int p1), some (.int x1)] [] σ := by
    intro n
    induction n with
    | zero => intro x1 y1 hy1; cases hy1
    | succ n ih1 =>
      intro x1 y1 hy1 hK1
      obtain ⟨z1, e1, hy1⟩ := ob_some hy1
      unfold L_Sheets_cutNear_2 at e1
      refine RM.blk [(1, 3, 0, .null), (2, 0, 0, .null), (3, 10, 2, .null), (3, 3, 0, .null)] (pc' := 10) (L' := [some (.ref 57), some (.int p0), some (.int p1), some (.int x1)]) (st' := [.int (σ 1 0), .int x1]) (σ1 := σ) (by decide +kernel) rfl ?_
      refine RM.icmp_gt (tgt := 49) (by decide +kernel) (fun c2 => ?_) (fun c2 => ?_)
      · rw [if_pos c2] at e1
        obtain rfl := Option.some.inj e1
        obtain rfl := Option.some.inj (show some ((.inl ()) : (Unit) ⊕ (Int32)) = some y1 from hy1)
        refine RN.dropB [false, false, false, false] rfl ?_
        exact hK1
      · rw [if_neg c2] at e1
        refine RM.blk [(2, 0, 0, .null), (1, 1, 0, .null), (1, 3, 0, .null), (6, 0, 0, .null), (1, 2, 0, .null)] (pc' := 18) (L' := [some (.ref 57), some (.int p0), some (.int p1), some (.int x1)]) (st' := [.int p1, .int (p0 - x1), .ref 57]) (σ1 := σ) (by decide +kernel) rfl ?_
        refine RN.callV [.int (p0 - x1), .int p1] (s_Sheets_isBorder σ (p0 - x1) p1) [] (pc3 := 21) (st3 := [.int (bI (F_Sheets_isBorder σ (p0 - x1) p1))]) (by decide +kernel) mk_Sheets_isBorder (by decide) ?_
        refine RM.zeq (tgt := 28) (by decide +kernel) (fun c3 => ?_) (fun c3 => ?_)
        · rw [if_neg (bf c3)] at e1
          refine RM.blk [(2, 0, 0, .null), (1, 1, 0, .null), (1, 3, 0, .null), (5, 0, 0, .null), (1, 2, 0, .null)] (pc' := 33) (L' := [some (.ref 57), some (.int p0), some (.int p1), some (.int x1)]) (st' := [.int p1, .int (p0 + x1), .ref 57]) (σ1 := σ) (by decide +kernel) rfl ?_
          refine RN.callV [.int (p0 + x1), .int p1] (s_Sheets_isBorder σ (p0 + x1) p1) [] (pc3 := 36) (st3 := [.int (bI (F_Sheets_isBorder σ (p0 + x1) p1))]) (by decide +kernel) mk_Sheets_isBorder (by decide) ?_
          refine RM.zeq (tgt := 43) (by decide +kernel) (fun c4 => ?_) (fun c4 => ?_)
          · rw [if_neg (bf c4)] at e1
            refine RM.blk [(10, 3, 0, .int 1), (23, 0, 0, .null)] (pc' := 2) (L' := [some (.ref 57), some (.int p0), some (.int p1), some (.int (x1 + 1))]) (st' := []) (σ1 := σ) (by decide +kernel) rfl ?_
            obtain rfl := Option.some.inj e1
            refine RN.dropB [true, true, true, true] rfl ?_
            exact ih1 (x1 + 1) _ hy1 hK1
          · rw [if_pos c4] at e1
            refine RM.blk [(1, 1, 0, .null), (1, 3, 0, .null), (5, 0, 0, .null)] (pc' := 42) (L' := [some (.ref 57), some (.int p0), some (.int p1), some (.int x1)]) (st' := [.int (p0 + x1)]) (σ1 := σ) (by decide +kernel) rfl ?_
            obtain rfl := Option.some.inj e1
            obtain rfl := Option.some.inj (show some (.inr (p0 + x1) : (Unit) ⊕ (Int32)) = some y1 from hy1)
            obtain rfl := (show ((p0 + x1) : Int32) = rr from hK1)
            exact RM.reti (by decide +kernel) rfl
        · rw [if_pos c3] at e1
          refine RM.blk [(1, 1, 0, .null), (1, 3, 0, .null), (6, 0, 0, .null)] (pc' := 27) (L' := [some (.ref 57), some (.int p0), some (.int p1), some (.int x1)]) (st' := [.int (p0 - x1)]) (σ1 := σ) (by decide +kernel) rfl ?_
          obtain rfl := Option.some.inj e1
          obtain rfl := Option.some.inj (show some (.inr (p0 - x1) : (Unit) ⊕ (Int32)) = some y1 from hy1)
          obtain rfl := (show ((p0 - x1) : Int32) = rr from hK1)
          exact RM.reti (by decide +kernel) rfl
  obtain ⟨y1, hl1, h⟩ := ob_some h
  refine RN.dropB [true, true, true, true] rfl ?_
  refine hL1 FU 0 y1 hl1 ?_
  rcases y1 with y1 | q1
  · simp only [Sum.elim_inl] at h ⊢
    refine RM.blk [(0, 0, 0, .int 0)] (pc' := 50) (L' := [none, none, none, none]) (st' := [.int 0]) (σ1 := σ) (by decide +kernel) rfl ?_
    obtain rfl := (Option.some.inj h)
    exact RM.reti (by decide +kernel) rfl
  · simp only [Sum.elim_inr] at h ⊢
    exact Option.some.inj h
def M_Sheets_cutsLeftOf : MI := (yX10_cutsLeftOf, cX10_cutsLeftOf, 5, some .int, 10)
theorem mk_Sheets_cutsLeftOf : mOK M_Sheets_cutsLeftOf 2 = true := by decide +kernel
set_option maxRecDepth 100000 in
set_option maxHeartbeats 4000000 in
theorem s_Sheets_cutsLeftOf (σ : SG) (p0 : Int32) (p1 : Int32) (rr : Int32) (h : F_Sheets_cutsLeftOf σ p0 p1 = some rr) : SpN 6 M_Sheets_cutsLeftOf [.ref 57, .int p0, .int p1] σ (some (.int rr)) σ := by
  unfold F_Sheets_cutsLeftOf at h
  refine Sp.of mk_Sheets_cutsLeftOf rfl (Nat.le_of_ble_eq_true rfl) ?_
  refine RM.blk [(0, 0, 0, .int 0), (4, 3, 0, .null), (1, 2, 0, .null), (4, 4, 0, .null)] (pc' := 5) (L' := [some (.ref 57), some (.int p0), some (.int p1), some (.int 0), some (.int p1)]) (st' := []) (σ1 := σ) (by decide +kernel) rfl ?_
  have hL1 : ∀ (n : Nat) (x1 : Int32 × Int32) (y1 : Int32), lpW (L_Sheets_cutsLeftOf_5 σ p0 p1) n x1 = some y1 → RN 6 M_Sheets_cutsLeftOf (some (.int rr)) σ 64 [none, none, none, some (.int y1), none] [] σ → RN 6 M_Sheets_cutsLeftOf (some (.int rr)) σ 5 [some (.ref 57), some (.int p0), some (.int p1), some (.int x1.1), some (.int x1.2)] [] σ := by
    intro n
    induction n with
    | zero => intro x1 y1 hy1; cases hy1
    | succ n ih1 =>
      intro x1 y1 hy1 hK1
      obtain ⟨z1, e1, hy1⟩ := ob_some hy1
      unfold L_Sheets_cutsLeftOf_5 at e1
      refine RM.blk [(1, 4, 0, .null), (2, 0, 0, .null), (3, 10, 2, .null), (3, 3, 0, .null)] (pc' := 14) (L' := [some (.ref 57), some (.int p0), some (.int p1), some (.int x1.1), some (.int x1.2)]) (st' := [.int (σ 1 0), .int x1.2]) (σ1 := σ) (by decide +kernel) rfl ?_
      refine RM.icmp_ge (tgt := 64) (by decide +kernel) (fun c2 => ?_) (fun c2 => ?_)
      · rw [if_pos c2] at e1
        obtain rfl := Option.some.inj e1
        obtain rfl := Option.some.inj (show some (x1.1 : Int32) = some y1 from hy1)
        refine RN.dropB [false, false, false, true, false] rfl ?_
        exact hK1
      · rw [if_neg c2] at e1
        refine RM.blk [(2, 0, 0, .null), (1, 4, 0, .null), (2, 0, 0, .null), (3, 10, 4, .null), (3, 1, 1, .null), (1, 1, 0, .null)] (pc' := 28) (L' := [some (.ref 57), some (.int p0), some (.int p1), some (.int x1.1), some (.int x1.2)]) (st' := [.int p0, .ref 19, .int x1.2, .ref 57]) (σ1 := σ) (by decide +kernel) rfl ?_
        refine RN.callV [.int p0] (s_Row_get (q := 19) (a := 20) (n := 240) ⟨rfl, rfl, by decide⟩ σ p0) [.int x1.2, .ref 57] (pc3 := 31) (st3 := [.int (rg σ 20 240 p0), .int x1.2, .ref 57]) (by decide +kernel) mk_Row_get (by decide) ?_
        obtain ⟨v3, hv3, e1⟩ := ob_some e1
        refine RN.callV [.int x1.2, .int (rg σ 20 240 p0)] (s_Sheets_cutNear σ x1.2 (rg σ 20 240 p0) v3 hv3) [] (pc3 := 34) (st3 := [.int v3]) (by decide +kernel) mk_Sheets_cutNear (by decide) ?_
        refine RM.blk [(2, 0, 0, .null), (3, 10, 4, .null), (3, 1, 2, .null), (1, 1, 0, .null)] (pc' := 42) (L' := [some (.ref 57), some (.int p0), some (.int p1), some (.int x1.1), some (.int x1.2)]) (st' := [.int p0, .ref 21, .int v3]) (σ1 := σ) (by decide +kernel) rfl ?_
        refine RN.callV [.int p0] (s_Row_get (q := 21) (a := 22) (n := 240) ⟨rfl, rfl, by decide⟩ σ p0) [.int v3] (pc3 := 45) (st3 := [.int (rg σ 22 240 p0), .int v3]) (by decide +kernel) mk_Row_get (by decide) ?_
        refine RM.icmp_gt (tgt := 51) (by decide +kernel) (fun c4 => ?_) (fun c4 => ?_)
        · rw [if_pos c4] at e1
          refine RM.blk [(1, 4, 0, .null), (1, 2, 0, .null), (0, 0, 0, .int 1)] (pc' := 55) (L' := [some (.ref 57), some (.int p0), some (.int p1), some (.int x1.1), some (.int x1.2)]) (st' := [.int 1, .int p1, .int x1.2]) (σ1 := σ) (by decide +kernel) rfl ?_
          refine RM.mmax (by decide +kernel) (by decide) (Nat.le_of_ble_eq_true rfl) ⟨Nat.le_refl _, Nat.le_refl _⟩ ?_
          refine RM.blk [(5, 0, 0, .null), (4, 4, 0, .null), (23, 0, 0, .null)] (pc' := 5) (L' := [some (.ref 57), some (.int p0), some (.int p1), some (.int x1.1), some (.int (x1.2 + (mxI p1 1)))]) (st' := []) (σ1 := σ) (by decide +kernel) rfl ?_
          obtain rfl := Option.some.inj e1
          refine RN.dropB [true, true, true, true, true] rfl ?_
          exact ih1 (x1.1, (x1.2 + (mxI p1 1))) _ hy1 hK1
        · rw [if_neg c4] at e1
          refine RM.blk [(10, 3, 0, .int 1), (1, 4, 0, .null), (1, 2, 0, .null), (0, 0, 0, .int 1)] (pc' := 55) (L' := [some (.ref 57), some (.int p0), some (.int p1), some (.int (x1.1 + 1)), some (.int x1.2)]) (st' := [.int 1, .int p1, .int x1.2]) (σ1 := σ) (by decide +kernel) rfl ?_
          refine RM.mmax (by decide +kernel) (by decide) (Nat.le_of_ble_eq_true rfl) ⟨Nat.le_refl _, Nat.le_refl _⟩ ?_
          refine RM.blk [(5, 0, 0, .null), (4, 4, 0, .null), (23, 0, 0, .null)] (pc' := 5) (L' := [some (.ref 57), some (.int p0), some (.int p1), some (.int (x1.1 + 1)), some (.int (x1.2 + (mxI p1 1)))]) (st' := []) (σ1 := σ) (by decide +kernel) rfl ?_
          obtain rfl := Option.some.inj e1
          refine RN.dropB [true, true, true, true, true] rfl ?_
          exact ih1 ((x1.1 + 1), (x1.2 + (mxI p1 1))) _ hy1 hK1
  obtain ⟨y1, hl1, h⟩ := ob_some h
  refine RN.dropB [true, true, true, true, true] rfl ?_
  refine hL1 FU (0, p1) y1 hl1 ?_
  refine RM.blk [(1, 3, 0, .null)] (pc' := 65) (L' := [none, none, none, some (.int y1), none]) (st' := [.int y1]) (σ1 := σ) (by decide +kernel) rfl ?_
  obtain rfl := (Option.some.inj h)
  exact RM.reti (by decide +kernel) rfl
def M_Sheets_turnOver : MI := (yX10_turnOver, cX10_turnOver, 3, none, 10)
theorem mk_Sheets_turnOver : mOK M_Sheets_turnOver 0 = true := by decide +kernel
set_option maxRecDepth 100000 in
set_option maxHeartbeats 4000000 in
theorem s_Sheets_turnOver (σ : SG) (so : SG) (h : F_Sheets_turnOver σ = some so) : SpN 3 M_Sheets_turnOver [.ref 57] σ none so := by
  unfold F_Sheets_turnOver at h
  refine Sp.of mk_Sheets_turnOver rfl (Nat.le_of_ble_eq_true rfl) ?_
  refine RM.blk [(2, 0, 0, .null), (3, 10, 4, .null), (3, 1, 0, .null), (0, 0, 0, .int 1), (6, 0, 0, .null), (4, 1, 0, .null)] (pc' := 10) (L' := [some (.ref 57), some (.int ((σ 18 0) - 1)), none]) (st' := []) (σ1 := σ) (by decide +kernel) rfl ?_
  have hL1 : ∀ (n : Nat) (x1 : Int32 × SG) (y1 : SG), lpW L_Sheets_turnOver_10 n x1 = some y1 → RN 3 M_Sheets_turnOver none so 139 [none, none, none] [] y1 → RN 3 M_Sheets_turnOver none so 10 [some (.ref 57), some (.int x1.1), none] [] x1.2 := by
    intro n
    induction n with
    | zero => intro x1 y1 hy1; cases hy1
    | succ n ih1 =>
      intro x1 y1 hy1 hK1
      obtain ⟨z1, e1, hy1⟩ := ob_some hy1
      unfold L_Sheets_turnOver_10 at e1
      refine RM.blk [(1, 1, 0, .null)] (pc' := 11) (L' := [some (.ref 57), some (.int x1.1), none]) (st' := [.int x1.1]) (σ1 := x1.2) (by decide +kernel) rfl ?_
      refine RM.if_lt (tgt := 139) (by decide +kernel) (fun c2 => ?_) (fun c2 => ?_)
      · rw [if_pos c2] at e1
        obtain rfl := Option.some.inj e1
        obtain rfl := Option.some.inj (show some (x1.2 : SG) = some y1 from hy1)
        refine RN.dropB [false, false, false] rfl ?_
        exact hK1
      · rw [if_neg c2] at e1
        refine RM.blk [(1, 1, 0, .null), (0, 0, 0, .int 1), (5, 0, 0, .null), (2, 0, 0, .null), (3, 10, 4, .null), (3, 1, 0, .null)] (pc' := 24) (L' := [some (.ref 57), some (.int x1.1), none]) (st' := [.int (x1.2 18 0), .int (x1.1 + 1)]) (σ1 := x1.2) (by decide +kernel) rfl ?_
        refine RM.icmp_ge (tgt := 85) (by decide +kernel) (fun c3 => ?_) (fun c3 => ?_)
        · rw [if_pos c3] at e1
          refine RM.blk [(0, 0, 0, .int 0), (4, 2, 0, .null), (2, 0, 0, .null), (3, 10, 4, .null), (3, 1, 7, .null), (1, 1, 0, .null), (1, 2, 0, .null)] (pc' := 96) (L' := [some (.ref 57), some (.int x1.1), some (.int (bI false))]) (st' := [.int (bI false), .int x1.1, .ref 31]) (σ1 := x1.2) (by decide +kernel) rfl ?_
          refine RM.zeq (tgt := 129) (by decide +kernel) (fun c4 => ?_) (fun c4 => ?_)
          · rw [if_neg (bf c4)] at e1
            refine RM.blk [(0, 0, 0, .int 0)] (pc' := 130) (L' := [some (.ref 57), some (.int x1.1), some (.int (bI false))]) (st' := [.int 0, .int x1.1, .ref 31]) (σ1 := x1.2) (by decide +kernel) rfl ?_
            refine RN.callV [.int x1.1, .int 0] (s_Row_set (q := 31) (a := 32) (n := 240) ⟨rfl, rfl, by decide⟩ x1.2 x1.1 0) [] (pc3 := 133) (st3 := []) (by decide +kernel) mk_Row_set (by decide) ?_
            refine RM.blk [(10, 1, 0, .int (-1)), (23, 0, 0, .null)] (pc' := 10) (L' := [some (.ref 57), some (.int (x1.1 + (-1))), some (.int (bI false))]) (st' := []) (σ1 := (rs x1.2 32 240 x1.1 0)) (by decide +kernel) rfl ?_
            obtain rfl := Option.some.inj e1
            refine RN.dropB [true, true, false] rfl ?_
            exact ih1 ((x1.1 + (-1)), (rs x1.2 32 240 x1.1 0)) _ hy1 hK1
          · rw [if_pos c4] at e1
            refine RM.blk [(2, 0, 0, .null), (3, 10, 4, .null), (3, 1, 7, .null), (1, 1, 0, .null), (0, 0, 0, .int 1), (5, 0, 0, .null)] (pc' := 109) (L' := [some (.ref 57), some (.int x1.1), some (.int (bI false))]) (st' := [.int (x1.1 + 1), .ref 31, .int x1.1, .ref 31]) (σ1 := x1.2) (by decide +kernel) rfl ?_
            refine RN.callV [.int (x1.1 + 1)] (s_Row_get (q := 31) (a := 32) (n := 240) ⟨rfl, rfl, by decide⟩ x1.2 (x1.1 + 1)) [.int x1.1, .ref 31] (pc3 := 112) (st3 := [.int (rg x1.2 32 240 (x1.1 + 1)), .int x1.1, .ref 31]) (by decide +kernel) mk_Row_get (by decide) ?_
            refine RM.blk [(2, 0, 0, .null), (3, 10, 4, .null), (3, 1, 3, .null), (1, 1, 0, .null), (0, 0, 0, .int 1), (5, 0, 0, .null)] (pc' := 122) (L' := [some (.ref 57), some (.int x1.1), some (.int (bI false))]) (st' := [.int (x1.1 + 1), .ref 23, .int (rg x1.2 32 240 (x1.1 + 1)), .int x1.1, .ref 31]) (σ1 := x1.2) (by decide +kernel) rfl ?_
            refine RN.callV [.int (x1.1 + 1)] (s_Row_get (q := 23) (a := 24) (n := 240) ⟨rfl, rfl, by decide⟩ x1.2 (x1.1 + 1)) [.int (rg x1.2 32 240 (x1.1 + 1)), .int x1.1, .ref 31] (pc3 := 125) (st3 := [.int (rg x1.2 24 240 (x1.1 + 1)), .int (rg x1.2 32 240 (x1.1 + 1)), .int x1.1, .ref 31]) (by decide +kernel) mk_Row_get (by decide) ?_
            refine RM.blk [(5, 0, 0, .null), (23, 0, 0, .null)] (pc' := 130) (L' := [some (.ref 57), some (.int x1.1), some (.int (bI false))]) (st' := [.int ((rg x1.2 32 240 (x1.1 + 1)) + (rg x1.2 24 240 (x1.1 + 1))), .int x1.1, .ref 31]) (σ1 := x1.2) (by decide +kernel) rfl ?_
            refine RN.callV [.int x1.1, .int ((rg x1.2 32 240 (x1.1 + 1)) + (rg x1.2 24 240 (x1.1 + 1)))] (s_Row_set (q := 31) (a := 32) (n := 240) ⟨rfl, rfl, by decide⟩ x1.2 x1.1 ((rg x1.2 32 240 (x1.1 + 1)) + (rg x1.2 24 240 (x1.1 + 1)))) [] (pc3 := 133) (st3 := []) (by decide +kernel) mk_Row_set (by decide) ?_
            generalize ns5 : (rs x1.2 32 240 x1.1 ((rg x1.2 32 240 (x1.1 + 1)) + (rg x1.2 24 240 (x1.1 + 1)))) = s5 at e1 ⊢
            replace e1 := nm_h e1
            refine RM.blk [(10, 1, 0, .int (-1)), (23, 0, 0, .null)] (pc' := 10) (L' := [some (.ref 57), some (.int (x1.1 + (-1))), some (.int (bI false))]) (st' := []) (σ1 := s5) (by decide +kernel) rfl ?_
            obtain rfl := Option.some.inj e1
            refine RN.dropB [true, true, false] rfl ?_
            exact ih1 ((x1.1 + (-1)), s5) _ hy1 hK1
        · rw [if_neg c3] at e1
          refine RM.blk [(2, 0, 0, .null), (3, 10, 4, .null), (3, 1, 1, .null), (1, 1, 0, .null), (0, 0, 0, .int 1), (5, 0, 0, .null)] (pc' := 37) (L' := [some (.ref 57), some (.int x1.1), none]) (st' := [.int (x1.1 + 1), .ref 19]) (σ1 := x1.2) (by decide +kernel) rfl ?_
          refine RN.callV [.int (x1.1 + 1)] (s_Row_get (q := 19) (a := 20) (n := 240) ⟨rfl, rfl, by decide⟩ x1.2 (x1.1 + 1)) [] (pc3 := 40) (st3 := [.int (rg x1.2 20 240 (x1.1 + 1))]) (by decide +kernel) mk_Row_get (by decide) ?_
          refine RM.blk [(2, 0, 0, .null), (3, 10, 4, .null), (3, 1, 1, .null), (1, 1, 0, .null)] (pc' := 48) (L' := [some (.ref 57), some (.int x1.1), none]) (st' := [.int x1.1, .ref 19, .int (rg x1.2 20 240 (x1.1 + 1))]) (σ1 := x1.2) (by decide +kernel) rfl ?_
          refine RN.callV [.int x1.1] (s_Row_get (q := 19) (a := 20) (n := 240) ⟨rfl, rfl, by decide⟩ x1.2 x1.1) [.int (rg x1.2 20 240 (x1.1 + 1))] (pc3 := 51) (st3 := [.int (rg x1.2 20 240 x1.1), .int (rg x1.2 20 240 (x1.1 + 1))]) (by decide +kernel) mk_Row_get (by decide) ?_
          refine RM.icmp_ne (tgt := 85) (by decide +kernel) (fun c6 => ?_) (fun c6 => ?_)
          · rw [if_neg c6] at e1
            refine RM.blk [(0, 0, 0, .int 0), (4, 2, 0, .null), (2, 0, 0, .null), (3, 10, 4, .null), (3, 1, 7, .null), (1, 1, 0, .null), (1, 2, 0, .null)] (pc' := 96) (L' := [some (.ref 57), some (.int x1.1), some (.int (bI false))]) (st' := [.int (bI false), .int x1.1, .ref 31]) (σ1 := x1.2) (by decide +kernel) rfl ?_
            refine RM.zeq (tgt := 129) (by decide +kernel) (fun c7 => ?_) (fun c7 => ?_)
            · rw [if_neg (bf c7)] at e1
              refine RM.blk [(0, 0, 0, .int 0)] (pc' := 130) (L' := [some (.ref 57), some (.int x1.1), some (.int (bI false))]) (st' := [.int 0, .int x1.1, .ref 31]) (σ1 := x1.2) (by decide +kernel) rfl ?_
              refine RN.callV [.int x1.1, .int 0] (s_Row_set (q := 31) (a := 32) (n := 240) ⟨rfl, rfl, by decide⟩ x1.2 x1.1 0) [] (pc3 := 133) (st3 := []) (by decide +kernel) mk_Row_set (by decide) ?_
              refine RM.blk [(10, 1, 0, .int (-1)), (23, 0, 0, .null)] (pc' := 10) (L' := [some (.ref 57), some (.int (x1.1 + (-1))), some (.int (bI false))]) (st' := []) (σ1 := (rs x1.2 32 240 x1.1 0)) (by decide +kernel) rfl ?_
              obtain rfl := Option.some.inj e1
              refine RN.dropB [true, true, false] rfl ?_
              exact ih1 ((x1.1 + (-1)), (rs x1.2 32 240 x1.1 0)) _ hy1 hK1
            · rw [if_pos c7] at e1
              refine RM.blk [(2, 0, 0, .null), (3, 10, 4, .null), (3, 1, 7, .null), (1, 1, 0, .null), (0, 0, 0, .int 1), (5, 0, 0, .null)] (pc' := 109) (L' := [some (.ref 57), some (.int x1.1), some (.int (bI false))]) (st' := [.int (x1.1 + 1), .ref 31, .int x1.1, .ref 31]) (σ1 := x1.2) (by decide +kernel) rfl ?_
              refine RN.callV [.int (x1.1 + 1)] (s_Row_get (q := 31) (a := 32) (n := 240) ⟨rfl, rfl, by decide⟩ x1.2 (x1.1 + 1)) [.int x1.1, .ref 31] (pc3 := 112) (st3 := [.int (rg x1.2 32 240 (x1.1 + 1)), .int x1.1, .ref 31]) (by decide +kernel) mk_Row_get (by decide) ?_
              refine RM.blk [(2, 0, 0, .null), (3, 10, 4, .null), (3, 1, 3, .null), (1, 1, 0, .null), (0, 0, 0, .int 1), (5, 0, 0, .null)] (pc' := 122) (L' := [some (.ref 57), some (.int x1.1), some (.int (bI false))]) (st' := [.int (x1.1 + 1), .ref 23, .int (rg x1.2 32 240 (x1.1 + 1)), .int x1.1, .ref 31]) (σ1 := x1.2) (by decide +kernel) rfl ?_
              refine RN.callV [.int (x1.1 + 1)] (s_Row_get (q := 23) (a := 24) (n := 240) ⟨rfl, rfl, by decide⟩ x1.2 (x1.1 + 1)) [.int (rg x1.2 32 240 (x1.1 + 1)), .int x1.1, .ref 31] (pc3 := 125) (st3 := [.int (rg x1.2 24 240 (x1.1 + 1)), .int (rg x1.2 32 240 (x1.1 + 1)), .int x1.1, .ref 31]) (by decide +kernel) mk_Row_get (by decide) ?_
              refine RM.blk [(5, 0, 0, .null), (23, 0, 0, .null)] (pc' := 130) (L' := [some (.ref 57), some (.int x1.1), some (.int (bI false))]) (st' := [.int ((rg x1.2 32 240 (x1.1 + 1)) + (rg x1.2 24 240 (x1.1 + 1))), .int x1.1, .ref 31]) (σ1 := x1.2) (by decide +kernel) rfl ?_
              refine RN.callV [.int x1.1, .int ((rg x1.2 32 240 (x1.1 + 1)) + (rg x1.2 24 240 (x1.1 + 1)))] (s_Row_set (q := 31) (a := 32) (n := 240) ⟨rfl, rfl, by decide⟩ x1.2 x1.1 ((rg x1.2 32 240 (x1.1 + 1)) + (rg x1.2 24 240 (x1.1 + 1)))) [] (pc3 := 133) (st3 := []) (by decide +kernel) mk_Row_set (by decide) ?_
              generalize ns8 : (rs x1.2 32 240 x1.1 ((rg x1.2 32 240 (x1.1 + 1)) + (rg x1.2 24 240 (x1.1 + 1)))) = s8 at e1 ⊢
              replace e1 := nm_h e1
              refine RM.blk [(10, 1, 0, .int (-1)), (23, 0, 0, .null)] (pc' := 10) (L' := [some (.ref 57), some (.int (x1.1 + (-1))), some (.int (bI false))]) (st' := []) (σ1 := s8) (by decide +kernel) rfl ?_
              obtain rfl := Option.some.inj e1
              refine RN.dropB [true, true, false] rfl ?_
              exact ih1 ((x1.1 + (-1)), s8) _ hy1 hK1
          · rw [if_pos c6] at e1
            refine RM.blk [(2, 0, 0, .null), (3, 10, 4, .null), (3, 1, 6, .null), (1, 1, 0, .null), (0, 0, 0, .int 1), (5, 0, 0, .null)] (pc' := 64) (L' := [some (.ref 57), some (.int x1.1), none]) (st' := [.int (x1.1 + 1), .ref 29]) (σ1 := x1.2) (by decide +kernel) rfl ?_
            refine RN.callV [.int (x1.1 + 1)] (s_Row_get (q := 29) (a := 30) (n := 240) ⟨rfl, rfl, by decide⟩ x1.2 (x1.1 + 1)) [] (pc3 := 67) (st3 := [.int (rg x1.2 30 240 (x1.1 + 1))]) (by decide +kernel) mk_Row_get (by decide) ?_
            refine RM.blk [(2, 0, 0, .null), (3, 10, 4, .null), (3, 1, 6, .null), (1, 1, 0, .null)] (pc' := 75) (L' := [some (.ref 57), some (.int x1.1), none]) (st' := [.int x1.1, .ref 29, .int (rg x1.2 30 240 (x1.1 + 1))]) (σ1 := x1.2) (by decide +kernel) rfl ?_
            refine RN.callV [.int x1.1] (s_Row_get (q := 29) (a := 30) (n := 240) ⟨rfl, rfl, by decide⟩ x1.2 x1.1) [.int (rg x1.2 30 240 (x1.1 + 1))] (pc3 := 78) (st3 := [.int (rg x1.2 30 240 x1.1), .int (rg x1.2 30 240 (x1.1 + 1))]) (by decide +kernel) mk_Row_get (by decide) ?_
            refine RM.icmp_ne (tgt := 85) (by decide +kernel) (fun c9 => ?_) (fun c9 => ?_)
            · rw [if_neg c9] at e1
              refine RM.blk [(0, 0, 0, .int 0), (4, 2, 0, .null), (2, 0, 0, .null), (3, 10, 4, .null), (3, 1, 7, .null), (1, 1, 0, .null), (1, 2, 0, .null)] (pc' := 96) (L' := [some (.ref 57), some (.int x1.1), some (.int (bI false))]) (st' := [.int (bI false), .int x1.1, .ref 31]) (σ1 := x1.2) (by decide +kernel) rfl ?_
              refine RM.zeq (tgt := 129) (by decide +kernel) (fun c10 => ?_) (fun c10 => ?_)
              · rw [if_neg (bf c10)] at e1
                refine RM.blk [(0, 0, 0, .int 0)] (pc' := 130) (L' := [some (.ref 57), some (.int x1.1), some (.int (bI false))]) (st' := [.int 0, .int x1.1, .ref 31]) (σ1 := x1.2) (by decide +kernel) rfl ?_
                refine RN.callV [.int x1.1, .int 0] (s_Row_set (q := 31) (a := 32) (n := 240) ⟨rfl, rfl, by decide⟩ x1.2 x1.1 0) [] (pc3 := 133) (st3 := []) (by decide +kernel) mk_Row_set (by decide) ?_
                refine RM.blk [(10, 1, 0, .int (-1)), (23, 0, 0, .null)] (pc' := 10) (L' := [some (.ref 57), some (.int (x1.1 + (-1))), some (.int (bI false))]) (st' := []) (σ1 := (rs x1.2 32 240 x1.1 0)) (by decide +kernel) rfl ?_
                obtain rfl := Option.some.inj e1
                refine RN.dropB [true, true, false] rfl ?_
                exact ih1 ((x1.1 + (-1)), (rs x1.2 32 240 x1.1 0)) _ hy1 hK1
              · rw [if_pos c10] at e1
                refine RM.blk [(2, 0, 0, .null), (3, 10, 4, .null), (3, 1, 7, .null), (1, 1, 0, .null), (0, 0, 0, .int 1), (5, 0, 0, .null)] (pc' := 109) (L' := [some (.ref 57), some (.int x1.1), some (.int (bI false))]) (st' := [.int (x1.1 + 1), .ref 31, .int x1.1, .ref 31]) (σ1 := x1.2) (by decide +kernel) rfl ?_
                refine RN.callV [.int (x1.1 + 1)] (s_Row_get (q := 31) (a := 32) (n := 240) ⟨rfl, rfl, by decide⟩ x1.2 (x1.1 + 1)) [.int x1.1, .ref 31] (pc3 := 112) (st3 := [.int (rg x1.2 32 240 (x1.1 + 1)), .int x1.1, .ref 31]) (by decide +kernel) mk_Row_get (by decide) ?_
                refine RM.blk [(2, 0, 0, .null), (3, 10, 4, .null), (3, 1, 3, .null), (1, 1, 0, .null), (0, 0, 0, .int 1), (5, 0, 0, .null)] (pc' := 122) (L' := [some (.ref 57), some (.int x1.1), some (.int (bI false))]) (st' := [.int (x1.1 + 1), .ref 23, .int (rg x1.2 32 240 (x1.1 + 1)), .int x1.1, .ref 31]) (σ1 := x1.2) (by decide +kernel) rfl ?_
                refine RN.callV [.int (x1.1 + 1)] (s_Row_get (q := 23) (a := 24) (n := 240) ⟨rfl, rfl, by decide⟩ x1.2 (x1.1 + 1)) [.int (rg x1.2 32 240 (x1.1 + 1)), .int x1.1, .ref 31] (pc3 := 125) (st3 := [.int (rg x1.2 24 240 (x1.1 + 1)), .int (rg x1.2 32 240 (x1.1 + 1)), .int x1.1, .ref 31]) (by decide +kernel) mk_Row_get (by decide) ?_
                refine RM.blk [(5, 0, 0, .null), (23, 0, 0, .null)] (pc' := 130) (L' := [some (.ref 57), some (.int x1.1), some (.int (bI false))]) (st' := [.int ((rg x1.2 32 240 (x1.1 + 1)) + (rg x1.2 24 240 (x1.1 + 1))), .int x1.1, .ref 31]) (σ1 := x1.2) (by decide +kernel) rfl ?_
                refine RN.callV [.int x1.1, .int ((rg x1.2 32 240 (x1.1 + 1)) + (rg x1.2 24 240 (x1.1 + 1)))] (s_Row_set (q := 31) (a := 32) (n := 240) ⟨rfl, rfl, by decide⟩ x1.2 x1.1 ((rg x1.2 32 240 (x1.1 + 1)) + (rg x1.2 24 240 (x1.1 + 1)))) [] (pc3 := 133) (st3 := []) (by decide +kernel) mk_Row_set (by decide) ?_
                generalize ns11 : (rs x1.2 32 240 x1.1 ((rg x1.2 32 240 (x1.1 + 1)) + (rg x1.2 24 240 (x1.1 + 1)))) = s11 at e1 ⊢
                replace e1 := nm_h e1
                refine RM.blk [(10, 1, 0, .int (-1)), (23, 0, 0, .null)] (pc' := 10) (L' := [some (.ref 57), some (.int (x1.1 + (-1))), some (.int (bI false))]) (st' := []) (σ1 := s11) (by decide +kernel) rfl ?_
                obtain rfl := Option.some.inj e1
                refine RN.dropB [true, true, false] rfl ?_
                exact ih1 ((x1.1 + (-1)), s11) _ hy1 hK1
            · rw [if_pos c9] at e1
              refine RM.blk [(0, 0, 0, .int 1), (23, 0, 0, .null), (4, 2, 0, .null), (2, 0, 0, .null), (3, 10, 4, .null), (3, 1, 7, .null), (1, 1, 0, .null), (1, 2, 0, .null)] (pc' := 96) (L' := [some (.ref 57), some (.int x1.1), some (.int (bI true))]) (st' := [.int (bI true), .int x1.1, .ref 31]) (σ1 := x1.2) (by decide +kernel) rfl ?_
              refine RM.zeq (tgt := 129) (by decide +kernel) (fun c12 => ?_) (fun c12 => ?_)
              · rw [if_neg (bf c12)] at e1
                refine RM.blk [(0, 0, 0, .int 0)] (pc' := 130) (L' := [some (.ref 57), some (.int x1.1), some (.int (bI true))]) (st' := [.int 0, .int x1.1, .ref 31]) (σ1 := x1.2) (by decide +kernel) rfl ?_
                refine RN.callV [.int x1.1, .int 0] (s_Row_set (q := 31) (a := 32) (n := 240) ⟨rfl, rfl, by decide⟩ x1.2 x1.1 0) [] (pc3 := 133) (st3 := []) (by decide +kernel) mk_Row_set (by decide) ?_
                refine RM.blk [(10, 1, 0, .int (-1)), (23, 0, 0, .null)] (pc' := 10) (L' := [some (.ref 57), some (.int (x1.1 + (-1))), some (.int (bI true))]) (st' := []) (σ1 := (rs x1.2 32 240 x1.1 0)) (by decide +kernel) rfl ?_
                obtain rfl := Option.some.inj e1
                refine RN.dropB [true, true, false] rfl ?_
                exact ih1 ((x1.1 + (-1)), (rs x1.2 32 240 x1.1 0)) _ hy1 hK1
              · rw [if_pos c12] at e1
                refine RM.blk [(2, 0, 0, .null), (3, 10, 4, .null), (3, 1, 7, .null), (1, 1, 0, .null), (0, 0, 0, .int 1), (5, 0, 0, .null)] (pc' := 109) (L' := [some (.ref 57), some (.int x1.1), some (.int (bI true))]) (st' := [.int (x1.1 + 1), .ref 31, .int x1.1, .ref 31]) (σ1 := x1.2) (by decide +kernel) rfl ?_
                refine RN.callV [.int (x1.1 + 1)] (s_Row_get (q := 31) (a := 32) (n := 240) ⟨rfl, rfl, by decide⟩ x1.2 (x1.1 + 1)) [.int x1.1, .ref 31] (pc3 := 112) (st3 := [.int (rg x1.2 32 240 (x1.1 + 1)), .int x1.1, .ref 31]) (by decide +kernel) mk_Row_get (by decide) ?_
                refine RM.blk [(2, 0, 0, .null), (3, 10, 4, .null), (3, 1, 3, .null), (1, 1, 0, .null), (0, 0, 0, .int 1), (5, 0, 0, .null)] (pc' := 122) (L' := [some (.ref 57), some (.int x1.1), some (.int (bI true))]) (st' := [.int (x1.1 + 1), .ref 23, .int (rg x1.2 32 240 (x1.1 + 1)), .int x1.1, .ref 31]) (σ1 := x1.2) (by decide +kernel) rfl ?_
                refine RN.callV [.int (x1.1 + 1)] (s_Row_get (q := 23) (a := 24) (n := 240) ⟨rfl, rfl, by decide⟩ x1.2 (x1.1 + 1)) [.int (rg x1.2 32 240 (x1.1 + 1)), .int x1.1, .ref 31] (pc3 := 125) (st3 := [.int (rg x1.2 24 240 (x1.1 + 1)), .int (rg x1.2 32 240 (x1.1 + 1)), .int x1.1, .ref 31]) (by decide +kernel) mk_Row_get (by decide) ?_
                refine RM.blk [(5, 0, 0, .null), (23, 0, 0, .null)] (pc' := 130) (L' := [some (.ref 57), some (.int x1.1), some (.int (bI true))]) (st' := [.int ((rg x1.2 32 240 (x1.1 + 1)) + (rg x1.2 24 240 (x1.1 + 1))), .int x1.1, .ref 31]) (σ1 := x1.2) (by decide +kernel) rfl ?_
                refine RN.callV [.int x1.1, .int ((rg x1.2 32 240 (x1.1 + 1)) + (rg x1.2 24 240 (x1.1 + 1)))] (s_Row_set (q := 31) (a := 32) (n := 240) ⟨rfl, rfl, by decide⟩ x1.2 x1.1 ((rg x1.2 32 240 (x1.1 + 1)) + (rg x1.2 24 240 (x1.1 + 1)))) [] (pc3 := 133) (st3 := []) (by decide +kernel) mk_Row_set (by decide) ?_
                generalize ns13 : (rs x1.2 32 240 x1.1 ((rg x1.2 32 240 (x1.1 + 1)) + (rg x1.2 24 240 (x1.1 + 1)))) = s13 at e1 ⊢
                replace e1 := nm_h e1
                refine RM.blk [(10, 1, 0, .int (-1)), (23, 0, 0, .null)] (pc' := 10) (L' := [some (.ref 57), some (.int (x1.1 + (-1))), some (.int (bI true))]) (st' := []) (σ1 := s13) (by decide +kernel) rfl ?_
                obtain rfl := Option.some.inj e1
                refine RN.dropB [true, true, false] rfl ?_
                exact ih1 ((x1.1 + (-1)), s13) _ hy1 hK1
  obtain ⟨y1, hl1, h⟩ := ob_some h
  refine RN.dropB [true, true, false] rfl ?_
  refine hL1 FU (((σ 18 0) - 1), σ) y1 hl1 ?_
  obtain rfl := (Option.some.inj h)
  exact RM.retv (by decide +kernel) rfl
def M_Sheets_cutWall : MI := (yX10_cutWall, cX10_cutWall, 7, none, 10)
theorem mk_Sheets_cutWall : mOK M_Sheets_cutWall 2 = true := by decide +kernel
set_option maxRecDepth 100000 in
set_option maxHeartbeats 4000000 in
theorem s_Sheets_cutWall (σ : SG) (p0 : Int32) (p1 : Int32) (so : SG) (h : F_Sheets_cutWall σ p0 p1 = some so) : SpN 7 M_Sheets_cutWall [.ref 57, .int p0, .int p1] σ none so := by
  unfold F_Sheets_cutWall at h
  refine Sp.of mk_Sheets_cutWall rfl (Nat.le_of_ble_eq_true rfl) ?_
  refine RM.blk [(2, 0, 0, .null), (3, 10, 2, .null), (3, 3, 0, .null), (1, 2, 0, .null)] (pc' := 8) (L' := [some (.ref 57), some (.int p0), some (.int p1), none, none, none, none]) (st' := [.int p1, .int (σ 1 0)]) (σ1 := σ) (by decide +kernel) rfl ?_
  obtain ⟨v1, hv1, h⟩ := ob_some h
  refine RN.callS [.int (σ 1 0), .int p1] (s_Shop_roundedUp σ (σ 1 0) p1 v1 hv1) [] (pc3 := 11) (st3 := [.int v1]) (by decide +kernel) mk_Shop_roundedUp (by decide) ?_
  refine RM.blk [(4, 3, 0, .null), (2, 0, 0, .null), (2, 0, 0, .null), (3, 10, 2, .null), (3, 3, 1, .null), (1, 1, 0, .null)] (pc' := 21) (L' := [some (.ref 57), some (.int p0), some (.int p1), some (.int v1), none, none, none]) (st' := [.int p0, .int (σ 1 1), .ref 57]) (σ1 := σ) (by decide +kernel) rfl ?_
  obtain ⟨v2, hv2, h⟩ := ob_some h
  refine RN.callS [.int (σ 1 1), .int p0] (s_Shop_roundedUp σ (σ 1 1) p0 v2 hv2) [.ref 57] (pc3 := 24) (st3 := [.int v2, .ref 57]) (by decide +kernel) mk_Shop_roundedUp (by decide) ?_
  refine RM.blk [(1, 3, 0, .null), (7, 0, 0, .null), (15, 10, 0, .null), (2, 0, 0, .null), (3, 10, 1, .null), (0, 0, 0, .int 0)] (pc' := 34) (L' := [some (.ref 57), some (.int p0), some (.int p1), some (.int v1), none, none, none]) (st' := [.int 0, .ref 58]) (σ1 := (up σ 57 0 (v2 * v1))) (by decide +kernel) rfl ?_
  refine RN.callV [.int 0] (s_Row_fill (q := 58) (a := 59) (n := 240) ⟨rfl, rfl, by decide⟩ (up σ 57 0 (v2 * v1)) 0) [] (pc3 := 37) (st3 := []) (by decide +kernel) mk_Row_fill (by decide) ?_
  refine RM.blk [(0, 0, 0, .int 0), (4, 4, 0, .null)] (pc' := 40) (L' := [some (.ref 57), some (.int p0), some (.int p1), some (.int v1), some (.int 0), none, none]) (st' := []) (σ1 := (rf (up σ 57 0 (v2 * v1)) 59 240 0)) (by decide +kernel) rfl ?_
  have hL3 : ∀ (n : Nat) (x3 : Int32 × SG) (y3 : SG), lpW (L_Sheets_cutWall_40 p0 p1 v1) n x3 = some y3 → RN 7 M_Sheets_cutWall none so 129 [some (.ref 57), none, none, none, none, none, none] [] y3 → RN 7 M_Sheets_cutWall none so 40 [some (.ref 57), some (.int p0), some (.int p1), some (.int v1), some (.int x3.1), none, none] [] x3.2 := by
    intro n
    induction n with
    | zero => intro x3 y3 hy3; cases hy3
    | succ n ih3 =>
      intro x3 y3 hy3 hK3
      obtain ⟨z3, e3, hy3⟩ := ob_some hy3
      unfold L_Sheets_cutWall_40 at e3
      refine RM.blk [(1, 4, 0, .null), (2, 0, 0, .null), (3, 10, 4, .null), (3, 1, 0, .null)] (pc' := 49) (L' := [some (.ref 57), some (.int p0), some (.int p1), some (.int (v1)), some (.int x3.1), none, none]) (st' := [.int (x3.2 18 0), .int x3.1]) (σ1 := x3.2) (by decide +kernel) rfl ?_
      refine RM.icmp_ge (tgt := 129) (by decide +kernel) (fun c4 => ?_) (fun c4 => ?_)
      · rw [if_pos c4] at e3
        obtain rfl := Option.some.inj e3
        obtain rfl := Option.some.inj (show some (x3.2 : SG) = some y3 from hy3)
        refine RN.dropB [true, false, false, false, false, false, false] rfl ?_
        exact hK3
      · rw [if_neg c4] at e3
        refine RM.blk [(2, 0, 0, .null), (3, 10, 4, .null), (3, 1, 1, .null), (1, 4, 0, .null)] (pc' := 61) (L' := [some (.ref 57), some (.int p0), some (.int p1), some (.int (v1)), some (.int x3.1), none, none]) (st' := [.int x3.1, .ref 19]) (σ1 := x3.2) (by decide +kernel) rfl ?_
        refine RN.callV [.int x3.1] (s_Row_get (q := 19) (a := 20) (n := 240) ⟨rfl, rfl, by decide⟩ x3.2 x3.1) [] (pc3 := 64) (st3 := [.int (rg x3.2 20 240 x3.1)]) (by decide +kernel) mk_Row_get (by decide) ?_
        refine RM.blk [(0, 0, 0, .int 1), (5, 0, 0, .null), (1, 1, 0, .null)] (pc' := 67) (L' := [some (.ref 57), some (.int p0), some (.int p1), some (.int (v1)), some (.int x3.1), none, none]) (st' := [.int p0, .int ((rg x3.2 20 240 x3.1) + 1)]) (σ1 := x3.2) (by decide +kernel) rfl ?_
        obtain ⟨v5, hv5, e3⟩ := ob_some e3
        refine RN.callS [.int ((rg x3.2 20 240 x3.1) + 1), .int p0] (s_Shop_roundedUp x3.2 ((rg x3.2 20 240 x3.1) + 1) p0 v5 hv5) [] (pc3 := 70) (st3 := [.int v5]) (by decide +kernel) mk_Shop_roundedUp (by decide) ?_
        refine RM.blk [(0, 0, 0, .int 1), (6, 0, 0, .null), (4, 5, 0, .null), (1, 5, 0, .null), (1, 3, 0, .null), (7, 0, 0, .null), (2, 0, 0, .null), (1, 4, 0, .null), (1, 2, 0, .null)] (pc' := 82) (L' := [some (.ref 57), some (.int p0), some (.int p1), some (.int (v1)), some (.int x3.1), some (.int (v5 - 1)), none]) (st' := [.int p1, .int x3.1, .ref 57, .int ((v5 - 1) * v1)]) (σ1 := x3.2) (by decide +kernel) rfl ?_
        obtain ⟨v6, hv6, e3⟩ := ob_some e3
        refine RN.callV [.int x3.1, .int p1] (s_Sheets_cutsLeftOf x3.2 x3.1 p1 v6 hv6) [.int ((v5 - 1) * v1)] (pc3 := 85) (st3 := [.int v6, .int ((v5 - 1) * v1)]) (by decide +kernel) mk_Sheets_cutsLeftOf (by decide) ?_
        refine RM.blk [(5, 0, 0, .null), (4, 6, 0, .null), (2, 0, 0, .null), (3, 10, 4, .null), (3, 1, 6, .null), (1, 4, 0, .null), (1, 6, 0, .null)] (pc' := 99) (L' := [some (.ref 57), some (.int p0), some (.int p1), some (.int (v1)), some (.int x3.1), some (.int (v5 - 1)), some (.int (((v5 - 1) * v1) + v6))]) (st' := [.int (((v5 - 1) * v1) + v6), .int x3.1, .ref 29]) (σ1 := x3.2) (by decide +kernel) rfl ?_
        refine RN.callV [.int x3.1, .int (((v5 - 1) * v1) + v6)] (s_Row_set (q := 29) (a := 30) (n := 240) ⟨rfl, rfl, by decide⟩ x3.2 x3.1 (((v5 - 1) * v1) + v6)) [] (pc3 := 102) (st3 := []) (by decide +kernel) mk_Row_set (by decide) ?_
        generalize ns7 : (rs x3.2 30 240 x3.1 (((v5 - 1) * v1) + v6)) = s7 at e3 ⊢
        replace e3 := nm_h e3
        refine RM.blk [(2, 0, 0, .null), (3, 10, 1, .null), (1, 6, 0, .null), (2, 0, 0, .null), (3, 10, 4, .null), (3, 1, 3, .null), (1, 4, 0, .null)] (pc' := 117) (L' := [some (.ref 57), some (.int p0), some (.int p1), some (.int (v1)), some (.int x3.1), some (.int (v5 - 1)), some (.int (((v5 - 1) * v1) + v6))]) (st' := [.int x3.1, .ref 23, .int (((v5 - 1) * v1) + v6), .ref 58]) (σ1 := s7) (by decide +kernel) rfl ?_
        refine RN.callV [.int x3.1] (s_Row_get (q := 23) (a := 24) (n := 240) ⟨rfl, rfl, by decide⟩ s7 x3.1) [.int (((v5 - 1) * v1) + v6), .ref 58] (pc3 := 120) (st3 := [.int (rg s7 24 240 x3.1), .int (((v5 - 1) * v1) + v6), .ref 58]) (by decide +kernel) mk_Row_get (by decide) ?_
        refine RN.callV [.int (((v5 - 1) * v1) + v6), .int (rg s7 24 240 x3.1)] (s_Row_add (q := 58) (a := 59) (n := 240) ⟨rfl, rfl, by decide⟩ s7 (((v5 - 1) * v1) + v6) (rg s7 24 240 x3.1)) [] (pc3 := 123) (st3 := []) (by decide +kernel) mk_Row_add (by decide) ?_
        generalize ns8 : (ra s7 59 240 (((v5 - 1) * v1) + v6) (rg s7 24 240 x3.1)) = s8 at e3 ⊢
        replace e3 := nm_h e3
        refine RM.blk [(10, 4, 0, .int 1), (23, 0, 0, .null)] (pc' := 40) (L' := [some (.ref 57), some (.int p0), some (.int p1), some (.int (v1)), some (.int (x3.1 + 1)), some (.int (v5 - 1)), some (.int (((v5 - 1) * v1) + v6))]) (st' := []) (σ1 := s8) (by decide +kernel) rfl ?_
        obtain rfl := Option.some.inj e3
        refine RN.dropB [true, true, true, true, true, false, false] rfl ?_
        exact ih3 ((x3.1 + 1), s8) _ hy3 hK3
  obtain ⟨y3, hl3, h⟩ := ob_some h
  refine RN.dropB [true, true, true, true, true, false, false] rfl ?_
  refine hL3 FU (0, (rf (up σ 57 0 (v2 * v1)) 59 240 0)) y3 hl3 ?_
  refine RM.blk [(2, 0, 0, .null)] (pc' := 130) (L' := [some (.ref 57), none, none, none, none, none, none]) (st' := [.ref 57]) (σ1 := y3) (by decide +kernel) rfl ?_
  obtain ⟨v9, hv9, h⟩ := ob_some h
  refine RN.callV [] (s_Sheets_turnOver y3 v9 hv9) [] (pc3 := 133) (st3 := []) (by decide +kernel) mk_Sheets_turnOver (by decide) ?_
  obtain rfl := (Option.some.inj h)
  exact RM.retv (by decide +kernel) rfl
def M_Shop_cut : MI := (yX11_cut, cX11_cut, 3, some .int, 11)
theorem mk_Shop_cut : mOK M_Shop_cut 2 = true := by decide +kernel
set_option maxRecDepth 100000 in
set_option maxHeartbeats 4000000 in
theorem s_Shop_cut (σ : SG) (p0 : Int32) (p1 : Int32) (rr : Int32) (so : SG) (h : F_Shop_cut σ p0 p1 = some (rr, so)) : SpN 8 M_Shop_cut [.ref 0, .int p0, .int p1] σ (some (.int rr)) so := by
  unfold F_Shop_cut at h
  refine Sp.of mk_Shop_cut rfl (Nat.le_of_ble_eq_true rfl) ?_
  refine RM.blk [(1, 1, 0, .null), (0, 0, 0, .int 1), (0, 0, 0, .int 10)] (pc' := 4) (L' := [some (.ref 0), some (.int p0), some (.int p1)]) (st' := [.int 10, .int 1, .int p0]) (σ1 := σ) (by decide +kernel) rfl ?_
  refine RN.callS [.int p0, .int 1, .int 10] (s_Shop_within σ p0 1 10) [] (pc3 := 7) (st3 := [.int (bI (F_Shop_within p0 1 10))]) (by decide +kernel) mk_Shop_within (by decide) ?_
  refine RM.zeq (tgt := 20) (by decide +kernel) (fun c1 => ?_) (fun c1 => ?_)
  · rw [if_neg (bf c1)] at h
    refine RM.blk [(0, 0, 0, .int (-2))] (pc' := 22) (L' := [some (.ref 0), some (.int p0), some (.int p1)]) (st' := [.int (-2)]) (σ1 := σ) (by decide +kernel) rfl ?_
    obtain ⟨rfl, rfl⟩ := Prod.mk.inj (Option.some.inj h)
    exact RM.reti (by decide +kernel) rfl
  · rw [if_pos c1] at h
    refine RM.blk [(1, 2, 0, .null), (0, 0, 0, .int 1), (0, 0, 0, .int 24)] (pc' := 14) (L' := [some (.ref 0), some (.int p0), some (.int p1)]) (st' := [.int 24, .int 1, .int p1]) (σ1 := σ) (by decide +kernel) rfl ?_
    refine RN.callS [.int p1, .int 1, .int 24] (s_Shop_within σ p1 1 24) [] (pc3 := 17) (st3 := [.int (bI (F_Shop_within p1 1 24))]) (by decide +kernel) mk_Shop_within (by decide) ?_
    refine RM.zne (tgt := 23) (by decide +kernel) (fun c2 => ?_) (fun c2 => ?_)
    · rw [if_pos c2] at h
      refine RM.blk [(2, 0, 0, .null)] (pc' := 24) (L' := [some (.ref 0), some (.int p0), some (.int p1)]) (st' := [.ref 0]) (σ1 := σ) (by decide +kernel) rfl ?_
      refine RN.callV [] (s_Shop_isLaid σ) [] (pc3 := 27) (st3 := [.int (bI (F_Shop_isLaid σ))]) (by decide +kernel) mk_Shop_isLaid (by decide) ?_
      refine RM.zne (tgt := 33) (by decide +kernel) (fun c3 => ?_) (fun c3 => ?_)
      · rw [if_pos c3] at h
        refine RM.blk [(2, 0, 0, .null), (3, 11, 6, .null), (1, 1, 0, .null), (1, 2, 0, .null)] (pc' := 39) (L' := [some (.ref 0), some (.int p0), some (.int p1)]) (st' := [.int p1, .int p0, .ref 57]) (σ1 := σ) (by decide +kernel) rfl ?_
        obtain ⟨v4, hv4, h⟩ := ob_some h
        refine RN.callV [.int p0, .int p1] (s_Sheets_cutWall σ p0 p1 v4 hv4) [] (pc3 := 42) (st3 := []) (by decide +kernel) mk_Sheets_cutWall (by decide) ?_
        refine RM.blk [(2, 0, 0, .null), (3, 11, 6, .null), (3, 10, 0, .null)] (pc' := 49) (L' := [some (.ref 0), some (.int p0), some (.int p1)]) (st' := [.int (v4 57 0)]) (σ1 := v4) (by decide +kernel) rfl ?_
        obtain ⟨rfl, rfl⟩ := Prod.mk.inj (Option.some.inj h)
        exact RM.reti (by decide +kernel) rfl
      · rw [if_neg (bf c3)] at h
        refine RM.blk [(0, 0, 0, .int (-3))] (pc' := 32) (L' := [some (.ref 0), some (.int p0), some (.int p1)]) (st' := [.int (-3)]) (σ1 := σ) (by decide +kernel) rfl ?_
        obtain ⟨rfl, rfl⟩ := Prod.mk.inj (Option.some.inj h)
        exact RM.reti (by decide +kernel) rfl
    · rw [if_neg (bf c2)] at h
      refine RM.blk [(0, 0, 0, .int (-2))] (pc' := 22) (L' := [some (.ref 0), some (.int p0), some (.int p1)]) (st' := [.int (-2)]) (σ1 := σ) (by decide +kernel) rfl ?_
      obtain ⟨rfl, rfl⟩ := Prod.mk.inj (Option.some.inj h)
      exact RM.reti (by decide +kernel) rfl
def M_Shop_isCut : MI := (yX11_isCut, cX11_isCut, 1, some .boolean, 11)
theorem mk_Shop_isCut : mOK M_Shop_isCut 0 = true := by decide +kernel
set_option maxRecDepth 100000 in
set_option maxHeartbeats 4000000 in
theorem s_Shop_isCut (σ : SG) : SpN 1 M_Shop_isCut [.ref 0] σ (some (.int (bI (F_Shop_isCut σ)))) σ := by
  generalize h : F_Shop_isCut σ = rr
  unfold F_Shop_isCut at h
  refine Sp.of mk_Shop_isCut rfl (Nat.le_of_ble_eq_true rfl) ?_
  refine RM.blk [(2, 0, 0, .null), (3, 11, 6, .null), (3, 10, 0, .null)] (pc' := 7) (L' := [some (.ref 0)]) (st' := [.int (σ 57 0)]) (σ1 := σ) (by decide +kernel) rfl ?_
  refine RM.if_le (tgt := 14) (by decide +kernel) (fun c1 => ?_) (fun c1 => ?_)
  · rw [if_pos c1] at h
    refine RM.blk [(0, 0, 0, .int 0)] (pc' := 15) (L' := [some (.ref 0)]) (st' := [.int 0]) (σ1 := σ) (by decide +kernel) rfl ?_
    obtain rfl := h
    exact RM.retz (z := false) (by decide +kernel) rfl
  · rw [if_neg c1] at h
    refine RM.blk [(0, 0, 0, .int 1), (23, 0, 0, .null)] (pc' := 15) (L' := [some (.ref 0)]) (st' := [.int 1]) (σ1 := σ) (by decide +kernel) rfl ?_
    obtain rfl := h
    exact RM.retz (z := true) (by decide +kernel) rfl
def M_Shop_maySheet : MI := (yX11_maySheet, cX11_maySheet, 2, some .boolean, 11)
theorem mk_Shop_maySheet : mOK M_Shop_maySheet 1 = true := by decide +kernel
set_option maxRecDepth 100000 in
set_option maxHeartbeats 4000000 in
theorem s_Shop_maySheet (σ : SG) (p0 : Int32) : SpN 2 M_Shop_maySheet [.ref 0, .int p0] σ (some (.int (bI (F_Shop_maySheet σ p0)))) σ := by
  generalize h : F_Shop_maySheet σ p0 = rr
  unfold F_Shop_maySheet at h
  refine Sp.of mk_Shop_maySheet rfl (Nat.le_of_ble_eq_true rfl) ?_
  refine RM.blk [(1, 1, 0, .null)] (pc' := 1) (L' := [some (.ref 0), some (.int p0)]) (st' := [.int p0]) (σ1 := σ) (by decide +kernel) rfl ?_
  refine RM.if_lt (tgt := 26) (by decide +kernel) (fun c1 => ?_) (fun c1 => ?_)
  · rw [if_pos c1] at h
    refine RM.blk [(0, 0, 0, .int 0)] (pc' := 27) (L' := [some (.ref 0), some (.int p0)]) (st' := [.int 0]) (σ1 := σ) (by decide +kernel) rfl ?_
    obtain rfl := h
    exact RM.retz (z := false) (by decide +kernel) rfl
  · rw [if_neg c1] at h
    refine RM.blk [(2, 0, 0, .null)] (pc' := 5) (L' := [some (.ref 0), some (.int p0)]) (st' := [.ref 0]) (σ1 := σ) (by decide +kernel) rfl ?_
    refine RN.callV [] (s_Shop_isCut σ) [] (pc3 := 8) (st3 := [.int (bI (F_Shop_isCut σ))]) (by decide +kernel) mk_Shop_isCut (by decide) ?_
    refine RM.zeq (tgt := 22) (by decide +kernel) (fun c2 => ?_) (fun c2 => ?_)
    · rw [if_neg (bf c2)] at h
      refine RM.blk [(0, 0, 0, .int 1), (23, 0, 0, .null)] (pc' := 27) (L' := [some (.ref 0), some (.int p0)]) (st' := [.int 1]) (σ1 := σ) (by decide +kernel) rfl ?_
      obtain rfl := h
      exact RM.retz (z := true) (by decide +kernel) rfl
    · rw [if_pos c2] at h
      refine RM.blk [(1, 1, 0, .null), (2, 0, 0, .null), (3, 11, 6, .null), (3, 10, 0, .null)] (pc' := 19) (L' := [some (.ref 0), some (.int p0)]) (st' := [.int (σ 57 0), .int p0]) (σ1 := σ) (by decide +kernel) rfl ?_
      refine RM.icmp_ge (tgt := 26) (by decide +kernel) (fun c3 => ?_) (fun c3 => ?_)
      · rw [if_pos c3] at h
        refine RM.blk [(0, 0, 0, .int 0)] (pc' := 27) (L' := [some (.ref 0), some (.int p0)]) (st' := [.int 0]) (σ1 := σ) (by decide +kernel) rfl ?_
        obtain rfl := h
        exact RM.retz (z := false) (by decide +kernel) rfl
      · rw [if_neg c3] at h
        refine RM.blk [(0, 0, 0, .int 1), (23, 0, 0, .null)] (pc' := 27) (L' := [some (.ref 0), some (.int p0)]) (st' := [.int 1]) (σ1 := σ) (by decide +kernel) rfl ?_
        obtain rfl := h
        exact RM.retz (z := true) (by decide +kernel) rfl
def M_Sheets_cubesOn : MI := (yX10_cubesOn, cX10_cubesOn, 4, some .int, 10)
theorem mk_Sheets_cubesOn : mOK M_Sheets_cubesOn 1 = true := by decide +kernel
set_option maxRecDepth 100000 in
set_option maxHeartbeats 4000000 in
theorem s_Sheets_cubesOn (σ : SG) (p0 : Int32) (rr : Int32) (h : F_Sheets_cubesOn σ p0 = some rr) : SpN 3 M_Sheets_cubesOn [.ref 57, .int p0] σ (some (.int rr)) σ := by
  unfold F_Sheets_cubesOn at h
  refine Sp.of mk_Sheets_cubesOn rfl (Nat.le_of_ble_eq_true rfl) ?_
  refine RM.blk [(0, 0, 0, .int 0), (4, 2, 0, .null), (0, 0, 0, .int 0), (4, 3, 0, .null)] (pc' := 4) (L' := [some (.ref 57), some (.int p0), some (.int 0), some (.int 0)]) (st' := []) (σ1 := σ) (by decide +kernel) rfl ?_
  have hL1 : ∀ (n : Nat) (x1 : Int32 × Int32) (y1 : Int32), lpW (L_Sheets_cubesOn_4 σ p0) n x1 = some y1 → RN 3 M_Sheets_cubesOn (some (.int rr)) σ 39 [none, none, some (.int y1), none] [] σ → RN 3 M_Sheets_cubesOn (some (.int rr)) σ 4 [some (.ref 57), some (.int p0), some (.int x1.1), some (.int x1.2)] [] σ := by
    intro n
    induction n with
    | zero => intro x1 y1 hy1; cases hy1
    | succ n ih1 =>
      intro x1 y1 hy1 hK1
      obtain ⟨z1, e1, hy1⟩ := ob_some hy1
      unfold L_Sheets_cubesOn_4 at e1
      refine RM.blk [(1, 3, 0, .null), (2, 0, 0, .null), (3, 10, 4, .null), (3, 1, 0, .null)] (pc' := 12) (L' := [some (.ref 57), some (.int p0), some (.int x1.1), some (.int x1.2)]) (st' := [.int (σ 18 0), .int x1.2]) (σ1 := σ) (by decide +kernel) rfl ?_
      refine RM.icmp_ge (tgt := 39) (by decide +kernel) (fun c2 => ?_) (fun c2 => ?_)
      · rw [if_pos c2] at e1
        obtain rfl := Option.some.inj e1
        obtain rfl := Option.some.inj (show some (x1.1 : Int32) = some y1 from hy1)
        refine RN.dropB [false, false, true, false] rfl ?_
        exact hK1
      · rw [if_neg c2] at e1
        refine RM.blk [(2, 0, 0, .null), (3, 10, 4, .null), (3, 1, 6, .null), (1, 3, 0, .null)] (pc' := 23) (L' := [some (.ref 57), some (.int p0), some (.int x1.1), some (.int x1.2)]) (st' := [.int x1.2, .ref 29]) (σ1 := σ) (by decide +kernel) rfl ?_
        refine RN.callV [.int x1.2] (s_Row_get (q := 29) (a := 30) (n := 240) ⟨rfl, rfl, by decide⟩ σ x1.2) [] (pc3 := 26) (st3 := [.int (rg σ 30 240 x1.2)]) (by decide +kernel) mk_Row_get (by decide) ?_
        refine RM.blk [(1, 1, 0, .null)] (pc' := 27) (L' := [some (.ref 57), some (.int p0), some (.int x1.1), some (.int x1.2)]) (st' := [.int p0, .int (rg σ 30 240 x1.2)]) (σ1 := σ) (by decide +kernel) rfl ?_
        refine RM.icmp_ne (tgt := 33) (by decide +kernel) (fun c3 => ?_) (fun c3 => ?_)
        · rw [if_neg c3] at e1
          refine RM.blk [(10, 3, 0, .int 1), (23, 0, 0, .null)] (pc' := 4) (L' := [some (.ref 57), some (.int p0), some (.int x1.1), some (.int (x1.2 + 1))]) (st' := []) (σ1 := σ) (by decide +kernel) rfl ?_
          obtain rfl := Option.some.inj e1
          refine RN.dropB [true, true, true, true] rfl ?_
          exact ih1 (x1.1, (x1.2 + 1)) _ hy1 hK1
        · rw [if_pos c3] at e1
          refine RM.blk [(10, 2, 0, .int 1), (10, 3, 0, .int 1), (23, 0, 0, .null)] (pc' := 4) (L' := [some (.ref 57), some (.int p0), some (.int (x1.1 + 1)), some (.int (x1.2 + 1))]) (st' := []) (σ1 := σ) (by decide +kernel) rfl ?_
          obtain rfl := Option.some.inj e1
          refine RN.dropB [true, true, true, true] rfl ?_
          exact ih1 ((x1.1 + 1), (x1.2 + 1)) _ hy1 hK1
  obtain ⟨y1, hl1, h⟩ := ob_some h
  refine RN.dropB [true, true, true, true] rfl ?_
  refine hL1 FU (0, 0) y1 hl1 ?_
  refine RM.blk [(1, 2, 0, .null)] (pc' := 40) (L' := [none, none, some (.int y1), none]) (st' := [.int y1]) (σ1 := σ) (by decide +kernel) rfl ?_
  obtain rfl := (Option.some.inj h)
  exact RM.reti (by decide +kernel) rfl
def M_Sheets_placesMarked : MI := (yX10_placesMarked, cX10_placesMarked, 5, some .int, 10)
theorem mk_Sheets_placesMarked : mOK M_Sheets_placesMarked 2 = true := by decide +kernel
set_option maxRecDepth 100000 in
set_option maxHeartbeats 4000000 in
theorem s_Sheets_placesMarked_14 (σ : SG) (p0 : Int32) (rr : Int32) (h : F_Sheets_placesMarked_14 σ p0 = some rr) : SpN 3 M_Sheets_placesMarked [.ref 57, .int p0, .ref 14] σ (some (.int rr)) σ := by
  unfold F_Sheets_placesMarked_14 at h
  refine Sp.of mk_Sheets_placesMarked rfl (Nat.le_of_ble_eq_true rfl) ?_
  refine RM.blk [(0, 0, 0, .int 0), (4, 3, 0, .null), (0, 0, 0, .int 0), (4, 4, 0, .null)] (pc' := 5) (L' := [some (.ref 57), some (.int p0), some (.ref 14), some (.int 0), some (.int 0)]) (st' := []) (σ1 := σ) (by decide +kernel) rfl ?_
  have hL1 : ∀ (n : Nat) (x1 : Int32 × Int32) (y1 : Int32), lpW (L_Sheets_placesMarked_14_5 σ p0) n x1 = some y1 → RN 3 M_Sheets_placesMarked (some (.int rr)) σ 74 [none, none, none, some (.int y1), none] [] σ → RN 3 M_Sheets_placesMarked (some (.int rr)) σ 5 [some (.ref 57), some (.int p0), some (.ref 14), some (.int x1.1), some (.int x1.2)] [] σ := by
    intro n
    induction n with
    | zero => intro x1 y1 hy1; cases hy1
    | succ n ih1 =>
      intro x1 y1 hy1 hK1
      obtain ⟨z1, e1, hy1⟩ := ob_some hy1
      unfold L_Sheets_placesMarked_14_5 at e1
      refine RM.blk [(1, 4, 0, .null), (2, 0, 0, .null), (3, 10, 4, .null), (3, 1, 0, .null)] (pc' := 14) (L' := [some (.ref 57), some (.int p0), some (.ref 14), some (.int x1.1), some (.int x1.2)]) (st' := [.int (σ 18 0), .int x1.2]) (σ1 := σ) (by decide +kernel) rfl ?_
      refine RM.icmp_ge (tgt := 74) (by decide +kernel) (fun c2 => ?_) (fun c2 => ?_)
      · rw [if_pos c2] at e1
        obtain rfl := Option.some.inj e1
        obtain rfl := Option.some.inj (show some (x1.1 : Int32) = some y1 from hy1)
        refine RN.dropB [false, false, false, true, false] rfl ?_
        exact hK1
      · rw [if_neg c2] at e1
        refine RM.blk [(2, 0, 0, .null), (3, 10, 4, .null), (3, 1, 6, .null), (1, 4, 0, .null)] (pc' := 26) (L' := [some (.ref 57), some (.int p0), some (.ref 14), some (.int x1.1), some (.int x1.2)]) (st' := [.int x1.2, .ref 29]) (σ1 := σ) (by decide +kernel) rfl ?_
        refine RN.callV [.int x1.2] (s_Row_get (q := 29) (a := 30) (n := 240) ⟨rfl, rfl, by decide⟩ σ x1.2) [] (pc3 := 29) (st3 := [.int (rg σ 30 240 x1.2)]) (by decide +kernel) mk_Row_get (by decide) ?_
        refine RM.blk [(1, 1, 0, .null)] (pc' := 30) (L' := [some (.ref 57), some (.int p0), some (.ref 14), some (.int x1.1), some (.int x1.2)]) (st' := [.int p0, .int (rg σ 30 240 x1.2)]) (σ1 := σ) (by decide +kernel) rfl ?_
        refine RM.icmp_ne (tgt := 68) (by decide +kernel) (fun c3 => ?_) (fun c3 => ?_)
        · rw [if_neg c3] at e1
          refine RM.blk [(10, 4, 0, .int 1), (23, 0, 0, .null)] (pc' := 5) (L' := [some (.ref 57), some (.int p0), some (.ref 14), some (.int x1.1), some (.int (x1.2 + 1))]) (st' := []) (σ1 := σ) (by decide +kernel) rfl ?_
          obtain rfl := Option.some.inj e1
          refine RN.dropB [true, true, true, true, true] rfl ?_
          exact ih1 (x1.1, (x1.2 + 1)) _ hy1 hK1
        · rw [if_pos c3] at e1
          refine RM.blk [(2, 2, 0, .null), (2, 0, 0, .null), (3, 10, 4, .null), (3, 1, 4, .null), (1, 4, 0, .null)] (pc' := 43) (L' := [some (.ref 57), some (.int p0), some (.ref 14), some (.int x1.1), some (.int x1.2)]) (st' := [.int x1.2, .ref 25, .ref 14]) (σ1 := σ) (by decide +kernel) rfl ?_
          refine RN.callV [.int x1.2] (s_Row_get (q := 25) (a := 26) (n := 240) ⟨rfl, rfl, by decide⟩ σ x1.2) [.ref 14] (pc3 := 46) (st3 := [.int (rg σ 26 240 x1.2), .ref 14]) (by decide +kernel) mk_Row_get (by decide) ?_
          refine RN.callV [.int (rg σ 26 240 x1.2)] (s_Row_get (q := 14) (a := 15) (n := 8) ⟨rfl, rfl, by decide⟩ σ (rg σ 26 240 x1.2)) [] (pc3 := 49) (st3 := [.int (rg σ 15 8 (rg σ 26 240 x1.2))]) (by decide +kernel) mk_Row_get (by decide) ?_
          refine RM.blk [(0, 0, 0, .int 1)] (pc' := 50) (L' := [some (.ref 57), some (.int p0), some (.ref 14), some (.int x1.1), some (.int x1.2)]) (st' := [.int 1, .int (rg σ 15 8 (rg σ 26 240 x1.2))]) (σ1 := σ) (by decide +kernel) rfl ?_
          refine RM.icmp_ne (tgt := 68) (by decide +kernel) (fun c4 => ?_) (fun c4 => ?_)
          · rw [if_neg c4] at e1
            refine RM.blk [(10, 4, 0, .int 1), (23, 0, 0, .null)] (pc' := 5) (L' := [some (.ref 57), some (.int p0), some (.ref 14), some (.int x1.1), some (.int (x1.2 + 1))]) (st' := []) (σ1 := σ) (by decide +kernel) rfl ?_
            obtain rfl := Option.some.inj e1
            refine RN.dropB [true, true, true, true, true] rfl ?_
            exact ih1 (x1.1, (x1.2 + 1)) _ hy1 hK1
          · rw [if_pos c4] at e1
            refine RM.blk [(1, 3, 0, .null), (2, 0, 0, .null), (3, 10, 4, .null), (3, 1, 3, .null), (1, 4, 0, .null)] (pc' := 63) (L' := [some (.ref 57), some (.int p0), some (.ref 14), some (.int x1.1), some (.int x1.2)]) (st' := [.int x1.2, .ref 23, .int x1.1]) (σ1 := σ) (by decide +kernel) rfl ?_
            refine RN.callV [.int x1.2] (s_Row_get (q := 23) (a := 24) (n := 240) ⟨rfl, rfl, by decide⟩ σ x1.2) [.int x1.1] (pc3 := 66) (st3 := [.int (rg σ 24 240 x1.2), .int x1.1]) (by decide +kernel) mk_Row_get (by decide) ?_
            refine RM.blk [(5, 0, 0, .null), (4, 3, 0, .null), (10, 4, 0, .int 1), (23, 0, 0, .null)] (pc' := 5) (L' := [some (.ref 57), some (.int p0), some (.ref 14), some (.int (x1.1 + (rg σ 24 240 x1.2))), some (.int (x1.2 + 1))]) (st' := []) (σ1 := σ) (by decide +kernel) rfl ?_
            obtain rfl := Option.some.inj e1
            refine RN.dropB [true, true, true, true, true] rfl ?_
            exact ih1 ((x1.1 + (rg σ 24 240 x1.2)), (x1.2 + 1)) _ hy1 hK1
  obtain ⟨y1, hl1, h⟩ := ob_some h
  refine RN.dropB [true, true, true, true, true] rfl ?_
  refine hL1 FU (0, 0) y1 hl1 ?_
  refine RM.blk [(1, 3, 0, .null)] (pc' := 75) (L' := [none, none, none, some (.int y1), none]) (st' := [.int y1]) (σ1 := σ) (by decide +kernel) rfl ?_
  obtain rfl := (Option.some.inj h)
  exact RM.reti (by decide +kernel) rfl
set_option maxRecDepth 100000 in
set_option maxHeartbeats 4000000 in
theorem s_Sheets_placesMarked_16 (σ : SG) (p0 : Int32) (rr : Int32) (h : F_Sheets_placesMarked_16 σ p0 = some rr) : SpN 3 M_Sheets_placesMarked [.ref 57, .int p0, .ref 16] σ (some (.int rr)) σ := by
  unfold F_Sheets_placesMarked_16 at h
  refine Sp.of mk_Sheets_placesMarked rfl (Nat.le_of_ble_eq_true rfl) ?_
  refine RM.blk [(0, 0, 0, .int 0), (4, 3, 0, .null), (0, 0, 0, .int 0), (4, 4, 0, .null)] (pc' := 5) (L' := [some (.ref 57), some (.int p0), some (.ref 16), some (.int 0), some (.int 0)]) (st' := []) (σ1 := σ) (by decide +kernel) rfl ?_
  have hL1 : ∀ (n : Nat) (x1 : Int32 × Int32) (y1 : Int32), lpW (L_Sheets_placesMarked_16_5 σ p0) n x1 = some y1 → RN 3 M_Sheets_placesMarked (some (.int rr)) σ 74 [none, none, none, some (.int y1), none] [] σ → RN 3 M_Sheets_placesMarked (some (.int rr)) σ 5 [some (.ref 57), some (.int p0), some (.ref 16), some (.int x1.1), some (.int x1.2)] [] σ := by
    intro n
    induction n with
    | zero => intro x1 y1 hy1; cases hy1
    | succ n ih1 =>
      intro x1 y1 hy1 hK1
      obtain ⟨z1, e1, hy1⟩ := ob_some hy1
      unfold L_Sheets_placesMarked_16_5 at e1
      refine RM.blk [(1, 4, 0, .null), (2, 0, 0, .null), (3, 10, 4, .null), (3, 1, 0, .null)] (pc' := 14) (L' := [some (.ref 57), some (.int p0), some (.ref 16), some (.int x1.1), some (.int x1.2)]) (st' := [.int (σ 18 0), .int x1.2]) (σ1 := σ) (by decide +kernel) rfl ?_
      refine RM.icmp_ge (tgt := 74) (by decide +kernel) (fun c2 => ?_) (fun c2 => ?_)
      · rw [if_pos c2] at e1
        obtain rfl := Option.some.inj e1
        obtain rfl := Option.some.inj (show some (x1.1 : Int32) = some y1 from hy1)
        refine RN.dropB [false, false, false, true, false] rfl ?_
        exact hK1
      · rw [if_neg c2] at e1
        refine RM.blk [(2, 0, 0, .null), (3, 10, 4, .null), (3, 1, 6, .null), (1, 4, 0, .null)] (pc' := 26) (L' := [some (.ref 57), some (.int p0), some (.ref 16), some (.int x1.1), some (.int x1.2)]) (st' := [.int x1.2, .ref 29]) (σ1 := σ) (by decide +kernel) rfl ?_
        refine RN.callV [.int x1.2] (s_Row_get (q := 29) (a := 30) (n := 240) ⟨rfl, rfl, by decide⟩ σ x1.2) [] (pc3 := 29) (st3 := [.int (rg σ 30 240 x1.2)]) (by decide +kernel) mk_Row_get (by decide) ?_
        refine RM.blk [(1, 1, 0, .null)] (pc' := 30) (L' := [some (.ref 57), some (.int p0), some (.ref 16), some (.int x1.1), some (.int x1.2)]) (st' := [.int p0, .int (rg σ 30 240 x1.2)]) (σ1 := σ) (by decide +kernel) rfl ?_
        refine RM.icmp_ne (tgt := 68) (by decide +kernel) (fun c3 => ?_) (fun c3 => ?_)
        · rw [if_neg c3] at e1
          refine RM.blk [(10, 4, 0, .int 1), (23, 0, 0, .null)] (pc' := 5) (L' := [some (.ref 57), some (.int p0), some (.ref 16), some (.int x1.1), some (.int (x1.2 + 1))]) (st' := []) (σ1 := σ) (by decide +kernel) rfl ?_
          obtain rfl := Option.some.inj e1
          refine RN.dropB [true, true, true, true, true] rfl ?_
          exact ih1 (x1.1, (x1.2 + 1)) _ hy1 hK1
        · rw [if_pos c3] at e1
          refine RM.blk [(2, 2, 0, .null), (2, 0, 0, .null), (3, 10, 4, .null), (3, 1, 4, .null), (1, 4, 0, .null)] (pc' := 43) (L' := [some (.ref 57), some (.int p0), some (.ref 16), some (.int x1.1), some (.int x1.2)]) (st' := [.int x1.2, .ref 25, .ref 16]) (σ1 := σ) (by decide +kernel) rfl ?_
          refine RN.callV [.int x1.2] (s_Row_get (q := 25) (a := 26) (n := 240) ⟨rfl, rfl, by decide⟩ σ x1.2) [.ref 16] (pc3 := 46) (st3 := [.int (rg σ 26 240 x1.2), .ref 16]) (by decide +kernel) mk_Row_get (by decide) ?_
          refine RN.callV [.int (rg σ 26 240 x1.2)] (s_Row_get (q := 16) (a := 17) (n := 8) ⟨rfl, rfl, by decide⟩ σ (rg σ 26 240 x1.2)) [] (pc3 := 49) (st3 := [.int (rg σ 17 8 (rg σ 26 240 x1.2))]) (by decide +kernel) mk_Row_get (by decide) ?_
          refine RM.blk [(0, 0, 0, .int 1)] (pc' := 50) (L' := [some (.ref 57), some (.int p0), some (.ref 16), some (.int x1.1), some (.int x1.2)]) (st' := [.int 1, .int (rg σ 17 8 (rg σ 26 240 x1.2))]) (σ1 := σ) (by decide +kernel) rfl ?_
          refine RM.icmp_ne (tgt := 68) (by decide +kernel) (fun c4 => ?_) (fun c4 => ?_)
          · rw [if_neg c4] at e1
            refine RM.blk [(10, 4, 0, .int 1), (23, 0, 0, .null)] (pc' := 5) (L' := [some (.ref 57), some (.int p0), some (.ref 16), some (.int x1.1), some (.int (x1.2 + 1))]) (st' := []) (σ1 := σ) (by decide +kernel) rfl ?_
            obtain rfl := Option.some.inj e1
            refine RN.dropB [true, true, true, true, true] rfl ?_
            exact ih1 (x1.1, (x1.2 + 1)) _ hy1 hK1
          · rw [if_pos c4] at e1
            refine RM.blk [(1, 3, 0, .null), (2, 0, 0, .null), (3, 10, 4, .null), (3, 1, 3, .null), (1, 4, 0, .null)] (pc' := 63) (L' := [some (.ref 57), some (.int p0), some (.ref 16), some (.int x1.1), some (.int x1.2)]) (st' := [.int x1.2, .ref 23, .int x1.1]) (σ1 := σ) (by decide +kernel) rfl ?_
            refine RN.callV [.int x1.2] (s_Row_get (q := 23) (a := 24) (n := 240) ⟨rfl, rfl, by decide⟩ σ x1.2) [.int x1.1] (pc3 := 66) (st3 := [.int (rg σ 24 240 x1.2), .int x1.1]) (by decide +kernel) mk_Row_get (by decide) ?_
            refine RM.blk [(5, 0, 0, .null), (4, 3, 0, .null), (10, 4, 0, .int 1), (23, 0, 0, .null)] (pc' := 5) (L' := [some (.ref 57), some (.int p0), some (.ref 16), some (.int (x1.1 + (rg σ 24 240 x1.2))), some (.int (x1.2 + 1))]) (st' := []) (σ1 := σ) (by decide +kernel) rfl ?_
            obtain rfl := Option.some.inj e1
            refine RN.dropB [true, true, true, true, true] rfl ?_
            exact ih1 ((x1.1 + (rg σ 24 240 x1.2)), (x1.2 + 1)) _ hy1 hK1
  obtain ⟨y1, hl1, h⟩ := ob_some h
  refine RN.dropB [true, true, true, true, true] rfl ?_
  refine hL1 FU (0, 0) y1 hl1 ?_
  refine RM.blk [(1, 3, 0, .null)] (pc' := 75) (L' := [none, none, none, some (.int y1), none]) (st' := [.int y1]) (σ1 := σ) (by decide +kernel) rfl ?_
  obtain rfl := (Option.some.inj h)
  exact RM.reti (by decide +kernel) rfl
def M_Sheets_hasHead : MI := (yX10_hasHead, cX10_hasHead, 2, some .boolean, 10)
theorem mk_Sheets_hasHead : mOK M_Sheets_hasHead 1 = true := by decide +kernel
set_option maxRecDepth 100000 in
set_option maxHeartbeats 4000000 in
theorem s_Sheets_hasHead (σ : SG) (p0 : Int32) (rr : Bool) (h : F_Sheets_hasHead σ p0 = some rr) : SpN 4 M_Sheets_hasHead [.ref 57, .int p0] σ (some (.int (bI rr))) σ := by
  unfold F_Sheets_hasHead at h
  refine Sp.of mk_Sheets_hasHead rfl (Nat.le_of_ble_eq_true rfl) ?_
  refine RM.blk [(2, 0, 0, .null), (1, 1, 0, .null), (2, 0, 0, .null), (3, 10, 3, .null), (3, 4, 3, .null)] (pc' := 9) (L' := [some (.ref 57), some (.int p0)]) (st' := [.ref 16, .int p0, .ref 57]) (σ1 := σ) (by decide +kernel) rfl ?_
  obtain ⟨v1, hv1, h⟩ := ob_some h
  refine RN.callV [.int p0, .ref 16] (s_Sheets_placesMarked_16 σ p0 v1 hv1) [] (pc3 := 12) (st3 := [.int v1]) (by decide +kernel) mk_Sheets_placesMarked (by decide) ?_
  refine RM.if_le (tgt := 19) (by decide +kernel) (fun c2 => ?_) (fun c2 => ?_)
  · rw [if_pos c2] at h
    refine RM.blk [(0, 0, 0, .int 0)] (pc' := 20) (L' := [some (.ref 57), some (.int p0)]) (st' := [.int 0]) (σ1 := σ) (by decide +kernel) rfl ?_
    obtain rfl := (Option.some.inj h)
    exact RM.retz (z := false) (by decide +kernel) rfl
  · rw [if_neg c2] at h
    refine RM.blk [(0, 0, 0, .int 1), (23, 0, 0, .null)] (pc' := 20) (L' := [some (.ref 57), some (.int p0)]) (st' := [.int 1]) (σ1 := σ) (by decide +kernel) rfl ?_
    obtain rfl := (Option.some.inj h)
    exact RM.retz (z := true) (by decide +kernel) rfl
def M_Sheets_leftEdge : MI := (yX10_leftEdge, cX10_leftEdge, 5, some .int, 10)
theorem mk_Sheets_leftEdge : mOK M_Sheets_leftEdge 1 = true := by decide +kernel
set_option maxRecDepth 100000 in
set_option maxHeartbeats 4000000 in
theorem s_Sheets_leftEdge (σ : SG) (p0 : Int32) (rr : Int32) (h : F_Sheets_leftEdge σ p0 = some rr) : SpN 3 M_Sheets_leftEdge [.ref 57, .int p0] σ (some (.int rr)) σ := by
  unfold F_Sheets_leftEdge at h
  refine Sp.of mk_Sheets_leftEdge rfl (Nat.le_of_ble_eq_true rfl) ?_
  refine RM.blk [(0, 0, 0, .int (-1)), (4, 2, 0, .null), (0, 0, 0, .int 0), (4, 3, 0, .null)] (pc' := 4) (L' := [some (.ref 57), some (.int p0), some (.int (-1)), some (.int 0), none]) (st' := []) (σ1 := σ) (by decide +kernel) rfl ?_
  have hL1 : ∀ (n : Nat) (x1 : Int32 × Int32) (y1 : Int32), lpW (L_Sheets_leftEdge_4 σ p0) n x1 = some y1 → RN 3 M_Sheets_leftEdge (some (.int rr)) σ 63 [none, none, some (.int y1), none, none] [] σ → RN 3 M_Sheets_leftEdge (some (.int rr)) σ 4 [some (.ref 57), some (.int p0), some (.int x1.1), some (.int x1.2), none] [] σ := by
    intro n
    induction n with
    | zero => intro x1 y1 hy1; cases hy1
    | succ n ih1 =>
      intro x1 y1 hy1 hK1
      obtain ⟨z1, e1, hy1⟩ := ob_some hy1
      unfold L_Sheets_leftEdge_4 at e1
      refine RM.blk [(1, 3, 0, .null), (2, 0, 0, .null), (3, 10, 4, .null), (3, 1, 0, .null)] (pc' := 12) (L' := [some (.ref 57), some (.int p0), some (.int x1.1), some (.int x1.2), none]) (st' := [.int (σ 18 0), .int x1.2]) (σ1 := σ) (by decide +kernel) rfl ?_
      refine RM.icmp_ge (tgt := 63) (by decide +kernel) (fun c2 => ?_) (fun c2 => ?_)
      · rw [if_pos c2] at e1
        obtain rfl := Option.some.inj e1
        obtain rfl := Option.some.inj (show some (x1.1 : Int32) = some y1 from hy1)
        refine RN.dropB [false, false, true, false, false] rfl ?_
        exact hK1
      · rw [if_neg c2] at e1
        refine RM.blk [(2, 0, 0, .null), (3, 10, 4, .null), (3, 1, 2, .null), (1, 3, 0, .null)] (pc' := 23) (L' := [some (.ref 57), some (.int p0), some (.int x1.1), some (.int x1.2), none]) (st' := [.int x1.2, .ref 21]) (σ1 := σ) (by decide +kernel) rfl ?_
        refine RN.callV [.int x1.2] (s_Row_get (q := 21) (a := 22) (n := 240) ⟨rfl, rfl, by decide⟩ σ x1.2) [] (pc3 := 26) (st3 := [.int (rg σ 22 240 x1.2)]) (by decide +kernel) mk_Row_get (by decide) ?_
        refine RM.blk [(4, 4, 0, .null), (2, 0, 0, .null), (3, 10, 4, .null), (3, 1, 6, .null), (1, 3, 0, .null)] (pc' := 36) (L' := [some (.ref 57), some (.int p0), some (.int x1.1), some (.int x1.2), some (.int (rg σ 22 240 x1.2))]) (st' := [.int x1.2, .ref 29]) (σ1 := σ) (by decide +kernel) rfl ?_
        refine RN.callV [.int x1.2] (s_Row_get (q := 29) (a := 30) (n := 240) ⟨rfl, rfl, by decide⟩ σ x1.2) [] (pc3 := 39) (st3 := [.int (rg σ 30 240 x1.2)]) (by decide +kernel) mk_Row_get (by decide) ?_
        refine RM.blk [(1, 1, 0, .null)] (pc' := 40) (L' := [some (.ref 57), some (.int p0), some (.int x1.1), some (.int x1.2), some (.int (rg σ 22 240 x1.2))]) (st' := [.int p0, .int (rg σ 30 240 x1.2)]) (σ1 := σ) (by decide +kernel) rfl ?_
        refine RM.icmp_ne (tgt := 57) (by decide +kernel) (fun c3 => ?_) (fun c3 => ?_)
        · rw [if_neg c3] at e1
          refine RM.blk [(10, 3, 0, .int 1), (23, 0, 0, .null)] (pc' := 4) (L' := [some (.ref 57), some (.int p0), some (.int x1.1), some (.int (x1.2 + 1)), some (.int (rg σ 22 240 x1.2))]) (st' := []) (σ1 := σ) (by decide +kernel) rfl ?_
          obtain rfl := Option.some.inj e1
          refine RN.dropB [true, true, true, true, false] rfl ?_
          exact ih1 (x1.1, (x1.2 + 1)) _ hy1 hK1
        · rw [if_pos c3] at e1
          refine RM.blk [(1, 2, 0, .null), (0, 0, 0, .int (-1))] (pc' := 45) (L' := [some (.ref 57), some (.int p0), some (.int x1.1), some (.int x1.2), some (.int (rg σ 22 240 x1.2))]) (st' := [.int (-1), .int x1.1]) (σ1 := σ) (by decide +kernel) rfl ?_
          refine RM.icmp_eq (tgt := 54) (by decide +kernel) (fun c4 => ?_) (fun c4 => ?_)
          · rw [if_pos c4] at e1
            refine RM.blk [(1, 4, 0, .null), (4, 2, 0, .null), (10, 3, 0, .int 1), (23, 0, 0, .null)] (pc' := 4) (L' := [some (.ref 57), some (.int p0), some (.int (rg σ 22 240 x1.2)), some (.int (x1.2 + 1)), some (.int (rg σ 22 240 x1.2))]) (st' := []) (σ1 := σ) (by decide +kernel) rfl ?_
            obtain rfl := Option.some.inj e1
            refine RN.dropB [true, true, true, true, false] rfl ?_
            exact ih1 ((rg σ 22 240 x1.2), (x1.2 + 1)) _ hy1 hK1
          · rw [if_neg c4] at e1
            refine RM.blk [(1, 4, 0, .null), (1, 2, 0, .null)] (pc' := 51) (L' := [some (.ref 57), some (.int p0), some (.int x1.1), some (.int x1.2), some (.int (rg σ 22 240 x1.2))]) (st' := [.int x1.1, .int (rg σ 22 240 x1.2)]) (σ1 := σ) (by decide +kernel) rfl ?_
            refine RM.icmp_ge (tgt := 57) (by decide +kernel) (fun c5 => ?_) (fun c5 => ?_)
            · rw [if_pos c5] at e1
              refine RM.blk [(10, 3, 0, .int 1), (23, 0, 0, .null)] (pc' := 4) (L' := [some (.ref 57), some (.int p0), some (.int x1.1), some (.int (x1.2 + 1)), some (.int (rg σ 22 240 x1.2))]) (st' := []) (σ1 := σ) (by decide +kernel) rfl ?_
              obtain rfl := Option.some.inj e1
              refine RN.dropB [true, true, true, true, false] rfl ?_
              exact ih1 (x1.1, (x1.2 + 1)) _ hy1 hK1
            · rw [if_neg c5] at e1
              refine RM.blk [(1, 4, 0, .null), (4, 2, 0, .null), (10, 3, 0, .int 1), (23, 0, 0, .null)] (pc' := 4) (L' := [some (.ref 57), some (.int p0), some (.int (rg σ 22 240 x1.2)), some (.int (x1.2 + 1)), some (.int (rg σ 22 240 x1.2))]) (st' := []) (σ1 := σ) (by decide +kernel) rfl ?_
              obtain rfl := Option.some.inj e1
              refine RN.dropB [true, true, true, true, false] rfl ?_
              exact ih1 ((rg σ 22 240 x1.2), (x1.2 + 1)) _ hy1 hK1
  obtain ⟨y1, hl1, h⟩ := ob_some h
  refine RN.dropB [true, true, true, true, false] rfl ?_
  refine hL1 FU ((-1), 0) y1 hl1 ?_
  refine RM.blk [(1, 2, 0, .null)] (pc' := 64) (L' := [none, none, some (.int y1), none, none]) (st' := [.int y1]) (σ1 := σ) (by decide +kernel) rfl ?_
  obtain rfl := (Option.some.inj h)
  exact RM.reti (by decide +kernel) rfl
