/-! methods: Shop_within, Drawing_begin, Cubes_clear, Shop_takeDown, Shop_wall, Drawing_has, Shop_isField, Drawing_place, Drawing_fieldAt, Drawing_fill, Shop_draw, Shop_field, Shop_isColour, Colours_put_5, Shop_colour, Shop_mark, Drawing_stripEnd, Layer_mayEnd, Layer_countFewest, Layer_widestOfFewest, Cubes_put, Layer_layStrip, Layer_layRows, Shop_lay, Shop_isLaid, Cubes_over, Shop_at, Cubes_has, Cubes_tell, Shop_cube, Colours_put_45, Lots_bring, Shop_lot, Lots_has, Shop_left, Shop_more -/
def M_Shop_within : MI := (yX11_within, cX11_within, 3, some .boolean, 11)
theorem mk_Shop_within : mOK M_Shop_within 3 = true := by decide +kernel
set_option maxRecDepth 100000 in
set_option maxHeartbeats 4000000 in
theorem s_Shop_within (σ : SG) (p0 : Int32) (p1 : Int32) (p2 : Int32) : SpN 1 M_Shop_within [.int p0, .int p1, .int p2] σ (some (.int (bI (F_Shop_within p0 p1 p2)))) σ := by
  generalize h : F_Shop_within p0 p1 p2 = rr
  unfold F_Shop_within at h
  refine Sp.of mk_Shop_within rfl (Nat.le_of_ble_eq_true rfl) ?_
  refine RM.blk [(1, 0, 0, .null), (1, 1, 0, .null)] (pc' := 2) (L' := [some (.int p0), some (.int p1), some (.int p2)]) (st' := [.int p1, .int p0]) (σ1 := σ) (by decide +kernel) rfl ?_
  refine RM.icmp_lt (tgt := 14) (by decide +kernel) (fun c1 => ?_) (fun c1 => ?_)
  · rw [if_pos c1] at h
    refine RM.blk [(0, 0, 0, .int 0)] (pc' := 15) (L' := [some (.int p0), some (.int p1), some (.int p2)]) (st' := [.int 0]) (σ1 := σ) (by decide +kernel) rfl ?_
    obtain rfl := h
    exact RM.retz (z := false) (by decide +kernel) rfl
  · rw [if_neg c1] at h
    refine RM.blk [(1, 0, 0, .null), (1, 2, 0, .null)] (pc' := 7) (L' := [some (.int p0), some (.int p1), some (.int p2)]) (st' := [.int p2, .int p0]) (σ1 := σ) (by decide +kernel) rfl ?_
    refine RM.icmp_gt (tgt := 14) (by decide +kernel) (fun c2 => ?_) (fun c2 => ?_)
    · rw [if_pos c2] at h
      refine RM.blk [(0, 0, 0, .int 0)] (pc' := 15) (L' := [some (.int p0), some (.int p1), some (.int p2)]) (st' := [.int 0]) (σ1 := σ) (by decide +kernel) rfl ?_
      obtain rfl := h
      exact RM.retz (z := false) (by decide +kernel) rfl
    · rw [if_neg c2] at h
      refine RM.blk [(0, 0, 0, .int 1), (23, 0, 0, .null)] (pc' := 15) (L' := [some (.int p0), some (.int p1), some (.int p2)]) (st' := [.int 1]) (σ1 := σ) (by decide +kernel) rfl ?_
      obtain rfl := h
      exact RM.retz (z := true) (by decide +kernel) rfl
def M_Drawing_begin : MI := (yX3_begin, cX3_begin, 3, none, 3)
theorem mk_Drawing_begin : mOK M_Drawing_begin 2 = true := by decide +kernel
set_option maxRecDepth 100000 in
set_option maxHeartbeats 4000000 in
theorem s_Drawing_begin (σ : SG) (p0 : Int32) (p1 : Int32) (so : SG) (h : F_Drawing_begin σ p0 p1 = so) : SpN 3 M_Drawing_begin [.ref 1, .int p0, .int p1] σ none so := by
  unfold F_Drawing_begin at h
  refine Sp.of mk_Drawing_begin rfl (Nat.le_of_ble_eq_true rfl) ?_
  refine RM.blk [(2, 0, 0, .null), (1, 1, 0, .null), (15, 3, 0, .null), (2, 0, 0, .null), (1, 2, 0, .null), (15, 3, 1, .null), (2, 0, 0, .null), (3, 3, 2, .null), (0, 0, 0, .int 0)] (pc' := 15) (L' := [some (.ref 1), some (.int p0), some (.int p1)]) (st' := [.int 0, .ref 2]) (σ1 := (up (up σ 1 0 p0) 1 1 p1)) (by decide +kernel) rfl ?_
  refine RN.callV [.int 0] (s_Row_fill (q := 2) (a := 3) (n := 240) ⟨rfl, rfl, by decide⟩ (up (up σ 1 0 p0) 1 1 p1) 0) [] (pc3 := 18) (st3 := []) (by decide +kernel) mk_Row_fill (by decide) ?_
  obtain rfl := h
  exact RM.retv (by decide +kernel) rfl
def M_Cubes_clear : MI := (yX1_clear, cX1_clear, 1, none, 1)
theorem mk_Cubes_clear : mOK M_Cubes_clear 0 = true := by decide +kernel
set_option maxRecDepth 100000 in
set_option maxHeartbeats 4000000 in
theorem s_Cubes_clear (σ : SG) (so : SG) (h : F_Cubes_clear σ = so) : SpN 1 M_Cubes_clear [.ref 18] σ none so := by
  unfold F_Cubes_clear at h
  refine Sp.of mk_Cubes_clear rfl (Nat.le_of_ble_eq_true rfl) ?_
  refine RM.blk [(2, 0, 0, .null), (0, 0, 0, .int 0), (15, 1, 0, .null)] (pc' := 5) (L' := [some (.ref 18)]) (st' := []) (σ1 := (up σ 18 0 0)) (by decide +kernel) rfl ?_
  obtain rfl := h
  exact RM.retv (by decide +kernel) rfl
def M_Shop_takeDown : MI := (yX11_takeDown, cX11_takeDown, 1, none, 11)
theorem mk_Shop_takeDown : mOK M_Shop_takeDown 0 = true := by decide +kernel
set_option maxRecDepth 100000 in
set_option maxHeartbeats 4000000 in
theorem s_Shop_takeDown (σ : SG) (so : SG) (h : F_Shop_takeDown σ = so) : SpN 2 M_Shop_takeDown [.ref 0] σ none so := by
  unfold F_Shop_takeDown at h
  refine Sp.of mk_Shop_takeDown rfl (Nat.le_of_ble_eq_true rfl) ?_
  refine RM.blk [(2, 0, 0, .null), (3, 11, 2, .null)] (pc' := 4) (L' := [some (.ref 0)]) (st' := [.ref 18]) (σ1 := σ) (by decide +kernel) rfl ?_
  refine RN.callV [] (s_Cubes_clear σ _ rfl) [] (pc3 := 7) (st3 := []) (by decide +kernel) mk_Cubes_clear (by decide) ?_
  refine RM.blk [(2, 0, 0, .null), (3, 11, 5, .null), (0, 0, 0, .int 0), (16, 8, 0, .null), (2, 0, 0, .null), (3, 11, 6, .null), (0, 0, 0, .int 0), (15, 10, 0, .null)] (pc' := 23) (L' := [some (.ref 0)]) (st' := []) (σ1 := (up (up (F_Cubes_clear σ) 52 0 0) 57 0 0)) (by decide +kernel) rfl ?_
  obtain rfl := h
  exact RM.retv (by decide +kernel) rfl
def M_Shop_wall : MI := (yX11_wall, cX11_wall, 3, some .int, 11)
theorem mk_Shop_wall : mOK M_Shop_wall 2 = true := by decide +kernel
set_option maxRecDepth 100000 in
set_option maxHeartbeats 4000000 in
theorem s_Shop_wall (σ : SG) (p0 : Int32) (p1 : Int32) (rr : Int32) (so : SG) (h : F_Shop_wall σ p0 p1 = (rr, so)) : SpN 4 M_Shop_wall [.ref 0, .int p0, .int p1] σ (some (.int rr)) so := by
  unfold F_Shop_wall at h
  refine Sp.of mk_Shop_wall rfl (Nat.le_of_ble_eq_true rfl) ?_
  refine RM.blk [(1, 1, 0, .null), (0, 0, 0, .int 1), (0, 0, 0, .int 24)] (pc' := 4) (L' := [some (.ref 0), some (.int p0), some (.int p1)]) (st' := [.int 24, .int 1, .int p0]) (σ1 := σ) (by decide +kernel) rfl ?_
  refine RN.callS [.int p0, .int 1, .int 24] (s_Shop_within σ p0 1 24) [] (pc3 := 7) (st3 := [.int (bI (F_Shop_within p0 1 24))]) (by decide +kernel) mk_Shop_within (by decide) ?_
  refine RM.zeq (tgt := 20) (by decide +kernel) (fun c1 => ?_) (fun c1 => ?_)
  · rw [if_neg (bf c1)] at h
    refine RM.blk [(0, 0, 0, .int (-2))] (pc' := 22) (L' := [some (.ref 0), some (.int p0), some (.int p1)]) (st' := [.int (-2)]) (σ1 := σ) (by decide +kernel) rfl ?_
    obtain ⟨rfl, rfl⟩ := Prod.mk.inj h
    exact RM.reti (by decide +kernel) rfl
  · rw [if_pos c1] at h
    refine RM.blk [(1, 2, 0, .null), (0, 0, 0, .int 1), (0, 0, 0, .int 10)] (pc' := 14) (L' := [some (.ref 0), some (.int p0), some (.int p1)]) (st' := [.int 10, .int 1, .int p1]) (σ1 := σ) (by decide +kernel) rfl ?_
    refine RN.callS [.int p1, .int 1, .int 10] (s_Shop_within σ p1 1 10) [] (pc3 := 17) (st3 := [.int (bI (F_Shop_within p1 1 10))]) (by decide +kernel) mk_Shop_within (by decide) ?_
    refine RM.zne (tgt := 23) (by decide +kernel) (fun c2 => ?_) (fun c2 => ?_)
    · rw [if_pos c2] at h
      refine RM.blk [(2, 0, 0, .null), (3, 11, 0, .null), (1, 1, 0, .null), (1, 2, 0, .null)] (pc' := 29) (L' := [some (.ref 0), some (.int p0), some (.int p1)]) (st' := [.int p1, .int p0, .ref 1]) (σ1 := σ) (by decide +kernel) rfl ?_
      refine RN.callV [.int p0, .int p1] (s_Drawing_begin σ p0 p1 _ rfl) [] (pc3 := 32) (st3 := []) (by decide +kernel) mk_Drawing_begin (by decide) ?_
      refine RM.blk [(2, 0, 0, .null)] (pc' := 33) (L' := [some (.ref 0), some (.int p0), some (.int p1)]) (st' := [.ref 0]) (σ1 := (F_Drawing_begin σ p0 p1)) (by decide +kernel) rfl ?_
      refine RN.callV [] (s_Shop_takeDown (F_Drawing_begin σ p0 p1) _ rfl) [] (pc3 := 36) (st3 := []) (by decide +kernel) mk_Shop_takeDown (by decide) ?_
      refine RM.blk [(0, 0, 0, .int 1)] (pc' := 37) (L' := [some (.ref 0), some (.int p0), some (.int p1)]) (st' := [.int 1]) (σ1 := (F_Shop_takeDown (F_Drawing_begin σ p0 p1))) (by decide +kernel) rfl ?_
      obtain ⟨rfl, rfl⟩ := Prod.mk.inj h
      exact RM.reti (by decide +kernel) rfl
    · rw [if_neg (bf c2)] at h
      refine RM.blk [(0, 0, 0, .int (-2))] (pc' := 22) (L' := [some (.ref 0), some (.int p0), some (.int p1)]) (st' := [.int (-2)]) (σ1 := σ) (by decide +kernel) rfl ?_
      obtain ⟨rfl, rfl⟩ := Prod.mk.inj h
      exact RM.reti (by decide +kernel) rfl
def M_Drawing_has : MI := (yX3_has, cX3_has, 3, some .boolean, 3)
theorem mk_Drawing_has : mOK M_Drawing_has 2 = true := by decide +kernel
set_option maxRecDepth 100000 in
set_option maxHeartbeats 4000000 in
theorem s_Drawing_has (σ : SG) (p0 : Int32) (p1 : Int32) : SpN 2 M_Drawing_has [.ref 1, .int p0, .int p1] σ (some (.int (bI (F_Drawing_has σ p0 p1)))) σ := by
  generalize h : F_Drawing_has σ p0 p1 = rr
  unfold F_Drawing_has at h
  refine Sp.of mk_Drawing_has rfl (Nat.le_of_ble_eq_true rfl) ?_
  refine RM.blk [(1, 1, 0, .null), (0, 0, 0, .int 0), (2, 0, 0, .null), (3, 3, 0, .null), (0, 0, 0, .int 1), (6, 0, 0, .null)] (pc' := 8) (L' := [some (.ref 1), some (.int p0), some (.int p1)]) (st' := [.int ((σ 1 0) - 1), .int 0, .int p0]) (σ1 := σ) (by decide +kernel) rfl ?_
  refine RN.callS [.int p0, .int 0, .int ((σ 1 0) - 1)] (s_Shop_within σ p0 0 ((σ 1 0) - 1)) [] (pc3 := 11) (st3 := [.int (bI (F_Shop_within p0 0 ((σ 1 0) - 1)))]) (by decide +kernel) mk_Shop_within (by decide) ?_
  refine RM.zeq (tgt := 32) (by decide +kernel) (fun c1 => ?_) (fun c1 => ?_)
  · rw [if_neg (bf c1)] at h
    refine RM.blk [(0, 0, 0, .int 0)] (pc' := 33) (L' := [some (.ref 1), some (.int p0), some (.int p1)]) (st' := [.int 0]) (σ1 := σ) (by decide +kernel) rfl ?_
    obtain rfl := h
    exact RM.retz (z := false) (by decide +kernel) rfl
  · rw [if_pos c1] at h
    refine RM.blk [(1, 2, 0, .null), (0, 0, 0, .int 0), (2, 0, 0, .null), (3, 3, 1, .null), (0, 0, 0, .int 1), (6, 0, 0, .null)] (pc' := 22) (L' := [some (.ref 1), some (.int p0), some (.int p1)]) (st' := [.int ((σ 1 1) - 1), .int 0, .int p1]) (σ1 := σ) (by decide +kernel) rfl ?_
    refine RN.callS [.int p1, .int 0, .int ((σ 1 1) - 1)] (s_Shop_within σ p1 0 ((σ 1 1) - 1)) [] (pc3 := 25) (st3 := [.int (bI (F_Shop_within p1 0 ((σ 1 1) - 1)))]) (by decide +kernel) mk_Shop_within (by decide) ?_
    refine RM.zeq (tgt := 32) (by decide +kernel) (fun c2 => ?_) (fun c2 => ?_)
    · rw [if_neg (bf c2)] at h
      refine RM.blk [(0, 0, 0, .int 0)] (pc' := 33) (L' := [some (.ref 1), some (.int p0), some (.int p1)]) (st' := [.int 0]) (σ1 := σ) (by decide +kernel) rfl ?_
      obtain rfl := h
      exact RM.retz (z := false) (by decide +kernel) rfl
    · rw [if_pos c2] at h
      refine RM.blk [(0, 0, 0, .int 1), (23, 0, 0, .null)] (pc' := 33) (L' := [some (.ref 1), some (.int p0), some (.int p1)]) (st' := [.int 1]) (σ1 := σ) (by decide +kernel) rfl ?_
      obtain rfl := h
      exact RM.retz (z := true) (by decide +kernel) rfl
def M_Shop_isField : MI := (yX11_isField, cX11_isField, 1, some .boolean, 11)
theorem mk_Shop_isField : mOK M_Shop_isField 1 = true := by decide +kernel
set_option maxRecDepth 100000 in
set_option maxHeartbeats 4000000 in
theorem s_Shop_isField (σ : SG) (p0 : Int32) : SpN 2 M_Shop_isField [.int p0] σ (some (.int (bI (F_Shop_isField p0)))) σ := by
  generalize h : F_Shop_isField p0 = rr
  unfold F_Shop_isField at h
  refine Sp.of mk_Shop_isField rfl (Nat.le_of_ble_eq_true rfl) ?_
  refine RM.blk [(1, 0, 0, .null), (0, 0, 0, .int 0), (0, 0, 0, .int 7)] (pc' := 4) (L' := [some (.int p0)]) (st' := [.int 7, .int 0, .int p0]) (σ1 := σ) (by decide +kernel) rfl ?_
  refine RN.callS [.int p0, .int 0, .int 7] (s_Shop_within σ p0 0 7) [] (pc3 := 7) (st3 := [.int (bI (F_Shop_within p0 0 7))]) (by decide +kernel) mk_Shop_within (by decide) ?_
  obtain rfl := h
  exact RM.retz (z := (F_Shop_within p0 0 7)) (by decide +kernel) rfl
def M_Drawing_place : MI := (yX3_place, cX3_place, 2, some .int, 3)
theorem mk_Drawing_place : mOK M_Drawing_place 2 = true := by decide +kernel
set_option maxRecDepth 100000 in
set_option maxHeartbeats 4000000 in
theorem s_Drawing_place (σ : SG) (p0 : Int32) (p1 : Int32) : SpN 1 M_Drawing_place [.int p0, .int p1] σ (some (.int (F_Drawing_place p0 p1))) σ := by
  generalize h : F_Drawing_place p0 p1 = rr
  unfold F_Drawing_place at h
  refine Sp.of mk_Drawing_place rfl (Nat.le_of_ble_eq_true rfl) ?_
  refine RM.blk [(1, 1, 0, .null), (0, 0, 0, .int 24), (7, 0, 0, .null), (1, 0, 0, .null), (5, 0, 0, .null)] (pc' := 6) (L' := [some (.int p0), some (.int p1)]) (st' := [.int ((p1 * 24) + p0)]) (σ1 := σ) (by decide +kernel) rfl ?_
  obtain rfl := h
  exact RM.reti (by decide +kernel) rfl
def M_Drawing_fieldAt : MI := (yX3_fieldAt, cX3_fieldAt, 3, some .int, 3)
theorem mk_Drawing_fieldAt : mOK M_Drawing_fieldAt 2 = true := by decide +kernel
set_option maxRecDepth 100000 in
set_option maxHeartbeats 4000000 in
theorem s_Drawing_fieldAt (σ : SG) (p0 : Int32) (p1 : Int32) : SpN 3 M_Drawing_fieldAt [.ref 1, .int p0, .int p1] σ (some (.int (F_Drawing_fieldAt σ p0 p1))) σ := by
  generalize h : F_Drawing_fieldAt σ p0 p1 = rr
  unfold F_Drawing_fieldAt at h
  refine Sp.of mk_Drawing_fieldAt rfl (Nat.le_of_ble_eq_true rfl) ?_
  refine RM.blk [(2, 0, 0, .null), (3, 3, 2, .null), (1, 1, 0, .null), (1, 2, 0, .null)] (pc' := 6) (L' := [some (.ref 1), some (.int p0), some (.int p1)]) (st' := [.int p1, .int p0, .ref 2]) (σ1 := σ) (by decide +kernel) rfl ?_
  refine RN.callS [.int p0, .int p1] (s_Drawing_place σ p0 p1) [.ref 2] (pc3 := 9) (st3 := [.int (F_Drawing_place p0 p1), .ref 2]) (by decide +kernel) mk_Drawing_place (by decide) ?_
  refine RN.callV [.int (F_Drawing_place p0 p1)] (s_Row_get (q := 2) (a := 3) (n := 240) ⟨rfl, rfl, by decide⟩ σ (F_Drawing_place p0 p1)) [] (pc3 := 12) (st3 := [.int (rg σ 3 240 (F_Drawing_place p0 p1))]) (by decide +kernel) mk_Row_get (by decide) ?_
  obtain rfl := h
  exact RM.reti (by decide +kernel) rfl
def M_Drawing_fill : MI := (yX3_fill, cX3_fill, 9, some .int, 3)
theorem mk_Drawing_fill : mOK M_Drawing_fill 5 = true := by decide +kernel
set_option maxRecDepth 100000 in
set_option maxHeartbeats 4000000 in
theorem s_Drawing_fill (σ : SG) (p0 : Int32) (p1 : Int32) (p2 : Int32) (p3 : Int32) (p4 : Int32) (rr : Int32) (so : SG) (h : F_Drawing_fill σ p0 p1 p2 p3 p4 = some (rr, so)) : SpN 4 M_Drawing_fill [.ref 1, .int p0, .int p1, .int p2, .int p3, .int p4] σ (some (.int rr)) so := by
  unfold F_Drawing_fill at h
  refine Sp.of mk_Drawing_fill rfl (Nat.le_of_ble_eq_true rfl) ?_
  refine RM.blk [(0, 0, 0, .int 0), (4, 6, 0, .null), (1, 2, 0, .null), (4, 7, 0, .null)] (pc' := 6) (L' := [some (.ref 1), some (.int p0), some (.int p1), some (.int p2), some (.int p3), some (.int p4), some (.int 0), some (.int p1), none]) (st' := []) (σ1 := σ) (by decide +kernel) rfl ?_
  have hL1 : ∀ (n : Nat) (x1 : Int32 × Int32 × SG) (y1 : Int32 × SG), lpW (L_Drawing_fill_6 p0 p2 p3 p4) n x1 = some y1 → RN 4 M_Drawing_fill (some (.int rr)) so 66 [none, none, none, none, none, none, some (.int y1.1), none, none] [] y1.2 → RN 4 M_Drawing_fill (some (.int rr)) so 6 [some (.ref 1), some (.int p0), none, some (.int p2), some (.int p3), some (.int p4), some (.int x1.1), some (.int x1.2.1), none] [] x1.2.2 := by
    intro n
    induction n with
    | zero => intro x1 y1 hy1; cases hy1
    | succ n ih1 =>
      intro x1 y1 hy1 hK1
      obtain ⟨z1, e1, hy1⟩ := ob_some hy1
      unfold L_Drawing_fill_6 at e1
      refine RM.blk [(1, 7, 0, .null), (1, 4, 0, .null)] (pc' := 10) (L' := [some (.ref 1), some (.int p0), none, some (.int p2), some (.int p3), some (.int p4), some (.int x1.1), some (.int x1.2.1), none]) (st' := [.int p3, .int x1.2.1]) (σ1 := x1.2.2) (by decide +kernel) rfl ?_
      refine RM.icmp_gt (tgt := 66) (by decide +kernel) (fun c2 => ?_) (fun c2 => ?_)
      · rw [if_pos c2] at e1
        obtain rfl := Option.some.inj e1
        obtain rfl := Option.some.inj (show some ((x1.1, x1.2.2) : Int32 × SG) = some y1 from hy1)
        refine RN.dropB [false, false, false, false, false, false, true, false, false] rfl ?_
        exact hK1
      · rw [if_neg c2] at e1
        refine RM.blk [(1, 1, 0, .null), (4, 8, 0, .null)] (pc' := 16) (L' := [some (.ref 1), some (.int p0), none, some (.int p2), some (.int p3), some (.int p4), some (.int x1.1), some (.int x1.2.1), some (.int p0)]) (st' := []) (σ1 := x1.2.2) (by decide +kernel) rfl ?_
        have hL3 : ∀ (n : Nat) (x3 : Int32 × Int32 × SG) (y3 : Int32 × SG), lpW (L_Drawing_fill_16 p2 p4 x1.2.1) n x3 = some y3 → RN 4 M_Drawing_fill (some (.int rr)) so 60 [some (.ref 1), some (.int p0), none, some (.int p2), some (.int p3), some (.int p4), some (.int y3.1), some (.int x1.2.1), none] [] y3.2 → RN 4 M_Drawing_fill (some (.int rr)) so 16 [some (.ref 1), some (.int p0), none, some (.int p2), some (.int p3), some (.int p4), some (.int x3.1), some (.int x1.2.1), some (.int x3.2.1)] [] x3.2.2 := by
          intro n
          induction n with
          | zero => intro x3 y3 hy3; cases hy3
          | succ n ih3 =>
            intro x3 y3 hy3 hK3
            obtain ⟨z3, e3, hy3⟩ := ob_some hy3
            unfold L_Drawing_fill_16 at e3
            refine RM.blk [(1, 8, 0, .null), (1, 3, 0, .null)] (pc' := 19) (L' := [some (.ref 1), some (.int p0), none, some (.int p2), some (.int p3), some (.int p4), some (.int x3.1), some (.int (x1.2.1)), some (.int x3.2.1)]) (st' := [.int p2, .int x3.2.1]) (σ1 := x3.2.2) (by decide +kernel) rfl ?_
            refine RM.icmp_gt (tgt := 60) (by decide +kernel) (fun c4 => ?_) (fun c4 => ?_)
            · rw [if_pos c4] at e3
              obtain rfl := Option.some.inj e3
              obtain rfl := Option.some.inj (show some ((x3.1, x3.2.2) : Int32 × SG) = some y3 from hy3)
              refine RN.dropB [true, true, false, true, true, true, true, true, false] rfl ?_
              exact hK3
            · rw [if_neg c4] at e3
              refine RM.blk [(2, 0, 0, .null), (1, 8, 0, .null), (1, 7, 0, .null)] (pc' := 27) (L' := [some (.ref 1), some (.int p0), none, some (.int p2), some (.int p3), some (.int p4), some (.int x3.1), some (.int (x1.2.1)), some (.int x3.2.1)]) (st' := [.int (x1.2.1), .int x3.2.1, .ref 1]) (σ1 := x3.2.2) (by decide +kernel) rfl ?_
              refine RN.callV [.int x3.2.1, .int (x1.2.1)] (s_Drawing_fieldAt x3.2.2 x3.2.1 (x1.2.1)) [] (pc3 := 30) (st3 := [.int (F_Drawing_fieldAt x3.2.2 x3.2.1 (x1.2.1))]) (by decide +kernel) mk_Drawing_fieldAt (by decide) ?_
              refine RM.blk [(1, 5, 0, .null)] (pc' := 32) (L' := [some (.ref 1), some (.int p0), none, some (.int p2), some (.int p3), some (.int p4), some (.int x3.1), some (.int (x1.2.1)), some (.int x3.2.1)]) (st' := [.int p4, .int (F_Drawing_fieldAt x3.2.2 x3.2.1 (x1.2.1))]) (σ1 := x3.2.2) (by decide +kernel) rfl ?_
              refine RM.icmp_eq (tgt := 54) (by decide +kernel) (fun c5 => ?_) (fun c5 => ?_)
              · rw [if_pos c5] at e3
                refine RM.blk [(10, 8, 0, .int 1), (23, 0, 0, .null)] (pc' := 16) (L' := [some (.ref 1), some (.int p0), none, some (.int p2), some (.int p3), some (.int p4), some (.int x3.1), some (.int (x1.2.1)), some (.int (x3.2.1 + 1))]) (st' := []) (σ1 := x3.2.2) (by decide +kernel) rfl ?_
                obtain rfl := Option.some.inj e3
                refine RN.dropB [true, true, false, true, true, true, true, true, true] rfl ?_
                exact ih3 (x3.1, (x3.2.1 + 1), x3.2.2) _ hy3 hK3
              · rw [if_neg c5] at e3
                refine RM.blk [(2, 0, 0, .null), (3, 3, 2, .null), (1, 8, 0, .null), (1, 7, 0, .null)] (pc' := 43) (L' := [some (.ref 1), some (.int p0), none, some (.int p2), some (.int p3), some (.int p4), some (.int x3.1), some (.int (x1.2.1)), some (.int x3.2.1)]) (st' := [.int (x1.2.1), .int x3.2.1, .ref 2]) (σ1 := x3.2.2) (by decide +kernel) rfl ?_
                refine RN.callS [.int x3.2.1, .int (x1.2.1)] (s_Drawing_place x3.2.2 x3.2.1 (x1.2.1)) [.ref 2] (pc3 := 46) (st3 := [.int (F_Drawing_place x3.2.1 (x1.2.1)), .ref 2]) (by decide +kernel) mk_Drawing_place (by decide) ?_
                refine RM.blk [(1, 5, 0, .null)] (pc' := 48) (L' := [some (.ref 1), some (.int p0), none, some (.int p2), some (.int p3), some (.int p4), some (.int x3.1), some (.int (x1.2.1)), some (.int x3.2.1)]) (st' := [.int p4, .int (F_Drawing_place x3.2.1 (x1.2.1)), .ref 2]) (σ1 := x3.2.2) (by decide +kernel) rfl ?_
                refine RN.callV [.int (F_Drawing_place x3.2.1 (x1.2.1)), .int p4] (s_Row_set (q := 2) (a := 3) (n := 240) ⟨rfl, rfl, by decide⟩ x3.2.2 (F_Drawing_place x3.2.1 (x1.2.1)) p4) [] (pc3 := 51) (st3 := []) (by decide +kernel) mk_Row_set (by decide) ?_
                generalize ns6 : (rs x3.2.2 3 240 (F_Drawing_place x3.2.1 (x1.2.1)) p4) = s6 at e3 ⊢
                replace e3 := nm_h e3
                refine RM.blk [(10, 6, 0, .int 1), (10, 8, 0, .int 1), (23, 0, 0, .null)] (pc' := 16) (L' := [some (.ref 1), some (.int p0), none, some (.int p2), some (.int p3), some (.int p4), some (.int (x3.1 + 1)), some (.int (x1.2.1)), some (.int (x3.2.1 + 1))]) (st' := []) (σ1 := s6) (by decide +kernel) rfl ?_
                obtain rfl := Option.some.inj e3
                refine RN.dropB [true, true, false, true, true, true, true, true, true] rfl ?_
                exact ih3 ((x3.1 + 1), (x3.2.1 + 1), s6) _ hy3 hK3
        obtain ⟨y3, hl3, e1⟩ := ob_some e1
        refine RN.dropB [true, true, false, true, true, true, true, true, true] rfl ?_
        refine hL3 FU (x1.1, p0, x1.2.2) y3 hl3 ?_
        refine RM.blk [(10, 7, 0, .int 1), (23, 0, 0, .null)] (pc' := 6) (L' := [some (.ref 1), some (.int p0), none, some (.int p2), some (.int p3), some (.int p4), some (.int y3.1), some (.int (x1.2.1 + 1)), none]) (st' := []) (σ1 := y3.2) (by decide +kernel) rfl ?_
        obtain rfl := Option.some.inj e1
        refine RN.dropB [true, true, false, true, true, true, true, true, false] rfl ?_
        exact ih1 (y3.1, (x1.2.1 + 1), y3.2) _ hy1 hK1
  obtain ⟨y1, hl1, h⟩ := ob_some h
  refine RN.dropB [true, true, false, true, true, true, true, true, false] rfl ?_
  refine hL1 FU (0, p1, σ) y1 hl1 ?_
  refine RM.blk [(1, 6, 0, .null)] (pc' := 68) (L' := [none, none, none, none, none, none, some (.int y1.1), none, none]) (st' := [.int y1.1]) (σ1 := y1.2) (by decide +kernel) rfl ?_
  obtain ⟨rfl, rfl⟩ := Prod.mk.inj (Option.some.inj h)
  exact RM.reti (by decide +kernel) rfl
def M_Shop_draw : MI := (yX11_draw, cX11_draw, 7, some .int, 11)
theorem mk_Shop_draw : mOK M_Shop_draw 5 = true := by decide +kernel
set_option maxRecDepth 100000 in
set_option maxHeartbeats 4000000 in
theorem s_Shop_draw (σ : SG) (p0 : Int32) (p1 : Int32) (p2 : Int32) (p3 : Int32) (p4 : Int32) (rr : Int32) (so : SG) (h : F_Shop_draw σ p0 p1 p2 p3 p4 = some (rr, so)) : SpN 5 M_Shop_draw [.ref 0, .int p0, .int p1, .int p2, .int p3, .int p4] σ (some (.int rr)) so := by
  unfold F_Shop_draw at h
  refine Sp.of mk_Shop_draw rfl (Nat.le_of_ble_eq_true rfl) ?_
  refine RM.blk [(2, 0, 0, .null), (3, 11, 0, .null), (1, 1, 0, .null), (1, 2, 0, .null)] (pc' := 6) (L' := [some (.ref 0), some (.int p0), some (.int p1), some (.int p2), some (.int p3), some (.int p4), none]) (st' := [.int p1, .int p0, .ref 1]) (σ1 := σ) (by decide +kernel) rfl ?_
  refine RN.callV [.int p0, .int p1] (s_Drawing_has σ p0 p1) [] (pc3 := 9) (st3 := [.int (bI (F_Drawing_has σ p0 p1))]) (by decide +kernel) mk_Drawing_has (by decide) ?_
  refine RM.zeq (tgt := 44) (by decide +kernel) (fun c1 => ?_) (fun c1 => ?_)
  · rw [if_neg (bf c1)] at h
    refine RM.blk [(0, 0, 0, .int (-2))] (pc' := 46) (L' := [some (.ref 0), some (.int p0), some (.int p1), some (.int p2), some (.int p3), some (.int p4), none]) (st' := [.int (-2)]) (σ1 := σ) (by decide +kernel) rfl ?_
    obtain ⟨rfl, rfl⟩ := Prod.mk.inj (Option.some.inj h)
    exact RM.reti (by decide +kernel) rfl
  · rw [if_pos c1] at h
    refine RM.blk [(2, 0, 0, .null), (3, 11, 0, .null), (1, 3, 0, .null), (1, 4, 0, .null)] (pc' := 19) (L' := [some (.ref 0), some (.int p0), some (.int p1), some (.int p2), some (.int p3), some (.int p4), none]) (st' := [.int p3, .int p2, .ref 1]) (σ1 := σ) (by decide +kernel) rfl ?_
    refine RN.callV [.int p2, .int p3] (s_Drawing_has σ p2 p3) [] (pc3 := 22) (st3 := [.int (bI (F_Drawing_has σ p2 p3))]) (by decide +kernel) mk_Drawing_has (by decide) ?_
    refine RM.zeq (tgt := 44) (by decide +kernel) (fun c2 => ?_) (fun c2 => ?_)
    · rw [if_neg (bf c2)] at h
      refine RM.blk [(0, 0, 0, .int (-2))] (pc' := 46) (L' := [some (.ref 0), some (.int p0), some (.int p1), some (.int p2), some (.int p3), some (.int p4), none]) (st' := [.int (-2)]) (σ1 := σ) (by decide +kernel) rfl ?_
      obtain ⟨rfl, rfl⟩ := Prod.mk.inj (Option.some.inj h)
      exact RM.reti (by decide +kernel) rfl
    · rw [if_pos c2] at h
      refine RM.blk [(1, 1, 0, .null), (1, 3, 0, .null)] (pc' := 27) (L' := [some (.ref 0), some (.int p0), some (.int p1), some (.int p2), some (.int p3), some (.int p4), none]) (st' := [.int p2, .int p0]) (σ1 := σ) (by decide +kernel) rfl ?_
      refine RM.icmp_gt (tgt := 44) (by decide +kernel) (fun c3 => ?_) (fun c3 => ?_)
      · rw [if_pos c3] at h
        refine RM.blk [(0, 0, 0, .int (-2))] (pc' := 46) (L' := [some (.ref 0), some (.int p0), some (.int p1), some (.int p2), some (.int p3), some (.int p4), none]) (st' := [.int (-2)]) (σ1 := σ) (by decide +kernel) rfl ?_
        obtain ⟨rfl, rfl⟩ := Prod.mk.inj (Option.some.inj h)
        exact RM.reti (by decide +kernel) rfl
      · rw [if_neg c3] at h
        refine RM.blk [(1, 2, 0, .null), (1, 4, 0, .null)] (pc' := 33) (L' := [some (.ref 0), some (.int p0), some (.int p1), some (.int p2), some (.int p3), some (.int p4), none]) (st' := [.int p3, .int p1]) (σ1 := σ) (by decide +kernel) rfl ?_
        refine RM.icmp_gt (tgt := 44) (by decide +kernel) (fun c4 => ?_) (fun c4 => ?_)
        · rw [if_pos c4] at h
          refine RM.blk [(0, 0, 0, .int (-2))] (pc' := 46) (L' := [some (.ref 0), some (.int p0), some (.int p1), some (.int p2), some (.int p3), some (.int p4), none]) (st' := [.int (-2)]) (σ1 := σ) (by decide +kernel) rfl ?_
          obtain ⟨rfl, rfl⟩ := Prod.mk.inj (Option.some.inj h)
          exact RM.reti (by decide +kernel) rfl
        · rw [if_neg c4] at h
          refine RM.blk [(1, 5, 0, .null)] (pc' := 38) (L' := [some (.ref 0), some (.int p0), some (.int p1), some (.int p2), some (.int p3), some (.int p4), none]) (st' := [.int p4]) (σ1 := σ) (by decide +kernel) rfl ?_
          refine RN.callS [.int p4] (s_Shop_isField σ p4) [] (pc3 := 41) (st3 := [.int (bI (F_Shop_isField p4))]) (by decide +kernel) mk_Shop_isField (by decide) ?_
          refine RM.zne (tgt := 47) (by decide +kernel) (fun c5 => ?_) (fun c5 => ?_)
          · rw [if_pos c5] at h
            refine RM.blk [(2, 0, 0, .null), (3, 11, 0, .null), (1, 1, 0, .null), (1, 2, 0, .null), (1, 3, 0, .null), (1, 4, 0, .null), (1, 5, 0, .null)] (pc' := 58) (L' := [some (.ref 0), some (.int p0), some (.int p1), some (.int p2), some (.int p3), some (.int p4), none]) (st' := [.int p4, .int p3, .int p2, .int p1, .int p0, .ref 1]) (σ1 := σ) (by decide +kernel) rfl ?_
            obtain ⟨v6, hv6, h⟩ := ob_some h
            refine RN.callV [.int p0, .int p1, .int p2, .int p3, .int p4] (s_Drawing_fill σ p0 p1 p2 p3 p4 v6.1 v6.2 hv6) [] (pc3 := 61) (st3 := [.int v6.1]) (by decide +kernel) mk_Drawing_fill (by decide) ?_
            refine RM.blk [(4, 6, 0, .null), (1, 6, 0, .null)] (pc' := 65) (L' := [some (.ref 0), some (.int p0), some (.int p1), some (.int p2), some (.int p3), some (.int p4), some (.int v6.1)]) (st' := [.int v6.1]) (σ1 := v6.2) (by decide +kernel) rfl ?_
            refine RM.if_le (tgt := 72) (by decide +kernel) (fun c7 => ?_) (fun c7 => ?_)
            · rw [if_pos c7] at h
              refine RM.blk [(1, 6, 0, .null)] (pc' := 74) (L' := [some (.ref 0), some (.int p0), some (.int p1), some (.int p2), some (.int p3), some (.int p4), some (.int v6.1)]) (st' := [.int v6.1]) (σ1 := v6.2) (by decide +kernel) rfl ?_
              obtain ⟨rfl, rfl⟩ := Prod.mk.inj (Option.some.inj h)
              exact RM.reti (by decide +kernel) rfl
            · rw [if_neg c7] at h
              refine RM.blk [(2, 0, 0, .null)] (pc' := 69) (L' := [some (.ref 0), some (.int p0), some (.int p1), some (.int p2), some (.int p3), some (.int p4), some (.int v6.1)]) (st' := [.ref 0]) (σ1 := v6.2) (by decide +kernel) rfl ?_
              refine RN.callV [] (s_Shop_takeDown v6.2 _ rfl) [] (pc3 := 72) (st3 := []) (by decide +kernel) mk_Shop_takeDown (by decide) ?_
              refine RM.blk [(1, 6, 0, .null)] (pc' := 74) (L' := [some (.ref 0), some (.int p0), some (.int p1), some (.int p2), some (.int p3), some (.int p4), some (.int v6.1)]) (st' := [.int v6.1]) (σ1 := (F_Shop_takeDown v6.2)) (by decide +kernel) rfl ?_
              obtain ⟨rfl, rfl⟩ := Prod.mk.inj (Option.some.inj h)
              exact RM.reti (by decide +kernel) rfl
          · rw [if_neg (bf c5)] at h
            refine RM.blk [(0, 0, 0, .int (-2))] (pc' := 46) (L' := [some (.ref 0), some (.int p0), some (.int p1), some (.int p2), some (.int p3), some (.int p4), none]) (st' := [.int (-2)]) (σ1 := σ) (by decide +kernel) rfl ?_
            obtain ⟨rfl, rfl⟩ := Prod.mk.inj (Option.some.inj h)
            exact RM.reti (by decide +kernel) rfl
def M_Shop_field : MI := (yX11_field, cX11_field, 3, some .int, 11)
theorem mk_Shop_field : mOK M_Shop_field 2 = true := by decide +kernel
set_option maxRecDepth 100000 in
set_option maxHeartbeats 4000000 in
theorem s_Shop_field (σ : SG) (p0 : Int32) (p1 : Int32) : SpN 4 M_Shop_field [.ref 0, .int p0, .int p1] σ (some (.int (F_Shop_field σ p0 p1))) σ := by
  generalize h : F_Shop_field σ p0 p1 = rr
  unfold F_Shop_field at h
  refine Sp.of mk_Shop_field rfl (Nat.le_of_ble_eq_true rfl) ?_
  refine RM.blk [(2, 0, 0, .null), (3, 11, 0, .null), (1, 1, 0, .null), (1, 2, 0, .null)] (pc' := 6) (L' := [some (.ref 0), some (.int p0), some (.int p1)]) (st' := [.int p1, .int p0, .ref 1]) (σ1 := σ) (by decide +kernel) rfl ?_
  refine RN.callV [.int p0, .int p1] (s_Drawing_has σ p0 p1) [] (pc3 := 9) (st3 := [.int (bI (F_Drawing_has σ p0 p1))]) (by decide +kernel) mk_Drawing_has (by decide) ?_
  refine RM.zeq (tgt := 24) (by decide +kernel) (fun c1 => ?_) (fun c1 => ?_)
  · rw [if_neg (bf c1)] at h
    refine RM.blk [(0, 0, 0, .int (-2))] (pc' := 26) (L' := [some (.ref 0), some (.int p0), some (.int p1)]) (st' := [.int (-2)]) (σ1 := σ) (by decide +kernel) rfl ?_
    obtain rfl := h
    exact RM.reti (by decide +kernel) rfl
  · rw [if_pos c1] at h
    refine RM.blk [(2, 0, 0, .null), (3, 11, 0, .null), (1, 1, 0, .null), (1, 2, 0, .null)] (pc' := 18) (L' := [some (.ref 0), some (.int p0), some (.int p1)]) (st' := [.int p1, .int p0, .ref 1]) (σ1 := σ) (by decide +kernel) rfl ?_
    refine RN.callV [.int p0, .int p1] (s_Drawing_fieldAt σ p0 p1) [] (pc3 := 21) (st3 := [.int (F_Drawing_fieldAt σ p0 p1)]) (by decide +kernel) mk_Drawing_fieldAt (by decide) ?_
    refine RM.blk [(23, 0, 0, .null)] (pc' := 26) (L' := [some (.ref 0), some (.int p0), some (.int p1)]) (st' := [.int (F_Drawing_fieldAt σ p0 p1)]) (σ1 := σ) (by decide +kernel) rfl ?_
    obtain rfl := h
    exact RM.reti (by decide +kernel) rfl
def M_Shop_isColour : MI := (yX11_isColour, cX11_isColour, 3, some .boolean, 11)
theorem mk_Shop_isColour : mOK M_Shop_isColour 3 = true := by decide +kernel
set_option maxRecDepth 100000 in
set_option maxHeartbeats 4000000 in
theorem s_Shop_isColour (σ : SG) (p0 : Int32) (p1 : Int32) (p2 : Int32) : SpN 2 M_Shop_isColour [.int p0, .int p1, .int p2] σ (some (.int (bI (F_Shop_isColour p0 p1 p2)))) σ := by
  generalize h : F_Shop_isColour p0 p1 p2 = rr
  unfold F_Shop_isColour at h
  refine Sp.of mk_Shop_isColour rfl (Nat.le_of_ble_eq_true rfl) ?_
  refine RM.blk [(1, 0, 0, .null), (0, 0, 0, .int 0), (0, 0, 0, .int 255)] (pc' := 5) (L' := [some (.int p0), some (.int p1), some (.int p2)]) (st' := [.int 255, .int 0, .int p0]) (σ1 := σ) (by decide +kernel) rfl ?_
  refine RN.callS [.int p0, .int 0, .int 255] (s_Shop_within σ p0 0 255) [] (pc3 := 8) (st3 := [.int (bI (F_Shop_within p0 0 255))]) (by decide +kernel) mk_Shop_within (by decide) ?_
  refine RM.zeq (tgt := 37) (by decide +kernel) (fun c1 => ?_) (fun c1 => ?_)
  · rw [if_neg (bf c1)] at h
    refine RM.blk [(0, 0, 0, .int 0)] (pc' := 38) (L' := [some (.int p0), some (.int p1), some (.int p2)]) (st' := [.int 0]) (σ1 := σ) (by decide +kernel) rfl ?_
    obtain rfl := h
    exact RM.retz (z := false) (by decide +kernel) rfl
  · rw [if_pos c1] at h
    refine RM.blk [(1, 1, 0, .null), (0, 0, 0, .int 0), (0, 0, 0, .int 255)] (pc' := 16) (L' := [some (.int p0), some (.int p1), some (.int p2)]) (st' := [.int 255, .int 0, .int p1]) (σ1 := σ) (by decide +kernel) rfl ?_
    refine RN.callS [.int p1, .int 0, .int 255] (s_Shop_within σ p1 0 255) [] (pc3 := 19) (st3 := [.int (bI (F_Shop_within p1 0 255))]) (by decide +kernel) mk_Shop_within (by decide) ?_
    refine RM.zeq (tgt := 37) (by decide +kernel) (fun c2 => ?_) (fun c2 => ?_)
    · rw [if_neg (bf c2)] at h
      refine RM.blk [(0, 0, 0, .int 0)] (pc' := 38) (L' := [some (.int p0), some (.int p1), some (.int p2)]) (st' := [.int 0]) (σ1 := σ) (by decide +kernel) rfl ?_
      obtain rfl := h
      exact RM.retz (z := false) (by decide +kernel) rfl
    · rw [if_pos c2] at h
      refine RM.blk [(1, 2, 0, .null), (0, 0, 0, .int 0), (0, 0, 0, .int 255)] (pc' := 27) (L' := [some (.int p0), some (.int p1), some (.int p2)]) (st' := [.int 255, .int 0, .int p2]) (σ1 := σ) (by decide +kernel) rfl ?_
      refine RN.callS [.int p2, .int 0, .int 255] (s_Shop_within σ p2 0 255) [] (pc3 := 30) (st3 := [.int (bI (F_Shop_within p2 0 255))]) (by decide +kernel) mk_Shop_within (by decide) ?_
      refine RM.zeq (tgt := 37) (by decide +kernel) (fun c3 => ?_) (fun c3 => ?_)
      · rw [if_neg (bf c3)] at h
        refine RM.blk [(0, 0, 0, .int 0)] (pc' := 38) (L' := [some (.int p0), some (.int p1), some (.int p2)]) (st' := [.int 0]) (σ1 := σ) (by decide +kernel) rfl ?_
        obtain rfl := h
        exact RM.retz (z := false) (by decide +kernel) rfl
      · rw [if_pos c3] at h
        refine RM.blk [(0, 0, 0, .int 1), (23, 0, 0, .null)] (pc' := 38) (L' := [some (.int p0), some (.int p1), some (.int p2)]) (st' := [.int 1]) (σ1 := σ) (by decide +kernel) rfl ?_
        obtain rfl := h
        exact RM.retz (z := true) (by decide +kernel) rfl
def M_Colours_put : MI := (yX0_put, cX0_put, 5, none, 0)
theorem mk_Colours_put : mOK M_Colours_put 4 = true := by decide +kernel
set_option maxRecDepth 100000 in
set_option maxHeartbeats 4000000 in
theorem s_Colours_put_5 (σ : SG) (p0 : Int32) (p1 : Int32) (p2 : Int32) (p3 : Int32) (so : SG) (h : F_Colours_put_5 σ p0 p1 p2 p3 = so) : SpN 3 M_Colours_put [.ref 5, .int p0, .int p1, .int p2, .int p3] σ none so := by
  unfold F_Colours_put_5 at h
  refine Sp.of mk_Colours_put rfl (Nat.le_of_ble_eq_true rfl) ?_
  refine RM.blk [(2, 0, 0, .null), (3, 0, 0, .null), (1, 1, 0, .null), (1, 2, 0, .null)] (pc' := 6) (L' := [some (.ref 5), some (.int p0), some (.int p1), some (.int p2), some (.int p3)]) (st' := [.int p1, .int p0, .ref 6]) (σ1 := σ) (by decide +kernel) rfl ?_
  refine RN.callV [.int p0, .int p1] (s_Row_set (q := 6) (a := 7) (n := 8) ⟨rfl, rfl, by decide⟩ σ p0 p1) [] (pc3 := 9) (st3 := []) (by decide +kernel) mk_Row_set (by decide) ?_
  refine RM.blk [(2, 0, 0, .null), (3, 0, 1, .null), (1, 1, 0, .null), (1, 3, 0, .null)] (pc' := 15) (L' := [some (.ref 5), some (.int p0), some (.int p1), some (.int p2), some (.int p3)]) (st' := [.int p2, .int p0, .ref 8]) (σ1 := (rs σ 7 8 p0 p1)) (by decide +kernel) rfl ?_
  refine RN.callV [.int p0, .int p2] (s_Row_set (q := 8) (a := 9) (n := 8) ⟨rfl, rfl, by decide⟩ (rs σ 7 8 p0 p1) p0 p2) [] (pc3 := 18) (st3 := []) (by decide +kernel) mk_Row_set (by decide) ?_
  refine RM.blk [(2, 0, 0, .null), (3, 0, 2, .null), (1, 1, 0, .null), (1, 4, 0, .null)] (pc' := 25) (L' := [some (.ref 5), some (.int p0), some (.int p1), some (.int p2), some (.int p3)]) (st' := [.int p3, .int p0, .ref 10]) (σ1 := (rs (rs σ 7 8 p0 p1) 9 8 p0 p2)) (by decide +kernel) rfl ?_
  refine RN.callV [.int p0, .int p3] (s_Row_set (q := 10) (a := 11) (n := 8) ⟨rfl, rfl, by decide⟩ (rs (rs σ 7 8 p0 p1) 9 8 p0 p2) p0 p3) [] (pc3 := 28) (st3 := []) (by decide +kernel) mk_Row_set (by decide) ?_
  generalize ns1 : (rs (rs (rs σ 7 8 p0 p1) 9 8 p0 p2) 11 8 p0 p3) = s1 at h ⊢
  replace h := nm_h h
  obtain rfl := h
  exact RM.retv (by decide +kernel) rfl
def M_Shop_colour : MI := (yX11_colour, cX11_colour, 5, some .int, 11)
theorem mk_Shop_colour : mOK M_Shop_colour 4 = true := by decide +kernel
set_option maxRecDepth 100000 in
set_option maxHeartbeats 4000000 in
theorem s_Shop_colour (σ : SG) (p0 : Int32) (p1 : Int32) (p2 : Int32) (p3 : Int32) (rr : Int32) (so : SG) (h : F_Shop_colour σ p0 p1 p2 p3 = (rr, so)) : SpN 4 M_Shop_colour [.ref 0, .int p0, .int p1, .int p2, .int p3] σ (some (.int rr)) so := by
  unfold F_Shop_colour at h
  refine Sp.of mk_Shop_colour rfl (Nat.le_of_ble_eq_true rfl) ?_
  refine RM.blk [(1, 1, 0, .null)] (pc' := 1) (L' := [some (.ref 0), some (.int p0), some (.int p1), some (.int p2), some (.int p3)]) (st' := [.int p0]) (σ1 := σ) (by decide +kernel) rfl ?_
  refine RN.callS [.int p0] (s_Shop_isField σ p0) [] (pc3 := 4) (st3 := [.int (bI (F_Shop_isField p0))]) (by decide +kernel) mk_Shop_isField (by decide) ?_
  refine RM.zeq (tgt := 17) (by decide +kernel) (fun c1 => ?_) (fun c1 => ?_)
  · rw [if_neg (bf c1)] at h
    refine RM.blk [(0, 0, 0, .int (-2))] (pc' := 19) (L' := [some (.ref 0), some (.int p0), some (.int p1), some (.int p2), some (.int p3)]) (st' := [.int (-2)]) (σ1 := σ) (by decide +kernel) rfl ?_
    obtain ⟨rfl, rfl⟩ := Prod.mk.inj h
    exact RM.reti (by decide +kernel) rfl
  · rw [if_pos c1] at h
    refine RM.blk [(1, 2, 0, .null), (1, 3, 0, .null), (1, 4, 0, .null)] (pc' := 11) (L' := [some (.ref 0), some (.int p0), some (.int p1), some (.int p2), some (.int p3)]) (st' := [.int p3, .int p2, .int p1]) (σ1 := σ) (by decide +kernel) rfl ?_
    refine RN.callS [.int p1, .int p2, .int p3] (s_Shop_isColour σ p1 p2 p3) [] (pc3 := 14) (st3 := [.int (bI (F_Shop_isColour p1 p2 p3))]) (by decide +kernel) mk_Shop_isColour (by decide) ?_
    refine RM.zne (tgt := 20) (by decide +kernel) (fun c2 => ?_) (fun c2 => ?_)
    · rw [if_pos c2] at h
      refine RM.blk [(2, 0, 0, .null), (3, 11, 1, .null), (3, 4, 0, .null), (1, 1, 0, .null), (1, 2, 0, .null), (1, 3, 0, .null), (1, 4, 0, .null)] (pc' := 32) (L' := [some (.ref 0), some (.int p0), some (.int p1), some (.int p2), some (.int p3)]) (st' := [.int p3, .int p2, .int p1, .int p0, .ref 5]) (σ1 := σ) (by decide +kernel) rfl ?_
      refine RN.callV [.int p0, .int p1, .int p2, .int p3] (s_Colours_put_5 σ p0 p1 p2 p3 _ rfl) [] (pc3 := 35) (st3 := []) (by decide +kernel) mk_Colours_put (by decide) ?_
      refine RM.blk [(0, 0, 0, .int 1)] (pc' := 36) (L' := [some (.ref 0), some (.int p0), some (.int p1), some (.int p2), some (.int p3)]) (st' := [.int 1]) (σ1 := (F_Colours_put_5 σ p0 p1 p2 p3)) (by decide +kernel) rfl ?_
      obtain ⟨rfl, rfl⟩ := Prod.mk.inj h
      exact RM.reti (by decide +kernel) rfl
    · rw [if_neg (bf c2)] at h
      refine RM.blk [(0, 0, 0, .int (-2))] (pc' := 19) (L' := [some (.ref 0), some (.int p0), some (.int p1), some (.int p2), some (.int p3)]) (st' := [.int (-2)]) (σ1 := σ) (by decide +kernel) rfl ?_
      obtain ⟨rfl, rfl⟩ := Prod.mk.inj h
      exact RM.reti (by decide +kernel) rfl
def M_Shop_mark : MI := (yX11_mark, cX11_mark, 5, some .int, 11)
theorem mk_Shop_mark : mOK M_Shop_mark 4 = true := by decide +kernel
set_option maxRecDepth 100000 in
set_option maxHeartbeats 4000000 in
theorem s_Shop_mark (σ : SG) (p0 : Int32) (p1 : Int32) (p2 : Bool) (p3 : Bool) (rr : Int32) (so : SG) (h : F_Shop_mark σ p0 p1 p2 p3 = (rr, so)) : SpN 3 M_Shop_mark [.ref 0, .int p0, .int p1, .int (bI p2), .int (bI p3)] σ (some (.int rr)) so := by
  unfold F_Shop_mark at h
  refine Sp.of mk_Shop_mark rfl (Nat.le_of_ble_eq_true rfl) ?_
  refine RM.blk [(1, 1, 0, .null)] (pc' := 1) (L' := [some (.ref 0), some (.int p0), some (.int p1), some (.int (bI p2)), some (.int (bI p3))]) (st' := [.int p0]) (σ1 := σ) (by decide +kernel) rfl ?_
  refine RN.callS [.int p0] (s_Shop_isField σ p0) [] (pc3 := 4) (st3 := [.int (bI (F_Shop_isField p0))]) (by decide +kernel) mk_Shop_isField (by decide) ?_
  refine RM.zeq (tgt := 16) (by decide +kernel) (fun c1 => ?_) (fun c1 => ?_)
  · rw [if_neg (bf c1)] at h
    refine RM.blk [(0, 0, 0, .int (-2))] (pc' := 18) (L' := [some (.ref 0), some (.int p0), some (.int p1), some (.int (bI p2)), some (.int (bI p3))]) (st' := [.int (-2)]) (σ1 := σ) (by decide +kernel) rfl ?_
    obtain ⟨rfl, rfl⟩ := Prod.mk.inj h
    exact RM.reti (by decide +kernel) rfl
  · rw [if_pos c1] at h
    refine RM.blk [(1, 2, 0, .null), (0, 0, 0, .int 1), (0, 0, 0, .int 3)] (pc' := 10) (L' := [some (.ref 0), some (.int p0), some (.int p1), some (.int (bI p2)), some (.int (bI p3))]) (st' := [.int 3, .int 1, .int p1]) (σ1 := σ) (by decide +kernel) rfl ?_
    refine RN.callS [.int p1, .int 1, .int 3] (s_Shop_within σ p1 1 3) [] (pc3 := 13) (st3 := [.int (bI (F_Shop_within p1 1 3))]) (by decide +kernel) mk_Shop_within (by decide) ?_
    refine RM.zne (tgt := 19) (by decide +kernel) (fun c2 => ?_) (fun c2 => ?_)
    · rw [if_pos c2] at h
      refine RM.blk [(2, 0, 0, .null), (3, 11, 1, .null), (3, 4, 1, .null), (1, 1, 0, .null), (1, 2, 0, .null)] (pc' := 28) (L' := [some (.ref 0), some (.int p0), some (.int p1), some (.int (bI p2)), some (.int (bI p3))]) (st' := [.int p1, .int p0, .ref 12]) (σ1 := σ) (by decide +kernel) rfl ?_
      refine RN.callV [.int p0, .int p1] (s_Row_set (q := 12) (a := 13) (n := 8) ⟨rfl, rfl, by decide⟩ σ p0 p1) [] (pc3 := 31) (st3 := []) (by decide +kernel) mk_Row_set (by decide) ?_
      refine RM.blk [(2, 0, 0, .null), (3, 11, 1, .null), (3, 4, 2, .null), (1, 1, 0, .null), (1, 3, 0, .null)] (pc' := 40) (L' := [some (.ref 0), some (.int p0), some (.int p1), some (.int (bI p2)), some (.int (bI p3))]) (st' := [.int (bI p2), .int p0, .ref 14]) (σ1 := (rs σ 13 8 p0 p1)) (by decide +kernel) rfl ?_
      refine RM.zeq (tgt := 47) (by decide +kernel) (fun c3 => ?_) (fun c3 => ?_)
      · rw [if_neg (bf c3)] at h
        refine RM.blk [(0, 0, 0, .int 0)] (pc' := 48) (L' := [some (.ref 0), some (.int p0), some (.int p1), some (.int (bI p2)), some (.int (bI p3))]) (st' := [.int 0, .int p0, .ref 14]) (σ1 := (rs σ 13 8 p0 p1)) (by decide +kernel) rfl ?_
        refine RN.callV [.int p0, .int 0] (s_Row_set (q := 14) (a := 15) (n := 8) ⟨rfl, rfl, by decide⟩ (rs σ 13 8 p0 p1) p0 0) [] (pc3 := 51) (st3 := []) (by decide +kernel) mk_Row_set (by decide) ?_
        refine RM.blk [(2, 0, 0, .null), (3, 11, 1, .null), (3, 4, 3, .null), (1, 1, 0, .null), (1, 4, 0, .null)] (pc' := 61) (L' := [some (.ref 0), some (.int p0), some (.int p1), some (.int (bI p2)), some (.int (bI p3))]) (st' := [.int (bI p3), .int p0, .ref 16]) (σ1 := (rs (rs σ 13 8 p0 p1) 15 8 p0 0)) (by decide +kernel) rfl ?_
        refine RM.zeq (tgt := 68) (by decide +kernel) (fun c4 => ?_) (fun c4 => ?_)
        · rw [if_neg (bf c4)] at h
          refine RM.blk [(0, 0, 0, .int 0)] (pc' := 69) (L' := [some (.ref 0), some (.int p0), some (.int p1), some (.int (bI p2)), some (.int (bI p3))]) (st' := [.int 0, .int p0, .ref 16]) (σ1 := (rs (rs σ 13 8 p0 p1) 15 8 p0 0)) (by decide +kernel) rfl ?_
          refine RN.callV [.int p0, .int 0] (s_Row_set (q := 16) (a := 17) (n := 8) ⟨rfl, rfl, by decide⟩ (rs (rs σ 13 8 p0 p1) 15 8 p0 0) p0 0) [] (pc3 := 72) (st3 := []) (by decide +kernel) mk_Row_set (by decide) ?_
          generalize ns5 : (rs (rs (rs σ 13 8 p0 p1) 15 8 p0 0) 17 8 p0 0) = s5 at h ⊢
          replace h := nm_h h
          refine RM.blk [(0, 0, 0, .int 1)] (pc' := 73) (L' := [some (.ref 0), some (.int p0), some (.int p1), some (.int (bI p2)), some (.int (bI p3))]) (st' := [.int 1]) (σ1 := s5) (by decide +kernel) rfl ?_
          obtain ⟨rfl, rfl⟩ := Prod.mk.inj h
          exact RM.reti (by decide +kernel) rfl
        · rw [if_pos c4] at h
          refine RM.blk [(0, 0, 0, .int 1), (23, 0, 0, .null)] (pc' := 69) (L' := [some (.ref 0), some (.int p0), some (.int p1), some (.int (bI p2)), some (.int (bI p3))]) (st' := [.int 1, .int p0, .ref 16]) (σ1 := (rs (rs σ 13 8 p0 p1) 15 8 p0 0)) (by decide +kernel) rfl ?_
          refine RN.callV [.int p0, .int 1] (s_Row_set (q := 16) (a := 17) (n := 8) ⟨rfl, rfl, by decide⟩ (rs (rs σ 13 8 p0 p1) 15 8 p0 0) p0 1) [] (pc3 := 72) (st3 := []) (by decide +kernel) mk_Row_set (by decide) ?_
          generalize ns6 : (rs (rs (rs σ 13 8 p0 p1) 15 8 p0 0) 17 8 p0 1) = s6 at h ⊢
          replace h := nm_h h
          refine RM.blk [(0, 0, 0, .int 1)] (pc' := 73) (L' := [some (.ref 0), some (.int p0), some (.int p1), some (.int (bI p2)), some (.int (bI p3))]) (st' := [.int 1]) (σ1 := s6) (by decide +kernel) rfl ?_
          obtain ⟨rfl, rfl⟩ := Prod.mk.inj h
          exact RM.reti (by decide +kernel) rfl
      · rw [if_pos c3] at h
        refine RM.blk [(0, 0, 0, .int 1), (23, 0, 0, .null)] (pc' := 48) (L' := [some (.ref 0), some (.int p0), some (.int p1), some (.int (bI p2)), some (.int (bI p3))]) (st' := [.int 1, .int p0, .ref 14]) (σ1 := (rs σ 13 8 p0 p1)) (by decide +kernel) rfl ?_
        refine RN.callV [.int p0, .int 1] (s_Row_set (q := 14) (a := 15) (n := 8) ⟨rfl, rfl, by decide⟩ (rs σ 13 8 p0 p1) p0 1) [] (pc3 := 51) (st3 := []) (by decide +kernel) mk_Row_set (by decide) ?_
        refine RM.blk [(2, 0, 0, .null), (3, 11, 1, .null), (3, 4, 3, .null), (1, 1, 0, .null), (1, 4, 0, .null)] (pc' := 61) (L' := [some (.ref 0), some (.int p0), some (.int p1), some (.int (bI p2)), some (.int (bI p3))]) (st' := [.int (bI p3), .int p0, .ref 16]) (σ1 := (rs (rs σ 13 8 p0 p1) 15 8 p0 1)) (by decide +kernel) rfl ?_
        refine RM.zeq (tgt := 68) (by decide +kernel) (fun c7 => ?_) (fun c7 => ?_)
        · rw [if_neg (bf c7)] at h
          refine RM.blk [(0, 0, 0, .int 0)] (pc' := 69) (L' := [some (.ref 0), some (.int p0), some (.int p1), some (.int (bI p2)), some (.int (bI p3))]) (st' := [.int 0, .int p0, .ref 16]) (σ1 := (rs (rs σ 13 8 p0 p1) 15 8 p0 1)) (by decide +kernel) rfl ?_
          refine RN.callV [.int p0, .int 0] (s_Row_set (q := 16) (a := 17) (n := 8) ⟨rfl, rfl, by decide⟩ (rs (rs σ 13 8 p0 p1) 15 8 p0 1) p0 0) [] (pc3 := 72) (st3 := []) (by decide +kernel) mk_Row_set (by decide) ?_
          generalize ns8 : (rs (rs (rs σ 13 8 p0 p1) 15 8 p0 1) 17 8 p0 0) = s8 at h ⊢
          replace h := nm_h h
          refine RM.blk [(0, 0, 0, .int 1)] (pc' := 73) (L' := [some (.ref 0), some (.int p0), some (.int p1), some (.int (bI p2)), some (.int (bI p3))]) (st' := [.int 1]) (σ1 := s8) (by decide +kernel) rfl ?_
          obtain ⟨rfl, rfl⟩ := Prod.mk.inj h
          exact RM.reti (by decide +kernel) rfl
        · rw [if_pos c7] at h
          refine RM.blk [(0, 0, 0, .int 1), (23, 0, 0, .null)] (pc' := 69) (L' := [some (.ref 0), some (.int p0), some (.int p1), some (.int (bI p2)), some (.int (bI p3))]) (st' := [.int 1, .int p0, .ref 16]) (σ1 := (rs (rs σ 13 8 p0 p1) 15 8 p0 1)) (by decide +kernel) rfl ?_
          refine RN.callV [.int p0, .int 1] (s_Row_set (q := 16) (a := 17) (n := 8) ⟨rfl, rfl, by decide⟩ (rs (rs σ 13 8 p0 p1) 15 8 p0 1) p0 1) [] (pc3 := 72) (st3 := []) (by decide +kernel) mk_Row_set (by decide) ?_
          generalize ns9 : (rs (rs (rs σ 13 8 p0 p1) 15 8 p0 1) 17 8 p0 1) = s9 at h ⊢
          replace h := nm_h h
          refine RM.blk [(0, 0, 0, .int 1)] (pc' := 73) (L' := [some (.ref 0), some (.int p0), some (.int p1), some (.int (bI p2)), some (.int (bI p3))]) (st' := [.int 1]) (σ1 := s9) (by decide +kernel) rfl ?_
          obtain ⟨rfl, rfl⟩ := Prod.mk.inj h
          exact RM.reti (by decide +kernel) rfl
    · rw [if_neg (bf c2)] at h
      refine RM.blk [(0, 0, 0, .int (-2))] (pc' := 18) (L' := [some (.ref 0), some (.int p0), some (.int p1), some (.int (bI p2)), some (.int (bI p3))]) (st' := [.int (-2)]) (σ1 := σ) (by decide +kernel) rfl ?_
      obtain ⟨rfl, rfl⟩ := Prod.mk.inj h
      exact RM.reti (by decide +kernel) rfl
def M_Drawing_stripEnd : MI := (yX3_stripEnd, cX3_stripEnd, 4, some .int, 3)
theorem mk_Drawing_stripEnd : mOK M_Drawing_stripEnd 2 = true := by decide +kernel
set_option maxRecDepth 100000 in
set_option maxHeartbeats 4000000 in
theorem s_Drawing_stripEnd (σ : SG) (p0 : Int32) (p1 : Int32) (rr : Int32) (h : F_Drawing_stripEnd σ p0 p1 = some rr) : SpN 4 M_Drawing_stripEnd [.ref 1, .int p0, .int p1] σ (some (.int rr)) σ := by
  unfold F_Drawing_stripEnd at h
  refine Sp.of mk_Drawing_stripEnd rfl (Nat.le_of_ble_eq_true rfl) ?_
  refine RM.blk [(1, 1, 0, .null), (0, 0, 0, .int 1), (5, 0, 0, .null), (4, 3, 0, .null)] (pc' := 4) (L' := [some (.ref 1), some (.int p0), some (.int p1), some (.int (p0 + 1))]) (st' := []) (σ1 := σ) (by decide +kernel) rfl ?_
  have hL1 : ∀ (n : Nat) (x1 : Int32) (y1 : Int32), lpW (L_Drawing_stripEnd_4 σ p0 p1) n x1 = some y1 → RN 4 M_Drawing_stripEnd (some (.int rr)) σ 33 [none, none, none, some (.int y1)] [] σ → RN 4 M_Drawing_stripEnd (some (.int rr)) σ 4 [some (.ref 1), some (.int p0), some (.int p1), some (.int x1)] [] σ := by
    intro n
    induction n with
    | zero => intro x1 y1 hy1; cases hy1
    | succ n ih1 =>
      intro x1 y1 hy1 hK1
      obtain ⟨z1, e1, hy1⟩ := ob_some hy1
      unfold L_Drawing_stripEnd_4 at e1
      refine RM.blk [(1, 3, 0, .null), (2, 0, 0, .null), (3, 3, 0, .null)] (pc' := 9) (L' := [some (.ref 1), some (.int p0), some (.int p1), some (.int x1)]) (st' := [.int (σ 1 0), .int x1]) (σ1 := σ) (by decide +kernel) rfl ?_
      refine RM.icmp_ge (tgt := 33) (by decide +kernel) (fun c2 => ?_) (fun c2 => ?_)
      · rw [if_pos c2] at e1
        obtain rfl := Option.some.inj e1
        obtain rfl := Option.some.inj (show some (x1 : Int32) = some y1 from hy1)
        refine RN.dropB [false, false, false, true] rfl ?_
        exact hK1
      · rw [if_neg c2] at e1
        refine RM.blk [(2, 0, 0, .null), (1, 3, 0, .null), (1, 2, 0, .null)] (pc' := 15) (L' := [some (.ref 1), some (.int p0), some (.int p1), some (.int x1)]) (st' := [.int p1, .int x1, .ref 1]) (σ1 := σ) (by decide +kernel) rfl ?_
        refine RN.callV [.int x1, .int p1] (s_Drawing_fieldAt σ x1 p1) [] (pc3 := 18) (st3 := [.int (F_Drawing_fieldAt σ x1 p1)]) (by decide +kernel) mk_Drawing_fieldAt (by decide) ?_
        refine RM.blk [(2, 0, 0, .null), (1, 1, 0, .null), (1, 2, 0, .null)] (pc' := 21) (L' := [some (.ref 1), some (.int p0), some (.int p1), some (.int x1)]) (st' := [.int p1, .int p0, .ref 1, .int (F_Drawing_fieldAt σ x1 p1)]) (σ1 := σ) (by decide +kernel) rfl ?_
        refine RN.callV [.int p0, .int p1] (s_Drawing_fieldAt σ p0 p1) [.int (F_Drawing_fieldAt σ x1 p1)] (pc3 := 24) (st3 := [.int (F_Drawing_fieldAt σ p0 p1), .int (F_Drawing_fieldAt σ x1 p1)]) (by decide +kernel) mk_Drawing_fieldAt (by decide) ?_
        refine RM.icmp_ne (tgt := 33) (by decide +kernel) (fun c3 => ?_) (fun c3 => ?_)
        · rw [if_neg c3] at e1
          obtain rfl := Option.some.inj e1
          obtain rfl := Option.some.inj (show some (x1 : Int32) = some y1 from hy1)
          refine RN.dropB [false, false, false, true] rfl ?_
          exact hK1
        · rw [if_pos c3] at e1
          refine RM.blk [(10, 3, 0, .int 1), (23, 0, 0, .null)] (pc' := 4) (L' := [some (.ref 1), some (.int p0), some (.int p1), some (.int (x1 + 1))]) (st' := []) (σ1 := σ) (by decide +kernel) rfl ?_
          obtain rfl := Option.some.inj e1
          refine RN.dropB [true, true, true, true] rfl ?_
          exact ih1 (x1 + 1) _ hy1 hK1
  obtain ⟨y1, hl1, h⟩ := ob_some h
  refine RN.dropB [true, true, true, true] rfl ?_
  refine hL1 FU (p0 + 1) y1 hl1 ?_
  refine RM.blk [(1, 3, 0, .null)] (pc' := 34) (L' := [none, none, none, some (.int y1)]) (st' := [.int y1]) (σ1 := σ) (by decide +kernel) rfl ?_
  obtain rfl := (Option.some.inj h)
  exact RM.reti (by decide +kernel) rfl
def M_Layer_mayEnd : MI := (yX6_mayEnd, cX6_mayEnd, 3, some .boolean, 6)
theorem mk_Layer_mayEnd : mOK M_Layer_mayEnd 2 = true := by decide +kernel
set_option maxRecDepth 100000 in
set_option maxHeartbeats 4000000 in
theorem s_Layer_mayEnd (σ : SG) (p0 : Int32) (p1 : Int32) : SpN 3 M_Layer_mayEnd [.ref 35, .int p0, .int p1] σ (some (.int (bI (F_Layer_mayEnd σ p0 p1)))) σ := by
  generalize h : F_Layer_mayEnd σ p0 p1 = rr
  unfold F_Layer_mayEnd at h
  refine Sp.of mk_Layer_mayEnd rfl (Nat.le_of_ble_eq_true rfl) ?_
  refine RM.blk [(1, 1, 0, .null), (1, 2, 0, .null)] (pc' := 2) (L' := [some (.ref 35), some (.int p0), some (.int p1)]) (st' := [.int p1, .int p0]) (σ1 := σ) (by decide +kernel) rfl ?_
  refine RM.icmp_eq (tgt := 21) (by decide +kernel) (fun c1 => ?_) (fun c1 => ?_)
  · rw [if_pos c1] at h
    refine RM.blk [(0, 0, 0, .int 1), (23, 0, 0, .null)] (pc' := 26) (L' := [some (.ref 35), some (.int p0), some (.int p1)]) (st' := [.int 1]) (σ1 := σ) (by decide +kernel) rfl ?_
    obtain rfl := h
    exact RM.retz (z := true) (by decide +kernel) rfl
  · rw [if_neg c1] at h
    refine RM.blk [(1, 1, 0, .null), (1, 2, 0, .null)] (pc' := 7) (L' := [some (.ref 35), some (.int p0), some (.int p1)]) (st' := [.int p1, .int p0]) (σ1 := σ) (by decide +kernel) rfl ?_
    refine RM.icmp_ge (tgt := 25) (by decide +kernel) (fun c2 => ?_) (fun c2 => ?_)
    · rw [if_pos c2] at h
      refine RM.blk [(0, 0, 0, .int 0)] (pc' := 26) (L' := [some (.ref 35), some (.int p0), some (.int p1)]) (st' := [.int 0]) (σ1 := σ) (by decide +kernel) rfl ?_
      obtain rfl := h
      exact RM.retz (z := false) (by decide +kernel) rfl
    · rw [if_neg c2] at h
      refine RM.blk [(2, 0, 0, .null), (3, 6, 3, .null), (1, 1, 0, .null)] (pc' := 15) (L' := [some (.ref 35), some (.int p0), some (.int p1)]) (st' := [.int p0, .ref 36]) (σ1 := σ) (by decide +kernel) rfl ?_
      refine RN.callV [.int p0] (s_Row_get (q := 36) (a := 37) (n := 25) ⟨rfl, rfl, by decide⟩ σ p0) [] (pc3 := 18) (st3 := [.int (rg σ 37 25 p0)]) (by decide +kernel) mk_Row_get (by decide) ?_
      refine RM.if_ne (tgt := 25) (by decide +kernel) (fun c3 => ?_) (fun c3 => ?_)
      · rw [if_neg c3] at h
        refine RM.blk [(0, 0, 0, .int 0)] (pc' := 26) (L' := [some (.ref 35), some (.int p0), some (.int p1)]) (st' := [.int 0]) (σ1 := σ) (by decide +kernel) rfl ?_
        obtain rfl := h
        exact RM.retz (z := false) (by decide +kernel) rfl
      · rw [if_pos c3] at h
        refine RM.blk [(0, 0, 0, .int 1), (23, 0, 0, .null)] (pc' := 26) (L' := [some (.ref 35), some (.int p0), some (.int p1)]) (st' := [.int 1]) (σ1 := σ) (by decide +kernel) rfl ?_
        obtain rfl := h
        exact RM.retz (z := true) (by decide +kernel) rfl
def M_Layer_countFewest : MI := (yX6_countFewest, cX6_countFewest, 7, none, 6)
theorem mk_Layer_countFewest : mOK M_Layer_countFewest 3 = true := by decide +kernel
set_option maxRecDepth 100000 in
set_option maxHeartbeats 4000000 in
theorem s_Layer_countFewest (σ : SG) (p0 : Int32) (p1 : Int32) (p2 : Int32) (so : SG) (h : F_Layer_countFewest σ p0 p1 p2 = some so) : SpN 4 M_Layer_countFewest [.ref 35, .int p0, .int p1, .int p2] σ none so := by
  unfold F_Layer_countFewest at h
  refine Sp.of mk_Layer_countFewest rfl (Nat.le_of_ble_eq_true rfl) ?_
  refine RM.blk [(2, 0, 0, .null), (3, 6, 5, .null), (1, 2, 0, .null), (0, 0, 0, .int 0)] (pc' := 6) (L' := [some (.ref 35), some (.int p0), some (.int p1), some (.int p2), none, none, none]) (st' := [.int 0, .int p1, .ref 40]) (σ1 := σ) (by decide +kernel) rfl ?_
  refine RN.callV [.int p1, .int 0] (s_Row_set (q := 40) (a := 41) (n := 25) ⟨rfl, rfl, by decide⟩ σ p1 0) [] (pc3 := 9) (st3 := []) (by decide +kernel) mk_Row_set (by decide) ?_
  refine RM.blk [(1, 2, 0, .null), (0, 0, 0, .int 1), (6, 0, 0, .null), (4, 4, 0, .null)] (pc' := 14) (L' := [some (.ref 35), some (.int p0), some (.int p1), some (.int p2), some (.int (p1 - 1)), none, none]) (st' := []) (σ1 := (rs σ 41 25 p1 0)) (by decide +kernel) rfl ?_
  have hL1 : ∀ (n : Nat) (x1 : Int32 × SG) (y1 : SG), lpW (L_Layer_countFewest_14 p0 p1 p2) n x1 = some y1 → RN 4 M_Layer_countFewest none so 90 [none, none, none, none, none, none, none] [] y1 → RN 4 M_Layer_countFewest none so 14 [some (.ref 35), some (.int p0), some (.int p1), some (.int p2), some (.int x1.1), none, none] [] x1.2 := by
    intro n
    induction n with
    | zero => intro x1 y1 hy1; cases hy1
    | succ n ih1 =>
      intro x1 y1 hy1 hK1
      obtain ⟨z1, e1, hy1⟩ := ob_some hy1
      unfold L_Layer_countFewest_14 at e1
      refine RM.blk [(1, 4, 0, .null), (1, 1, 0, .null)] (pc' := 17) (L' := [some (.ref 35), some (.int p0), some (.int p1), some (.int p2), some (.int x1.1), none, none]) (st' := [.int p0, .int x1.1]) (σ1 := x1.2) (by decide +kernel) rfl ?_
      refine RM.icmp_lt (tgt := 90) (by decide +kernel) (fun c2 => ?_) (fun c2 => ?_)
      · rw [if_pos c2] at e1
        obtain rfl := Option.some.inj e1
        obtain rfl := Option.some.inj (show some (x1.2 : SG) = some y1 from hy1)
        refine RN.dropB [false, false, false, false, false, false, false] rfl ?_
        exact hK1
      · rw [if_neg c2] at e1
        refine RM.blk [(0, 0, 0, .int 1000000), (4, 5, 0, .null), (0, 0, 0, .int 1), (4, 6, 0, .null)] (pc' := 27) (L' := [some (.ref 35), some (.int p0), some (.int p1), some (.int p2), some (.int x1.1), some (.int 1000000), some (.int 1)]) (st' := []) (σ1 := x1.2) (by decide +kernel) rfl ?_
        have hL3 : ∀ (n : Nat) (x3 : Int32 × Int32) (y3 : Int32), lpW (L_Layer_countFewest_27 p1 p2 x1 x1.1) n x3 = some y3 → RN 4 M_Layer_countFewest none so 73 [some (.ref 35), some (.int p0), some (.int p1), some (.int p2), some (.int x1.1), some (.int y3), none] [] x1.2 → RN 4 M_Layer_countFewest none so 27 [some (.ref 35), some (.int p0), some (.int p1), some (.int p2), some (.int x1.1), some (.int x3.1), some (.int x3.2)] [] x1.2 := by
          intro n
          induction n with
          | zero => intro x3 y3 hy3; cases hy3
          | succ n ih3 =>
            intro x3 y3 hy3 hK3
            obtain ⟨z3, e3, hy3⟩ := ob_some hy3
            unfold L_Layer_countFewest_27 at e3
            refine RM.blk [(1, 6, 0, .null), (1, 3, 0, .null)] (pc' := 30) (L' := [some (.ref 35), some (.int p0), some (.int p1), some (.int p2), some (.int (x1.1)), some (.int x3.1), some (.int x3.2)]) (st' := [.int p2, .int x3.2]) (σ1 := x1.2) (by decide +kernel) rfl ?_
            refine RM.icmp_gt (tgt := 73) (by decide +kernel) (fun c4 => ?_) (fun c4 => ?_)
            · rw [if_pos c4] at e3
              obtain rfl := Option.some.inj e3
              obtain rfl := Option.some.inj (show some (x3.1 : Int32) = some y3 from hy3)
              refine RN.dropB [true, true, true, true, true, true, false] rfl ?_
              exact hK3
            · rw [if_neg c4] at e3
              refine RM.blk [(2, 0, 0, .null), (1, 4, 0, .null), (1, 6, 0, .null), (5, 0, 0, .null), (1, 2, 0, .null)] (pc' := 40) (L' := [some (.ref 35), some (.int p0), some (.int p1), some (.int p2), some (.int (x1.1)), some (.int x3.1), some (.int x3.2)]) (st' := [.int p1, .int (x1.1 + x3.2), .ref 35]) (σ1 := x1.2) (by decide +kernel) rfl ?_
              refine RN.callV [.int (x1.1 + x3.2), .int p1] (s_Layer_mayEnd x1.2 (x1.1 + x3.2) p1) [] (pc3 := 43) (st3 := [.int (bI (F_Layer_mayEnd x1.2 (x1.1 + x3.2) p1))]) (by decide +kernel) mk_Layer_mayEnd (by decide) ?_
              refine RM.zeq (tgt := 67) (by decide +kernel) (fun c5 => ?_) (fun c5 => ?_)
              · rw [if_neg (bf c5)] at e3
                refine RM.blk [(10, 6, 0, .int 1), (23, 0, 0, .null)] (pc' := 27) (L' := [some (.ref 35), some (.int p0), some (.int p1), some (.int p2), some (.int (x1.1)), some (.int x3.1), some (.int (x3.2 + 1))]) (st' := []) (σ1 := x1.2) (by decide +kernel) rfl ?_
                obtain rfl := Option.some.inj e3
                refine RN.dropB [true, true, true, true, true, true, true] rfl ?_
                exact ih3 (x3.1, (x3.2 + 1)) _ hy3 hK3
              · rw [if_pos c5] at e3
                refine RM.blk [(1, 5, 0, .null), (2, 0, 0, .null), (3, 6, 5, .null), (1, 4, 0, .null), (1, 6, 0, .null), (5, 0, 0, .null)] (pc' := 57) (L' := [some (.ref 35), some (.int p0), some (.int p1), some (.int p2), some (.int (x1.1)), some (.int x3.1), some (.int x3.2)]) (st' := [.int (x1.1 + x3.2), .ref 40, .int x3.1]) (σ1 := x1.2) (by decide +kernel) rfl ?_
                refine RN.callV [.int (x1.1 + x3.2)] (s_Row_get (q := 40) (a := 41) (n := 25) ⟨rfl, rfl, by decide⟩ x1.2 (x1.1 + x3.2)) [.int x3.1] (pc3 := 60) (st3 := [.int (rg x1.2 41 25 (x1.1 + x3.2)), .int x3.1]) (by decide +kernel) mk_Row_get (by decide) ?_
                refine RM.blk [(0, 0, 0, .int 1), (5, 0, 0, .null)] (pc' := 62) (L' := [some (.ref 35), some (.int p0), some (.int p1), some (.int p2), some (.int (x1.1)), some (.int x3.1), some (.int x3.2)]) (st' := [.int ((rg x1.2 41 25 (x1.1 + x3.2)) + 1), .int x3.1]) (σ1 := x1.2) (by decide +kernel) rfl ?_
                refine RM.mmin (by decide +kernel) (by decide) (Nat.le_of_ble_eq_true rfl) ⟨Nat.le_refl _, Nat.le_refl _⟩ ?_
                refine RM.blk [(4, 5, 0, .null), (10, 6, 0, .int 1), (23, 0, 0, .null)] (pc' := 27) (L' := [some (.ref 35), some (.int p0), some (.int p1), some (.int p2), some (.int (x1.1)), some (.int (mnI x3.1 ((rg x1.2 41 25 (x1.1 + x3.2)) + 1))), some (.int (x3.2 + 1))]) (st' := []) (σ1 := x1.2) (by decide +kernel) rfl ?_
                obtain rfl := Option.some.inj e3
                refine RN.dropB [true, true, true, true, true, true, true] rfl ?_
                exact ih3 ((mnI x3.1 ((rg x1.2 41 25 (x1.1 + x3.2)) + 1)), (x3.2 + 1)) _ hy3 hK3
        obtain ⟨y3, hl3, e1⟩ := ob_some e1
        refine RN.dropB [true, true, true, true, true, true, true] rfl ?_
        refine hL3 FU (1000000, 1) y3 hl3 ?_
        refine RM.blk [(2, 0, 0, .null), (3, 6, 5, .null), (1, 4, 0, .null), (1, 5, 0, .null)] (pc' := 81) (L' := [some (.ref 35), some (.int p0), some (.int p1), some (.int p2), some (.int x1.1), some (.int y3), none]) (st' := [.int y3, .int x1.1, .ref 40]) (σ1 := x1.2) (by decide +kernel) rfl ?_
        refine RN.callV [.int x1.1, .int y3] (s_Row_set (q := 40) (a := 41) (n := 25) ⟨rfl, rfl, by decide⟩ x1.2 x1.1 y3) [] (pc3 := 84) (st3 := []) (by decide +kernel) mk_Row_set (by decide) ?_
        refine RM.blk [(10, 4, 0, .int (-1)), (23, 0, 0, .null)] (pc' := 14) (L' := [some (.ref 35), some (.int p0), some (.int p1), some (.int p2), some (.int (x1.1 + (-1))), some (.int y3), none]) (st' := []) (σ1 := (rs x1.2 41 25 x1.1 y3)) (by decide +kernel) rfl ?_
        obtain rfl := Option.some.inj e1
        refine RN.dropB [true, true, true, true, true, false, false] rfl ?_
        exact ih1 ((x1.1 + (-1)), (rs x1.2 41 25 x1.1 y3)) _ hy1 hK1
  obtain ⟨y1, hl1, h⟩ := ob_some h
  refine RN.dropB [true, true, true, true, true, false, false] rfl ?_
  refine hL1 FU ((p1 - 1), (rs σ 41 25 p1 0)) y1 hl1 ?_
  obtain rfl := (Option.some.inj h)
  exact RM.retv (by decide +kernel) rfl
def M_Layer_widestOfFewest : MI := (yX6_widestOfFewest, cX6_widestOfFewest, 5, some .int, 6)
theorem mk_Layer_widestOfFewest : mOK M_Layer_widestOfFewest 3 = true := by decide +kernel
set_option maxRecDepth 100000 in
set_option maxHeartbeats 4000000 in
theorem s_Layer_widestOfFewest (σ : SG) (p0 : Int32) (p1 : Int32) (p2 : Int32) (rr : Int32) (h : F_Layer_widestOfFewest σ p0 p1 p2 = some rr) : SpN 4 M_Layer_widestOfFewest [.ref 35, .int p0, .int p1, .int p2] σ (some (.int rr)) σ := by
  unfold F_Layer_widestOfFewest at h
  refine Sp.of mk_Layer_widestOfFewest rfl (Nat.le_of_ble_eq_true rfl) ?_
  refine RM.blk [(1, 3, 0, .null), (4, 4, 0, .null)] (pc' := 3) (L' := [some (.ref 35), some (.int p0), some (.int p1), some (.int p2), some (.int p2)]) (st' := []) (σ1 := σ) (by decide +kernel) rfl ?_
  have hL1 : ∀ (n : Nat) (x1 : Int32) (y1 : (Unit) ⊕ (Int32)), lpW (L_Layer_widestOfFewest_3 σ p0 p1) n x1 = some y1 → Sum.elim (fun y1 : Unit => RN 4 M_Layer_widestOfFewest (some (.int rr)) σ 54 [none, none, none, none, none] [] σ) (fun q : Int32 => q = rr) y1 → RN 4 M_Layer_widestOfFewest (some (.int rr)) σ 3 [some (.ref 35), some (.int p0), some (.int p1), none, some (.int x1)] [] σ := by
    intro n
    induction n with
    | zero => intro x1 y1 hy1; cases hy1
    | succ n ih1 =>
      intro x1 y1 hy1 hK1
      obtain ⟨z1, e1, hy1⟩ := ob_some hy1
      unfold L_Layer_widestOfFewest_3 at e1
      refine RM.blk [(1, 4, 0, .null), (0, 0, 0, .int 1)] (pc' := 6) (L' := [some (.ref 35), some (.int p0), some (.int p1), none, some (.int x1)]) (st' := [.int 1, .int x1]) (σ1 := σ) (by decide +kernel) rfl ?_
      refine RM.icmp_le (tgt := 54) (by decide +kernel) (fun c2 => ?_) (fun c2 => ?_)
      · rw [if_pos c2] at e1
        obtain rfl := Option.some.inj e1
        obtain rfl := Option.some.inj (show some ((.inl ()) : (Unit) ⊕ (Int32)) = some y1 from hy1)
        refine RN.dropB [false, false, false, false, false] rfl ?_
        exact hK1
      · rw [if_neg c2] at e1
        refine RM.blk [(2, 0, 0, .null), (1, 1, 0, .null), (1, 4, 0, .null), (5, 0, 0, .null), (1, 2, 0, .null)] (pc' := 15) (L' := [some (.ref 35), some (.int p0), some (.int p1), none, some (.int x1)]) (st' := [.int p1, .int (p0 + x1), .ref 35]) (σ1 := σ) (by decide +kernel) rfl ?_
        refine RN.callV [.int (p0 + x1), .int p1] (s_Layer_mayEnd σ (p0 + x1) p1) [] (pc3 := 18) (st3 := [.int (bI (F_Layer_mayEnd σ (p0 + x1) p1))]) (by decide +kernel) mk_Layer_mayEnd (by decide) ?_
        refine RM.zeq (tgt := 48) (by decide +kernel) (fun c3 => ?_) (fun c3 => ?_)
        · rw [if_neg (bf c3)] at e1
          refine RM.blk [(10, 4, 0, .int (-1)), (23, 0, 0, .null)] (pc' := 3) (L' := [some (.ref 35), some (.int p0), some (.int p1), none, some (.int (x1 + (-1)))]) (st' := []) (σ1 := σ) (by decide +kernel) rfl ?_
          obtain rfl := Option.some.inj e1
          refine RN.dropB [true, true, true, false, true] rfl ?_
          exact ih1 (x1 + (-1)) _ hy1 hK1
        · rw [if_pos c3] at e1
          refine RM.blk [(2, 0, 0, .null), (3, 6, 5, .null), (1, 1, 0, .null), (1, 4, 0, .null), (5, 0, 0, .null)] (pc' := 29) (L' := [some (.ref 35), some (.int p0), some (.int p1), none, some (.int x1)]) (st' := [.int (p0 + x1), .ref 40]) (σ1 := σ) (by decide +kernel) rfl ?_
          refine RN.callV [.int (p0 + x1)] (s_Row_get (q := 40) (a := 41) (n := 25) ⟨rfl, rfl, by decide⟩ σ (p0 + x1)) [] (pc3 := 32) (st3 := [.int (rg σ 41 25 (p0 + x1))]) (by decide +kernel) mk_Row_get (by decide) ?_
          refine RM.blk [(2, 0, 0, .null), (3, 6, 5, .null), (1, 1, 0, .null)] (pc' := 37) (L' := [some (.ref 35), some (.int p0), some (.int p1), none, some (.int x1)]) (st' := [.int p0, .ref 40, .int (rg σ 41 25 (p0 + x1))]) (σ1 := σ) (by decide +kernel) rfl ?_
          refine RN.callV [.int p0] (s_Row_get (q := 40) (a := 41) (n := 25) ⟨rfl, rfl, by decide⟩ σ p0) [.int (rg σ 41 25 (p0 + x1))] (pc3 := 40) (st3 := [.int (rg σ 41 25 p0), .int (rg σ 41 25 (p0 + x1))]) (by decide +kernel) mk_Row_get (by decide) ?_
          refine RM.blk [(0, 0, 0, .int 1), (6, 0, 0, .null)] (pc' := 42) (L' := [some (.ref 35), some (.int p0), some (.int p1), none, some (.int x1)]) (st' := [.int ((rg σ 41 25 p0) - 1), .int (rg σ 41 25 (p0 + x1))]) (σ1 := σ) (by decide +kernel) rfl ?_
          refine RM.icmp_ne (tgt := 48) (by decide +kernel) (fun c4 => ?_) (fun c4 => ?_)
          · rw [if_neg c4] at e1
            refine RM.blk [(10, 4, 0, .int (-1)), (23, 0, 0, .null)] (pc' := 3) (L' := [some (.ref 35), some (.int p0), some (.int p1), none, some (.int (x1 + (-1)))]) (st' := []) (σ1 := σ) (by decide +kernel) rfl ?_
            obtain rfl := Option.some.inj e1
            refine RN.dropB [true, true, true, false, true] rfl ?_
            exact ih1 (x1 + (-1)) _ hy1 hK1
          · rw [if_pos c4] at e1
            refine RM.blk [(1, 4, 0, .null)] (pc' := 47) (L' := [some (.ref 35), some (.int p0), some (.int p1), none, some (.int x1)]) (st' := [.int x1]) (σ1 := σ) (by decide +kernel) rfl ?_
            obtain rfl := Option.some.inj e1
            obtain rfl := Option.some.inj (show some (.inr x1 : (Unit) ⊕ (Int32)) = some y1 from hy1)
            obtain rfl := (show (x1 : Int32) = rr from hK1)
            exact RM.reti (by decide +kernel) rfl
  obtain ⟨y1, hl1, h⟩ := ob_some h
  refine RN.dropB [true, true, true, false, true] rfl ?_
  refine hL1 FU p2 y1 hl1 ?_
  rcases y1 with y1 | q1
  · simp only [Sum.elim_inl] at h ⊢
    refine RM.blk [(0, 0, 0, .int 1)] (pc' := 55) (L' := [none, none, none, none, none]) (st' := [.int 1]) (σ1 := σ) (by decide +kernel) rfl ?_
    obtain rfl := (Option.some.inj h)
    exact RM.reti (by decide +kernel) rfl
  · simp only [Sum.elim_inr] at h ⊢
    exact Option.some.inj h
def M_Cubes_put : MI := (yX1_put, cX1_put, 6, none, 1)
theorem mk_Cubes_put : mOK M_Cubes_put 4 = true := by decide +kernel
set_option maxRecDepth 100000 in
set_option maxHeartbeats 4000000 in
theorem s_Cubes_put (σ : SG) (p0 : Int32) (p1 : Int32) (p2 : Int32) (p3 : Int32) (so : SG) (h : F_Cubes_put σ p0 p1 p2 p3 = some so) : SpN 3 M_Cubes_put [.ref 18, .int p0, .int p1, .int p2, .int p3] σ none so := by
  unfold F_Cubes_put at h
  refine Sp.of mk_Cubes_put rfl (Nat.le_of_ble_eq_true rfl) ?_
  refine RM.blk [(2, 0, 0, .null), (3, 1, 1, .null), (2, 0, 0, .null), (3, 1, 0, .null), (1, 1, 0, .null)] (pc' := 9) (L' := [some (.ref 18), some (.int p0), some (.int p1), some (.int p2), some (.int p3), none]) (st' := [.int p0, .int (σ 18 0), .ref 19]) (σ1 := σ) (by decide +kernel) rfl ?_
  refine RN.callV [.int (σ 18 0), .int p0] (s_Row_set (q := 19) (a := 20) (n := 240) ⟨rfl, rfl, by decide⟩ σ (σ 18 0) p0) [] (pc3 := 12) (st3 := []) (by decide +kernel) mk_Row_set (by decide) ?_
  refine RM.blk [(2, 0, 0, .null), (3, 1, 2, .null), (2, 0, 0, .null), (3, 1, 0, .null), (1, 2, 0, .null)] (pc' := 21) (L' := [some (.ref 18), some (.int p0), some (.int p1), some (.int p2), some (.int p3), none]) (st' := [.int p1, .int ((rs σ 20 240 (σ 18 0) p0) 18 0), .ref 21]) (σ1 := (rs σ 20 240 (σ 18 0) p0)) (by decide +kernel) rfl ?_
  refine RN.callV [.int ((rs σ 20 240 (σ 18 0) p0) 18 0), .int p1] (s_Row_set (q := 21) (a := 22) (n := 240) ⟨rfl, rfl, by decide⟩ (rs σ 20 240 (σ 18 0) p0) ((rs σ 20 240 (σ 18 0) p0) 18 0) p1) [] (pc3 := 24) (st3 := []) (by decide +kernel) mk_Row_set (by decide) ?_
  generalize ns1 : (rs (rs σ 20 240 (σ 18 0) p0) 22 240 ((rs σ 20 240 (σ 18 0) p0) 18 0) p1) = s1 at h ⊢
  replace h := nm_h h
  refine RM.blk [(2, 0, 0, .null), (3, 1, 3, .null), (2, 0, 0, .null), (3, 1, 0, .null), (1, 3, 0, .null)] (pc' := 33) (L' := [some (.ref 18), some (.int p0), some (.int p1), some (.int p2), some (.int p3), none]) (st' := [.int p2, .int (s1 18 0), .ref 23]) (σ1 := s1) (by decide +kernel) rfl ?_
  refine RN.callV [.int (s1 18 0), .int p2] (s_Row_set (q := 23) (a := 24) (n := 240) ⟨rfl, rfl, by decide⟩ s1 (s1 18 0) p2) [] (pc3 := 36) (st3 := []) (by decide +kernel) mk_Row_set (by decide) ?_
  refine RM.blk [(2, 0, 0, .null), (3, 1, 4, .null), (2, 0, 0, .null), (3, 1, 0, .null), (1, 4, 0, .null)] (pc' := 46) (L' := [some (.ref 18), some (.int p0), some (.int p1), some (.int p2), some (.int p3), none]) (st' := [.int p3, .int ((rs s1 24 240 (s1 18 0) p2) 18 0), .ref 25]) (σ1 := (rs s1 24 240 (s1 18 0) p2)) (by decide +kernel) rfl ?_
  refine RN.callV [.int ((rs s1 24 240 (s1 18 0) p2) 18 0), .int p3] (s_Row_set (q := 25) (a := 26) (n := 240) ⟨rfl, rfl, by decide⟩ (rs s1 24 240 (s1 18 0) p2) ((rs s1 24 240 (s1 18 0) p2) 18 0) p3) [] (pc3 := 49) (st3 := []) (by decide +kernel) mk_Row_set (by decide) ?_
  generalize ns2 : (rs (rs s1 24 240 (s1 18 0) p2) 26 240 ((rs s1 24 240 (s1 18 0) p2) 18 0) p3) = s2 at h ⊢
  replace h := nm_h h
  refine RM.blk [(2, 0, 0, .null), (3, 1, 5, .null), (2, 0, 0, .null), (3, 1, 0, .null), (0, 0, 0, .int (-1))] (pc' := 58) (L' := [some (.ref 18), some (.int p0), some (.int p1), some (.int p2), some (.int p3), none]) (st' := [.int (-1), .int (s2 18 0), .ref 27]) (σ1 := s2) (by decide +kernel) rfl ?_
  refine RN.callV [.int (s2 18 0), .int (-1)] (s_Row_set (q := 27) (a := 28) (n := 240) ⟨rfl, rfl, by decide⟩ s2 (s2 18 0) (-1)) [] (pc3 := 61) (st3 := []) (by decide +kernel) mk_Row_set (by decide) ?_
  refine RM.blk [(2, 0, 0, .null), (3, 1, 6, .null), (2, 0, 0, .null), (3, 1, 0, .null), (0, 0, 0, .int (-1))] (pc' := 70) (L' := [some (.ref 18), some (.int p0), some (.int p1), some (.int p2), some (.int p3), none]) (st' := [.int (-1), .int ((rs s2 28 240 (s2 18 0) (-1)) 18 0), .ref 29]) (σ1 := (rs s2 28 240 (s2 18 0) (-1))) (by decide +kernel) rfl ?_
  refine RN.callV [.int ((rs s2 28 240 (s2 18 0) (-1)) 18 0), .int (-1)] (s_Row_set (q := 29) (a := 30) (n := 240) ⟨rfl, rfl, by decide⟩ (rs s2 28 240 (s2 18 0) (-1)) ((rs s2 28 240 (s2 18 0) (-1)) 18 0) (-1)) [] (pc3 := 73) (st3 := []) (by decide +kernel) mk_Row_set (by decide) ?_
  generalize ns3 : (rs (rs s2 28 240 (s2 18 0) (-1)) 30 240 ((rs s2 28 240 (s2 18 0) (-1)) 18 0) (-1)) = s3 at h ⊢
  replace h := nm_h h
  refine RM.blk [(2, 0, 0, .null), (3, 1, 7, .null), (2, 0, 0, .null), (3, 1, 0, .null), (0, 0, 0, .int (-1))] (pc' := 82) (L' := [some (.ref 18), some (.int p0), some (.int p1), some (.int p2), some (.int p3), none]) (st' := [.int (-1), .int (s3 18 0), .ref 31]) (σ1 := s3) (by decide +kernel) rfl ?_
  refine RN.callV [.int (s3 18 0), .int (-1)] (s_Row_set (q := 31) (a := 32) (n := 240) ⟨rfl, rfl, by decide⟩ s3 (s3 18 0) (-1)) [] (pc3 := 85) (st3 := []) (by decide +kernel) mk_Row_set (by decide) ?_
  refine RM.blk [(1, 2, 0, .null), (4, 5, 0, .null)] (pc' := 88) (L' := [some (.ref 18), some (.int p0), some (.int p1), some (.int p2), some (.int p3), some (.int p1)]) (st' := []) (σ1 := (rs s3 32 240 (s3 18 0) (-1))) (by decide +kernel) rfl ?_
  have hL4 : ∀ (n : Nat) (x4 : Int32 × SG) (y4 : SG), lpW (L_Cubes_put_88 p0 p1 p2) n x4 = some y4 → RN 3 M_Cubes_put none so 119 [some (.ref 18), none, none, none, none, none] [] y4 → RN 3 M_Cubes_put none so 88 [some (.ref 18), some (.int p0), some (.int p1), some (.int p2), none, some (.int x4.1)] [] x4.2 := by
    intro n
    induction n with
    | zero => intro x4 y4 hy4; cases hy4
    | succ n ih4 =>
      intro x4 y4 hy4 hK4
      obtain ⟨z4, e4, hy4⟩ := ob_some hy4
      unfold L_Cubes_put_88 at e4
      refine RM.blk [(1, 5, 0, .null), (1, 2, 0, .null), (1, 3, 0, .null), (5, 0, 0, .null)] (pc' := 93) (L' := [some (.ref 18), some (.int p0), some (.int p1), some (.int p2), none, some (.int x4.1)]) (st' := [.int (p1 + p2), .int x4.1]) (σ1 := x4.2) (by decide +kernel) rfl ?_
      refine RM.icmp_ge (tgt := 119) (by decide +kernel) (fun c5 => ?_) (fun c5 => ?_)
      · rw [if_pos c5] at e4
        obtain rfl := Option.some.inj e4
        obtain rfl := Option.some.inj (show some (x4.2 : SG) = some y4 from hy4)
        refine RN.dropB [true, false, false, false, false, false] rfl ?_
        exact hK4
      · rw [if_neg c5] at e4
        refine RM.blk [(2, 0, 0, .null), (3, 1, 8, .null), (1, 5, 0, .null), (1, 1, 0, .null)] (pc' := 103) (L' := [some (.ref 18), some (.int p0), some (.int p1), some (.int p2), none, some (.int x4.1)]) (st' := [.int p0, .int x4.1, .ref 33]) (σ1 := x4.2) (by decide +kernel) rfl ?_
        refine RN.callS [.int x4.1, .int p0] (s_Drawing_place x4.2 x4.1 p0) [.ref 33] (pc3 := 106) (st3 := [.int (F_Drawing_place x4.1 p0), .ref 33]) (by decide +kernel) mk_Drawing_place (by decide) ?_
        refine RM.blk [(2, 0, 0, .null), (3, 1, 0, .null)] (pc' := 110) (L' := [some (.ref 18), some (.int p0), some (.int p1), some (.int p2), none, some (.int x4.1)]) (st' := [.int (x4.2 18 0), .int (F_Drawing_place x4.1 p0), .ref 33]) (σ1 := x4.2) (by decide +kernel) rfl ?_
        refine RN.callV [.int (F_Drawing_place x4.1 p0), .int (x4.2 18 0)] (s_Row_set (q := 33) (a := 34) (n := 240) ⟨rfl, rfl, by decide⟩ x4.2 (F_Drawing_place x4.1 p0) (x4.2 18 0)) [] (pc3 := 113) (st3 := []) (by decide +kernel) mk_Row_set (by decide) ?_
        generalize ns6 : (rs x4.2 34 240 (F_Drawing_place x4.1 p0) (x4.2 18 0)) = s6 at e4 ⊢
        replace e4 := nm_h e4
        refine RM.blk [(10, 5, 0, .int 1), (23, 0, 0, .null)] (pc' := 88) (L' := [some (.ref 18), some (.int p0), some (.int p1), some (.int p2), none, some (.int (x4.1 + 1))]) (st' := []) (σ1 := s6) (by decide +kernel) rfl ?_
        obtain rfl := Option.some.inj e4
        refine RN.dropB [true, true, true, true, false, true] rfl ?_
        exact ih4 ((x4.1 + 1), s6) _ hy4 hK4
  obtain ⟨y4, hl4, h⟩ := ob_some h
  refine RN.dropB [true, true, true, true, false, true] rfl ?_
  refine hL4 FU (p1, (rs s3 32 240 (s3 18 0) (-1))) y4 hl4 ?_
  refine RM.blk [(2, 0, 0, .null), (11, 0, 0, .null), (3, 1, 0, .null), (0, 0, 0, .int 1), (5, 0, 0, .null), (15, 1, 0, .null)] (pc' := 129) (L' := [some (.ref 18), none, none, none, none, none]) (st' := []) (σ1 := (up y4 18 0 ((y4 18 0) + 1))) (by decide +kernel) rfl ?_
  obtain rfl := (Option.some.inj h)
  exact RM.retv (by decide +kernel) rfl
def M_Layer_layStrip : MI := (yX6_layStrip, cX6_layStrip, 8, some .boolean, 6)
theorem mk_Layer_layStrip : mOK M_Layer_layStrip 3 = true := by decide +kernel
set_option maxRecDepth 100000 in
set_option maxHeartbeats 4000000 in
theorem s_Layer_layStrip (σ : SG) (p0 : Int32) (p1 : Int32) (p2 : Int32) (rr : Bool) (so : SG) (h : F_Layer_layStrip σ p0 p1 p2 = some (rr, so)) : SpN 5 M_Layer_layStrip [.ref 35, .int p0, .int p1, .int p2] σ (some (.int (bI rr))) so := by
  unfold F_Layer_layStrip at h
  refine Sp.of mk_Layer_layStrip rfl (Nat.le_of_ble_eq_true rfl) ?_
  refine RM.blk [(2, 0, 0, .null), (3, 6, 0, .null), (1, 2, 0, .null), (1, 1, 0, .null)] (pc' := 6) (L' := [some (.ref 35), some (.int p0), some (.int p1), some (.int p2), none, none, none, none]) (st' := [.int p0, .int p1, .ref 1]) (σ1 := σ) (by decide +kernel) rfl ?_
  refine RN.callV [.int p1, .int p0] (s_Drawing_fieldAt σ p1 p0) [] (pc3 := 9) (st3 := [.int (F_Drawing_fieldAt σ p1 p0)]) (by decide +kernel) mk_Drawing_fieldAt (by decide) ?_
  refine RM.blk [(4, 4, 0, .null), (2, 0, 0, .null), (3, 6, 1, .null), (3, 4, 1, .null), (1, 4, 0, .null)] (pc' := 20) (L' := [some (.ref 35), some (.int p0), some (.int p1), some (.int p2), some (.int (F_Drawing_fieldAt σ p1 p0)), none, none, none]) (st' := [.int (F_Drawing_fieldAt σ p1 p0), .ref 12]) (σ1 := σ) (by decide +kernel) rfl ?_
  refine RN.callV [.int (F_Drawing_fieldAt σ p1 p0)] (s_Row_get (q := 12) (a := 13) (n := 8) ⟨rfl, rfl, by decide⟩ σ (F_Drawing_fieldAt σ p1 p0)) [] (pc3 := 23) (st3 := [.int (rg σ 13 8 (F_Drawing_fieldAt σ p1 p0))]) (by decide +kernel) mk_Row_get (by decide) ?_
  refine RM.blk [(4, 5, 0, .null), (2, 0, 0, .null), (1, 2, 0, .null), (1, 3, 0, .null), (1, 5, 0, .null)] (pc' := 30) (L' := [some (.ref 35), some (.int p0), some (.int p1), some (.int p2), some (.int (F_Drawing_fieldAt σ p1 p0)), some (.int (rg σ 13 8 (F_Drawing_fieldAt σ p1 p0))), none, none]) (st' := [.int (rg σ 13 8 (F_Drawing_fieldAt σ p1 p0)), .int p2, .int p1, .ref 35]) (σ1 := σ) (by decide +kernel) rfl ?_
  obtain ⟨v1, hv1, h⟩ := ob_some h
  refine RN.callV [.int p1, .int p2, .int (rg σ 13 8 (F_Drawing_fieldAt σ p1 p0))] (s_Layer_countFewest σ p1 p2 (rg σ 13 8 (F_Drawing_fieldAt σ p1 p0)) v1 hv1) [] (pc3 := 33) (st3 := []) (by decide +kernel) mk_Layer_countFewest (by decide) ?_
  refine RM.blk [(2, 0, 0, .null), (3, 6, 5, .null), (1, 2, 0, .null)] (pc' := 38) (L' := [some (.ref 35), some (.int p0), some (.int p1), some (.int p2), some (.int (F_Drawing_fieldAt σ p1 p0)), some (.int (rg σ 13 8 (F_Drawing_fieldAt σ p1 p0))), none, none]) (st' := [.int p1, .ref 40]) (σ1 := v1) (by decide +kernel) rfl ?_
  refine RN.callV [.int p1] (s_Row_get (q := 40) (a := 41) (n := 25) ⟨rfl, rfl, by decide⟩ v1 p1) [] (pc3 := 41) (st3 := [.int (rg v1 41 25 p1)]) (by decide +kernel) mk_Row_get (by decide) ?_
  refine RM.blk [(0, 0, 0, .int 1000000)] (pc' := 43) (L' := [some (.ref 35), some (.int p0), some (.int p1), some (.int p2), some (.int (F_Drawing_fieldAt σ p1 p0)), some (.int (rg σ 13 8 (F_Drawing_fieldAt σ p1 p0))), none, none]) (st' := [.int 1000000, .int (rg v1 41 25 p1)]) (σ1 := v1) (by decide +kernel) rfl ?_
  refine RM.icmp_lt (tgt := 48) (by decide +kernel) (fun c2 => ?_) (fun c2 => ?_)
  · rw [if_pos c2] at h
    refine RM.blk [(0, 0, 0, .int 1), (4, 6, 0, .null), (1, 2, 0, .null), (4, 7, 0, .null)] (pc' := 54) (L' := [some (.ref 35), some (.int p0), some (.int p1), some (.int p2), some (.int (F_Drawing_fieldAt σ p1 p0)), some (.int (rg σ 13 8 (F_Drawing_fieldAt σ p1 p0))), some (.int 1), some (.int p1)]) (st' := []) (σ1 := v1) (by decide +kernel) rfl ?_
    have hL3 : ∀ (n : Nat) (x3 : Int32 × SG) (y3 : SG), lpW (L_Layer_layStrip_54 p0 p2 (F_Drawing_fieldAt σ p1 p0) (rg σ 13 8 (F_Drawing_fieldAt σ p1 p0))) n x3 = some y3 → RN 5 M_Layer_layStrip (some (.int (bI rr))) so 121 [none, none, none, none, none, none, none, none] [] y3 → RN 5 M_Layer_layStrip (some (.int (bI rr))) so 54 [some (.ref 35), some (.int p0), none, some (.int p2), some (.int (F_Drawing_fieldAt σ p1 p0)), some (.int (rg σ 13 8 (F_Drawing_fieldAt σ p1 p0))), none, some (.int x3.1)] [] x3.2 := by
      intro n
      induction n with
      | zero => intro x3 y3 hy3; cases hy3
      | succ n ih3 =>
        intro x3 y3 hy3 hK3
        obtain ⟨z3, e3, hy3⟩ := ob_some hy3
        unfold L_Layer_layStrip_54 at e3
        refine RM.blk [(1, 7, 0, .null), (1, 3, 0, .null)] (pc' := 57) (L' := [some (.ref 35), some (.int p0), none, some (.int p2), some (.int ((F_Drawing_fieldAt σ p1 p0))), some (.int ((rg σ 13 8 (F_Drawing_fieldAt σ p1 p0)))), none, some (.int x3.1)]) (st' := [.int p2, .int x3.1]) (σ1 := x3.2) (by decide +kernel) rfl ?_
        refine RM.icmp_ge (tgt := 121) (by decide +kernel) (fun c4 => ?_) (fun c4 => ?_)
        · rw [if_pos c4] at e3
          obtain rfl := Option.some.inj e3
          obtain rfl := Option.some.inj (show some (x3.2 : SG) = some y3 from hy3)
          refine RN.dropB [false, false, false, false, false, false, false, false] rfl ?_
          exact hK3
        · rw [if_neg c4] at e3
          refine RM.blk [(0, 0, 0, .int 1), (2, 0, 0, .null), (1, 7, 0, .null), (1, 3, 0, .null), (1, 5, 0, .null)] (pc' := 67) (L' := [some (.ref 35), some (.int p0), none, some (.int p2), some (.int ((F_Drawing_fieldAt σ p1 p0))), some (.int ((rg σ 13 8 (F_Drawing_fieldAt σ p1 p0)))), none, some (.int x3.1)]) (st' := [.int ((rg σ 13 8 (F_Drawing_fieldAt σ p1 p0))), .int p2, .int x3.1, .ref 35, .int 1]) (σ1 := x3.2) (by decide +kernel) rfl ?_
          obtain ⟨v5, hv5, e3⟩ := ob_some e3
          refine RN.callV [.int x3.1, .int p2, .int ((rg σ 13 8 (F_Drawing_fieldAt σ p1 p0)))] (s_Layer_widestOfFewest x3.2 x3.1 p2 ((rg σ 13 8 (F_Drawing_fieldAt σ p1 p0))) v5 hv5) [.int 1] (pc3 := 70) (st3 := [.int v5, .int 1]) (by decide +kernel) mk_Layer_widestOfFewest (by decide) ?_
          refine RM.mmax (by decide +kernel) (by decide) (Nat.le_of_ble_eq_true rfl) ⟨Nat.le_refl _, Nat.le_refl _⟩ ?_
          refine RM.blk [(4, 6, 0, .null), (2, 0, 0, .null), (3, 6, 2, .null), (1, 1, 0, .null), (1, 7, 0, .null), (1, 6, 0, .null), (1, 4, 0, .null)] (pc' := 86) (L' := [some (.ref 35), some (.int p0), none, some (.int p2), some (.int ((F_Drawing_fieldAt σ p1 p0))), some (.int ((rg σ 13 8 (F_Drawing_fieldAt σ p1 p0)))), some (.int (mxI 1 v5)), some (.int x3.1)]) (st' := [.int ((F_Drawing_fieldAt σ p1 p0)), .int (mxI 1 v5), .int x3.1, .int p0, .ref 18]) (σ1 := x3.2) (by decide +kernel) rfl ?_
          obtain ⟨v6, hv6, e3⟩ := ob_some e3
          refine RN.callV [.int p0, .int x3.1, .int (mxI 1 v5), .int ((F_Drawing_fieldAt σ p1 p0))] (s_Cubes_put x3.2 p0 x3.1 (mxI 1 v5) ((F_Drawing_fieldAt σ p1 p0)) v6 hv6) [] (pc3 := 89) (st3 := []) (by decide +kernel) mk_Cubes_put (by decide) ?_
          refine RM.blk [(1, 7, 0, .null), (1, 6, 0, .null), (5, 0, 0, .null), (1, 3, 0, .null)] (pc' := 95) (L' := [some (.ref 35), some (.int p0), none, some (.int p2), some (.int ((F_Drawing_fieldAt σ p1 p0))), some (.int ((rg σ 13 8 (F_Drawing_fieldAt σ p1 p0)))), some (.int (mxI 1 v5)), some (.int x3.1)]) (st' := [.int p2, .int (x3.1 + (mxI 1 v5))]) (σ1 := v6) (by decide +kernel) rfl ?_
          refine RM.icmp_ge (tgt := 111) (by decide +kernel) (fun c7 => ?_) (fun c7 => ?_)
          · rw [if_pos c7] at e3
            refine RM.blk [(1, 7, 0, .null), (1, 6, 0, .null), (5, 0, 0, .null), (4, 7, 0, .null), (23, 0, 0, .null)] (pc' := 54) (L' := [some (.ref 35), some (.int p0), none, some (.int p2), some (.int ((F_Drawing_fieldAt σ p1 p0))), some (.int ((rg σ 13 8 (F_Drawing_fieldAt σ p1 p0)))), some (.int (mxI 1 v5)), some (.int (x3.1 + (mxI 1 v5)))]) (st' := []) (σ1 := v6) (by decide +kernel) rfl ?_
            obtain rfl := Option.some.inj e3
            refine RN.dropB [true, true, false, true, true, true, false, true] rfl ?_
            exact ih3 ((x3.1 + (mxI 1 v5)), v6) _ hy3 hK3
          · rw [if_neg c7] at e3
            refine RM.blk [(2, 0, 0, .null), (3, 6, 4, .null), (1, 7, 0, .null), (1, 6, 0, .null), (5, 0, 0, .null), (0, 0, 0, .int 1)] (pc' := 108) (L' := [some (.ref 35), some (.int p0), none, some (.int p2), some (.int ((F_Drawing_fieldAt σ p1 p0))), some (.int ((rg σ 13 8 (F_Drawing_fieldAt σ p1 p0)))), some (.int (mxI 1 v5)), some (.int x3.1)]) (st' := [.int 1, .int (x3.1 + (mxI 1 v5)), .ref 38]) (σ1 := v6) (by decide +kernel) rfl ?_
            refine RN.callV [.int (x3.1 + (mxI 1 v5)), .int 1] (s_Row_set (q := 38) (a := 39) (n := 25) ⟨rfl, rfl, by decide⟩ v6 (x3.1 + (mxI 1 v5)) 1) [] (pc3 := 111) (st3 := []) (by decide +kernel) mk_Row_set (by decide) ?_
            refine RM.blk [(1, 7, 0, .null), (1, 6, 0, .null), (5, 0, 0, .null), (4, 7, 0, .null), (23, 0, 0, .null)] (pc' := 54) (L' := [some (.ref 35), some (.int p0), none, some (.int p2), some (.int ((F_Drawing_fieldAt σ p1 p0))), some (.int ((rg σ 13 8 (F_Drawing_fieldAt σ p1 p0)))), some (.int (mxI 1 v5)), some (.int (x3.1 + (mxI 1 v5)))]) (st' := []) (σ1 := (rs v6 39 25 (x3.1 + (mxI 1 v5)) 1)) (by decide +kernel) rfl ?_
            obtain rfl := Option.some.inj e3
            refine RN.dropB [true, true, false, true, true, true, false, true] rfl ?_
            exact ih3 ((x3.1 + (mxI 1 v5)), (rs v6 39 25 (x3.1 + (mxI 1 v5)) 1)) _ hy3 hK3
    obtain ⟨y3, hl3, h⟩ := ob_some h
    refine RN.dropB [true, true, false, true, true, true, false, true] rfl ?_
    refine hL3 FU (p1, v1) y3 hl3 ?_
    refine RM.blk [(0, 0, 0, .int 1)] (pc' := 122) (L' := [none, none, none, none, none, none, none, none]) (st' := [.int 1]) (σ1 := y3) (by decide +kernel) rfl ?_
    obtain ⟨rfl, rfl⟩ := Prod.mk.inj (Option.some.inj h)
    exact RM.retz (z := true) (by decide +kernel) rfl
  · rw [if_neg c2] at h
    refine RM.blk [(0, 0, 0, .int 0)] (pc' := 47) (L' := [some (.ref 35), some (.int p0), some (.int p1), some (.int p2), some (.int (F_Drawing_fieldAt σ p1 p0)), some (.int (rg σ 13 8 (F_Drawing_fieldAt σ p1 p0))), none, none]) (st' := [.int 0]) (σ1 := v1) (by decide +kernel) rfl ?_
    obtain ⟨rfl, rfl⟩ := Prod.mk.inj (Option.some.inj h)
    exact RM.retz (z := false) (by decide +kernel) rfl
def M_Layer_layRows : MI := (yX6_layRows, cX6_layRows, 3, some .int, 6)
theorem mk_Layer_layRows : mOK M_Layer_layRows 0 = true := by decide +kernel
set_option maxRecDepth 100000 in
set_option maxHeartbeats 4000000 in
theorem s_Layer_layRows (σ : SG) (rr : Int32) (so : SG) (h : F_Layer_layRows σ = some (rr, so)) : SpN 6 M_Layer_layRows [.ref 35] σ (some (.int rr)) so := by
  unfold F_Layer_layRows at h
  refine Sp.of mk_Layer_layRows rfl (Nat.le_of_ble_eq_true rfl) ?_
  refine RM.blk [(2, 0, 0, .null), (3, 6, 4, .null), (0, 0, 0, .int 0)] (pc' := 5) (L' := [some (.ref 35), none, none]) (st' := [.int 0, .ref 38]) (σ1 := σ) (by decide +kernel) rfl ?_
  refine RN.callV [.int 0] (s_Row_fill (q := 38) (a := 39) (n := 25) ⟨rfl, rfl, by decide⟩ σ 0) [] (pc3 := 8) (st3 := []) (by decide +kernel) mk_Row_fill (by decide) ?_
  refine RM.blk [(0, 0, 0, .int 0), (4, 1, 0, .null)] (pc' := 10) (L' := [some (.ref 35), some (.int 0), none]) (st' := []) (σ1 := (rf σ 39 25 0)) (by decide +kernel) rfl ?_
  have hL1 : ∀ (n : Nat) (x1 : Int32 × SG) (y1 : (SG) ⊕ (Int32 × SG)), lpW L_Layer_layRows_10 n x1 = some y1 → Sum.elim (fun y1 : SG => RN 6 M_Layer_layRows (some (.int rr)) so 102 [none, none, none] [] y1) (fun q : Int32 × SG => q = (rr, so)) y1 → RN 6 M_Layer_layRows (some (.int rr)) so 10 [some (.ref 35), some (.int x1.1), none] [] x1.2 := by
    intro n
    induction n with
    | zero => intro x1 y1 hy1; cases hy1
    | succ n ih1 =>
      intro x1 y1 hy1 hK1
      obtain ⟨z1, e1, hy1⟩ := ob_some hy1
      unfold L_Layer_layRows_10 at e1
      refine RM.blk [(1, 1, 0, .null), (2, 0, 0, .null), (3, 6, 0, .null), (3, 3, 1, .null)] (pc' := 18) (L' := [some (.ref 35), some (.int x1.1), none]) (st' := [.int (x1.2 1 1), .int x1.1]) (σ1 := x1.2) (by decide +kernel) rfl ?_
      refine RM.icmp_ge (tgt := 102) (by decide +kernel) (fun c2 => ?_) (fun c2 => ?_)
      · rw [if_pos c2] at e1
        obtain rfl := Option.some.inj e1
        obtain rfl := Option.some.inj (show some ((.inl x1.2) : (SG) ⊕ (Int32 × SG)) = some y1 from hy1)
        refine RN.dropB [false, false, false] rfl ?_
        exact hK1
      · rw [if_neg c2] at e1
        refine RM.blk [(2, 0, 0, .null), (3, 6, 3, .null), (2, 0, 0, .null), (3, 6, 4, .null)] (pc' := 29) (L' := [some (.ref 35), some (.int x1.1), none]) (st' := [.ref 38, .ref 36]) (σ1 := x1.2) (by decide +kernel) rfl ?_
        refine RN.callV [.ref 38] (s_Row_copyFrom (q := 36) (a := 37) (n := 25) ⟨rfl, rfl, by decide⟩ (q2 := 38) (a2 := 39) (n2 := 25) ⟨rfl, rfl, by decide⟩ (by decide) x1.2) [] (pc3 := 32) (st3 := []) (by decide +kernel) mk_Row_copyFrom (by decide) ?_
        refine RM.blk [(2, 0, 0, .null), (3, 6, 4, .null), (0, 0, 0, .int 0)] (pc' := 37) (L' := [some (.ref 35), some (.int x1.1), none]) (st' := [.int 0, .ref 38]) (σ1 := (rc x1.2 37 25 39 25)) (by decide +kernel) rfl ?_
        refine RN.callV [.int 0] (s_Row_fill (q := 38) (a := 39) (n := 25) ⟨rfl, rfl, by decide⟩ (rc x1.2 37 25 39 25) 0) [] (pc3 := 40) (st3 := []) (by decide +kernel) mk_Row_fill (by decide) ?_
        refine RM.blk [(0, 0, 0, .int 0), (4, 2, 0, .null)] (pc' := 42) (L' := [some (.ref 35), some (.int x1.1), some (.int 0)]) (st' := []) (σ1 := (rf (rc x1.2 37 25 39 25) 39 25 0)) (by decide +kernel) rfl ?_
        have hL3 : ∀ (n : Nat) (x3 : Int32 × SG) (y3 : (SG) ⊕ (Int32 × SG)), lpW (L_Layer_layRows_42 x1.1) n x3 = some y3 → Sum.elim (fun y3 : SG => RN 6 M_Layer_layRows (some (.int rr)) so 96 [some (.ref 35), some (.int x1.1), none] [] y3) (fun q : Int32 × SG => q = (rr, so)) y3 → RN 6 M_Layer_layRows (some (.int rr)) so 42 [some (.ref 35), some (.int x1.1), some (.int x3.1)] [] x3.2 := by
          intro n
          induction n with
          | zero => intro x3 y3 hy3; cases hy3
          | succ n ih3 =>
            intro x3 y3 hy3 hK3
            obtain ⟨z3, e3, hy3⟩ := ob_some hy3
            unfold L_Layer_layRows_42 at e3
            refine RM.blk [(1, 2, 0, .null), (2, 0, 0, .null), (3, 6, 0, .null), (3, 3, 0, .null)] (pc' := 50) (L' := [some (.ref 35), some (.int (x1.1)), some (.int x3.1)]) (st' := [.int (x3.2 1 0), .int x3.1]) (σ1 := x3.2) (by decide +kernel) rfl ?_
            refine RM.icmp_ge (tgt := 96) (by decide +kernel) (fun c4 => ?_) (fun c4 => ?_)
            · rw [if_pos c4] at e3
              obtain rfl := Option.some.inj e3
              obtain rfl := Option.some.inj (show some ((.inl x3.2) : (SG) ⊕ (Int32 × SG)) = some y3 from hy3)
              refine RN.dropB [true, true, false] rfl ?_
              exact hK3
            · rw [if_neg c4] at e3
              refine RM.blk [(2, 0, 0, .null), (1, 1, 0, .null), (1, 2, 0, .null), (2, 0, 0, .null), (3, 6, 0, .null), (1, 2, 0, .null), (1, 1, 0, .null)] (pc' := 62) (L' := [some (.ref 35), some (.int (x1.1)), some (.int x3.1)]) (st' := [.int (x1.1), .int x3.1, .ref 1, .int x3.1, .int (x1.1), .ref 35]) (σ1 := x3.2) (by decide +kernel) rfl ?_
              obtain ⟨v5, hv5, e3⟩ := ob_some e3
              refine RN.callV [.int x3.1, .int (x1.1)] (s_Drawing_stripEnd x3.2 x3.1 (x1.1) v5 hv5) [.int x3.1, .int (x1.1), .ref 35] (pc3 := 65) (st3 := [.int v5, .int x3.1, .int (x1.1), .ref 35]) (by decide +kernel) mk_Drawing_stripEnd (by decide) ?_
              obtain ⟨v6, hv6, e3⟩ := ob_some e3
              refine RN.callV [.int (x1.1), .int x3.1, .int v5] (s_Layer_layStrip x3.2 (x1.1) x3.1 v5 v6.1 v6.2 hv6) [] (pc3 := 68) (st3 := [.int (bI v6.1)]) (by decide +kernel) mk_Layer_layStrip (by decide) ?_
              refine RM.zne (tgt := 77) (by decide +kernel) (fun c7 => ?_) (fun c7 => ?_)
              · rw [if_pos c7] at e3
                refine RM.blk [(1, 2, 0, .null), (0, 0, 0, .int 1), (5, 0, 0, .null), (2, 0, 0, .null), (3, 6, 0, .null), (1, 2, 0, .null), (1, 1, 0, .null)] (pc' := 86) (L' := [some (.ref 35), some (.int (x1.1)), some (.int x3.1)]) (st' := [.int (x1.1), .int x3.1, .ref 1, .int (x3.1 + 1)]) (σ1 := v6.2) (by decide +kernel) rfl ?_
                obtain ⟨v8, hv8, e3⟩ := ob_some e3
                refine RN.callV [.int x3.1, .int (x1.1)] (s_Drawing_stripEnd v6.2 x3.1 (x1.1) v8 hv8) [.int (x3.1 + 1)] (pc3 := 89) (st3 := [.int v8, .int (x3.1 + 1)]) (by decide +kernel) mk_Drawing_stripEnd (by decide) ?_
                refine RM.mmax (by decide +kernel) (by decide) (Nat.le_of_ble_eq_true rfl) ⟨Nat.le_refl _, Nat.le_refl _⟩ ?_
                refine RM.blk [(4, 2, 0, .null), (23, 0, 0, .null)] (pc' := 42) (L' := [some (.ref 35), some (.int (x1.1)), some (.int (mxI (x3.1 + 1) v8))]) (st' := []) (σ1 := v6.2) (by decide +kernel) rfl ?_
                obtain rfl := Option.some.inj e3
                refine RN.dropB [true, true, true] rfl ?_
                exact ih3 ((mxI (x3.1 + 1) v8), v6.2) _ hy3 hK3
              · rw [if_neg (bf c7)] at e3
                refine RM.blk [(1, 2, 0, .null), (1, 1, 0, .null)] (pc' := 73) (L' := [some (.ref 35), some (.int (x1.1)), some (.int x3.1)]) (st' := [.int (x1.1), .int x3.1]) (σ1 := v6.2) (by decide +kernel) rfl ?_
                refine RN.callS [.int x3.1, .int (x1.1)] (s_Drawing_place v6.2 x3.1 (x1.1)) [] (pc3 := 76) (st3 := [.int (F_Drawing_place x3.1 (x1.1))]) (by decide +kernel) mk_Drawing_place (by decide) ?_
                obtain rfl := Option.some.inj e3
                obtain rfl := Option.some.inj (show some (.inr ((F_Drawing_place x3.1 (x1.1)), v6.2) : (SG) ⊕ (Int32 × SG)) = some y3 from hy3)
                obtain ⟨rfl, rfl⟩ := Prod.mk.inj (show (((F_Drawing_place x3.1 (x1.1)), v6.2) : Int32 × SG) = (rr, so) from hK3)
                exact RM.reti (by decide +kernel) rfl
        obtain ⟨y3, hl3, e1⟩ := ob_some e1
        refine RN.dropB [true, true, true] rfl ?_
        refine hL3 FU (0, (rf (rc x1.2 37 25 39 25) 39 25 0)) y3 hl3 ?_
        rcases y3 with y3 | q3
        · simp only [Sum.elim_inl] at e1 ⊢
          refine RM.blk [(10, 1, 0, .int 1), (23, 0, 0, .null)] (pc' := 10) (L' := [some (.ref 35), some (.int (x1.1 + 1)), none]) (st' := []) (σ1 := y3) (by decide +kernel) rfl ?_
          obtain rfl := Option.some.inj e1
          refine RN.dropB [true, true, false] rfl ?_
          exact ih1 ((x1.1 + 1), y3) _ hy1 hK1
        · simp only [Sum.elim_inr] at e1 ⊢
          obtain rfl := Option.some.inj e1
          obtain rfl := Option.some.inj (show some (.inr q3 : (SG) ⊕ (Int32 × SG)) = some y1 from hy1)
          exact hK1
  obtain ⟨y1, hl1, h⟩ := ob_some h
  refine RN.dropB [true, true, false] rfl ?_
  refine hL1 FU (0, (rf σ 39 25 0)) y1 hl1 ?_
  rcases y1 with y1 | q1
  · simp only [Sum.elim_inl] at h ⊢
    refine RM.blk [(0, 0, 0, .int (-1))] (pc' := 103) (L' := [none, none, none]) (st' := [.int (-1)]) (σ1 := y1) (by decide +kernel) rfl ?_
    obtain ⟨rfl, rfl⟩ := Prod.mk.inj (Option.some.inj h)
    exact RM.reti (by decide +kernel) rfl
  · simp only [Sum.elim_inr] at h ⊢
    exact Option.some.inj h
def M_Shop_lay : MI := (yX11_lay, cX11_lay, 2, some .int, 11)
theorem mk_Shop_lay : mOK M_Shop_lay 0 = true := by decide +kernel
set_option maxRecDepth 100000 in
set_option maxHeartbeats 4000000 in
theorem s_Shop_lay (σ : SG) (rr : Int32) (so : SG) (h : F_Shop_lay σ = some (rr, so)) : SpN 7 M_Shop_lay [.ref 0] σ (some (.int rr)) so := by
  unfold F_Shop_lay at h
  refine Sp.of mk_Shop_lay rfl (Nat.le_of_ble_eq_true rfl) ?_
  refine RM.blk [(2, 0, 0, .null)] (pc' := 1) (L' := [some (.ref 0), none]) (st' := [.ref 0]) (σ1 := σ) (by decide +kernel) rfl ?_
  refine RN.callV [] (s_Shop_takeDown σ _ rfl) [] (pc3 := 4) (st3 := []) (by decide +kernel) mk_Shop_takeDown (by decide) ?_
  refine RM.blk [(2, 0, 0, .null), (3, 11, 3, .null)] (pc' := 8) (L' := [some (.ref 0), none]) (st' := [.ref 35]) (σ1 := (F_Shop_takeDown σ)) (by decide +kernel) rfl ?_
  obtain ⟨v1, hv1, h⟩ := ob_some h
  refine RN.callV [] (s_Layer_layRows (F_Shop_takeDown σ) v1.1 v1.2 hv1) [] (pc3 := 11) (st3 := [.int v1.1]) (by decide +kernel) mk_Layer_layRows (by decide) ?_
  refine RM.blk [(4, 1, 0, .null), (1, 1, 0, .null), (0, 0, 0, .int (-1))] (pc' := 14) (L' := [some (.ref 0), some (.int v1.1)]) (st' := [.int (-1), .int v1.1]) (σ1 := v1.2) (by decide +kernel) rfl ?_
  refine RM.icmp_eq (tgt := 30) (by decide +kernel) (fun c2 => ?_) (fun c2 => ?_)
  · rw [if_pos c2] at h
    refine RM.blk [(2, 0, 0, .null), (3, 11, 2, .null), (3, 1, 0, .null)] (pc' := 37) (L' := [some (.ref 0), some (.int v1.1)]) (st' := [.int (v1.2 18 0)]) (σ1 := v1.2) (by decide +kernel) rfl ?_
    obtain ⟨rfl, rfl⟩ := Prod.mk.inj (Option.some.inj h)
    exact RM.reti (by decide +kernel) rfl
  · rw [if_neg c2] at h
    refine RM.blk [(2, 0, 0, .null), (3, 11, 2, .null)] (pc' := 21) (L' := [some (.ref 0), some (.int v1.1)]) (st' := [.ref 18]) (σ1 := v1.2) (by decide +kernel) rfl ?_
    refine RN.callV [] (s_Cubes_clear v1.2 _ rfl) [] (pc3 := 24) (st3 := []) (by decide +kernel) mk_Cubes_clear (by decide) ?_
    refine RM.blk [(0, 0, 0, .int (-1000)), (1, 1, 0, .null), (6, 0, 0, .null)] (pc' := 29) (L' := [some (.ref 0), some (.int v1.1)]) (st' := [.int ((-1000) - v1.1)]) (σ1 := (F_Cubes_clear v1.2)) (by decide +kernel) rfl ?_
    obtain ⟨rfl, rfl⟩ := Prod.mk.inj (Option.some.inj h)
    exact RM.reti (by decide +kernel) rfl
def M_Shop_isLaid : MI := (yX11_isLaid, cX11_isLaid, 1, some .boolean, 11)
theorem mk_Shop_isLaid : mOK M_Shop_isLaid 0 = true := by decide +kernel
set_option maxRecDepth 100000 in
set_option maxHeartbeats 4000000 in
theorem s_Shop_isLaid (σ : SG) : SpN 1 M_Shop_isLaid [.ref 0] σ (some (.int (bI (F_Shop_isLaid σ)))) σ := by
  generalize h : F_Shop_isLaid σ = rr
  unfold F_Shop_isLaid at h
  refine Sp.of mk_Shop_isLaid rfl (Nat.le_of_ble_eq_true rfl) ?_
  refine RM.blk [(2, 0, 0, .null), (3, 11, 2, .null), (3, 1, 0, .null)] (pc' := 7) (L' := [some (.ref 0)]) (st' := [.int (σ 18 0)]) (σ1 := σ) (by decide +kernel) rfl ?_
  refine RM.if_le (tgt := 14) (by decide +kernel) (fun c1 => ?_) (fun c1 => ?_)
  · rw [if_pos c1] at h
    refine RM.blk [(0, 0, 0, .int 0)] (pc' := 15) (L' := [some (.ref 0)]) (st' := [.int 0]) (σ1 := σ) (by decide +kernel) rfl ?_
    obtain rfl := h
    exact RM.retz (z := false) (by decide +kernel) rfl
  · rw [if_neg c1] at h
    refine RM.blk [(0, 0, 0, .int 1), (23, 0, 0, .null)] (pc' := 15) (L' := [some (.ref 0)]) (st' := [.int 1]) (σ1 := σ) (by decide +kernel) rfl ?_
    obtain rfl := h
    exact RM.retz (z := true) (by decide +kernel) rfl
def M_Cubes_over : MI := (yX1_over, cX1_over, 3, some .int, 1)
theorem mk_Cubes_over : mOK M_Cubes_over 2 = true := by decide +kernel
set_option maxRecDepth 100000 in
set_option maxHeartbeats 4000000 in
theorem s_Cubes_over (σ : SG) (p0 : Int32) (p1 : Int32) : SpN 3 M_Cubes_over [.ref 18, .int p0, .int p1] σ (some (.int (F_Cubes_over σ p0 p1))) σ := by
  generalize h : F_Cubes_over σ p0 p1 = rr
  unfold F_Cubes_over at h
  refine Sp.of mk_Cubes_over rfl (Nat.le_of_ble_eq_true rfl) ?_
  refine RM.blk [(2, 0, 0, .null), (3, 1, 8, .null), (1, 1, 0, .null), (1, 2, 0, .null)] (pc' := 6) (L' := [some (.ref 18), some (.int p0), some (.int p1)]) (st' := [.int p1, .int p0, .ref 33]) (σ1 := σ) (by decide +kernel) rfl ?_
  refine RN.callS [.int p0, .int p1] (s_Drawing_place σ p0 p1) [.ref 33] (pc3 := 9) (st3 := [.int (F_Drawing_place p0 p1), .ref 33]) (by decide +kernel) mk_Drawing_place (by decide) ?_
  refine RN.callV [.int (F_Drawing_place p0 p1)] (s_Row_get (q := 33) (a := 34) (n := 240) ⟨rfl, rfl, by decide⟩ σ (F_Drawing_place p0 p1)) [] (pc3 := 12) (st3 := [.int (rg σ 34 240 (F_Drawing_place p0 p1))]) (by decide +kernel) mk_Row_get (by decide) ?_
  obtain rfl := h
  exact RM.reti (by decide +kernel) rfl
def M_Shop_at : MI := (yX11_at, cX11_at, 3, some .int, 11)
theorem mk_Shop_at : mOK M_Shop_at 2 = true := by decide +kernel
set_option maxRecDepth 100000 in
set_option maxHeartbeats 4000000 in
theorem s_Shop_at (σ : SG) (p0 : Int32) (p1 : Int32) : SpN 4 M_Shop_at [.ref 0, .int p0, .int p1] σ (some (.int (F_Shop_at σ p0 p1))) σ := by
  generalize h : F_Shop_at σ p0 p1 = rr
  unfold F_Shop_at at h
  refine Sp.of mk_Shop_at rfl (Nat.le_of_ble_eq_true rfl) ?_
  refine RM.blk [(2, 0, 0, .null), (3, 11, 0, .null), (1, 1, 0, .null), (1, 2, 0, .null)] (pc' := 6) (L' := [some (.ref 0), some (.int p0), some (.int p1)]) (st' := [.int p1, .int p0, .ref 1]) (σ1 := σ) (by decide +kernel) rfl ?_
  refine RN.callV [.int p0, .int p1] (s_Drawing_has σ p0 p1) [] (pc3 := 9) (st3 := [.int (bI (F_Drawing_has σ p0 p1))]) (by decide +kernel) mk_Drawing_has (by decide) ?_
  refine RM.zne (tgt := 15) (by decide +kernel) (fun c1 => ?_) (fun c1 => ?_)
  · rw [if_pos c1] at h
    refine RM.blk [(2, 0, 0, .null)] (pc' := 16) (L' := [some (.ref 0), some (.int p0), some (.int p1)]) (st' := [.ref 0]) (σ1 := σ) (by decide +kernel) rfl ?_
    refine RN.callV [] (s_Shop_isLaid σ) [] (pc3 := 19) (st3 := [.int (bI (F_Shop_isLaid σ))]) (by decide +kernel) mk_Shop_isLaid (by decide) ?_
    refine RM.zeq (tgt := 34) (by decide +kernel) (fun c2 => ?_) (fun c2 => ?_)
    · rw [if_neg (bf c2)] at h
      refine RM.blk [(0, 0, 0, .int (-1))] (pc' := 35) (L' := [some (.ref 0), some (.int p0), some (.int p1)]) (st' := [.int (-1)]) (σ1 := σ) (by decide +kernel) rfl ?_
      obtain rfl := h
      exact RM.reti (by decide +kernel) rfl
    · rw [if_pos c2] at h
      refine RM.blk [(2, 0, 0, .null), (3, 11, 2, .null), (1, 1, 0, .null), (1, 2, 0, .null)] (pc' := 28) (L' := [some (.ref 0), some (.int p0), some (.int p1)]) (st' := [.int p1, .int p0, .ref 18]) (σ1 := σ) (by decide +kernel) rfl ?_
      refine RN.callV [.int p0, .int p1] (s_Cubes_over σ p0 p1) [] (pc3 := 31) (st3 := [.int (F_Cubes_over σ p0 p1)]) (by decide +kernel) mk_Cubes_over (by decide) ?_
      refine RM.blk [(23, 0, 0, .null)] (pc' := 35) (L' := [some (.ref 0), some (.int p0), some (.int p1)]) (st' := [.int (F_Cubes_over σ p0 p1)]) (σ1 := σ) (by decide +kernel) rfl ?_
      obtain rfl := h
      exact RM.reti (by decide +kernel) rfl
  · rw [if_neg (bf c1)] at h
    refine RM.blk [(0, 0, 0, .int (-2))] (pc' := 14) (L' := [some (.ref 0), some (.int p0), some (.int p1)]) (st' := [.int (-2)]) (σ1 := σ) (by decide +kernel) rfl ?_
    obtain rfl := h
    exact RM.reti (by decide +kernel) rfl
def M_Cubes_has : MI := (yX1_has, cX1_has, 2, some .boolean, 1)
theorem mk_Cubes_has : mOK M_Cubes_has 1 = true := by decide +kernel
set_option maxRecDepth 100000 in
set_option maxHeartbeats 4000000 in
theorem s_Cubes_has (σ : SG) (p0 : Int32) : SpN 1 M_Cubes_has [.ref 18, .int p0] σ (some (.int (bI (F_Cubes_has σ p0)))) σ := by
  generalize h : F_Cubes_has σ p0 = rr
  unfold F_Cubes_has at h
  refine Sp.of mk_Cubes_has rfl (Nat.le_of_ble_eq_true rfl) ?_
  refine RM.blk [(1, 1, 0, .null)] (pc' := 1) (L' := [some (.ref 18), some (.int p0)]) (st' := [.int p0]) (σ1 := σ) (by decide +kernel) rfl ?_
  refine RM.if_lt (tgt := 16) (by decide +kernel) (fun c1 => ?_) (fun c1 => ?_)
  · rw [if_pos c1] at h
    refine RM.blk [(0, 0, 0, .int 0)] (pc' := 17) (L' := [some (.ref 18), some (.int p0)]) (st' := [.int 0]) (σ1 := σ) (by decide +kernel) rfl ?_
    obtain rfl := h
    exact RM.retz (z := false) (by decide +kernel) rfl
  · rw [if_neg c1] at h
    refine RM.blk [(1, 1, 0, .null), (2, 0, 0, .null), (3, 1, 0, .null)] (pc' := 9) (L' := [some (.ref 18), some (.int p0)]) (st' := [.int (σ 18 0), .int p0]) (σ1 := σ) (by decide +kernel) rfl ?_
    refine RM.icmp_ge (tgt := 16) (by decide +kernel) (fun c2 => ?_) (fun c2 => ?_)
    · rw [if_pos c2] at h
      refine RM.blk [(0, 0, 0, .int 0)] (pc' := 17) (L' := [some (.ref 18), some (.int p0)]) (st' := [.int 0]) (σ1 := σ) (by decide +kernel) rfl ?_
      obtain rfl := h
      exact RM.retz (z := false) (by decide +kernel) rfl
    · rw [if_neg c2] at h
      refine RM.blk [(0, 0, 0, .int 1), (23, 0, 0, .null)] (pc' := 17) (L' := [some (.ref 18), some (.int p0)]) (st' := [.int 1]) (σ1 := σ) (by decide +kernel) rfl ?_
      obtain rfl := h
      exact RM.retz (z := true) (by decide +kernel) rfl
def M_Cubes_tell : MI := (yX1_tell, cX1_tell, 3, some .int, 1)
theorem mk_Cubes_tell : mOK M_Cubes_tell 2 = true := by decide +kernel
set_option maxRecDepth 100000 in
set_option maxHeartbeats 4000000 in
theorem s_Cubes_tell (σ : SG) (p0 : Int32) (p1 : Int32) : SpN 3 M_Cubes_tell [.ref 18, .int p0, .int p1] σ (some (.int (F_Cubes_tell σ p0 p1))) σ := by
  generalize h : F_Cubes_tell σ p0 p1 = rr
  unfold F_Cubes_tell at h
  refine Sp.of mk_Cubes_tell rfl (Nat.le_of_ble_eq_true rfl) ?_
  refine RM.blk [(1, 2, 0, .null)] (pc' := 1) (L' := [some (.ref 18), some (.int p0), some (.int p1)]) (st' := [.int p1]) (σ1 := σ) (by decide +kernel) rfl ?_
  refine RM.tsw (ts := [40, 49, 58, 67, 76, 85]) (df := 94) (by decide +kernel) (by decide) ⟨fun c1 => ?_, fun c1 => ?_, fun c1 => ?_, fun c1 => ?_, fun c1 => ?_, fun c1 => ?_, trivial⟩ (fun c1 => ?_)
  · rw [tsS_at (j := 0) c1 rfl rfl] at h
    refine RM.blk [(2, 0, 0, .null), (3, 1, 1, .null), (1, 1, 0, .null)] (pc' := 45) (L' := [some (.ref 18), some (.int p0), some (.int p1)]) (st' := [.int p0, .ref 19]) (σ1 := σ) (by decide +kernel) rfl ?_
    refine RN.callV [.int p0] (s_Row_get (q := 19) (a := 20) (n := 240) ⟨rfl, rfl, by decide⟩ σ p0) [] (pc3 := 48) (st3 := [.int (rg σ 20 240 p0)]) (by decide +kernel) mk_Row_get (by decide) ?_
    obtain rfl := h
    exact RM.reti (by decide +kernel) rfl
  · rw [tsS_at (j := 1) c1 rfl rfl] at h
    refine RM.blk [(2, 0, 0, .null), (3, 1, 2, .null), (1, 1, 0, .null)] (pc' := 54) (L' := [some (.ref 18), some (.int p0), some (.int p1)]) (st' := [.int p0, .ref 21]) (σ1 := σ) (by decide +kernel) rfl ?_
    refine RN.callV [.int p0] (s_Row_get (q := 21) (a := 22) (n := 240) ⟨rfl, rfl, by decide⟩ σ p0) [] (pc3 := 57) (st3 := [.int (rg σ 22 240 p0)]) (by decide +kernel) mk_Row_get (by decide) ?_
    obtain rfl := h
    exact RM.reti (by decide +kernel) rfl
  · rw [tsS_at (j := 2) c1 rfl rfl] at h
    refine RM.blk [(2, 0, 0, .null), (3, 1, 3, .null), (1, 1, 0, .null)] (pc' := 63) (L' := [some (.ref 18), some (.int p0), some (.int p1)]) (st' := [.int p0, .ref 23]) (σ1 := σ) (by decide +kernel) rfl ?_
    refine RN.callV [.int p0] (s_Row_get (q := 23) (a := 24) (n := 240) ⟨rfl, rfl, by decide⟩ σ p0) [] (pc3 := 66) (st3 := [.int (rg σ 24 240 p0)]) (by decide +kernel) mk_Row_get (by decide) ?_
    obtain rfl := h
    exact RM.reti (by decide +kernel) rfl
  · rw [tsS_at (j := 3) c1 rfl rfl] at h
    refine RM.blk [(2, 0, 0, .null), (3, 1, 4, .null), (1, 1, 0, .null)] (pc' := 72) (L' := [some (.ref 18), some (.int p0), some (.int p1)]) (st' := [.int p0, .ref 25]) (σ1 := σ) (by decide +kernel) rfl ?_
    refine RN.callV [.int p0] (s_Row_get (q := 25) (a := 26) (n := 240) ⟨rfl, rfl, by decide⟩ σ p0) [] (pc3 := 75) (st3 := [.int (rg σ 26 240 p0)]) (by decide +kernel) mk_Row_get (by decide) ?_
    obtain rfl := h
    exact RM.reti (by decide +kernel) rfl
  · rw [tsS_at (j := 4) c1 rfl rfl] at h
    refine RM.blk [(2, 0, 0, .null), (3, 1, 5, .null), (1, 1, 0, .null)] (pc' := 81) (L' := [some (.ref 18), some (.int p0), some (.int p1)]) (st' := [.int p0, .ref 27]) (σ1 := σ) (by decide +kernel) rfl ?_
    refine RN.callV [.int p0] (s_Row_get (q := 27) (a := 28) (n := 240) ⟨rfl, rfl, by decide⟩ σ p0) [] (pc3 := 84) (st3 := [.int (rg σ 28 240 p0)]) (by decide +kernel) mk_Row_get (by decide) ?_
    obtain rfl := h
    exact RM.reti (by decide +kernel) rfl
  · rw [tsS_at (j := 5) c1 rfl rfl] at h
    refine RM.blk [(2, 0, 0, .null), (3, 1, 6, .null), (1, 1, 0, .null)] (pc' := 90) (L' := [some (.ref 18), some (.int p0), some (.int p1)]) (st' := [.int p0, .ref 29]) (σ1 := σ) (by decide +kernel) rfl ?_
    refine RN.callV [.int p0] (s_Row_get (q := 29) (a := 30) (n := 240) ⟨rfl, rfl, by decide⟩ σ p0) [] (pc3 := 93) (st3 := [.int (rg σ 30 240 p0)]) (by decide +kernel) mk_Row_get (by decide) ?_
    obtain rfl := h
    exact RM.reti (by decide +kernel) rfl
  · rw [tsS_out c1 rfl] at h
    refine RM.blk [(2, 0, 0, .null), (3, 1, 7, .null), (1, 1, 0, .null)] (pc' := 99) (L' := [some (.ref 18), some (.int p0), some (.int p1)]) (st' := [.int p0, .ref 31]) (σ1 := σ) (by decide +kernel) rfl ?_
    refine RN.callV [.int p0] (s_Row_get (q := 31) (a := 32) (n := 240) ⟨rfl, rfl, by decide⟩ σ p0) [] (pc3 := 102) (st3 := [.int (rg σ 32 240 p0)]) (by decide +kernel) mk_Row_get (by decide) ?_
    obtain rfl := h
    exact RM.reti (by decide +kernel) rfl
def M_Shop_cube : MI := (yX11_cube, cX11_cube, 3, some .int, 11)
theorem mk_Shop_cube : mOK M_Shop_cube 2 = true := by decide +kernel
set_option maxRecDepth 100000 in
set_option maxHeartbeats 4000000 in
theorem s_Shop_cube (σ : SG) (p0 : Int32) (p1 : Int32) : SpN 4 M_Shop_cube [.ref 0, .int p0, .int p1] σ (some (.int (F_Shop_cube σ p0 p1))) σ := by
  generalize h : F_Shop_cube σ p0 p1 = rr
  unfold F_Shop_cube at h
  refine Sp.of mk_Shop_cube rfl (Nat.le_of_ble_eq_true rfl) ?_
  refine RM.blk [(1, 2, 0, .null), (0, 0, 0, .int 0), (0, 0, 0, .int 6)] (pc' := 4) (L' := [some (.ref 0), some (.int p0), some (.int p1)]) (st' := [.int 6, .int 0, .int p1]) (σ1 := σ) (by decide +kernel) rfl ?_
  refine RN.callS [.int p1, .int 0, .int 6] (s_Shop_within σ p1 0 6) [] (pc3 := 7) (st3 := [.int (bI (F_Shop_within p1 0 6))]) (by decide +kernel) mk_Shop_within (by decide) ?_
  refine RM.zne (tgt := 13) (by decide +kernel) (fun c1 => ?_) (fun c1 => ?_)
  · rw [if_pos c1] at h
    refine RM.blk [(2, 0, 0, .null), (3, 11, 2, .null), (1, 1, 0, .null)] (pc' := 18) (L' := [some (.ref 0), some (.int p0), some (.int p1)]) (st' := [.int p0, .ref 18]) (σ1 := σ) (by decide +kernel) rfl ?_
    refine RN.callV [.int p0] (s_Cubes_has σ p0) [] (pc3 := 21) (st3 := [.int (bI (F_Cubes_has σ p0))]) (by decide +kernel) mk_Cubes_has (by decide) ?_
    refine RM.zeq (tgt := 36) (by decide +kernel) (fun c2 => ?_) (fun c2 => ?_)
    · rw [if_neg (bf c2)] at h
      refine RM.blk [(0, 0, 0, .int (-1))] (pc' := 37) (L' := [some (.ref 0), some (.int p0), some (.int p1)]) (st' := [.int (-1)]) (σ1 := σ) (by decide +kernel) rfl ?_
      obtain rfl := h
      exact RM.reti (by decide +kernel) rfl
    · rw [if_pos c2] at h
      refine RM.blk [(2, 0, 0, .null), (3, 11, 2, .null), (1, 1, 0, .null), (1, 2, 0, .null)] (pc' := 30) (L' := [some (.ref 0), some (.int p0), some (.int p1)]) (st' := [.int p1, .int p0, .ref 18]) (σ1 := σ) (by decide +kernel) rfl ?_
      refine RN.callV [.int p0, .int p1] (s_Cubes_tell σ p0 p1) [] (pc3 := 33) (st3 := [.int (F_Cubes_tell σ p0 p1)]) (by decide +kernel) mk_Cubes_tell (by decide) ?_
      refine RM.blk [(23, 0, 0, .null)] (pc' := 37) (L' := [some (.ref 0), some (.int p0), some (.int p1)]) (st' := [.int (F_Cubes_tell σ p0 p1)]) (σ1 := σ) (by decide +kernel) rfl ?_
      obtain rfl := h
      exact RM.reti (by decide +kernel) rfl
  · rw [if_neg (bf c1)] at h
    refine RM.blk [(0, 0, 0, .int (-2))] (pc' := 12) (L' := [some (.ref 0), some (.int p0), some (.int p1)]) (st' := [.int (-2)]) (σ1 := σ) (by decide +kernel) rfl ?_
    obtain rfl := h
    exact RM.reti (by decide +kernel) rfl
set_option maxRecDepth 100000 in
set_option maxHeartbeats 4000000 in
theorem s_Colours_put_45 (σ : SG) (p0 : Int32) (p1 : Int32) (p2 : Int32) (p3 : Int32) (so : SG) (h : F_Colours_put_45 σ p0 p1 p2 p3 = so) : SpN 3 M_Colours_put [.ref 45, .int p0, .int p1, .int p2, .int p3] σ none so := by
  unfold F_Colours_put_45 at h
  refine Sp.of mk_Colours_put rfl (Nat.le_of_ble_eq_true rfl) ?_
  refine RM.blk [(2, 0, 0, .null), (3, 0, 0, .null), (1, 1, 0, .null), (1, 2, 0, .null)] (pc' := 6) (L' := [some (.ref 45), some (.int p0), some (.int p1), some (.int p2), some (.int p3)]) (st' := [.int p1, .int p0, .ref 46]) (σ1 := σ) (by decide +kernel) rfl ?_
  refine RN.callV [.int p0, .int p1] (s_Row_set (q := 46) (a := 47) (n := 10) ⟨rfl, rfl, by decide⟩ σ p0 p1) [] (pc3 := 9) (st3 := []) (by decide +kernel) mk_Row_set (by decide) ?_
  refine RM.blk [(2, 0, 0, .null), (3, 0, 1, .null), (1, 1, 0, .null), (1, 3, 0, .null)] (pc' := 15) (L' := [some (.ref 45), some (.int p0), some (.int p1), some (.int p2), some (.int p3)]) (st' := [.int p2, .int p0, .ref 48]) (σ1 := (rs σ 47 10 p0 p1)) (by decide +kernel) rfl ?_
  refine RN.callV [.int p0, .int p2] (s_Row_set (q := 48) (a := 49) (n := 10) ⟨rfl, rfl, by decide⟩ (rs σ 47 10 p0 p1) p0 p2) [] (pc3 := 18) (st3 := []) (by decide +kernel) mk_Row_set (by decide) ?_
  refine RM.blk [(2, 0, 0, .null), (3, 0, 2, .null), (1, 1, 0, .null), (1, 4, 0, .null)] (pc' := 25) (L' := [some (.ref 45), some (.int p0), some (.int p1), some (.int p2), some (.int p3)]) (st' := [.int p3, .int p0, .ref 50]) (σ1 := (rs (rs σ 47 10 p0 p1) 49 10 p0 p2)) (by decide +kernel) rfl ?_
  refine RN.callV [.int p0, .int p3] (s_Row_set (q := 50) (a := 51) (n := 10) ⟨rfl, rfl, by decide⟩ (rs (rs σ 47 10 p0 p1) 49 10 p0 p2) p0 p3) [] (pc3 := 28) (st3 := []) (by decide +kernel) mk_Row_set (by decide) ?_
  generalize ns1 : (rs (rs (rs σ 47 10 p0 p1) 49 10 p0 p2) 51 10 p0 p3) = s1 at h ⊢
  replace h := nm_h h
  obtain rfl := h
  exact RM.retv (by decide +kernel) rfl
def M_Lots_bring : MI := (yX7_bring, cX7_bring, 5, some .int, 7)
theorem mk_Lots_bring : mOK M_Lots_bring 4 = true := by decide +kernel
set_option maxRecDepth 100000 in
set_option maxHeartbeats 4000000 in
theorem s_Lots_bring (σ : SG) (p0 : Int32) (p1 : Int32) (p2 : Int32) (p3 : Int32) (rr : Int32) (so : SG) (h : F_Lots_bring σ p0 p1 p2 p3 = (rr, so)) : SpN 4 M_Lots_bring [.ref 42, .int p0, .int p1, .int p2, .int p3] σ (some (.int rr)) so := by
  unfold F_Lots_bring at h
  refine Sp.of mk_Lots_bring rfl (Nat.le_of_ble_eq_true rfl) ?_
  refine RM.blk [(2, 0, 0, .null), (3, 7, 2, .null), (2, 0, 0, .null), (3, 7, 0, .null), (1, 1, 0, .null), (1, 2, 0, .null), (1, 3, 0, .null)] (pc' := 11) (L' := [some (.ref 42), some (.int p0), some (.int p1), some (.int p2), some (.int p3)]) (st' := [.int p2, .int p1, .int p0, .int (σ 42 0), .ref 45]) (σ1 := σ) (by decide +kernel) rfl ?_
  refine RN.callV [.int (σ 42 0), .int p0, .int p1, .int p2] (s_Colours_put_45 σ (σ 42 0) p0 p1 p2 _ rfl) [] (pc3 := 14) (st3 := []) (by decide +kernel) mk_Colours_put (by decide) ?_
  refine RM.blk [(2, 0, 0, .null), (3, 7, 1, .null), (2, 0, 0, .null), (3, 7, 0, .null), (1, 4, 0, .null)] (pc' := 24) (L' := [some (.ref 42), some (.int p0), some (.int p1), some (.int p2), some (.int p3)]) (st' := [.int p3, .int ((F_Colours_put_45 σ (σ 42 0) p0 p1 p2) 42 0), .ref 43]) (σ1 := (F_Colours_put_45 σ (σ 42 0) p0 p1 p2)) (by decide +kernel) rfl ?_
  refine RN.callV [.int ((F_Colours_put_45 σ (σ 42 0) p0 p1 p2) 42 0), .int p3] (s_Row_set (q := 43) (a := 44) (n := 10) ⟨rfl, rfl, by decide⟩ (F_Colours_put_45 σ (σ 42 0) p0 p1 p2) ((F_Colours_put_45 σ (σ 42 0) p0 p1 p2) 42 0) p3) [] (pc3 := 27) (st3 := []) (by decide +kernel) mk_Row_set (by decide) ?_
  generalize ns1 : (rs (F_Colours_put_45 σ (σ 42 0) p0 p1 p2) 44 10 ((F_Colours_put_45 σ (σ 42 0) p0 p1 p2) 42 0) p3) = s1 at h ⊢
  replace h := nm_h h
  refine RM.blk [(2, 0, 0, .null), (11, 0, 0, .null), (3, 7, 0, .null), (0, 0, 0, .int 1), (5, 0, 0, .null), (15, 7, 0, .null), (2, 0, 0, .null), (3, 7, 0, .null), (0, 0, 0, .int 1), (6, 0, 0, .null)] (pc' := 43) (L' := [some (.ref 42), some (.int p0), some (.int p1), some (.int p2), some (.int p3)]) (st' := [.int (((up s1 42 0 ((s1 42 0) + 1)) 42 0) - 1)]) (σ1 := (up s1 42 0 ((s1 42 0) + 1))) (by decide +kernel) rfl ?_
  obtain ⟨rfl, rfl⟩ := Prod.mk.inj h
  exact RM.reti (by decide +kernel) rfl
def M_Shop_lot : MI := (yX11_lot, cX11_lot, 5, some .int, 11)
theorem mk_Shop_lot : mOK M_Shop_lot 4 = true := by decide +kernel
set_option maxRecDepth 100000 in
set_option maxHeartbeats 4000000 in
theorem s_Shop_lot (σ : SG) (p0 : Int32) (p1 : Int32) (p2 : Int32) (p3 : Int32) (rr : Int32) (so : SG) (h : F_Shop_lot σ p0 p1 p2 p3 = (rr, so)) : SpN 5 M_Shop_lot [.ref 0, .int p0, .int p1, .int p2, .int p3] σ (some (.int rr)) so := by
  unfold F_Shop_lot at h
  refine Sp.of mk_Shop_lot rfl (Nat.le_of_ble_eq_true rfl) ?_
  refine RM.blk [(1, 1, 0, .null), (1, 2, 0, .null), (1, 3, 0, .null)] (pc' := 3) (L' := [some (.ref 0), some (.int p0), some (.int p1), some (.int p2), some (.int p3)]) (st' := [.int p2, .int p1, .int p0]) (σ1 := σ) (by decide +kernel) rfl ?_
  refine RN.callS [.int p0, .int p1, .int p2] (s_Shop_isColour σ p0 p1 p2) [] (pc3 := 6) (st3 := [.int (bI (F_Shop_isColour p0 p1 p2))]) (by decide +kernel) mk_Shop_isColour (by decide) ?_
  refine RM.zeq (tgt := 21) (by decide +kernel) (fun c1 => ?_) (fun c1 => ?_)
  · rw [if_neg (bf c1)] at h
    refine RM.blk [(0, 0, 0, .int (-2))] (pc' := 23) (L' := [some (.ref 0), some (.int p0), some (.int p1), some (.int p2), some (.int p3)]) (st' := [.int (-2)]) (σ1 := σ) (by decide +kernel) rfl ?_
    obtain ⟨rfl, rfl⟩ := Prod.mk.inj h
    exact RM.reti (by decide +kernel) rfl
  · rw [if_pos c1] at h
    refine RM.blk [(1, 4, 0, .null), (0, 0, 0, .int 0), (0, 0, 0, .int 1000)] (pc' := 15) (L' := [some (.ref 0), some (.int p0), some (.int p1), some (.int p2), some (.int p3)]) (st' := [.int 1000, .int 0, .int p3]) (σ1 := σ) (by decide +kernel) rfl ?_
    refine RN.callS [.int p3, .int 0, .int 1000] (s_Shop_within σ p3 0 1000) [] (pc3 := 18) (st3 := [.int (bI (F_Shop_within p3 0 1000))]) (by decide +kernel) mk_Shop_within (by decide) ?_
    refine RM.zne (tgt := 24) (by decide +kernel) (fun c2 => ?_) (fun c2 => ?_)
    · rw [if_pos c2] at h
      refine RM.blk [(2, 0, 0, .null), (3, 11, 4, .null), (3, 7, 0, .null), (0, 0, 0, .int 10)] (pc' := 33) (L' := [some (.ref 0), some (.int p0), some (.int p1), some (.int p2), some (.int p3)]) (st' := [.int 10, .int (σ 42 0)]) (σ1 := σ) (by decide +kernel) rfl ?_
      refine RM.icmp_ge (tgt := 51) (by decide +kernel) (fun c3 => ?_) (fun c3 => ?_)
      · rw [if_pos c3] at h
        refine RM.blk [(0, 0, 0, .int (-4))] (pc' := 53) (L' := [some (.ref 0), some (.int p0), some (.int p1), some (.int p2), some (.int p3)]) (st' := [.int (-4)]) (σ1 := σ) (by decide +kernel) rfl ?_
        obtain ⟨rfl, rfl⟩ := Prod.mk.inj h
        exact RM.reti (by decide +kernel) rfl
      · rw [if_neg c3] at h
        refine RM.blk [(2, 0, 0, .null), (3, 11, 4, .null), (1, 1, 0, .null), (1, 2, 0, .null), (1, 3, 0, .null), (1, 4, 0, .null)] (pc' := 45) (L' := [some (.ref 0), some (.int p0), some (.int p1), some (.int p2), some (.int p3)]) (st' := [.int p3, .int p2, .int p1, .int p0, .ref 42]) (σ1 := σ) (by decide +kernel) rfl ?_
        refine RN.callV [.int p0, .int p1, .int p2, .int p3] (s_Lots_bring σ p0 p1 p2 p3 _ _ rfl) [] (pc3 := 48) (st3 := [.int ((F_Lots_bring σ p0 p1 p2 p3).1)]) (by decide +kernel) mk_Lots_bring (by decide) ?_
        refine RM.blk [(23, 0, 0, .null)] (pc' := 53) (L' := [some (.ref 0), some (.int p0), some (.int p1), some (.int p2), some (.int p3)]) (st' := [.int ((F_Lots_bring σ p0 p1 p2 p3).1)]) (σ1 := (F_Lots_bring σ p0 p1 p2 p3).2) (by decide +kernel) rfl ?_
        obtain ⟨rfl, rfl⟩ := Prod.mk.inj h
        exact RM.reti (by decide +kernel) rfl
    · rw [if_neg (bf c2)] at h
      refine RM.blk [(0, 0, 0, .int (-2))] (pc' := 23) (L' := [some (.ref 0), some (.int p0), some (.int p1), some (.int p2), some (.int p3)]) (st' := [.int (-2)]) (σ1 := σ) (by decide +kernel) rfl ?_
      obtain ⟨rfl, rfl⟩ := Prod.mk.inj h
      exact RM.reti (by decide +kernel) rfl
def M_Lots_has : MI := (yX7_has, cX7_has, 2, some .boolean, 7)
theorem mk_Lots_has : mOK M_Lots_has 1 = true := by decide +kernel
set_option maxRecDepth 100000 in
set_option maxHeartbeats 4000000 in
theorem s_Lots_has (σ : SG) (p0 : Int32) : SpN 1 M_Lots_has [.ref 42, .int p0] σ (some (.int (bI (F_Lots_has σ p0)))) σ := by
  generalize h : F_Lots_has σ p0 = rr
  unfold F_Lots_has at h
  refine Sp.of mk_Lots_has rfl (Nat.le_of_ble_eq_true rfl) ?_
  refine RM.blk [(1, 1, 0, .null)] (pc' := 1) (L' := [some (.ref 42), some (.int p0)]) (st' := [.int p0]) (σ1 := σ) (by decide +kernel) rfl ?_
  refine RM.if_lt (tgt := 16) (by decide +kernel) (fun c1 => ?_) (fun c1 => ?_)
  · rw [if_pos c1] at h
    refine RM.blk [(0, 0, 0, .int 0)] (pc' := 17) (L' := [some (.ref 42), some (.int p0)]) (st' := [.int 0]) (σ1 := σ) (by decide +kernel) rfl ?_
    obtain rfl := h
    exact RM.retz (z := false) (by decide +kernel) rfl
  · rw [if_neg c1] at h
    refine RM.blk [(1, 1, 0, .null), (2, 0, 0, .null), (3, 7, 0, .null)] (pc' := 9) (L' := [some (.ref 42), some (.int p0)]) (st' := [.int (σ 42 0), .int p0]) (σ1 := σ) (by decide +kernel) rfl ?_
    refine RM.icmp_ge (tgt := 16) (by decide +kernel) (fun c2 => ?_) (fun c2 => ?_)
    · rw [if_pos c2] at h
      refine RM.blk [(0, 0, 0, .int 0)] (pc' := 17) (L' := [some (.ref 42), some (.int p0)]) (st' := [.int 0]) (σ1 := σ) (by decide +kernel) rfl ?_
      obtain rfl := h
      exact RM.retz (z := false) (by decide +kernel) rfl
    · rw [if_neg c2] at h
      refine RM.blk [(0, 0, 0, .int 1), (23, 0, 0, .null)] (pc' := 17) (L' := [some (.ref 42), some (.int p0)]) (st' := [.int 1]) (σ1 := σ) (by decide +kernel) rfl ?_
      obtain rfl := h
      exact RM.retz (z := true) (by decide +kernel) rfl
def M_Shop_left : MI := (yX11_left, cX11_left, 2, some .int, 11)
theorem mk_Shop_left : mOK M_Shop_left 1 = true := by decide +kernel
set_option maxRecDepth 100000 in
set_option maxHeartbeats 4000000 in
theorem s_Shop_left (σ : SG) (p0 : Int32) : SpN 3 M_Shop_left [.ref 0, .int p0] σ (some (.int (F_Shop_left σ p0))) σ := by
  generalize h : F_Shop_left σ p0 = rr
  unfold F_Shop_left at h
  refine Sp.of mk_Shop_left rfl (Nat.le_of_ble_eq_true rfl) ?_
  refine RM.blk [(2, 0, 0, .null), (3, 11, 4, .null), (1, 1, 0, .null)] (pc' := 5) (L' := [some (.ref 0), some (.int p0)]) (st' := [.int p0, .ref 42]) (σ1 := σ) (by decide +kernel) rfl ?_
  refine RN.callV [.int p0] (s_Lots_has σ p0) [] (pc3 := 8) (st3 := [.int (bI (F_Lots_has σ p0))]) (by decide +kernel) mk_Lots_has (by decide) ?_
  refine RM.zeq (tgt := 25) (by decide +kernel) (fun c1 => ?_) (fun c1 => ?_)
  · rw [if_neg (bf c1)] at h
    refine RM.blk [(0, 0, 0, .int (-2))] (pc' := 27) (L' := [some (.ref 0), some (.int p0)]) (st' := [.int (-2)]) (σ1 := σ) (by decide +kernel) rfl ?_
    obtain rfl := h
    exact RM.reti (by decide +kernel) rfl
  · rw [if_pos c1] at h
    refine RM.blk [(2, 0, 0, .null), (3, 11, 4, .null), (3, 7, 1, .null), (1, 1, 0, .null)] (pc' := 19) (L' := [some (.ref 0), some (.int p0)]) (st' := [.int p0, .ref 43]) (σ1 := σ) (by decide +kernel) rfl ?_
    refine RN.callV [.int p0] (s_Row_get (q := 43) (a := 44) (n := 10) ⟨rfl, rfl, by decide⟩ σ p0) [] (pc3 := 22) (st3 := [.int (rg σ 44 10 p0)]) (by decide +kernel) mk_Row_get (by decide) ?_
    refine RM.blk [(23, 0, 0, .null)] (pc' := 27) (L' := [some (.ref 0), some (.int p0)]) (st' := [.int (rg σ 44 10 p0)]) (σ1 := σ) (by decide +kernel) rfl ?_
    obtain rfl := h
    exact RM.reti (by decide +kernel) rfl
def M_Shop_more : MI := (yX11_more, cX11_more, 3, some .int, 11)
theorem mk_Shop_more : mOK M_Shop_more 2 = true := by decide +kernel
set_option maxRecDepth 100000 in
set_option maxHeartbeats 4000000 in
theorem s_Shop_more (σ : SG) (p0 : Int32) (p1 : Int32) (rr : Int32) (so : SG) (h : F_Shop_more σ p0 p1 = (rr, so)) : SpN 4 M_Shop_more [.ref 0, .int p0, .int p1] σ (some (.int rr)) so := by
  unfold F_Shop_more at h
  refine Sp.of mk_Shop_more rfl (Nat.le_of_ble_eq_true rfl) ?_
  refine RM.blk [(2, 0, 0, .null), (3, 11, 4, .null), (1, 1, 0, .null)] (pc' := 5) (L' := [some (.ref 0), some (.int p0), some (.int p1)]) (st' := [.int p0, .ref 42]) (σ1 := σ) (by decide +kernel) rfl ?_
  refine RN.callV [.int p0] (s_Lots_has σ p0) [] (pc3 := 8) (st3 := [.int (bI (F_Lots_has σ p0))]) (by decide +kernel) mk_Lots_has (by decide) ?_
  refine RM.zeq (tgt := 22) (by decide +kernel) (fun c1 => ?_) (fun c1 => ?_)
  · rw [if_neg (bf c1)] at h
    refine RM.blk [(0, 0, 0, .int (-2))] (pc' := 24) (L' := [some (.ref 0), some (.int p0), some (.int p1)]) (st' := [.int (-2)]) (σ1 := σ) (by decide +kernel) rfl ?_
    obtain ⟨rfl, rfl⟩ := Prod.mk.inj h
    exact RM.reti (by decide +kernel) rfl
  · rw [if_pos c1] at h
    refine RM.blk [(1, 2, 0, .null), (0, 0, 0, .int 0), (0, 0, 0, .int 1000)] (pc' := 16) (L' := [some (.ref 0), some (.int p0), some (.int p1)]) (st' := [.int 1000, .int 0, .int p1]) (σ1 := σ) (by decide +kernel) rfl ?_
    refine RN.callS [.int p1, .int 0, .int 1000] (s_Shop_within σ p1 0 1000) [] (pc3 := 19) (st3 := [.int (bI (F_Shop_within p1 0 1000))]) (by decide +kernel) mk_Shop_within (by decide) ?_
    refine RM.zne (tgt := 25) (by decide +kernel) (fun c2 => ?_) (fun c2 => ?_)
    · rw [if_pos c2] at h
      refine RM.blk [(2, 0, 0, .null), (3, 11, 4, .null), (3, 7, 1, .null), (1, 1, 0, .null)] (pc' := 33) (L' := [some (.ref 0), some (.int p0), some (.int p1)]) (st' := [.int p0, .ref 43]) (σ1 := σ) (by decide +kernel) rfl ?_
      refine RN.callV [.int p0] (s_Row_get (q := 43) (a := 44) (n := 10) ⟨rfl, rfl, by decide⟩ σ p0) [] (pc3 := 36) (st3 := [.int (rg σ 44 10 p0)]) (by decide +kernel) mk_Row_get (by decide) ?_
      refine RM.blk [(1, 2, 0, .null), (5, 0, 0, .null), (0, 0, 0, .int 1000)] (pc' := 41) (L' := [some (.ref 0), some (.int p0), some (.int p1)]) (st' := [.int 1000, .int ((rg σ 44 10 p0) + p1)]) (σ1 := σ) (by decide +kernel) rfl ?_
      refine RM.icmp_le (tgt := 47) (by decide +kernel) (fun c3 => ?_) (fun c3 => ?_)
      · rw [if_pos c3] at h
        refine RM.blk [(2, 0, 0, .null), (3, 11, 4, .null), (3, 7, 1, .null), (1, 1, 0, .null), (1, 2, 0, .null)] (pc' := 56) (L' := [some (.ref 0), some (.int p0), some (.int p1)]) (st' := [.int p1, .int p0, .ref 43]) (σ1 := σ) (by decide +kernel) rfl ?_
        refine RN.callV [.int p0, .int p1] (s_Row_add (q := 43) (a := 44) (n := 10) ⟨rfl, rfl, by decide⟩ σ p0 p1) [] (pc3 := 59) (st3 := []) (by decide +kernel) mk_Row_add (by decide) ?_
        refine RM.blk [(2, 0, 0, .null), (3, 11, 4, .null), (3, 7, 1, .null), (1, 1, 0, .null)] (pc' := 67) (L' := [some (.ref 0), some (.int p0), some (.int p1)]) (st' := [.int p0, .ref 43]) (σ1 := (ra σ 44 10 p0 p1)) (by decide +kernel) rfl ?_
        refine RN.callV [.int p0] (s_Row_get (q := 43) (a := 44) (n := 10) ⟨rfl, rfl, by decide⟩ (ra σ 44 10 p0 p1) p0) [] (pc3 := 70) (st3 := [.int (rg (ra σ 44 10 p0 p1) 44 10 p0)]) (by decide +kernel) mk_Row_get (by decide) ?_
        obtain ⟨rfl, rfl⟩ := Prod.mk.inj h
        exact RM.reti (by decide +kernel) rfl
      · rw [if_neg c3] at h
        refine RM.blk [(0, 0, 0, .int (-3))] (pc' := 46) (L' := [some (.ref 0), some (.int p0), some (.int p1)]) (st' := [.int (-3)]) (σ1 := σ) (by decide +kernel) rfl ?_
        obtain ⟨rfl, rfl⟩ := Prod.mk.inj h
        exact RM.reti (by decide +kernel) rfl
    · rw [if_neg (bf c2)] at h
      refine RM.blk [(0, 0, 0, .int (-2))] (pc' := 24) (L' := [some (.ref 0), some (.int p0), some (.int p1)]) (st' := [.int (-2)]) (σ1 := σ) (by decide +kernel) rfl ?_
      obtain ⟨rfl, rfl⟩ := Prod.mk.inj h
      exact RM.reti (by decide +kernel) rfl
