/-! methods: Shop_digest, Ref_in, Ref_goes, Ref_wall, Ref_draw, Ref_isPlace, Ref_field, Ref_isColour, Ref_colour, Ref_mark, Ref_strip, Ref_lay, Ref_at, Ref_faceDown, Ref_cube, Ref_lot, Ref_left, Ref_more -/
def M_Shop_digest : MI := (yX11_digest, cX11_digest, 5, some .long, 11)
theorem mk_Shop_digest : mOK M_Shop_digest 0 = true := by decide +kernel
set_option maxRecDepth 100000 in
set_option maxHeartbeats 4000000 in
theorem s_Shop_digest (σ : SG) (rr : Int64) (h : F_Shop_digest σ = some rr) : SpN 7 M_Shop_digest [.ref 0] σ (some (.long rr)) σ := by
  unfold F_Shop_digest at h
  refine Sp.of mk_Shop_digest rfl (Nat.le_of_ble_eq_true rfl) ?_
  refine RM.blk [(0, 0, 0, .long 149), (21, 1, 0, .null), (0, 0, 0, .int 0), (4, 3, 0, .null)] (pc' := 6) (L' := [some (.ref 0), some (.long 149), none, some (.int 0), none]) (st' := []) (σ1 := σ) (by decide +kernel) rfl ?_
  have hL1 : ∀ (n : Nat) (x1 : Int64 × Int32) (y1 : Int64), lpW (L_Shop_digest_6 σ) n x1 = some y1 → RN 7 M_Shop_digest (some (.long rr)) σ 31 [some (.ref 0), some (.long y1), none, none, none] [] σ → RN 7 M_Shop_digest (some (.long rr)) σ 6 [some (.ref 0), some (.long x1.1), none, some (.int x1.2), none] [] σ := by
    intro n
    induction n with
    | zero => intro x1 y1 hy1; cases hy1
    | succ n ih1 =>
      intro x1 y1 hy1 hK1
      obtain ⟨z1, e1, hy1⟩ := ob_some hy1
      unfold L_Shop_digest_6 at e1
      refine RM.blk [(1, 3, 0, .null), (0, 0, 0, .int 8)] (pc' := 9) (L' := [some (.ref 0), some (.long x1.1), none, some (.int x1.2), none]) (st' := [.int 8, .int x1.2]) (σ1 := σ) (by decide +kernel) rfl ?_
      refine RM.icmp_gt (tgt := 31) (by decide +kernel) (fun c2 => ?_) (fun c2 => ?_)
      · rw [if_pos c2] at e1
        obtain rfl := Option.some.inj e1
        obtain rfl := Option.some.inj (show some (x1.1 : Int64) = some y1 from hy1)
        refine RN.dropB [true, true, false, false, false] rfl ?_
        exact hK1
      · rw [if_neg c2] at e1
        refine RM.blk [(0, 0, 0, .long 31), (20, 1, 0, .null), (19, 0, 0, .null), (2, 0, 0, .null), (1, 3, 0, .null)] (pc' := 19) (L' := [some (.ref 0), some (.long x1.1), none, some (.int x1.2), none]) (st' := [.int x1.2, .ref 0, .long (31 * x1.1)]) (σ1 := σ) (by decide +kernel) rfl ?_
        obtain ⟨v3, hv3, e1⟩ := ob_some e1
        refine RN.callV [.int x1.2] (s_Shop_count σ x1.2 v3 hv3) [.long (31 * x1.1)] (pc3 := 22) (st3 := [.int v3, .long (31 * x1.1)]) (by decide +kernel) mk_Shop_count (by decide) ?_
        refine RM.blk [(17, 0, 0, .null), (18, 0, 0, .null), (21, 1, 0, .null), (10, 3, 0, .int 1), (23, 0, 0, .null)] (pc' := 6) (L' := [some (.ref 0), some (.long ((31 * x1.1) + v3.toInt64)), none, some (.int (x1.2 + 1)), none]) (st' := []) (σ1 := σ) (by decide +kernel) rfl ?_
        obtain rfl := Option.some.inj e1
        refine RN.dropB [true, true, false, true, false] rfl ?_
        exact ih1 (((31 * x1.1) + v3.toInt64), (x1.2 + 1)) _ hy1 hK1
  obtain ⟨y1, hl1, h⟩ := ob_some h
  refine RN.dropB [true, true, false, true, false] rfl ?_
  refine hL1 FU (149, 0) y1 hl1 ?_
  refine RM.blk [(0, 0, 0, .int 0), (4, 3, 0, .null)] (pc' := 33) (L' := [some (.ref 0), some (.long y1), none, some (.int 0), none]) (st' := []) (σ1 := σ) (by decide +kernel) rfl ?_
  have hL4 : ∀ (n : Nat) (x4 : Int64 × Int32) (y4 : Int64), lpW (L_Shop_digest_33 σ) n x4 = some y4 → RN 7 M_Shop_digest (some (.long rr)) σ 89 [some (.ref 0), some (.long y4), none, none, none] [] σ → RN 7 M_Shop_digest (some (.long rr)) σ 33 [some (.ref 0), some (.long x4.1), none, some (.int x4.2), none] [] σ := by
    intro n
    induction n with
    | zero => intro x4 y4 hy4; cases hy4
    | succ n ih4 =>
      intro x4 y4 hy4 hK4
      obtain ⟨z4, e4, hy4⟩ := ob_some hy4
      unfold L_Shop_digest_33 at e4
      refine RM.blk [(1, 3, 0, .null), (2, 0, 0, .null), (3, 11, 0, .null), (3, 3, 1, .null)] (pc' := 41) (L' := [some (.ref 0), some (.long x4.1), none, some (.int x4.2), none]) (st' := [.int (σ 1 1), .int x4.2]) (σ1 := σ) (by decide +kernel) rfl ?_
      refine RM.icmp_ge (tgt := 89) (by decide +kernel) (fun c5 => ?_) (fun c5 => ?_)
      · rw [if_pos c5] at e4
        obtain rfl := Option.some.inj e4
        obtain rfl := Option.some.inj (show some (x4.1 : Int64) = some y4 from hy4)
        refine RN.dropB [true, true, false, false, false] rfl ?_
        exact hK4
      · rw [if_neg c5] at e4
        refine RM.blk [(0, 0, 0, .int 0), (4, 4, 0, .null)] (pc' := 47) (L' := [some (.ref 0), some (.long x4.1), none, some (.int x4.2), some (.int 0)]) (st' := []) (σ1 := σ) (by decide +kernel) rfl ?_
        have hL6 : ∀ (n : Nat) (x6 : Int64 × Int32) (y6 : Int64), lpW (L_Shop_digest_47 σ x4.2) n x6 = some y6 → RN 7 M_Shop_digest (some (.long rr)) σ 83 [some (.ref 0), some (.long y6), none, some (.int x4.2), none] [] σ → RN 7 M_Shop_digest (some (.long rr)) σ 47 [some (.ref 0), some (.long x6.1), none, some (.int x4.2), some (.int x6.2)] [] σ := by
          intro n
          induction n with
          | zero => intro x6 y6 hy6; cases hy6
          | succ n ih6 =>
            intro x6 y6 hy6 hK6
            obtain ⟨z6, e6, hy6⟩ := ob_some hy6
            unfold L_Shop_digest_47 at e6
            refine RM.blk [(1, 4, 0, .null), (2, 0, 0, .null), (3, 11, 0, .null), (3, 3, 0, .null)] (pc' := 56) (L' := [some (.ref 0), some (.long x6.1), none, some (.int (x4.2)), some (.int x6.2)]) (st' := [.int (σ 1 0), .int x6.2]) (σ1 := σ) (by decide +kernel) rfl ?_
            refine RM.icmp_ge (tgt := 83) (by decide +kernel) (fun c7 => ?_) (fun c7 => ?_)
            · rw [if_pos c7] at e6
              obtain rfl := Option.some.inj e6
              obtain rfl := Option.some.inj (show some (x6.1 : Int64) = some y6 from hy6)
              refine RN.dropB [true, true, false, true, false] rfl ?_
              exact hK6
            · rw [if_neg c7] at e6
              refine RM.blk [(0, 0, 0, .long 31), (20, 1, 0, .null), (19, 0, 0, .null), (2, 0, 0, .null), (3, 11, 0, .null), (1, 4, 0, .null), (1, 3, 0, .null)] (pc' := 71) (L' := [some (.ref 0), some (.long x6.1), none, some (.int (x4.2)), some (.int x6.2)]) (st' := [.int (x4.2), .int x6.2, .ref 1, .long (31 * x6.1)]) (σ1 := σ) (by decide +kernel) rfl ?_
              refine RN.callV [.int x6.2, .int (x4.2)] (s_Drawing_fieldAt σ x6.2 (x4.2)) [.long (31 * x6.1)] (pc3 := 74) (st3 := [.int (F_Drawing_fieldAt σ x6.2 (x4.2)), .long (31 * x6.1)]) (by decide +kernel) mk_Drawing_fieldAt (by decide) ?_
              refine RM.blk [(17, 0, 0, .null), (18, 0, 0, .null), (21, 1, 0, .null), (10, 4, 0, .int 1), (23, 0, 0, .null)] (pc' := 47) (L' := [some (.ref 0), some (.long ((31 * x6.1) + (F_Drawing_fieldAt σ x6.2 (x4.2)).toInt64)), none, some (.int (x4.2)), some (.int (x6.2 + 1))]) (st' := []) (σ1 := σ) (by decide +kernel) rfl ?_
              obtain rfl := Option.some.inj e6
              refine RN.dropB [true, true, false, true, true] rfl ?_
              exact ih6 (((31 * x6.1) + (F_Drawing_fieldAt σ x6.2 (x4.2)).toInt64), (x6.2 + 1)) _ hy6 hK6
        obtain ⟨y6, hl6, e4⟩ := ob_some e4
        refine RN.dropB [true, true, false, true, true] rfl ?_
        refine hL6 FU (x4.1, 0) y6 hl6 ?_
        refine RM.blk [(10, 3, 0, .int 1), (23, 0, 0, .null)] (pc' := 33) (L' := [some (.ref 0), some (.long y6), none, some (.int (x4.2 + 1)), none]) (st' := []) (σ1 := σ) (by decide +kernel) rfl ?_
        obtain rfl := Option.some.inj e4
        refine RN.dropB [true, true, false, true, false] rfl ?_
        exact ih4 (y6, (x4.2 + 1)) _ hy4 hK4
  obtain ⟨y4, hl4, h⟩ := ob_some h
  refine RN.dropB [true, true, false, true, false] rfl ?_
  refine hL4 FU (y1, 0) y4 hl4 ?_
  refine RM.blk [(0, 0, 0, .int 0), (4, 3, 0, .null)] (pc' := 91) (L' := [some (.ref 0), some (.long y4), none, some (.int 0), none]) (st' := []) (σ1 := σ) (by decide +kernel) rfl ?_
  have hL8 : ∀ (n : Nat) (x8 : Int64 × Int32) (y8 : Int64), lpW (L_Shop_digest_91 σ) n x8 = some y8 → RN 7 M_Shop_digest (some (.long rr)) σ 142 [some (.ref 0), some (.long y8), none, none, none] [] σ → RN 7 M_Shop_digest (some (.long rr)) σ 91 [some (.ref 0), some (.long x8.1), none, some (.int x8.2), none] [] σ := by
    intro n
    induction n with
    | zero => intro x8 y8 hy8; cases hy8
    | succ n ih8 =>
      intro x8 y8 hy8 hK8
      obtain ⟨z8, e8, hy8⟩ := ob_some hy8
      unfold L_Shop_digest_91 at e8
      refine RM.blk [(1, 3, 0, .null), (2, 0, 0, .null), (3, 11, 2, .null), (3, 1, 0, .null)] (pc' := 99) (L' := [some (.ref 0), some (.long x8.1), none, some (.int x8.2), none]) (st' := [.int (σ 18 0), .int x8.2]) (σ1 := σ) (by decide +kernel) rfl ?_
      refine RM.icmp_ge (tgt := 142) (by decide +kernel) (fun c9 => ?_) (fun c9 => ?_)
      · rw [if_pos c9] at e8
        obtain rfl := Option.some.inj e8
        obtain rfl := Option.some.inj (show some (x8.1 : Int64) = some y8 from hy8)
        refine RN.dropB [true, true, false, false, false] rfl ?_
        exact hK8
      · rw [if_neg c9] at e8
        refine RM.blk [(0, 0, 0, .int 0), (4, 4, 0, .null)] (pc' := 105) (L' := [some (.ref 0), some (.long x8.1), none, some (.int x8.2), some (.int 0)]) (st' := []) (σ1 := σ) (by decide +kernel) rfl ?_
        have hL10 : ∀ (n : Nat) (x10 : Int64 × Int32) (y10 : Int64), lpW (L_Shop_digest_105 σ x8.2) n x10 = some y10 → RN 7 M_Shop_digest (some (.long rr)) σ 136 [some (.ref 0), some (.long y10), none, some (.int x8.2), none] [] σ → RN 7 M_Shop_digest (some (.long rr)) σ 105 [some (.ref 0), some (.long x10.1), none, some (.int x8.2), some (.int x10.2)] [] σ := by
          intro n
          induction n with
          | zero => intro x10 y10 hy10; cases hy10
          | succ n ih10 =>
            intro x10 y10 hy10 hK10
            obtain ⟨z10, e10, hy10⟩ := ob_some hy10
            unfold L_Shop_digest_105 at e10
            refine RM.blk [(1, 4, 0, .null), (0, 0, 0, .int 6)] (pc' := 109) (L' := [some (.ref 0), some (.long x10.1), none, some (.int (x8.2)), some (.int x10.2)]) (st' := [.int 6, .int x10.2]) (σ1 := σ) (by decide +kernel) rfl ?_
            refine RM.icmp_gt (tgt := 136) (by decide +kernel) (fun c11 => ?_) (fun c11 => ?_)
            · rw [if_pos c11] at e10
              obtain rfl := Option.some.inj e10
              obtain rfl := Option.some.inj (show some (x10.1 : Int64) = some y10 from hy10)
              refine RN.dropB [true, true, false, true, false] rfl ?_
              exact hK10
            · rw [if_neg c11] at e10
              refine RM.blk [(0, 0, 0, .long 31), (20, 1, 0, .null), (19, 0, 0, .null), (2, 0, 0, .null), (3, 11, 2, .null), (1, 3, 0, .null), (1, 4, 0, .null)] (pc' := 124) (L' := [some (.ref 0), some (.long x10.1), none, some (.int (x8.2)), some (.int x10.2)]) (st' := [.int x10.2, .int (x8.2), .ref 18, .long (31 * x10.1)]) (σ1 := σ) (by decide +kernel) rfl ?_
              refine RN.callV [.int (x8.2), .int x10.2] (s_Cubes_tell σ (x8.2) x10.2) [.long (31 * x10.1)] (pc3 := 127) (st3 := [.int (F_Cubes_tell σ (x8.2) x10.2), .long (31 * x10.1)]) (by decide +kernel) mk_Cubes_tell (by decide) ?_
              refine RM.blk [(17, 0, 0, .null), (18, 0, 0, .null), (21, 1, 0, .null), (10, 4, 0, .int 1), (23, 0, 0, .null)] (pc' := 105) (L' := [some (.ref 0), some (.long ((31 * x10.1) + (F_Cubes_tell σ (x8.2) x10.2).toInt64)), none, some (.int (x8.2)), some (.int (x10.2 + 1))]) (st' := []) (σ1 := σ) (by decide +kernel) rfl ?_
              obtain rfl := Option.some.inj e10
              refine RN.dropB [true, true, false, true, true] rfl ?_
              exact ih10 (((31 * x10.1) + (F_Cubes_tell σ (x8.2) x10.2).toInt64), (x10.2 + 1)) _ hy10 hK10
        obtain ⟨y10, hl10, e8⟩ := ob_some e8
        refine RN.dropB [true, true, false, true, true] rfl ?_
        refine hL10 FU (x8.1, 0) y10 hl10 ?_
        refine RM.blk [(10, 3, 0, .int 1), (23, 0, 0, .null)] (pc' := 91) (L' := [some (.ref 0), some (.long y10), none, some (.int (x8.2 + 1)), none]) (st' := []) (σ1 := σ) (by decide +kernel) rfl ?_
        obtain rfl := Option.some.inj e8
        refine RN.dropB [true, true, false, true, false] rfl ?_
        exact ih8 (y10, (x8.2 + 1)) _ hy8 hK8
  obtain ⟨y8, hl8, h⟩ := ob_some h
  refine RN.dropB [true, true, false, true, false] rfl ?_
  refine hL8 FU (y4, 0) y8 hl8 ?_
  refine RM.blk [(0, 0, 0, .int 0), (4, 3, 0, .null)] (pc' := 144) (L' := [some (.ref 0), some (.long y8), none, some (.int 0), none]) (st' := []) (σ1 := σ) (by decide +kernel) rfl ?_
  have hL12 : ∀ (n : Nat) (x12 : Int64 × Int32) (y12 : Int64), lpW (L_Shop_digest_144 σ) n x12 = some y12 → RN 7 M_Shop_digest (some (.long rr)) σ 180 [none, some (.long y12), none, none, none] [] σ → RN 7 M_Shop_digest (some (.long rr)) σ 144 [some (.ref 0), some (.long x12.1), none, some (.int x12.2), none] [] σ := by
    intro n
    induction n with
    | zero => intro x12 y12 hy12; cases hy12
    | succ n ih12 =>
      intro x12 y12 hy12 hK12
      obtain ⟨z12, e12, hy12⟩ := ob_some hy12
      unfold L_Shop_digest_144 at e12
      refine RM.blk [(1, 3, 0, .null), (2, 0, 0, .null), (3, 11, 4, .null), (3, 7, 0, .null)] (pc' := 152) (L' := [some (.ref 0), some (.long x12.1), none, some (.int x12.2), none]) (st' := [.int (σ 42 0), .int x12.2]) (σ1 := σ) (by decide +kernel) rfl ?_
      refine RM.icmp_ge (tgt := 180) (by decide +kernel) (fun c13 => ?_) (fun c13 => ?_)
      · rw [if_pos c13] at e12
        obtain rfl := Option.some.inj e12
        obtain rfl := Option.some.inj (show some (x12.1 : Int64) = some y12 from hy12)
        refine RN.dropB [false, true, false, false, false] rfl ?_
        exact hK12
      · rw [if_neg c13] at e12
        refine RM.blk [(0, 0, 0, .long 31), (20, 1, 0, .null), (19, 0, 0, .null), (2, 0, 0, .null), (3, 11, 4, .null), (3, 7, 1, .null), (1, 3, 0, .null)] (pc' := 168) (L' := [some (.ref 0), some (.long x12.1), none, some (.int x12.2), none]) (st' := [.int x12.2, .ref 43, .long (31 * x12.1)]) (σ1 := σ) (by decide +kernel) rfl ?_
        refine RN.callV [.int x12.2] (s_Row_get (q := 43) (a := 44) (n := 10) ⟨rfl, rfl, by decide⟩ σ x12.2) [.long (31 * x12.1)] (pc3 := 171) (st3 := [.int (rg σ 44 10 x12.2), .long (31 * x12.1)]) (by decide +kernel) mk_Row_get (by decide) ?_
        refine RM.blk [(17, 0, 0, .null), (18, 0, 0, .null), (21, 1, 0, .null), (10, 3, 0, .int 1), (23, 0, 0, .null)] (pc' := 144) (L' := [some (.ref 0), some (.long ((31 * x12.1) + (rg σ 44 10 x12.2).toInt64)), none, some (.int (x12.2 + 1)), none]) (st' := []) (σ1 := σ) (by decide +kernel) rfl ?_
        obtain rfl := Option.some.inj e12
        refine RN.dropB [true, true, false, true, false] rfl ?_
        exact ih12 (((31 * x12.1) + (rg σ 44 10 x12.2).toInt64), (x12.2 + 1)) _ hy12 hK12
  obtain ⟨y12, hl12, h⟩ := ob_some h
  refine RN.dropB [true, true, false, true, false] rfl ?_
  refine hL12 FU (y8, 0) y12 hl12 ?_
  refine RM.blk [(20, 1, 0, .null)] (pc' := 181) (L' := [none, some (.long y12), none, none, none]) (st' := [.long y12]) (σ1 := σ) (by decide +kernel) rfl ?_
  obtain rfl := (Option.some.inj h)
  exact RM.retl (by decide +kernel) rfl
def M_Ref_in : MI := (yX12_in, cX12_in, 3, some .boolean, 12)
theorem mk_Ref_in : mOK M_Ref_in 3 = true := by decide +kernel
set_option maxRecDepth 100000 in
set_option maxHeartbeats 4000000 in
theorem s_Ref_in (σ : SG) (p0 : Int32) (p1 : Int32) (p2 : Int32) : SpN 1 M_Ref_in [.int p0, .int p1, .int p2] σ (some (.int (bI (F_Ref_in p0 p1 p2)))) σ := by
  generalize h : F_Ref_in p0 p1 p2 = rr
  unfold F_Ref_in at h
  refine Sp.of mk_Ref_in rfl (Nat.le_of_ble_eq_true rfl) ?_
  refine RM.blk [(1, 0, 0, .null), (1, 1, 0, .null)] (pc' := 2) (L' := [some (.int p0), some (.int p1), some (.int p2)]) (st' := [.int p1, .int p0]) (σ1 := σ) (by decide +kernel) rfl ?_
  refine RM.icmp_lt (tgt := 14) (by decide +kernel) (fun c1 => ?_) (fun c1 => ?_)
  · rw [if_pos c1] at h
    refine RM.blk [(0, 0, 0, .int 0)] (pc' := 15) (L' := [some (.int p0), some (.int p1), some (.int p2)]) (st' := [.int 0]) (σ1 := σ) (by decide +kernel) rfl ?_
    obtain rfl := h
    exact RM.retz (z := false) (by decide +kernel) rfl
  · rw [if_neg c1] at h
    refine RM.blk [(1, 0, 0, .null), (1, 2, 0, .null)] (pc' := 7) (L' := [some (.int p0), some (.int p1), some (.int p2)]) (st' := [.int p2, .int p0]) (σ1 := σ) (by decide +kernel) rfl ?_
    refine RM.icmp_gt (tgt := 14) (by decide +kernel) (fun c2 => ?_) (fun c2 => ?_)
    · rw [if_pos c2] at h
      refine RM.blk [(0, 0, 0, .int 0)] (pc' := 15) (L' := [some (.int p0), some (.int p1), some (.int p2)]) (st' := [.int 0]) (σ1 := σ) (by decide +kernel) rfl ?_
      obtain rfl := h
      exact RM.retz (z := false) (by decide +kernel) rfl
    · rw [if_neg c2] at h
      refine RM.blk [(0, 0, 0, .int 1), (23, 0, 0, .null)] (pc' := 15) (L' := [some (.int p0), some (.int p1), some (.int p2)]) (st' := [.int 1]) (σ1 := σ) (by decide +kernel) rfl ?_
      obtain rfl := h
      exact RM.retz (z := true) (by decide +kernel) rfl
def M_Ref_goes : MI := (yX12_goes, cX12_goes, 1, none, 12)
theorem mk_Ref_goes : mOK M_Ref_goes 0 = true := by decide +kernel
set_option maxRecDepth 100000 in
set_option maxHeartbeats 4000000 in
theorem s_Ref_goes (σ : SG) (so : SG) (h : F_Ref_goes σ = so) : SpN 1 M_Ref_goes [.ref 76] σ none so := by
  unfold F_Ref_goes at h
  refine Sp.of mk_Ref_goes rfl (Nat.le_of_ble_eq_true rfl) ?_
  refine RM.blk [(2, 0, 0, .null), (0, 0, 0, .int 0), (16, 12, 7, .null), (2, 0, 0, .null), (0, 0, 0, .int 0), (16, 12, 8, .null), (2, 0, 0, .null), (0, 0, 0, .int 0), (16, 12, 9, .null), (2, 0, 0, .null), (0, 0, 0, .int 0), (15, 12, 10, .null), (2, 0, 0, .null), (0, 0, 0, .int 0), (15, 12, 17, .null)] (pc' := 25) (L' := [some (.ref 76)]) (st' := []) (σ1 := (up (up (up (up (up σ 76 7 0) 76 8 0) 76 9 0) 76 10 0) 76 17 0)) (by decide +kernel) rfl ?_
  generalize ns1 : (up (up (up (up (up σ 76 7 0) 76 8 0) 76 9 0) 76 10 0) 76 17 0) = s1 at h ⊢
  replace h := nm_h h
  obtain rfl := h
  exact RM.retv (by decide +kernel) rfl
def M_Ref_wall : MI := (yX12_wall, cX12_wall, 4, some .int, 12)
theorem mk_Ref_wall : mOK M_Ref_wall 2 = true := by decide +kernel
set_option maxRecDepth 100000 in
set_option maxHeartbeats 4000000 in
theorem s_Ref_wall (σ : SG) (p0 : Int32) (p1 : Int32) (rr : Int32) (so : SG) (h : F_Ref_wall σ p0 p1 = some (rr, so)) : SpN 2 M_Ref_wall [.ref 76, .int p0, .int p1] σ (some (.int rr)) so := by
  unfold F_Ref_wall at h
  refine Sp.of mk_Ref_wall rfl (Nat.le_of_ble_eq_true rfl) ?_
  refine RM.blk [(1, 1, 0, .null), (0, 0, 0, .int 1), (0, 0, 0, .int 24)] (pc' := 4) (L' := [some (.ref 76), some (.int p0), some (.int p1), none]) (st' := [.int 24, .int 1, .int p0]) (σ1 := σ) (by decide +kernel) rfl ?_
  refine RN.callS [.int p0, .int 1, .int 24] (s_Ref_in σ p0 1 24) [] (pc3 := 7) (st3 := [.int (bI (F_Ref_in p0 1 24))]) (by decide +kernel) mk_Ref_in (by decide) ?_
  refine RM.zeq (tgt := 20) (by decide +kernel) (fun c1 => ?_) (fun c1 => ?_)
  · rw [if_neg (bf c1)] at h
    refine RM.blk [(0, 0, 0, .int (-2))] (pc' := 22) (L' := [some (.ref 76), some (.int p0), some (.int p1), none]) (st' := [.int (-2)]) (σ1 := σ) (by decide +kernel) rfl ?_
    obtain ⟨rfl, rfl⟩ := Prod.mk.inj (Option.some.inj h)
    exact RM.reti (by decide +kernel) rfl
  · rw [if_pos c1] at h
    refine RM.blk [(1, 2, 0, .null), (0, 0, 0, .int 1), (0, 0, 0, .int 10)] (pc' := 14) (L' := [some (.ref 76), some (.int p0), some (.int p1), none]) (st' := [.int 10, .int 1, .int p1]) (σ1 := σ) (by decide +kernel) rfl ?_
    refine RN.callS [.int p1, .int 1, .int 10] (s_Ref_in σ p1 1 10) [] (pc3 := 17) (st3 := [.int (bI (F_Ref_in p1 1 10))]) (by decide +kernel) mk_Ref_in (by decide) ?_
    refine RM.zne (tgt := 23) (by decide +kernel) (fun c2 => ?_) (fun c2 => ?_)
    · rw [if_pos c2] at h
      refine RM.blk [(2, 0, 0, .null), (1, 1, 0, .null), (15, 12, 0, .null), (2, 0, 0, .null), (1, 2, 0, .null), (15, 12, 1, .null), (0, 0, 0, .int 0), (4, 3, 0, .null)] (pc' := 35) (L' := [some (.ref 76), some (.int p0), some (.int p1), some (.int 0)]) (st' := []) (σ1 := (up (up σ 76 0 p0) 76 1 p1)) (by decide +kernel) rfl ?_
      have hL3 : ∀ (n : Nat) (x3 : Int32 × SG) (y3 : SG), lpW L_Ref_wall_35 n x3 = some y3 → RN 2 M_Ref_wall (some (.int rr)) so 55 [some (.ref 76), none, none, none] [] y3 → RN 2 M_Ref_wall (some (.int rr)) so 35 [some (.ref 76), none, none, some (.int x3.1)] [] x3.2 := by
        intro n
        induction n with
        | zero => intro x3 y3 hy3; cases hy3
        | succ n ih3 =>
          intro x3 y3 hy3 hK3
          obtain ⟨z3, e3, hy3⟩ := ob_some hy3
          unfold L_Ref_wall_35 at e3
          refine RM.blk [(1, 3, 0, .null), (0, 0, 0, .int 240)] (pc' := 39) (L' := [some (.ref 76), none, none, some (.int x3.1)]) (st' := [.int 240, .int x3.1]) (σ1 := x3.2) (by decide +kernel) rfl ?_
          refine RM.icmp_ge (tgt := 55) (by decide +kernel) (fun c4 => ?_) (fun c4 => ?_)
          · rw [if_pos c4] at e3
            obtain rfl := Option.some.inj e3
            obtain rfl := Option.some.inj (show some (x3.2 : SG) = some y3 from hy3)
            refine RN.dropB [true, false, false, false] rfl ?_
            exact hK3
          · rw [if_neg c4] at e3
            refine RM.blk [(2, 0, 0, .null), (3, 12, 2, .null), (1, 3, 0, .null), (0, 0, 0, .int 0)] (pc' := 48) (L' := [some (.ref 76), none, none, some (.int x3.1)]) (st' := [.int 0, .int x3.1, .ref 77]) (σ1 := x3.2) (by decide +kernel) rfl ?_
            obtain ⟨g5, e3⟩ := og_some e3
            refine RM.iast (q := 77) (n := 240) (by decide +kernel) rfl (vin_of g5) ?_
            refine RM.blk [(10, 3, 0, .int 1), (23, 0, 0, .null)] (pc' := 35) (L' := [some (.ref 76), none, none, some (.int (x3.1 + 1))]) (st' := []) (σ1 := (up x3.2 77 (ix x3.1) 0)) (by decide +kernel) rfl ?_
            obtain rfl := Option.some.inj e3
            refine RN.dropB [true, false, false, true] rfl ?_
            exact ih3 ((x3.1 + 1), (up x3.2 77 (ix x3.1) 0)) _ hy3 hK3
      obtain ⟨y3, hl3, h⟩ := ob_some h
      refine RN.dropB [true, false, false, true] rfl ?_
      refine hL3 FU (0, (up (up σ 76 0 p0) 76 1 p1)) y3 hl3 ?_
      refine RM.blk [(2, 0, 0, .null)] (pc' := 56) (L' := [some (.ref 76), none, none, none]) (st' := [.ref 76]) (σ1 := y3) (by decide +kernel) rfl ?_
      refine RN.callV [] (s_Ref_goes y3 _ rfl) [] (pc3 := 59) (st3 := []) (by decide +kernel) mk_Ref_goes (by decide) ?_
      refine RM.blk [(0, 0, 0, .int 1)] (pc' := 60) (L' := [some (.ref 76), none, none, none]) (st' := [.int 1]) (σ1 := (F_Ref_goes y3)) (by decide +kernel) rfl ?_
      obtain ⟨rfl, rfl⟩ := Prod.mk.inj (Option.some.inj h)
      exact RM.reti (by decide +kernel) rfl
    · rw [if_neg (bf c2)] at h
      refine RM.blk [(0, 0, 0, .int (-2))] (pc' := 22) (L' := [some (.ref 76), some (.int p0), some (.int p1), none]) (st' := [.int (-2)]) (σ1 := σ) (by decide +kernel) rfl ?_
      obtain ⟨rfl, rfl⟩ := Prod.mk.inj (Option.some.inj h)
      exact RM.reti (by decide +kernel) rfl
def M_Ref_draw : MI := (yX12_draw, cX12_draw, 9, some .int, 12)
theorem mk_Ref_draw : mOK M_Ref_draw 5 = true := by decide +kernel
set_option maxRecDepth 100000 in
set_option maxHeartbeats 4000000 in
theorem s_Ref_draw (σ : SG) (p0 : Int32) (p1 : Int32) (p2 : Int32) (p3 : Int32) (p4 : Int32) (rr : Int32) (so : SG) (h : F_Ref_draw σ p0 p1 p2 p3 p4 = some (rr, so)) : SpN 2 M_Ref_draw [.ref 76, .int p0, .int p1, .int p2, .int p3, .int p4] σ (some (.int rr)) so := by
  unfold F_Ref_draw at h
  refine Sp.of mk_Ref_draw rfl (Nat.le_of_ble_eq_true rfl) ?_
  refine RM.blk [(1, 1, 0, .null), (0, 0, 0, .int 0), (2, 0, 0, .null), (3, 12, 0, .null), (0, 0, 0, .int 1), (6, 0, 0, .null)] (pc' := 8) (L' := [some (.ref 76), some (.int p0), some (.int p1), some (.int p2), some (.int p3), some (.int p4), none, none, none]) (st' := [.int ((σ 76 0) - 1), .int 0, .int p0]) (σ1 := σ) (by decide +kernel) rfl ?_
  refine RN.callS [.int p0, .int 0, .int ((σ 76 0) - 1)] (s_Ref_in σ p0 0 ((σ 76 0) - 1)) [] (pc3 := 11) (st3 := [.int (bI (F_Ref_in p0 0 ((σ 76 0) - 1)))]) (by decide +kernel) mk_Ref_in (by decide) ?_
  refine RM.zeq (tgt := 68) (by decide +kernel) (fun c1 => ?_) (fun c1 => ?_)
  · rw [if_neg (bf c1)] at h
    refine RM.blk [(0, 0, 0, .int (-2))] (pc' := 70) (L' := [some (.ref 76), some (.int p0), some (.int p1), some (.int p2), some (.int p3), some (.int p4), none, none, none]) (st' := [.int (-2)]) (σ1 := σ) (by decide +kernel) rfl ?_
    obtain ⟨rfl, rfl⟩ := Prod.mk.inj (Option.some.inj h)
    exact RM.reti (by decide +kernel) rfl
  · rw [if_pos c1] at h
    refine RM.blk [(1, 3, 0, .null), (1, 1, 0, .null), (2, 0, 0, .null), (3, 12, 0, .null), (0, 0, 0, .int 1), (6, 0, 0, .null)] (pc' := 22) (L' := [some (.ref 76), some (.int p0), some (.int p1), some (.int p2), some (.int p3), some (.int p4), none, none, none]) (st' := [.int ((σ 76 0) - 1), .int p0, .int p2]) (σ1 := σ) (by decide +kernel) rfl ?_
    refine RN.callS [.int p2, .int p0, .int ((σ 76 0) - 1)] (s_Ref_in σ p2 p0 ((σ 76 0) - 1)) [] (pc3 := 25) (st3 := [.int (bI (F_Ref_in p2 p0 ((σ 76 0) - 1)))]) (by decide +kernel) mk_Ref_in (by decide) ?_
    refine RM.zeq (tgt := 68) (by decide +kernel) (fun c2 => ?_) (fun c2 => ?_)
    · rw [if_neg (bf c2)] at h
      refine RM.blk [(0, 0, 0, .int (-2))] (pc' := 70) (L' := [some (.ref 76), some (.int p0), some (.int p1), some (.int p2), some (.int p3), some (.int p4), none, none, none]) (st' := [.int (-2)]) (σ1 := σ) (by decide +kernel) rfl ?_
      obtain ⟨rfl, rfl⟩ := Prod.mk.inj (Option.some.inj h)
      exact RM.reti (by decide +kernel) rfl
    · rw [if_pos c2] at h
      refine RM.blk [(1, 2, 0, .null), (0, 0, 0, .int 0), (2, 0, 0, .null), (3, 12, 1, .null), (0, 0, 0, .int 1), (6, 0, 0, .null)] (pc' := 36) (L' := [some (.ref 76), some (.int p0), some (.int p1), some (.int p2), some (.int p3), some (.int p4), none, none, none]) (st' := [.int ((σ 76 1) - 1), .int 0, .int p1]) (σ1 := σ) (by decide +kernel) rfl ?_
      refine RN.callS [.int p1, .int 0, .int ((σ 76 1) - 1)] (s_Ref_in σ p1 0 ((σ 76 1) - 1)) [] (pc3 := 39) (st3 := [.int (bI (F_Ref_in p1 0 ((σ 76 1) - 1)))]) (by decide +kernel) mk_Ref_in (by decide) ?_
      refine RM.zeq (tgt := 68) (by decide +kernel) (fun c3 => ?_) (fun c3 => ?_)
      · rw [if_neg (bf c3)] at h
        refine RM.blk [(0, 0, 0, .int (-2))] (pc' := 70) (L' := [some (.ref 76), some (.int p0), some (.int p1), some (.int p2), some (.int p3), some (.int p4), none, none, none]) (st' := [.int (-2)]) (σ1 := σ) (by decide +kernel) rfl ?_
        obtain ⟨rfl, rfl⟩ := Prod.mk.inj (Option.some.inj h)
        exact RM.reti (by decide +kernel) rfl
      · rw [if_pos c3] at h
        refine RM.blk [(1, 4, 0, .null), (1, 2, 0, .null), (2, 0, 0, .null), (3, 12, 1, .null), (0, 0, 0, .int 1), (6, 0, 0, .null)] (pc' := 51) (L' := [some (.ref 76), some (.int p0), some (.int p1), some (.int p2), some (.int p3), some (.int p4), none, none, none]) (st' := [.int ((σ 76 1) - 1), .int p1, .int p3]) (σ1 := σ) (by decide +kernel) rfl ?_
        refine RN.callS [.int p3, .int p1, .int ((σ 76 1) - 1)] (s_Ref_in σ p3 p1 ((σ 76 1) - 1)) [] (pc3 := 54) (st3 := [.int (bI (F_Ref_in p3 p1 ((σ 76 1) - 1)))]) (by decide +kernel) mk_Ref_in (by decide) ?_
        refine RM.zeq (tgt := 68) (by decide +kernel) (fun c4 => ?_) (fun c4 => ?_)
        · rw [if_neg (bf c4)] at h
          refine RM.blk [(0, 0, 0, .int (-2))] (pc' := 70) (L' := [some (.ref 76), some (.int p0), some (.int p1), some (.int p2), some (.int p3), some (.int p4), none, none, none]) (st' := [.int (-2)]) (σ1 := σ) (by decide +kernel) rfl ?_
          obtain ⟨rfl, rfl⟩ := Prod.mk.inj (Option.some.inj h)
          exact RM.reti (by decide +kernel) rfl
        · rw [if_pos c4] at h
          refine RM.blk [(1, 5, 0, .null), (0, 0, 0, .int 0), (0, 0, 0, .int 7)] (pc' := 62) (L' := [some (.ref 76), some (.int p0), some (.int p1), some (.int p2), some (.int p3), some (.int p4), none, none, none]) (st' := [.int 7, .int 0, .int p4]) (σ1 := σ) (by decide +kernel) rfl ?_
          refine RN.callS [.int p4, .int 0, .int 7] (s_Ref_in σ p4 0 7) [] (pc3 := 65) (st3 := [.int (bI (F_Ref_in p4 0 7))]) (by decide +kernel) mk_Ref_in (by decide) ?_
          refine RM.zne (tgt := 71) (by decide +kernel) (fun c5 => ?_) (fun c5 => ?_)
          · rw [if_pos c5] at h
            refine RM.blk [(0, 0, 0, .int 0), (4, 6, 0, .null), (1, 2, 0, .null), (4, 7, 0, .null)] (pc' := 77) (L' := [some (.ref 76), some (.int p0), some (.int p1), some (.int p2), some (.int p3), some (.int p4), some (.int 0), some (.int p1), none]) (st' := []) (σ1 := σ) (by decide +kernel) rfl ?_
            have hL6 : ∀ (n : Nat) (x6 : Int32 × Int32 × SG) (y6 : Int32 × SG), lpW (L_Ref_draw_77 p0 p2 p3 p4) n x6 = some y6 → RN 2 M_Ref_draw (some (.int rr)) so 148 [some (.ref 76), none, none, none, none, none, some (.int y6.1), none, none] [] y6.2 → RN 2 M_Ref_draw (some (.int rr)) so 77 [some (.ref 76), some (.int p0), none, some (.int p2), some (.int p3), some (.int p4), some (.int x6.1), some (.int x6.2.1), none] [] x6.2.2 := by
              intro n
              induction n with
              | zero => intro x6 y6 hy6; cases hy6
              | succ n ih6 =>
                intro x6 y6 hy6 hK6
                obtain ⟨z6, e6, hy6⟩ := ob_some hy6
                unfold L_Ref_draw_77 at e6
                refine RM.blk [(1, 7, 0, .null), (1, 4, 0, .null)] (pc' := 81) (L' := [some (.ref 76), some (.int p0), none, some (.int p2), some (.int p3), some (.int p4), some (.int x6.1), some (.int x6.2.1), none]) (st' := [.int p3, .int x6.2.1]) (σ1 := x6.2.2) (by decide +kernel) rfl ?_
                refine RM.icmp_gt (tgt := 148) (by decide +kernel) (fun c7 => ?_) (fun c7 => ?_)
                · rw [if_pos c7] at e6
                  obtain rfl := Option.some.inj e6
                  obtain rfl := Option.some.inj (show some ((x6.1, x6.2.2) : Int32 × SG) = some y6 from hy6)
                  refine RN.dropB [true, false, false, false, false, false, true, false, false] rfl ?_
                  exact hK6
                · rw [if_neg c7] at e6
                  refine RM.blk [(1, 1, 0, .null), (4, 8, 0, .null)] (pc' := 87) (L' := [some (.ref 76), some (.int p0), none, some (.int p2), some (.int p3), some (.int p4), some (.int x6.1), some (.int x6.2.1), some (.int p0)]) (st' := []) (σ1 := x6.2.2) (by decide +kernel) rfl ?_
                  have hL8 : ∀ (n : Nat) (x8 : Int32 × Int32 × SG) (y8 : Int32 × SG), lpW (L_Ref_draw_87 p2 p4 x6.2.1) n x8 = some y8 → RN 2 M_Ref_draw (some (.int rr)) so 142 [some (.ref 76), some (.int p0), none, some (.int p2), some (.int p3), some (.int p4), some (.int y8.1), some (.int x6.2.1), none] [] y8.2 → RN 2 M_Ref_draw (some (.int rr)) so 87 [some (.ref 76), some (.int p0), none, some (.int p2), some (.int p3), some (.int p4), some (.int x8.1), some (.int x6.2.1), some (.int x8.2.1)] [] x8.2.2 := by
                    intro n
                    induction n with
                    | zero => intro x8 y8 hy8; cases hy8
                    | succ n ih8 =>
                      intro x8 y8 hy8 hK8
                      obtain ⟨z8, e8, hy8⟩ := ob_some hy8
                      unfold L_Ref_draw_87 at e8
                      refine RM.blk [(1, 8, 0, .null), (1, 3, 0, .null)] (pc' := 90) (L' := [some (.ref 76), some (.int p0), none, some (.int p2), some (.int p3), some (.int p4), some (.int x8.1), some (.int (x6.2.1)), some (.int x8.2.1)]) (st' := [.int p2, .int x8.2.1]) (σ1 := x8.2.2) (by decide +kernel) rfl ?_
                      refine RM.icmp_gt (tgt := 142) (by decide +kernel) (fun c9 => ?_) (fun c9 => ?_)
                      · rw [if_pos c9] at e8
                        obtain rfl := Option.some.inj e8
                        obtain rfl := Option.some.inj (show some ((x8.1, x8.2.2) : Int32 × SG) = some y8 from hy8)
                        refine RN.dropB [true, true, false, true, true, true, true, true, false] rfl ?_
                        exact hK8
                      · rw [if_neg c9] at e8
                        refine RM.blk [(1, 6, 0, .null), (2, 0, 0, .null), (3, 12, 2, .null), (0, 0, 0, .int 24), (1, 7, 0, .null), (7, 0, 0, .null), (1, 8, 0, .null), (5, 0, 0, .null)] (pc' := 107) (L' := [some (.ref 76), some (.int p0), none, some (.int p2), some (.int p3), some (.int p4), some (.int x8.1), some (.int (x6.2.1)), some (.int x8.2.1)]) (st' := [.int ((24 * x6.2.1) + x8.2.1), .ref 77, .int x8.1]) (σ1 := x8.2.2) (by decide +kernel) rfl ?_
                        obtain ⟨g10, e8⟩ := og_some e8
                        refine RM.iald (q := 77) (n := 240) (by decide +kernel) rfl (vin_of g10) ?_
                        refine RM.blk [(1, 5, 0, .null)] (pc' := 110) (L' := [some (.ref 76), some (.int p0), none, some (.int p2), some (.int p3), some (.int p4), some (.int x8.1), some (.int (x6.2.1)), some (.int x8.2.1)]) (st' := [.int p4, .int (x8.2.2 77 (ix ((24 * x6.2.1) + x8.2.1))), .int x8.1]) (σ1 := x8.2.2) (by decide +kernel) rfl ?_
                        refine RM.icmp_eq (tgt := 117) (by decide +kernel) (fun c11 => ?_) (fun c11 => ?_)
                        · rw [if_pos c11] at e8
                          refine RM.blk [(0, 0, 0, .int 0), (5, 0, 0, .null), (4, 6, 0, .null), (2, 0, 0, .null), (3, 12, 2, .null), (0, 0, 0, .int 24), (1, 7, 0, .null), (7, 0, 0, .null), (1, 8, 0, .null), (5, 0, 0, .null), (1, 5, 0, .null)] (pc' := 135) (L' := [some (.ref 76), some (.int p0), none, some (.int p2), some (.int p3), some (.int p4), some (.int (x8.1 + 0)), some (.int (x6.2.1)), some (.int x8.2.1)]) (st' := [.int p4, .int ((24 * x6.2.1) + x8.2.1), .ref 77]) (σ1 := x8.2.2) (by decide +kernel) rfl ?_
                          obtain ⟨g12, e8⟩ := og_some e8
                          refine RM.iast (q := 77) (n := 240) (by decide +kernel) rfl (vin_of g12) ?_
                          generalize ns13 : (up x8.2.2 77 (ix ((24 * x6.2.1) + x8.2.1)) p4) = s13 at e8 ⊢
                          replace e8 := nm_h e8
                          refine RM.blk [(10, 8, 0, .int 1), (23, 0, 0, .null)] (pc' := 87) (L' := [some (.ref 76), some (.int p0), none, some (.int p2), some (.int p3), some (.int p4), some (.int (x8.1 + 0)), some (.int (x6.2.1)), some (.int (x8.2.1 + 1))]) (st' := []) (σ1 := s13) (by decide +kernel) rfl ?_
                          obtain rfl := Option.some.inj e8
                          refine RN.dropB [true, true, false, true, true, true, true, true, true] rfl ?_
                          exact ih8 ((x8.1 + 0), (x8.2.1 + 1), s13) _ hy8 hK8
                        · rw [if_neg c11] at e8
                          refine RM.blk [(0, 0, 0, .int 1), (23, 0, 0, .null), (5, 0, 0, .null), (4, 6, 0, .null), (2, 0, 0, .null), (3, 12, 2, .null), (0, 0, 0, .int 24), (1, 7, 0, .null), (7, 0, 0, .null), (1, 8, 0, .null), (5, 0, 0, .null), (1, 5, 0, .null)] (pc' := 135) (L' := [some (.ref 76), some (.int p0), none, some (.int p2), some (.int p3), some (.int p4), some (.int (x8.1 + 1)), some (.int (x6.2.1)), some (.int x8.2.1)]) (st' := [.int p4, .int ((24 * x6.2.1) + x8.2.1), .ref 77]) (σ1 := x8.2.2) (by decide +kernel) rfl ?_
                          obtain ⟨g14, e8⟩ := og_some e8
                          refine RM.iast (q := 77) (n := 240) (by decide +kernel) rfl (vin_of g14) ?_
                          generalize ns15 : (up x8.2.2 77 (ix ((24 * x6.2.1) + x8.2.1)) p4) = s15 at e8 ⊢
                          replace e8 := nm_h e8
                          refine RM.blk [(10, 8, 0, .int 1), (23, 0, 0, .null)] (pc' := 87) (L' := [some (.ref 76), some (.int p0), none, some (.int p2), some (.int p3), some (.int p4), some (.int (x8.1 + 1)), some (.int (x6.2.1)), some (.int (x8.2.1 + 1))]) (st' := []) (σ1 := s15) (by decide +kernel) rfl ?_
                          obtain rfl := Option.some.inj e8
                          refine RN.dropB [true, true, false, true, true, true, true, true, true] rfl ?_
                          exact ih8 ((x8.1 + 1), (x8.2.1 + 1), s15) _ hy8 hK8
                  obtain ⟨y8, hl8, e6⟩ := ob_some e6
                  refine RN.dropB [true, true, false, true, true, true, true, true, true] rfl ?_
                  refine hL8 FU (x6.1, p0, x6.2.2) y8 hl8 ?_
                  refine RM.blk [(10, 7, 0, .int 1), (23, 0, 0, .null)] (pc' := 77) (L' := [some (.ref 76), some (.int p0), none, some (.int p2), some (.int p3), some (.int p4), some (.int y8.1), some (.int (x6.2.1 + 1)), none]) (st' := []) (σ1 := y8.2) (by decide +kernel) rfl ?_
                  obtain rfl := Option.some.inj e6
                  refine RN.dropB [true, true, false, true, true, true, true, true, false] rfl ?_
                  exact ih6 (y8.1, (x6.2.1 + 1), y8.2) _ hy6 hK6
            obtain ⟨y6, hl6, h⟩ := ob_some h
            refine RN.dropB [true, true, false, true, true, true, true, true, false] rfl ?_
            refine hL6 FU (0, p1, σ) y6 hl6 ?_
            refine RM.blk [(1, 6, 0, .null)] (pc' := 150) (L' := [some (.ref 76), none, none, none, none, none, some (.int y6.1), none, none]) (st' := [.int y6.1]) (σ1 := y6.2) (by decide +kernel) rfl ?_
            refine RM.if_le (tgt := 157) (by decide +kernel) (fun c16 => ?_) (fun c16 => ?_)
            · rw [if_pos c16] at h
              refine RM.blk [(1, 6, 0, .null)] (pc' := 159) (L' := [some (.ref 76), none, none, none, none, none, some (.int y6.1), none, none]) (st' := [.int y6.1]) (σ1 := y6.2) (by decide +kernel) rfl ?_
              obtain ⟨rfl, rfl⟩ := Prod.mk.inj (Option.some.inj h)
              exact RM.reti (by decide +kernel) rfl
            · rw [if_neg c16] at h
              refine RM.blk [(2, 0, 0, .null)] (pc' := 154) (L' := [some (.ref 76), none, none, none, none, none, some (.int y6.1), none, none]) (st' := [.ref 76]) (σ1 := y6.2) (by decide +kernel) rfl ?_
              refine RN.callV [] (s_Ref_goes y6.2 _ rfl) [] (pc3 := 157) (st3 := []) (by decide +kernel) mk_Ref_goes (by decide) ?_
              refine RM.blk [(1, 6, 0, .null)] (pc' := 159) (L' := [some (.ref 76), none, none, none, none, none, some (.int y6.1), none, none]) (st' := [.int y6.1]) (σ1 := (F_Ref_goes y6.2)) (by decide +kernel) rfl ?_
              obtain ⟨rfl, rfl⟩ := Prod.mk.inj (Option.some.inj h)
              exact RM.reti (by decide +kernel) rfl
          · rw [if_neg (bf c5)] at h
            refine RM.blk [(0, 0, 0, .int (-2))] (pc' := 70) (L' := [some (.ref 76), some (.int p0), some (.int p1), some (.int p2), some (.int p3), some (.int p4), none, none, none]) (st' := [.int (-2)]) (σ1 := σ) (by decide +kernel) rfl ?_
            obtain ⟨rfl, rfl⟩ := Prod.mk.inj (Option.some.inj h)
            exact RM.reti (by decide +kernel) rfl
def M_Ref_isPlace : MI := (yX12_isPlace, cX12_isPlace, 3, some .boolean, 12)
theorem mk_Ref_isPlace : mOK M_Ref_isPlace 2 = true := by decide +kernel
set_option maxRecDepth 100000 in
set_option maxHeartbeats 4000000 in
theorem s_Ref_isPlace (σ : SG) (p0 : Int32) (p1 : Int32) : SpN 2 M_Ref_isPlace [.ref 76, .int p0, .int p1] σ (some (.int (bI (F_Ref_isPlace σ p0 p1)))) σ := by
  generalize h : F_Ref_isPlace σ p0 p1 = rr
  unfold F_Ref_isPlace at h
  refine Sp.of mk_Ref_isPlace rfl (Nat.le_of_ble_eq_true rfl) ?_
  refine RM.blk [(1, 1, 0, .null), (0, 0, 0, .int 0), (2, 0, 0, .null), (3, 12, 0, .null), (0, 0, 0, .int 1), (6, 0, 0, .null)] (pc' := 8) (L' := [some (.ref 76), some (.int p0), some (.int p1)]) (st' := [.int ((σ 76 0) - 1), .int 0, .int p0]) (σ1 := σ) (by decide +kernel) rfl ?_
  refine RN.callS [.int p0, .int 0, .int ((σ 76 0) - 1)] (s_Ref_in σ p0 0 ((σ 76 0) - 1)) [] (pc3 := 11) (st3 := [.int (bI (F_Ref_in p0 0 ((σ 76 0) - 1)))]) (by decide +kernel) mk_Ref_in (by decide) ?_
  refine RM.zeq (tgt := 32) (by decide +kernel) (fun c1 => ?_) (fun c1 => ?_)
  · rw [if_neg (bf c1)] at h
    refine RM.blk [(0, 0, 0, .int 0)] (pc' := 33) (L' := [some (.ref 76), some (.int p0), some (.int p1)]) (st' := [.int 0]) (σ1 := σ) (by decide +kernel) rfl ?_
    obtain rfl := h
    exact RM.retz (z := false) (by decide +kernel) rfl
  · rw [if_pos c1] at h
    refine RM.blk [(1, 2, 0, .null), (0, 0, 0, .int 0), (2, 0, 0, .null), (3, 12, 1, .null), (0, 0, 0, .int 1), (6, 0, 0, .null)] (pc' := 22) (L' := [some (.ref 76), some (.int p0), some (.int p1)]) (st' := [.int ((σ 76 1) - 1), .int 0, .int p1]) (σ1 := σ) (by decide +kernel) rfl ?_
    refine RN.callS [.int p1, .int 0, .int ((σ 76 1) - 1)] (s_Ref_in σ p1 0 ((σ 76 1) - 1)) [] (pc3 := 25) (st3 := [.int (bI (F_Ref_in p1 0 ((σ 76 1) - 1)))]) (by decide +kernel) mk_Ref_in (by decide) ?_
    refine RM.zeq (tgt := 32) (by decide +kernel) (fun c2 => ?_) (fun c2 => ?_)
    · rw [if_neg (bf c2)] at h
      refine RM.blk [(0, 0, 0, .int 0)] (pc' := 33) (L' := [some (.ref 76), some (.int p0), some (.int p1)]) (st' := [.int 0]) (σ1 := σ) (by decide +kernel) rfl ?_
      obtain rfl := h
      exact RM.retz (z := false) (by decide +kernel) rfl
    · rw [if_pos c2] at h
      refine RM.blk [(0, 0, 0, .int 1), (23, 0, 0, .null)] (pc' := 33) (L' := [some (.ref 76), some (.int p0), some (.int p1)]) (st' := [.int 1]) (σ1 := σ) (by decide +kernel) rfl ?_
      obtain rfl := h
      exact RM.retz (z := true) (by decide +kernel) rfl
def M_Ref_field : MI := (yX12_field, cX12_field, 3, some .int, 12)
theorem mk_Ref_field : mOK M_Ref_field 2 = true := by decide +kernel
set_option maxRecDepth 100000 in
set_option maxHeartbeats 4000000 in
theorem s_Ref_field (σ : SG) (p0 : Int32) (p1 : Int32) (rr : Int32) (h : F_Ref_field σ p0 p1 = some rr) : SpN 3 M_Ref_field [.ref 76, .int p0, .int p1] σ (some (.int rr)) σ := by
  unfold F_Ref_field at h
  refine Sp.of mk_Ref_field rfl (Nat.le_of_ble_eq_true rfl) ?_
  refine RM.blk [(2, 0, 0, .null), (1, 1, 0, .null), (1, 2, 0, .null)] (pc' := 3) (L' := [some (.ref 76), some (.int p0), some (.int p1)]) (st' := [.int p1, .int p0, .ref 76]) (σ1 := σ) (by decide +kernel) rfl ?_
  refine RN.callV [.int p0, .int p1] (s_Ref_isPlace σ p0 p1) [] (pc3 := 6) (st3 := [.int (bI (F_Ref_isPlace σ p0 p1))]) (by decide +kernel) mk_Ref_isPlace (by decide) ?_
  refine RM.zeq (tgt := 23) (by decide +kernel) (fun c1 => ?_) (fun c1 => ?_)
  · rw [if_neg (bf c1)] at h
    refine RM.blk [(0, 0, 0, .int (-2))] (pc' := 25) (L' := [some (.ref 76), some (.int p0), some (.int p1)]) (st' := [.int (-2)]) (σ1 := σ) (by decide +kernel) rfl ?_
    obtain rfl := (Option.some.inj h)
    exact RM.reti (by decide +kernel) rfl
  · rw [if_pos c1] at h
    refine RM.blk [(2, 0, 0, .null), (3, 12, 2, .null), (0, 0, 0, .int 24), (1, 2, 0, .null), (7, 0, 0, .null), (1, 1, 0, .null), (5, 0, 0, .null)] (pc' := 19) (L' := [some (.ref 76), some (.int p0), some (.int p1)]) (st' := [.int ((24 * p1) + p0), .ref 77]) (σ1 := σ) (by decide +kernel) rfl ?_
    obtain ⟨g2, h⟩ := og_some h
    refine RM.iald (q := 77) (n := 240) (by decide +kernel) rfl (vin_of g2) ?_
    refine RM.blk [(23, 0, 0, .null)] (pc' := 25) (L' := [some (.ref 76), some (.int p0), some (.int p1)]) (st' := [.int (σ 77 (ix ((24 * p1) + p0)))]) (σ1 := σ) (by decide +kernel) rfl ?_
    obtain rfl := (Option.some.inj h)
    exact RM.reti (by decide +kernel) rfl
def M_Ref_isColour : MI := (yX12_isColour, cX12_isColour, 3, some .boolean, 12)
theorem mk_Ref_isColour : mOK M_Ref_isColour 3 = true := by decide +kernel
set_option maxRecDepth 100000 in
set_option maxHeartbeats 4000000 in
theorem s_Ref_isColour (σ : SG) (p0 : Int32) (p1 : Int32) (p2 : Int32) : SpN 2 M_Ref_isColour [.int p0, .int p1, .int p2] σ (some (.int (bI (F_Ref_isColour p0 p1 p2)))) σ := by
  generalize h : F_Ref_isColour p0 p1 p2 = rr
  unfold F_Ref_isColour at h
  refine Sp.of mk_Ref_isColour rfl (Nat.le_of_ble_eq_true rfl) ?_
  refine RM.blk [(1, 0, 0, .null), (0, 0, 0, .int 0), (0, 0, 0, .int 255)] (pc' := 5) (L' := [some (.int p0), some (.int p1), some (.int p2)]) (st' := [.int 255, .int 0, .int p0]) (σ1 := σ) (by decide +kernel) rfl ?_
  refine RN.callS [.int p0, .int 0, .int 255] (s_Ref_in σ p0 0 255) [] (pc3 := 8) (st3 := [.int (bI (F_Ref_in p0 0 255))]) (by decide +kernel) mk_Ref_in (by decide) ?_
  refine RM.zeq (tgt := 37) (by decide +kernel) (fun c1 => ?_) (fun c1 => ?_)
  · rw [if_neg (bf c1)] at h
    refine RM.blk [(0, 0, 0, .int 0)] (pc' := 38) (L' := [some (.int p0), some (.int p1), some (.int p2)]) (st' := [.int 0]) (σ1 := σ) (by decide +kernel) rfl ?_
    obtain rfl := h
    exact RM.retz (z := false) (by decide +kernel) rfl
  · rw [if_pos c1] at h
    refine RM.blk [(1, 1, 0, .null), (0, 0, 0, .int 0), (0, 0, 0, .int 255)] (pc' := 16) (L' := [some (.int p0), some (.int p1), some (.int p2)]) (st' := [.int 255, .int 0, .int p1]) (σ1 := σ) (by decide +kernel) rfl ?_
    refine RN.callS [.int p1, .int 0, .int 255] (s_Ref_in σ p1 0 255) [] (pc3 := 19) (st3 := [.int (bI (F_Ref_in p1 0 255))]) (by decide +kernel) mk_Ref_in (by decide) ?_
    refine RM.zeq (tgt := 37) (by decide +kernel) (fun c2 => ?_) (fun c2 => ?_)
    · rw [if_neg (bf c2)] at h
      refine RM.blk [(0, 0, 0, .int 0)] (pc' := 38) (L' := [some (.int p0), some (.int p1), some (.int p2)]) (st' := [.int 0]) (σ1 := σ) (by decide +kernel) rfl ?_
      obtain rfl := h
      exact RM.retz (z := false) (by decide +kernel) rfl
    · rw [if_pos c2] at h
      refine RM.blk [(1, 2, 0, .null), (0, 0, 0, .int 0), (0, 0, 0, .int 255)] (pc' := 27) (L' := [some (.int p0), some (.int p1), some (.int p2)]) (st' := [.int 255, .int 0, .int p2]) (σ1 := σ) (by decide +kernel) rfl ?_
      refine RN.callS [.int p2, .int 0, .int 255] (s_Ref_in σ p2 0 255) [] (pc3 := 30) (st3 := [.int (bI (F_Ref_in p2 0 255))]) (by decide +kernel) mk_Ref_in (by decide) ?_
      refine RM.zeq (tgt := 37) (by decide +kernel) (fun c3 => ?_) (fun c3 => ?_)
      · rw [if_neg (bf c3)] at h
        refine RM.blk [(0, 0, 0, .int 0)] (pc' := 38) (L' := [some (.int p0), some (.int p1), some (.int p2)]) (st' := [.int 0]) (σ1 := σ) (by decide +kernel) rfl ?_
        obtain rfl := h
        exact RM.retz (z := false) (by decide +kernel) rfl
      · rw [if_pos c3] at h
        refine RM.blk [(0, 0, 0, .int 1), (23, 0, 0, .null)] (pc' := 38) (L' := [some (.int p0), some (.int p1), some (.int p2)]) (st' := [.int 1]) (σ1 := σ) (by decide +kernel) rfl ?_
        obtain rfl := h
        exact RM.retz (z := true) (by decide +kernel) rfl
def M_Ref_colour : MI := (yX12_colour, cX12_colour, 5, some .int, 12)
theorem mk_Ref_colour : mOK M_Ref_colour 4 = true := by decide +kernel
set_option maxRecDepth 100000 in
set_option maxHeartbeats 4000000 in
theorem s_Ref_colour (σ : SG) (p0 : Int32) (p1 : Int32) (p2 : Int32) (p3 : Int32) (rr : Int32) (so : SG) (h : F_Ref_colour σ p0 p1 p2 p3 = some (rr, so)) : SpN 3 M_Ref_colour [.ref 76, .int p0, .int p1, .int p2, .int p3] σ (some (.int rr)) so := by
  unfold F_Ref_colour at h
  refine Sp.of mk_Ref_colour rfl (Nat.le_of_ble_eq_true rfl) ?_
  refine RM.blk [(1, 1, 0, .null), (0, 0, 0, .int 0), (0, 0, 0, .int 7)] (pc' := 4) (L' := [some (.ref 76), some (.int p0), some (.int p1), some (.int p2), some (.int p3)]) (st' := [.int 7, .int 0, .int p0]) (σ1 := σ) (by decide +kernel) rfl ?_
  refine RN.callS [.int p0, .int 0, .int 7] (s_Ref_in σ p0 0 7) [] (pc3 := 7) (st3 := [.int (bI (F_Ref_in p0 0 7))]) (by decide +kernel) mk_Ref_in (by decide) ?_
  refine RM.zeq (tgt := 20) (by decide +kernel) (fun c1 => ?_) (fun c1 => ?_)
  · rw [if_neg (bf c1)] at h
    refine RM.blk [(0, 0, 0, .int (-2))] (pc' := 22) (L' := [some (.ref 76), some (.int p0), some (.int p1), some (.int p2), some (.int p3)]) (st' := [.int (-2)]) (σ1 := σ) (by decide +kernel) rfl ?_
    obtain ⟨rfl, rfl⟩ := Prod.mk.inj (Option.some.inj h)
    exact RM.reti (by decide +kernel) rfl
  · rw [if_pos c1] at h
    refine RM.blk [(1, 2, 0, .null), (1, 3, 0, .null), (1, 4, 0, .null)] (pc' := 14) (L' := [some (.ref 76), some (.int p0), some (.int p1), some (.int p2), some (.int p3)]) (st' := [.int p3, .int p2, .int p1]) (σ1 := σ) (by decide +kernel) rfl ?_
    refine RN.callS [.int p1, .int p2, .int p3] (s_Ref_isColour σ p1 p2 p3) [] (pc3 := 17) (st3 := [.int (bI (F_Ref_isColour p1 p2 p3))]) (by decide +kernel) mk_Ref_isColour (by decide) ?_
    refine RM.zne (tgt := 23) (by decide +kernel) (fun c2 => ?_) (fun c2 => ?_)
    · rw [if_pos c2] at h
      refine RM.blk [(2, 0, 0, .null), (3, 12, 3, .null), (0, 0, 0, .int 3), (1, 1, 0, .null), (7, 0, 0, .null), (1, 2, 0, .null)] (pc' := 31) (L' := [some (.ref 76), some (.int p0), some (.int p1), some (.int p2), some (.int p3)]) (st' := [.int p1, .int (3 * p0), .ref 78]) (σ1 := σ) (by decide +kernel) rfl ?_
      obtain ⟨g3, h⟩ := og_some h
      refine RM.iast (q := 78) (n := 24) (by decide +kernel) rfl (vin_of g3) ?_
      refine RM.blk [(2, 0, 0, .null), (3, 12, 3, .null), (0, 0, 0, .int 3), (1, 1, 0, .null), (7, 0, 0, .null), (0, 0, 0, .int 1), (5, 0, 0, .null), (1, 3, 0, .null)] (pc' := 42) (L' := [some (.ref 76), some (.int p0), some (.int p1), some (.int p2), some (.int p3)]) (st' := [.int p2, .int ((3 * p0) + 1), .ref 78]) (σ1 := (up σ 78 (ix (3 * p0)) p1)) (by decide +kernel) rfl ?_
      obtain ⟨g4, h⟩ := og_some h
      refine RM.iast (q := 78) (n := 24) (by decide +kernel) rfl (vin_of g4) ?_
      generalize ns5 : (up (up σ 78 (ix (3 * p0)) p1) 78 (ix ((3 * p0) + 1)) p2) = s5 at h ⊢
      replace h := nm_h h
      refine RM.blk [(2, 0, 0, .null), (3, 12, 3, .null), (0, 0, 0, .int 3), (1, 1, 0, .null), (7, 0, 0, .null), (0, 0, 0, .int 2), (5, 0, 0, .null), (1, 4, 0, .null)] (pc' := 54) (L' := [some (.ref 76), some (.int p0), some (.int p1), some (.int p2), some (.int p3)]) (st' := [.int p3, .int ((3 * p0) + 2), .ref 78]) (σ1 := s5) (by decide +kernel) rfl ?_
      obtain ⟨g6, h⟩ := og_some h
      refine RM.iast (q := 78) (n := 24) (by decide +kernel) rfl (vin_of g6) ?_
      refine RM.blk [(0, 0, 0, .int 1)] (pc' := 56) (L' := [some (.ref 76), some (.int p0), some (.int p1), some (.int p2), some (.int p3)]) (st' := [.int 1]) (σ1 := (up s5 78 (ix ((3 * p0) + 2)) p3)) (by decide +kernel) rfl ?_
      obtain ⟨rfl, rfl⟩ := Prod.mk.inj (Option.some.inj h)
      exact RM.reti (by decide +kernel) rfl
    · rw [if_neg (bf c2)] at h
      refine RM.blk [(0, 0, 0, .int (-2))] (pc' := 22) (L' := [some (.ref 76), some (.int p0), some (.int p1), some (.int p2), some (.int p3)]) (st' := [.int (-2)]) (σ1 := σ) (by decide +kernel) rfl ?_
      obtain ⟨rfl, rfl⟩ := Prod.mk.inj (Option.some.inj h)
      exact RM.reti (by decide +kernel) rfl
def M_Ref_mark : MI := (yX12_mark, cX12_mark, 5, some .int, 12)
theorem mk_Ref_mark : mOK M_Ref_mark 4 = true := by decide +kernel
set_option maxRecDepth 100000 in
set_option maxHeartbeats 4000000 in
theorem s_Ref_mark (σ : SG) (p0 : Int32) (p1 : Int32) (p2 : Bool) (p3 : Bool) (rr : Int32) (so : SG) (h : F_Ref_mark σ p0 p1 p2 p3 = some (rr, so)) : SpN 2 M_Ref_mark [.ref 76, .int p0, .int p1, .int (bI p2), .int (bI p3)] σ (some (.int rr)) so := by
  unfold F_Ref_mark at h
  refine Sp.of mk_Ref_mark rfl (Nat.le_of_ble_eq_true rfl) ?_
  refine RM.blk [(1, 1, 0, .null), (0, 0, 0, .int 0), (0, 0, 0, .int 7)] (pc' := 4) (L' := [some (.ref 76), some (.int p0), some (.int p1), some (.int (bI p2)), some (.int (bI p3))]) (st' := [.int 7, .int 0, .int p0]) (σ1 := σ) (by decide +kernel) rfl ?_
  refine RN.callS [.int p0, .int 0, .int 7] (s_Ref_in σ p0 0 7) [] (pc3 := 7) (st3 := [.int (bI (F_Ref_in p0 0 7))]) (by decide +kernel) mk_Ref_in (by decide) ?_
  refine RM.zeq (tgt := 19) (by decide +kernel) (fun c1 => ?_) (fun c1 => ?_)
  · rw [if_neg (bf c1)] at h
    refine RM.blk [(0, 0, 0, .int (-2))] (pc' := 21) (L' := [some (.ref 76), some (.int p0), some (.int p1), some (.int (bI p2)), some (.int (bI p3))]) (st' := [.int (-2)]) (σ1 := σ) (by decide +kernel) rfl ?_
    obtain ⟨rfl, rfl⟩ := Prod.mk.inj (Option.some.inj h)
    exact RM.reti (by decide +kernel) rfl
  · rw [if_pos c1] at h
    refine RM.blk [(1, 2, 0, .null), (0, 0, 0, .int 1), (0, 0, 0, .int 3)] (pc' := 13) (L' := [some (.ref 76), some (.int p0), some (.int p1), some (.int (bI p2)), some (.int (bI p3))]) (st' := [.int 3, .int 1, .int p1]) (σ1 := σ) (by decide +kernel) rfl ?_
    refine RN.callS [.int p1, .int 1, .int 3] (s_Ref_in σ p1 1 3) [] (pc3 := 16) (st3 := [.int (bI (F_Ref_in p1 1 3))]) (by decide +kernel) mk_Ref_in (by decide) ?_
    refine RM.zne (tgt := 22) (by decide +kernel) (fun c2 => ?_) (fun c2 => ?_)
    · rw [if_pos c2] at h
      refine RM.blk [(2, 0, 0, .null), (3, 12, 4, .null), (1, 1, 0, .null), (0, 0, 0, .int 3), (1, 2, 0, .null), (6, 0, 0, .null)] (pc' := 30) (L' := [some (.ref 76), some (.int p0), some (.int p1), some (.int (bI p2)), some (.int (bI p3))]) (st' := [.int (3 - p1), .int p0, .ref 79]) (σ1 := σ) (by decide +kernel) rfl ?_
      obtain ⟨g3, h⟩ := og_some h
      refine RM.iast (q := 79) (n := 8) (by decide +kernel) rfl (vin_of g3) ?_
      refine RM.blk [(2, 0, 0, .null), (3, 12, 5, .null), (1, 1, 0, .null), (1, 3, 0, .null)] (pc' := 37) (L' := [some (.ref 76), some (.int p0), some (.int p1), some (.int (bI p2)), some (.int (bI p3))]) (st' := [.int (bI p2), .int p0, .ref 80]) (σ1 := (up σ 79 (ix p0) (3 - p1))) (by decide +kernel) rfl ?_
      obtain ⟨g4, h⟩ := og_some h
      refine RM.zast (q := 80) (n := 8) (by decide +kernel) rfl (vin_of g4) (bI_nar2 _) ?_
      generalize ns5 : (up (up σ 79 (ix p0) (3 - p1)) 80 (ix p0) (bI p2)) = s5 at h ⊢
      replace h := nm_h h
      refine RM.blk [(2, 0, 0, .null), (3, 12, 6, .null), (1, 1, 0, .null), (1, 4, 0, .null)] (pc' := 45) (L' := [some (.ref 76), some (.int p0), some (.int p1), some (.int (bI p2)), some (.int (bI p3))]) (st' := [.int (bI p3), .int p0, .ref 81]) (σ1 := s5) (by decide +kernel) rfl ?_
      obtain ⟨g6, h⟩ := og_some h
      refine RM.zast (q := 81) (n := 8) (by decide +kernel) rfl (vin_of g6) (bI_nar2 _) ?_
      refine RM.blk [(0, 0, 0, .int 1)] (pc' := 47) (L' := [some (.ref 76), some (.int p0), some (.int p1), some (.int (bI p2)), some (.int (bI p3))]) (st' := [.int 1]) (σ1 := (up s5 81 (ix p0) (bI p3))) (by decide +kernel) rfl ?_
      obtain ⟨rfl, rfl⟩ := Prod.mk.inj (Option.some.inj h)
      exact RM.reti (by decide +kernel) rfl
    · rw [if_neg (bf c2)] at h
      refine RM.blk [(0, 0, 0, .int (-2))] (pc' := 21) (L' := [some (.ref 76), some (.int p0), some (.int p1), some (.int (bI p2)), some (.int (bI p3))]) (st' := [.int (-2)]) (σ1 := σ) (by decide +kernel) rfl ?_
      obtain ⟨rfl, rfl⟩ := Prod.mk.inj (Option.some.inj h)
      exact RM.reti (by decide +kernel) rfl
def M_Ref_strip : MI := (yX12_strip, cX12_strip, 7, some .boolean, 12)
theorem mk_Ref_strip : mOK M_Ref_strip 3 = true := by decide +kernel
set_option maxRecDepth 100000 in
set_option maxHeartbeats 4000000 in
theorem s_Ref_strip (σ : SG) (p0 : Int32) (p1 : Int32) (p2 : Int32) (rr : Bool) (so : SG) (h : F_Ref_strip σ p0 p1 p2 = some (rr, so)) : SpN 1 M_Ref_strip [.ref 76, .int p0, .int p1, .int p2] σ (some (.int (bI rr))) so := by
  unfold F_Ref_strip at h
  refine Sp.of mk_Ref_strip rfl (Nat.le_of_ble_eq_true rfl) ?_
  refine RM.blk [(2, 0, 0, .null), (3, 12, 26, .null), (1, 3, 0, .null), (0, 0, 0, .int 0)] (pc' := 6) (L' := [some (.ref 76), some (.int p0), some (.int p1), some (.int p2), none, none, none]) (st' := [.int 0, .int p2, .ref 94]) (σ1 := σ) (by decide +kernel) rfl ?_
  obtain ⟨g1, h⟩ := og_some h
  refine RM.iast (q := 94) (n := 25) (by decide +kernel) rfl (vin_of g1) ?_
  refine RM.blk [(1, 3, 0, .null), (0, 0, 0, .int 1), (6, 0, 0, .null), (4, 4, 0, .null)] (pc' := 12) (L' := [some (.ref 76), some (.int p0), some (.int p1), some (.int p2), some (.int (p2 - 1)), none, none]) (st' := []) (σ1 := (up σ 94 (ix p2) 0)) (by decide +kernel) rfl ?_
  have hL2 : ∀ (n : Nat) (x2 : Int32 × SG) (y2 : SG), lpW (L_Ref_strip_12 p0 p1 p2) n x2 = some y2 → RN 1 M_Ref_strip (some (.int (bI rr))) so 146 [some (.ref 76), some (.int p0), some (.int p1), some (.int p2), none, none, none] [] y2 → RN 1 M_Ref_strip (some (.int (bI rr))) so 12 [some (.ref 76), some (.int p0), some (.int p1), some (.int p2), some (.int x2.1), none, none] [] x2.2 := by
    intro n
    induction n with
    | zero => intro x2 y2 hy2; cases hy2
    | succ n ih2 =>
      intro x2 y2 hy2 hK2
      obtain ⟨z2, e2, hy2⟩ := ob_some hy2
      unfold L_Ref_strip_12 at e2
      refine RM.blk [(1, 4, 0, .null), (1, 2, 0, .null)] (pc' := 15) (L' := [some (.ref 76), some (.int p0), some (.int p1), some (.int p2), some (.int x2.1), none, none]) (st' := [.int p1, .int x2.1]) (σ1 := x2.2) (by decide +kernel) rfl ?_
      refine RM.icmp_lt (tgt := 146) (by decide +kernel) (fun c3 => ?_) (fun c3 => ?_)
      · rw [if_pos c3] at e2
        obtain rfl := Option.some.inj e2
        obtain rfl := Option.some.inj (show some (x2.2 : SG) = some y2 from hy2)
        refine RN.dropB [true, true, true, true, false, false, false] rfl ?_
        exact hK2
      · rw [if_neg c3] at e2
        refine RM.blk [(2, 0, 0, .null), (3, 12, 26, .null), (1, 4, 0, .null), (0, 0, 0, .int 999)] (pc' := 27) (L' := [some (.ref 76), some (.int p0), some (.int p1), some (.int p2), some (.int x2.1), none, none]) (st' := [.int 999, .int x2.1, .ref 94]) (σ1 := x2.2) (by decide +kernel) rfl ?_
        obtain ⟨g4, e2⟩ := og_some e2
        refine RM.iast (q := 94) (n := 25) (by decide +kernel) rfl (vin_of g4) ?_
        refine RM.blk [(2, 0, 0, .null), (3, 12, 27, .null), (1, 4, 0, .null), (0, 0, 0, .int 0)] (pc' := 35) (L' := [some (.ref 76), some (.int p0), some (.int p1), some (.int p2), some (.int x2.1), none, none]) (st' := [.int 0, .int x2.1, .ref 95]) (σ1 := (up x2.2 94 (ix x2.1) 999)) (by decide +kernel) rfl ?_
        obtain ⟨g5, e2⟩ := og_some e2
        refine RM.iast (q := 95) (n := 25) (by decide +kernel) rfl (vin_of g5) ?_
        generalize ns6 : (up (up x2.2 94 (ix x2.1) 999) 95 (ix x2.1) 0) = s6 at e2 ⊢
        replace e2 := nm_h e2
        refine RM.blk [(0, 0, 0, .int 3), (2, 0, 0, .null), (3, 12, 4, .null), (2, 0, 0, .null), (3, 12, 2, .null), (0, 0, 0, .int 24), (1, 1, 0, .null), (7, 0, 0, .null), (1, 2, 0, .null), (5, 0, 0, .null)] (pc' := 51) (L' := [some (.ref 76), some (.int p0), some (.int p1), some (.int p2), some (.int x2.1), none, none]) (st' := [.int ((24 * p0) + p1), .ref 77, .ref 79, .int 3]) (σ1 := s6) (by decide +kernel) rfl ?_
        obtain ⟨g7, e2⟩ := og_some e2
        refine RM.iald (q := 77) (n := 240) (by decide +kernel) rfl (vin_of g7) ?_
        obtain ⟨g8, e2⟩ := og_some e2
        refine RM.iald (q := 79) (n := 8) (by decide +kernel) rfl (vin_of g8) ?_
        refine RM.blk [(6, 0, 0, .null), (4, 5, 0, .null)] (pc' := 56) (L' := [some (.ref 76), some (.int p0), some (.int p1), some (.int p2), some (.int x2.1), some (.int (3 - (s6 79 (ix (s6 77 (ix ((24 * p0) + p1))))))), none]) (st' := []) (σ1 := s6) (by decide +kernel) rfl ?_
        have hL9 : ∀ (n : Nat) (x9 : Int32 × SG) (y9 : SG), lpW (L_Ref_strip_56 p2 x2.1) n x9 = some y9 → RN 1 M_Ref_strip (some (.int (bI rr))) so 140 [some (.ref 76), some (.int p0), some (.int p1), some (.int p2), some (.int x2.1), none, none] [] y9 → RN 1 M_Ref_strip (some (.int (bI rr))) so 56 [some (.ref 76), some (.int p0), some (.int p1), some (.int p2), some (.int x2.1), some (.int x9.1), none] [] x9.2 := by
          intro n
          induction n with
          | zero => intro x9 y9 hy9; cases hy9
          | succ n ih9 =>
            intro x9 y9 hy9 hK9
            obtain ⟨z9, e9, hy9⟩ := ob_some hy9
            unfold L_Ref_strip_56 at e9
            refine RM.blk [(1, 5, 0, .null)] (pc' := 58) (L' := [some (.ref 76), some (.int p0), some (.int p1), some (.int p2), some (.int (x2.1)), some (.int x9.1), none]) (st' := [.int x9.1]) (σ1 := x9.2) (by decide +kernel) rfl ?_
            refine RM.if_le (tgt := 140) (by decide +kernel) (fun c10 => ?_) (fun c10 => ?_)
            · rw [if_pos c10] at e9
              obtain rfl := Option.some.inj e9
              obtain rfl := Option.some.inj (show some (x9.2 : SG) = some y9 from hy9)
              refine RN.dropB [true, true, true, true, true, false, false] rfl ?_
              exact hK9
            · rw [if_neg c10] at e9
              refine RM.blk [(1, 4, 0, .null), (1, 5, 0, .null), (5, 0, 0, .null), (4, 6, 0, .null), (1, 6, 0, .null), (1, 3, 0, .null)] (pc' := 71) (L' := [some (.ref 76), some (.int p0), some (.int p1), some (.int p2), some (.int (x2.1)), some (.int x9.1), some (.int (x2.1 + x9.1))]) (st' := [.int p2, .int (x2.1 + x9.1)]) (σ1 := x9.2) (by decide +kernel) rfl ?_
              refine RM.icmp_gt (tgt := 134) (by decide +kernel) (fun c11 => ?_) (fun c11 => ?_)
              · rw [if_pos c11] at e9
                refine RM.blk [(10, 5, 0, .int (-1)), (23, 0, 0, .null)] (pc' := 56) (L' := [some (.ref 76), some (.int p0), some (.int p1), some (.int p2), some (.int (x2.1)), some (.int (x9.1 + (-1))), some (.int (x2.1 + x9.1))]) (st' := []) (σ1 := x9.2) (by decide +kernel) rfl ?_
                obtain rfl := Option.some.inj e9
                refine RN.dropB [true, true, true, true, true, true, false] rfl ?_
                exact ih9 ((x9.1 + (-1)), x9.2) _ hy9 hK9
              · rw [if_neg c11] at e9
                refine RM.blk [(1, 6, 0, .null), (1, 3, 0, .null)] (pc' := 77) (L' := [some (.ref 76), some (.int p0), some (.int p1), some (.int p2), some (.int (x2.1)), some (.int x9.1), some (.int (x2.1 + x9.1))]) (st' := [.int p2, .int (x2.1 + x9.1)]) (σ1 := x9.2) (by decide +kernel) rfl ?_
                refine RM.icmp_eq (tgt := 90) (by decide +kernel) (fun c12 => ?_) (fun c12 => ?_)
                · rw [if_pos c12] at e9
                  refine RM.blk [(2, 0, 0, .null), (3, 12, 26, .null), (1, 6, 0, .null)] (pc' := 96) (L' := [some (.ref 76), some (.int p0), some (.int p1), some (.int p2), some (.int (x2.1)), some (.int x9.1), some (.int (x2.1 + x9.1))]) (st' := [.int (x2.1 + x9.1), .ref 94]) (σ1 := x9.2) (by decide +kernel) rfl ?_
                  obtain ⟨g13, e9⟩ := og_some e9
                  refine RM.iald (q := 94) (n := 25) (by decide +kernel) rfl (vin_of g13) ?_
                  refine RM.blk [(0, 0, 0, .int 1), (5, 0, 0, .null), (2, 0, 0, .null), (3, 12, 26, .null), (1, 4, 0, .null)] (pc' := 105) (L' := [some (.ref 76), some (.int p0), some (.int p1), some (.int p2), some (.int (x2.1)), some (.int x9.1), some (.int (x2.1 + x9.1))]) (st' := [.int (x2.1), .ref 94, .int ((x9.2 94 (ix (x2.1 + x9.1))) + 1)]) (σ1 := x9.2) (by decide +kernel) rfl ?_
                  obtain ⟨g14, e9⟩ := og_some e9
                  refine RM.iald (q := 94) (n := 25) (by decide +kernel) rfl (vin_of g14) ?_
                  refine RM.icmp_ge (tgt := 134) (by decide +kernel) (fun c15 => ?_) (fun c15 => ?_)
                  · rw [if_pos c15] at e9
                    refine RM.blk [(10, 5, 0, .int (-1)), (23, 0, 0, .null)] (pc' := 56) (L' := [some (.ref 76), some (.int p0), some (.int p1), some (.int p2), some (.int (x2.1)), some (.int (x9.1 + (-1))), some (.int (x2.1 + x9.1))]) (st' := []) (σ1 := x9.2) (by decide +kernel) rfl ?_
                    obtain rfl := Option.some.inj e9
                    refine RN.dropB [true, true, true, true, true, true, false] rfl ?_
                    exact ih9 ((x9.1 + (-1)), x9.2) _ hy9 hK9
                  · rw [if_neg c15] at e9
                    refine RM.blk [(2, 0, 0, .null), (3, 12, 26, .null), (1, 4, 0, .null), (2, 0, 0, .null), (3, 12, 26, .null), (1, 6, 0, .null)] (pc' := 121) (L' := [some (.ref 76), some (.int p0), some (.int p1), some (.int p2), some (.int (x2.1)), some (.int x9.1), some (.int (x2.1 + x9.1))]) (st' := [.int (x2.1 + x9.1), .ref 94, .int (x2.1), .ref 94]) (σ1 := x9.2) (by decide +kernel) rfl ?_
                    obtain ⟨g16, e9⟩ := og_some e9
                    refine RM.iald (q := 94) (n := 25) (by decide +kernel) rfl (vin_of g16) ?_
                    refine RM.blk [(0, 0, 0, .int 1), (5, 0, 0, .null)] (pc' := 124) (L' := [some (.ref 76), some (.int p0), some (.int p1), some (.int p2), some (.int (x2.1)), some (.int x9.1), some (.int (x2.1 + x9.1))]) (st' := [.int ((x9.2 94 (ix (x2.1 + x9.1))) + 1), .int (x2.1), .ref 94]) (σ1 := x9.2) (by decide +kernel) rfl ?_
                    obtain ⟨g17, e9⟩ := og_some e9
                    refine RM.iast (q := 94) (n := 25) (by decide +kernel) rfl (vin_of g17) ?_
                    generalize ns18 : (up x9.2 94 (ix (x2.1)) ((x9.2 94 (ix (x2.1 + x9.1))) + 1)) = s18 at e9 ⊢
                    replace e9 := nm_h e9
                    refine RM.blk [(2, 0, 0, .null), (3, 12, 27, .null), (1, 4, 0, .null), (1, 5, 0, .null)] (pc' := 133) (L' := [some (.ref 76), some (.int p0), some (.int p1), some (.int p2), some (.int (x2.1)), some (.int x9.1), some (.int (x2.1 + x9.1))]) (st' := [.int x9.1, .int (x2.1), .ref 95]) (σ1 := s18) (by decide +kernel) rfl ?_
                    obtain ⟨g19, e9⟩ := og_some e9
                    refine RM.iast (q := 95) (n := 25) (by decide +kernel) rfl (vin_of g19) ?_
                    refine RM.blk [(10, 5, 0, .int (-1)), (23, 0, 0, .null)] (pc' := 56) (L' := [some (.ref 76), some (.int p0), some (.int p1), some (.int p2), some (.int (x2.1)), some (.int (x9.1 + (-1))), some (.int (x2.1 + x9.1))]) (st' := []) (σ1 := (up s18 95 (ix (x2.1)) x9.1)) (by decide +kernel) rfl ?_
                    obtain rfl := Option.some.inj e9
                    refine RN.dropB [true, true, true, true, true, true, false] rfl ?_
                    exact ih9 ((x9.1 + (-1)), (up s18 95 (ix (x2.1)) x9.1)) _ hy9 hK9
                · rw [if_neg c12] at e9
                  refine RM.blk [(2, 0, 0, .null), (3, 12, 24, .null), (1, 6, 0, .null)] (pc' := 86) (L' := [some (.ref 76), some (.int p0), some (.int p1), some (.int p2), some (.int (x2.1)), some (.int x9.1), some (.int (x2.1 + x9.1))]) (st' := [.int (x2.1 + x9.1), .ref 92]) (σ1 := x9.2) (by decide +kernel) rfl ?_
                  obtain ⟨g20, e9⟩ := og_some e9
                  refine RM.zald (q := 92) (n := 25) (by decide +kernel) rfl (vin_of g20) ?_
                  refine RM.if_ne (tgt := 134) (by decide +kernel) (fun c21 => ?_) (fun c21 => ?_)
                  · rw [if_neg c21] at e9
                    refine RM.blk [(10, 5, 0, .int (-1)), (23, 0, 0, .null)] (pc' := 56) (L' := [some (.ref 76), some (.int p0), some (.int p1), some (.int p2), some (.int (x2.1)), some (.int (x9.1 + (-1))), some (.int (x2.1 + x9.1))]) (st' := []) (σ1 := x9.2) (by decide +kernel) rfl ?_
                    obtain rfl := Option.some.inj e9
                    refine RN.dropB [true, true, true, true, true, true, false] rfl ?_
                    exact ih9 ((x9.1 + (-1)), x9.2) _ hy9 hK9
                  · rw [if_pos c21] at e9
                    refine RM.blk [(2, 0, 0, .null), (3, 12, 26, .null), (1, 6, 0, .null)] (pc' := 96) (L' := [some (.ref 76), some (.int p0), some (.int p1), some (.int p2), some (.int (x2.1)), some (.int x9.1), some (.int (x2.1 + x9.1))]) (st' := [.int (x2.1 + x9.1), .ref 94]) (σ1 := x9.2) (by decide +kernel) rfl ?_
                    obtain ⟨g22, e9⟩ := og_some e9
                    refine RM.iald (q := 94) (n := 25) (by decide +kernel) rfl (vin_of g22) ?_
                    refine RM.blk [(0, 0, 0, .int 1), (5, 0, 0, .null), (2, 0, 0, .null), (3, 12, 26, .null), (1, 4, 0, .null)] (pc' := 105) (L' := [some (.ref 76), some (.int p0), some (.int p1), some (.int p2), some (.int (x2.1)), some (.int x9.1), some (.int (x2.1 + x9.1))]) (st' := [.int (x2.1), .ref 94, .int ((x9.2 94 (ix (x2.1 + x9.1))) + 1)]) (σ1 := x9.2) (by decide +kernel) rfl ?_
                    obtain ⟨g23, e9⟩ := og_some e9
                    refine RM.iald (q := 94) (n := 25) (by decide +kernel) rfl (vin_of g23) ?_
                    refine RM.icmp_ge (tgt := 134) (by decide +kernel) (fun c24 => ?_) (fun c24 => ?_)
                    · rw [if_pos c24] at e9
                      refine RM.blk [(10, 5, 0, .int (-1)), (23, 0, 0, .null)] (pc' := 56) (L' := [some (.ref 76), some (.int p0), some (.int p1), some (.int p2), some (.int (x2.1)), some (.int (x9.1 + (-1))), some (.int (x2.1 + x9.1))]) (st' := []) (σ1 := x9.2) (by decide +kernel) rfl ?_
                      obtain rfl := Option.some.inj e9
                      refine RN.dropB [true, true, true, true, true, true, false] rfl ?_
                      exact ih9 ((x9.1 + (-1)), x9.2) _ hy9 hK9
                    · rw [if_neg c24] at e9
                      refine RM.blk [(2, 0, 0, .null), (3, 12, 26, .null), (1, 4, 0, .null), (2, 0, 0, .null), (3, 12, 26, .null), (1, 6, 0, .null)] (pc' := 121) (L' := [some (.ref 76), some (.int p0), some (.int p1), some (.int p2), some (.int (x2.1)), some (.int x9.1), some (.int (x2.1 + x9.1))]) (st' := [.int (x2.1 + x9.1), .ref 94, .int (x2.1), .ref 94]) (σ1 := x9.2) (by decide +kernel) rfl ?_
                      obtain ⟨g25, e9⟩ := og_some e9
                      refine RM.iald (q := 94) (n := 25) (by decide +kernel) rfl (vin_of g25) ?_
                      refine RM.blk [(0, 0, 0, .int 1), (5, 0, 0, .null)] (pc' := 124) (L' := [some (.ref 76), some (.int p0), some (.int p1), some (.int p2), some (.int (x2.1)), some (.int x9.1), some (.int (x2.1 + x9.1))]) (st' := [.int ((x9.2 94 (ix (x2.1 + x9.1))) + 1), .int (x2.1), .ref 94]) (σ1 := x9.2) (by decide +kernel) rfl ?_
                      obtain ⟨g26, e9⟩ := og_some e9
                      refine RM.iast (q := 94) (n := 25) (by decide +kernel) rfl (vin_of g26) ?_
                      generalize ns27 : (up x9.2 94 (ix (x2.1)) ((x9.2 94 (ix (x2.1 + x9.1))) + 1)) = s27 at e9 ⊢
                      replace e9 := nm_h e9
                      refine RM.blk [(2, 0, 0, .null), (3, 12, 27, .null), (1, 4, 0, .null), (1, 5, 0, .null)] (pc' := 133) (L' := [some (.ref 76), some (.int p0), some (.int p1), some (.int p2), some (.int (x2.1)), some (.int x9.1), some (.int (x2.1 + x9.1))]) (st' := [.int x9.1, .int (x2.1), .ref 95]) (σ1 := s27) (by decide +kernel) rfl ?_
                      obtain ⟨g28, e9⟩ := og_some e9
                      refine RM.iast (q := 95) (n := 25) (by decide +kernel) rfl (vin_of g28) ?_
                      refine RM.blk [(10, 5, 0, .int (-1)), (23, 0, 0, .null)] (pc' := 56) (L' := [some (.ref 76), some (.int p0), some (.int p1), some (.int p2), some (.int (x2.1)), some (.int (x9.1 + (-1))), some (.int (x2.1 + x9.1))]) (st' := []) (σ1 := (up s27 95 (ix (x2.1)) x9.1)) (by decide +kernel) rfl ?_
                      obtain rfl := Option.some.inj e9
                      refine RN.dropB [true, true, true, true, true, true, false] rfl ?_
                      exact ih9 ((x9.1 + (-1)), (up s27 95 (ix (x2.1)) x9.1)) _ hy9 hK9
        obtain ⟨y9, hl9, e2⟩ := ob_some e2
        refine RN.dropB [true, true, true, true, true, true, false] rfl ?_
        refine hL9 FU ((3 - (s6 79 (ix (s6 77 (ix ((24 * p0) + p1)))))), s6) y9 hl9 ?_
        refine RM.blk [(10, 4, 0, .int (-1)), (23, 0, 0, .null)] (pc' := 12) (L' := [some (.ref 76), some (.int p0), some (.int p1), some (.int p2), some (.int (x2.1 + (-1))), none, none]) (st' := []) (σ1 := y9) (by decide +kernel) rfl ?_
        obtain rfl := Option.some.inj e2
        refine RN.dropB [true, true, true, true, true, false, false] rfl ?_
        exact ih2 ((x2.1 + (-1)), y9) _ hy2 hK2
  obtain ⟨y2, hl2, h⟩ := ob_some h
  refine RN.dropB [true, true, true, true, true, false, false] rfl ?_
  refine hL2 FU ((p2 - 1), (up σ 94 (ix p2) 0)) y2 hl2 ?_
  refine RM.blk [(2, 0, 0, .null), (3, 12, 26, .null), (1, 2, 0, .null)] (pc' := 151) (L' := [some (.ref 76), some (.int p0), some (.int p1), some (.int p2), none, none, none]) (st' := [.int p1, .ref 94]) (σ1 := y2) (by decide +kernel) rfl ?_
  obtain ⟨g29, h⟩ := og_some h
  refine RM.iald (q := 94) (n := 25) (by decide +kernel) rfl (vin_of g29) ?_
  refine RM.blk [(0, 0, 0, .int 999)] (pc' := 155) (L' := [some (.ref 76), some (.int p0), some (.int p1), some (.int p2), none, none, none]) (st' := [.int 999, .int (y2 94 (ix p1))]) (σ1 := y2) (by decide +kernel) rfl ?_
  refine RM.icmp_lt (tgt := 160) (by decide +kernel) (fun c30 => ?_) (fun c30 => ?_)
  · rw [if_pos c30] at h
    refine RM.blk [(1, 2, 0, .null), (4, 4, 0, .null)] (pc' := 163) (L' := [some (.ref 76), some (.int p0), some (.int p1), some (.int p2), some (.int p1), none, none]) (st' := []) (σ1 := y2) (by decide +kernel) rfl ?_
    have hL31 : ∀ (n : Nat) (x31 : Int32 × SG) (y31 : SG), lpW (L_Ref_strip_163 p0 p2) n x31 = some y31 → RN 1 M_Ref_strip (some (.int (bI rr))) so 286 [none, none, none, none, none, none, none] [] y31 → RN 1 M_Ref_strip (some (.int (bI rr))) so 163 [some (.ref 76), some (.int p0), none, some (.int p2), some (.int x31.1), none, none] [] x31.2 := by
      intro n
      induction n with
      | zero => intro x31 y31 hy31; cases hy31
      | succ n ih31 =>
        intro x31 y31 hy31 hK31
        obtain ⟨z31, e31, hy31⟩ := ob_some hy31
        unfold L_Ref_strip_163 at e31
        refine RM.blk [(1, 4, 0, .null), (1, 3, 0, .null)] (pc' := 166) (L' := [some (.ref 76), some (.int p0), none, some (.int p2), some (.int x31.1), none, none]) (st' := [.int p2, .int x31.1]) (σ1 := x31.2) (by decide +kernel) rfl ?_
        refine RM.icmp_ge (tgt := 286) (by decide +kernel) (fun c32 => ?_) (fun c32 => ?_)
        · rw [if_pos c32] at e31
          obtain rfl := Option.some.inj e31
          obtain rfl := Option.some.inj (show some (x31.2 : SG) = some y31 from hy31)
          refine RN.dropB [false, false, false, false, false, false, false] rfl ?_
          exact hK31
        · rw [if_neg c32] at e31
          refine RM.blk [(2, 0, 0, .null), (3, 12, 11, .null), (2, 0, 0, .null), (3, 12, 10, .null), (1, 1, 0, .null)] (pc' := 178) (L' := [some (.ref 76), some (.int p0), none, some (.int p2), some (.int x31.1), none, none]) (st' := [.int p0, .int (x31.2 76 10), .ref 82]) (σ1 := x31.2) (by decide +kernel) rfl ?_
          obtain ⟨g33, e31⟩ := og_some e31
          refine RM.iast (q := 82) (n := 240) (by decide +kernel) rfl (vin_of g33) ?_
          refine RM.blk [(2, 0, 0, .null), (3, 12, 12, .null), (2, 0, 0, .null), (3, 12, 10, .null), (1, 4, 0, .null)] (pc' := 189) (L' := [some (.ref 76), some (.int p0), none, some (.int p2), some (.int x31.1), none, none]) (st' := [.int x31.1, .int ((up x31.2 82 (ix (x31.2 76 10)) p0) 76 10), .ref 83]) (σ1 := (up x31.2 82 (ix (x31.2 76 10)) p0)) (by decide +kernel) rfl ?_
          obtain ⟨g34, e31⟩ := og_some e31
          refine RM.iast (q := 83) (n := 240) (by decide +kernel) rfl (vin_of g34) ?_
          generalize ns35 : (up (up x31.2 82 (ix (x31.2 76 10)) p0) 83 (ix ((up x31.2 82 (ix (x31.2 76 10)) p0) 76 10)) x31.1) = s35 at e31 ⊢
          replace e31 := nm_h e31
          refine RM.blk [(2, 0, 0, .null), (3, 12, 13, .null), (2, 0, 0, .null), (3, 12, 10, .null), (2, 0, 0, .null), (3, 12, 27, .null), (1, 4, 0, .null)] (pc' := 204) (L' := [some (.ref 76), some (.int p0), none, some (.int p2), some (.int x31.1), none, none]) (st' := [.int x31.1, .ref 95, .int (s35 76 10), .ref 84]) (σ1 := s35) (by decide +kernel) rfl ?_
          obtain ⟨g36, e31⟩ := og_some e31
          refine RM.iald (q := 95) (n := 25) (by decide +kernel) rfl (vin_of g36) ?_
          obtain ⟨g37, e31⟩ := og_some e31
          refine RM.iast (q := 84) (n := 240) (by decide +kernel) rfl (vin_of g37) ?_
          generalize ns38 : (up s35 84 (ix (s35 76 10)) (s35 95 (ix x31.1))) = s38 at e31 ⊢
          replace e31 := nm_h e31
          refine RM.blk [(2, 0, 0, .null), (3, 12, 14, .null), (2, 0, 0, .null), (3, 12, 10, .null), (2, 0, 0, .null), (3, 12, 2, .null), (0, 0, 0, .int 24), (1, 1, 0, .null), (7, 0, 0, .null), (1, 4, 0, .null), (5, 0, 0, .null)] (pc' := 225) (L' := [some (.ref 76), some (.int p0), none, some (.int p2), some (.int x31.1), none, none]) (st' := [.int ((24 * p0) + x31.1), .ref 77, .int (s38 76 10), .ref 85]) (σ1 := s38) (by decide +kernel) rfl ?_
          obtain ⟨g39, e31⟩ := og_some e31
          refine RM.iald (q := 77) (n := 240) (by decide +kernel) rfl (vin_of g39) ?_
          obtain ⟨g40, e31⟩ := og_some e31
          refine RM.iast (q := 85) (n := 240) (by decide +kernel) rfl (vin_of g40) ?_
          generalize ns41 : (up s38 85 (ix (s38 76 10)) (s38 77 (ix ((24 * p0) + x31.1)))) = s41 at e31 ⊢
          replace e31 := nm_h e31
          refine RM.blk [(2, 0, 0, .null), (3, 12, 15, .null), (2, 0, 0, .null), (3, 12, 10, .null), (0, 0, 0, .int (-1))] (pc' := 236) (L' := [some (.ref 76), some (.int p0), none, some (.int p2), some (.int x31.1), none, none]) (st' := [.int (-1), .int (s41 76 10), .ref 86]) (σ1 := s41) (by decide +kernel) rfl ?_
          obtain ⟨g42, e31⟩ := og_some e31
          refine RM.iast (q := 86) (n := 240) (by decide +kernel) rfl (vin_of g42) ?_
          refine RM.blk [(2, 0, 0, .null), (3, 12, 16, .null), (2, 0, 0, .null), (3, 12, 10, .null), (0, 0, 0, .int (-1))] (pc' := 246) (L' := [some (.ref 76), some (.int p0), none, some (.int p2), some (.int x31.1), none, none]) (st' := [.int (-1), .int ((up s41 86 (ix (s41 76 10)) (-1)) 76 10), .ref 87]) (σ1 := (up s41 86 (ix (s41 76 10)) (-1))) (by decide +kernel) rfl ?_
          obtain ⟨g43, e31⟩ := og_some e31
          refine RM.iast (q := 87) (n := 240) (by decide +kernel) rfl (vin_of g43) ?_
          generalize ns44 : (up (up s41 86 (ix (s41 76 10)) (-1)) 87 (ix ((up s41 86 (ix (s41 76 10)) (-1)) 76 10)) (-1)) = s44 at e31 ⊢
          replace e31 := nm_h e31
          refine RM.blk [(2, 0, 0, .null), (11, 0, 0, .null), (3, 12, 10, .null), (0, 0, 0, .int 1), (5, 0, 0, .null), (15, 12, 10, .null), (1, 4, 0, .null), (2, 0, 0, .null), (3, 12, 27, .null), (1, 4, 0, .null)] (pc' := 265) (L' := [some (.ref 76), some (.int p0), none, some (.int p2), some (.int x31.1), none, none]) (st' := [.int x31.1, .ref 95, .int x31.1]) (σ1 := (up s44 76 10 ((s44 76 10) + 1))) (by decide +kernel) rfl ?_
          obtain ⟨g45, e31⟩ := og_some e31
          refine RM.iald (q := 95) (n := 25) (by decide +kernel) rfl (vin_of g45) ?_
          refine RM.blk [(5, 0, 0, .null), (4, 4, 0, .null), (1, 4, 0, .null), (1, 3, 0, .null)] (pc' := 272) (L' := [some (.ref 76), some (.int p0), none, some (.int p2), some (.int (x31.1 + ((up s44 76 10 ((s44 76 10) + 1)) 95 (ix x31.1)))), none, none]) (st' := [.int p2, .int (x31.1 + ((up s44 76 10 ((s44 76 10) + 1)) 95 (ix x31.1)))]) (σ1 := (up s44 76 10 ((s44 76 10) + 1))) (by decide +kernel) rfl ?_
          refine RM.icmp_ge (tgt := 163) (by decide +kernel) (fun c46 => ?_) (fun c46 => ?_)
          · rw [if_pos c46] at e31
            obtain rfl := Option.some.inj e31
            refine RN.dropB [true, true, false, true, true, false, false] rfl ?_
            exact ih31 ((x31.1 + ((up s44 76 10 ((s44 76 10) + 1)) 95 (ix x31.1))), (up s44 76 10 ((s44 76 10) + 1))) _ hy31 hK31
          · rw [if_neg c46] at e31
            refine RM.blk [(2, 0, 0, .null), (3, 12, 25, .null), (1, 4, 0, .null), (0, 0, 0, .int 1)] (pc' := 282) (L' := [some (.ref 76), some (.int p0), none, some (.int p2), some (.int (x31.1 + ((up s44 76 10 ((s44 76 10) + 1)) 95 (ix x31.1)))), none, none]) (st' := [.int 1, .int (x31.1 + ((up s44 76 10 ((s44 76 10) + 1)) 95 (ix x31.1))), .ref 93]) (σ1 := (up s44 76 10 ((s44 76 10) + 1))) (by decide +kernel) rfl ?_
            obtain ⟨g47, e31⟩ := og_some e31
            refine RM.zast (q := 93) (n := 25) (by decide +kernel) rfl (vin_of g47) rfl ?_
            generalize ns48 : (up (up s44 76 10 ((s44 76 10) + 1)) 93 (ix (x31.1 + ((up s44 76 10 ((s44 76 10) + 1)) 95 (ix x31.1)))) 1) = s48 at e31 ⊢
            replace e31 := nm_h e31
            refine RM.blk [(23, 0, 0, .null)] (pc' := 163) (L' := [some (.ref 76), some (.int p0), none, some (.int p2), some (.int (x31.1 + ((up s44 76 10 ((s44 76 10) + 1)) 95 (ix x31.1)))), none, none]) (st' := []) (σ1 := s48) (by decide +kernel) rfl ?_
            obtain rfl := Option.some.inj e31
            refine RN.dropB [true, true, false, true, true, false, false] rfl ?_
            exact ih31 ((x31.1 + ((up s44 76 10 ((s44 76 10) + 1)) 95 (ix x31.1))), s48) _ hy31 hK31
    obtain ⟨y31, hl31, h⟩ := ob_some h
    refine RN.dropB [true, true, false, true, true, false, false] rfl ?_
    refine hL31 FU (p1, y2) y31 hl31 ?_
    refine RM.blk [(0, 0, 0, .int 1)] (pc' := 287) (L' := [none, none, none, none, none, none, none]) (st' := [.int 1]) (σ1 := y31) (by decide +kernel) rfl ?_
    obtain ⟨rfl, rfl⟩ := Prod.mk.inj (Option.some.inj h)
    exact RM.retz (z := true) (by decide +kernel) rfl
  · rw [if_neg c30] at h
    refine RM.blk [(0, 0, 0, .int 0)] (pc' := 159) (L' := [some (.ref 76), some (.int p0), some (.int p1), some (.int p2), none, none, none]) (st' := [.int 0]) (σ1 := y2) (by decide +kernel) rfl ?_
    obtain ⟨rfl, rfl⟩ := Prod.mk.inj (Option.some.inj h)
    exact RM.retz (z := false) (by decide +kernel) rfl
def M_Ref_lay : MI := (yX12_lay, cX12_lay, 4, some .int, 12)
theorem mk_Ref_lay : mOK M_Ref_lay 0 = true := by decide +kernel
set_option maxRecDepth 100000 in
set_option maxHeartbeats 4000000 in
theorem s_Ref_lay (σ : SG) (rr : Int32) (so : SG) (h : F_Ref_lay σ = some (rr, so)) : SpN 2 M_Ref_lay [.ref 76] σ (some (.int rr)) so := by
  unfold F_Ref_lay at h
  refine Sp.of mk_Ref_lay rfl (Nat.le_of_ble_eq_true rfl) ?_
  refine RM.blk [(2, 0, 0, .null)] (pc' := 1) (L' := [some (.ref 76), none, none, none]) (st' := [.ref 76]) (σ1 := σ) (by decide +kernel) rfl ?_
  refine RN.callV [] (s_Ref_goes σ _ rfl) [] (pc3 := 4) (st3 := []) (by decide +kernel) mk_Ref_goes (by decide) ?_
  refine RM.blk [(0, 0, 0, .int 0), (4, 1, 0, .null)] (pc' := 6) (L' := [some (.ref 76), some (.int 0), none, none]) (st' := []) (σ1 := (F_Ref_goes σ)) (by decide +kernel) rfl ?_
  have hL1 : ∀ (n : Nat) (x1 : Int32 × SG) (y1 : SG), lpW L_Ref_lay_6 n x1 = some y1 → RN 2 M_Ref_lay (some (.int rr)) so 25 [some (.ref 76), none, none, none] [] y1 → RN 2 M_Ref_lay (some (.int rr)) so 6 [some (.ref 76), some (.int x1.1), none, none] [] x1.2 := by
    intro n
    induction n with
    | zero => intro x1 y1 hy1; cases hy1
    | succ n ih1 =>
      intro x1 y1 hy1 hK1
      obtain ⟨z1, e1, hy1⟩ := ob_some hy1
      unfold L_Ref_lay_6 at e1
      refine RM.blk [(1, 1, 0, .null), (0, 0, 0, .int 25)] (pc' := 9) (L' := [some (.ref 76), some (.int x1.1), none, none]) (st' := [.int 25, .int x1.1]) (σ1 := x1.2) (by decide +kernel) rfl ?_
      refine RM.icmp_ge (tgt := 25) (by decide +kernel) (fun c2 => ?_) (fun c2 => ?_)
      · rw [if_pos c2] at e1
        obtain rfl := Option.some.inj e1
        obtain rfl := Option.some.inj (show some (x1.2 : SG) = some y1 from hy1)
        refine RN.dropB [true, false, false, false] rfl ?_
        exact hK1
      · rw [if_neg c2] at e1
        refine RM.blk [(2, 0, 0, .null), (3, 12, 24, .null), (1, 1, 0, .null), (0, 0, 0, .int 0)] (pc' := 18) (L' := [some (.ref 76), some (.int x1.1), none, none]) (st' := [.int 0, .int x1.1, .ref 92]) (σ1 := x1.2) (by decide +kernel) rfl ?_
        obtain ⟨g3, e1⟩ := og_some e1
        refine RM.zast (q := 92) (n := 25) (by decide +kernel) rfl (vin_of g3) rfl ?_
        refine RM.blk [(10, 1, 0, .int 1), (23, 0, 0, .null)] (pc' := 6) (L' := [some (.ref 76), some (.int (x1.1 + 1)), none, none]) (st' := []) (σ1 := (up x1.2 92 (ix x1.1) 0)) (by decide +kernel) rfl ?_
        obtain rfl := Option.some.inj e1
        refine RN.dropB [true, true, false, false] rfl ?_
        exact ih1 ((x1.1 + 1), (up x1.2 92 (ix x1.1) 0)) _ hy1 hK1
  obtain ⟨y1, hl1, h⟩ := ob_some h
  refine RN.dropB [true, true, false, false] rfl ?_
  refine hL1 FU (0, (F_Ref_goes σ)) y1 hl1 ?_
  refine RM.blk [(0, 0, 0, .int 0), (4, 1, 0, .null)] (pc' := 27) (L' := [some (.ref 76), some (.int 0), none, none]) (st' := []) (σ1 := y1) (by decide +kernel) rfl ?_
  have hL4 : ∀ (n : Nat) (x4 : Int32 × SG) (y4 : (SG) ⊕ (Int32 × SG)), lpW L_Ref_lay_27 n x4 = some y4 → Sum.elim (fun y4 : SG => RN 2 M_Ref_lay (some (.int rr)) so 169 [some (.ref 76), none, none, none] [] y4) (fun q : Int32 × SG => q = (rr, so)) y4 → RN 2 M_Ref_lay (some (.int rr)) so 27 [some (.ref 76), some (.int x4.1), none, none] [] x4.2 := by
    intro n
    induction n with
    | zero => intro x4 y4 hy4; cases hy4
    | succ n ih4 =>
      intro x4 y4 hy4 hK4
      obtain ⟨z4, e4, hy4⟩ := ob_some hy4
      unfold L_Ref_lay_27 at e4
      refine RM.blk [(1, 1, 0, .null), (2, 0, 0, .null), (3, 12, 1, .null)] (pc' := 32) (L' := [some (.ref 76), some (.int x4.1), none, none]) (st' := [.int (x4.2 76 1), .int x4.1]) (σ1 := x4.2) (by decide +kernel) rfl ?_
      refine RM.icmp_ge (tgt := 169) (by decide +kernel) (fun c5 => ?_) (fun c5 => ?_)
      · rw [if_pos c5] at e4
        obtain rfl := Option.some.inj e4
        obtain rfl := Option.some.inj (show some ((.inl x4.2) : (SG) ⊕ (Int32 × SG)) = some y4 from hy4)
        refine RN.dropB [true, false, false, false] rfl ?_
        exact hK4
      · rw [if_neg c5] at e4
        refine RM.blk [(0, 0, 0, .int 0), (4, 2, 0, .null)] (pc' := 37) (L' := [some (.ref 76), some (.int x4.1), some (.int 0), none]) (st' := []) (σ1 := x4.2) (by decide +kernel) rfl ?_
        have hL6 : ∀ (n : Nat) (x6 : Int32 × SG) (y6 : SG), lpW L_Ref_lay_37 n x6 = some y6 → RN 2 M_Ref_lay (some (.int rr)) so 56 [some (.ref 76), some (.int x4.1), none, none] [] y6 → RN 2 M_Ref_lay (some (.int rr)) so 37 [some (.ref 76), some (.int x4.1), some (.int x6.1), none] [] x6.2 := by
          intro n
          induction n with
          | zero => intro x6 y6 hy6; cases hy6
          | succ n ih6 =>
            intro x6 y6 hy6 hK6
            obtain ⟨z6, e6, hy6⟩ := ob_some hy6
            unfold L_Ref_lay_37 at e6
            refine RM.blk [(1, 2, 0, .null), (0, 0, 0, .int 25)] (pc' := 40) (L' := [some (.ref 76), some (.int (x4.1)), some (.int x6.1), none]) (st' := [.int 25, .int x6.1]) (σ1 := x6.2) (by decide +kernel) rfl ?_
            refine RM.icmp_ge (tgt := 56) (by decide +kernel) (fun c7 => ?_) (fun c7 => ?_)
            · rw [if_pos c7] at e6
              obtain rfl := Option.some.inj e6
              obtain rfl := Option.some.inj (show some (x6.2 : SG) = some y6 from hy6)
              refine RN.dropB [true, true, false, false] rfl ?_
              exact hK6
            · rw [if_neg c7] at e6
              refine RM.blk [(2, 0, 0, .null), (3, 12, 25, .null), (1, 2, 0, .null), (0, 0, 0, .int 0)] (pc' := 49) (L' := [some (.ref 76), some (.int (x4.1)), some (.int x6.1), none]) (st' := [.int 0, .int x6.1, .ref 93]) (σ1 := x6.2) (by decide +kernel) rfl ?_
              obtain ⟨g8, e6⟩ := og_some e6
              refine RM.zast (q := 93) (n := 25) (by decide +kernel) rfl (vin_of g8) rfl ?_
              refine RM.blk [(10, 2, 0, .int 1), (23, 0, 0, .null)] (pc' := 37) (L' := [some (.ref 76), some (.int (x4.1)), some (.int (x6.1 + 1)), none]) (st' := []) (σ1 := (up x6.2 93 (ix x6.1) 0)) (by decide +kernel) rfl ?_
              obtain rfl := Option.some.inj e6
              refine RN.dropB [true, true, true, false] rfl ?_
              exact ih6 ((x6.1 + 1), (up x6.2 93 (ix x6.1) 0)) _ hy6 hK6
        obtain ⟨y6, hl6, e4⟩ := ob_some e4
        refine RN.dropB [true, true, true, false] rfl ?_
        refine hL6 FU (0, x4.2) y6 hl6 ?_
        refine RM.blk [(0, 0, 0, .int 0), (4, 2, 0, .null)] (pc' := 58) (L' := [some (.ref 76), some (.int x4.1), some (.int 0), none]) (st' := []) (σ1 := y6) (by decide +kernel) rfl ?_
        have hL9 : ∀ (n : Nat) (x9 : Int32 × SG) (y9 : (SG) ⊕ (Int32 × SG)), lpW (L_Ref_lay_58 x4.1) n x9 = some y9 → Sum.elim (fun y9 : SG => RN 2 M_Ref_lay (some (.int rr)) so 137 [some (.ref 76), some (.int x4.1), none, none] [] y9) (fun q : Int32 × SG => q = (rr, so)) y9 → RN 2 M_Ref_lay (some (.int rr)) so 58 [some (.ref 76), some (.int x4.1), some (.int x9.1), none] [] x9.2 := by
          intro n
          induction n with
          | zero => intro x9 y9 hy9; cases hy9
          | succ n ih9 =>
            intro x9 y9 hy9 hK9
            obtain ⟨z9, e9, hy9⟩ := ob_some hy9
            unfold L_Ref_lay_58 at e9
            refine RM.blk [(1, 2, 0, .null), (2, 0, 0, .null), (3, 12, 0, .null)] (pc' := 63) (L' := [some (.ref 76), some (.int (x4.1)), some (.int x9.1), none]) (st' := [.int (x9.2 76 0), .int x9.1]) (σ1 := x9.2) (by decide +kernel) rfl ?_
            refine RM.icmp_ge (tgt := 137) (by decide +kernel) (fun c10 => ?_) (fun c10 => ?_)
            · rw [if_pos c10] at e9
              obtain rfl := Option.some.inj e9
              obtain rfl := Option.some.inj (show some ((.inl x9.2) : (SG) ⊕ (Int32 × SG)) = some y9 from hy9)
              refine RN.dropB [true, true, false, false] rfl ?_
              exact hK9
            · rw [if_neg c10] at e9
              refine RM.blk [(1, 2, 0, .null), (4, 3, 0, .null)] (pc' := 68) (L' := [some (.ref 76), some (.int (x4.1)), some (.int x9.1), some (.int x9.1)]) (st' := []) (σ1 := x9.2) (by decide +kernel) rfl ?_
              have hL11 : ∀ (n : Nat) (x11 : Int32) (y11 : Int32), lpW (L_Ref_lay_68 x9 (x4.1) x9.1) n x11 = some y11 → RN 2 M_Ref_lay (some (.int rr)) so 107 [some (.ref 76), some (.int (x4.1)), some (.int x9.1), some (.int y11)] [] x9.2 → RN 2 M_Ref_lay (some (.int rr)) so 68 [some (.ref 76), some (.int (x4.1)), some (.int x9.1), some (.int x11)] [] x9.2 := by
                intro n
                induction n with
                | zero => intro x11 y11 hy11; cases hy11
                | succ n ih11 =>
                  intro x11 y11 hy11 hK11
                  obtain ⟨z11, e11, hy11⟩ := ob_some hy11
                  unfold L_Ref_lay_68 at e11
                  refine RM.blk [(1, 3, 0, .null), (2, 0, 0, .null), (3, 12, 0, .null)] (pc' := 73) (L' := [some (.ref 76), some (.int (x4.1)), some (.int (x9.1)), some (.int x11)]) (st' := [.int (x9.2 76 0), .int x11]) (σ1 := x9.2) (by decide +kernel) rfl ?_
                  refine RM.icmp_ge (tgt := 107) (by decide +kernel) (fun c12 => ?_) (fun c12 => ?_)
                  · rw [if_pos c12] at e11
                    obtain rfl := Option.some.inj e11
                    obtain rfl := Option.some.inj (show some (x11 : Int32) = some y11 from hy11)
                    refine RN.dropB [true, true, true, true] rfl ?_
                    exact hK11
                  · rw [if_neg c12] at e11
                    refine RM.blk [(2, 0, 0, .null), (3, 12, 2, .null), (0, 0, 0, .int 24), (1, 1, 0, .null), (7, 0, 0, .null), (1, 3, 0, .null), (5, 0, 0, .null)] (pc' := 86) (L' := [some (.ref 76), some (.int (x4.1)), some (.int (x9.1)), some (.int x11)]) (st' := [.int ((24 * x4.1) + x11), .ref 77]) (σ1 := x9.2) (by decide +kernel) rfl ?_
                    obtain ⟨g13, e11⟩ := og_some e11
                    refine RM.iald (q := 77) (n := 240) (by decide +kernel) rfl (vin_of g13) ?_
                    refine RM.blk [(2, 0, 0, .null), (3, 12, 2, .null), (0, 0, 0, .int 24), (1, 1, 0, .null), (7, 0, 0, .null), (1, 2, 0, .null), (5, 0, 0, .null)] (pc' := 97) (L' := [some (.ref 76), some (.int (x4.1)), some (.int (x9.1)), some (.int x11)]) (st' := [.int ((24 * x4.1) + x9.1), .ref 77, .int (x9.2 77 (ix ((24 * x4.1) + x11)))]) (σ1 := x9.2) (by decide +kernel) rfl ?_
                    obtain ⟨g14, e11⟩ := og_some e11
                    refine RM.iald (q := 77) (n := 240) (by decide +kernel) rfl (vin_of g14) ?_
                    refine RM.icmp_ne (tgt := 107) (by decide +kernel) (fun c15 => ?_) (fun c15 => ?_)
                    · rw [if_neg c15] at e11
                      obtain rfl := Option.some.inj e11
                      obtain rfl := Option.some.inj (show some (x11 : Int32) = some y11 from hy11)
                      refine RN.dropB [true, true, true, true] rfl ?_
                      exact hK11
                    · rw [if_pos c15] at e11
                      refine RM.blk [(10, 3, 0, .int 1), (23, 0, 0, .null)] (pc' := 68) (L' := [some (.ref 76), some (.int (x4.1)), some (.int (x9.1)), some (.int (x11 + 1))]) (st' := []) (σ1 := x9.2) (by decide +kernel) rfl ?_
                      obtain rfl := Option.some.inj e11
                      refine RN.dropB [true, true, true, true] rfl ?_
                      exact ih11 (x11 + 1) _ hy11 hK11
              obtain ⟨y11, hl11, e9⟩ := ob_some e9
              refine RN.dropB [true, true, true, true] rfl ?_
              refine hL11 FU x9.1 y11 hl11 ?_
              refine RM.blk [(2, 0, 0, .null), (1, 1, 0, .null), (1, 2, 0, .null), (1, 3, 0, .null)] (pc' := 111) (L' := [some (.ref 76), some (.int (x4.1)), some (.int x9.1), some (.int y11)]) (st' := [.int y11, .int x9.1, .int (x4.1), .ref 76]) (σ1 := x9.2) (by decide +kernel) rfl ?_
              obtain ⟨v16, hv16, e9⟩ := ob_some e9
              refine RN.callV [.int (x4.1), .int x9.1, .int y11] (s_Ref_strip x9.2 (x4.1) x9.1 y11 v16.1 v16.2 hv16) [] (pc3 := 114) (st3 := [.int (bI v16.1)]) (by decide +kernel) mk_Ref_strip (by decide) ?_
              refine RM.zne (tgt := 132) (by decide +kernel) (fun c17 => ?_) (fun c17 => ?_)
              · rw [if_pos c17] at e9
                refine RM.blk [(1, 3, 0, .null), (4, 2, 0, .null), (23, 0, 0, .null)] (pc' := 58) (L' := [some (.ref 76), some (.int (x4.1)), some (.int y11), some (.int y11)]) (st' := []) (σ1 := v16.2) (by decide +kernel) rfl ?_
                obtain rfl := Option.some.inj e9
                refine RN.dropB [true, true, true, false] rfl ?_
                exact ih9 (y11, v16.2) _ hy9 hK9
              · rw [if_neg (bf c17)] at e9
                refine RM.blk [(2, 0, 0, .null)] (pc' := 118) (L' := [some (.ref 76), some (.int (x4.1)), some (.int x9.1), some (.int y11)]) (st' := [.ref 76]) (σ1 := v16.2) (by decide +kernel) rfl ?_
                refine RN.callV [] (s_Ref_goes v16.2 _ rfl) [] (pc3 := 121) (st3 := []) (by decide +kernel) mk_Ref_goes (by decide) ?_
                refine RM.blk [(0, 0, 0, .int (-1000)), (0, 0, 0, .int 24), (1, 1, 0, .null), (7, 0, 0, .null), (6, 0, 0, .null), (1, 2, 0, .null), (6, 0, 0, .null)] (pc' := 131) (L' := [some (.ref 76), some (.int (x4.1)), some (.int x9.1), some (.int y11)]) (st' := [.int (((-1000) - (24 * x4.1)) - x9.1)]) (σ1 := (F_Ref_goes v16.2)) (by decide +kernel) rfl ?_
                obtain rfl := Option.some.inj e9
                obtain rfl := Option.some.inj (show some (.inr ((((-1000) - (24 * x4.1)) - x9.1), (F_Ref_goes v16.2)) : (SG) ⊕ (Int32 × SG)) = some y9 from hy9)
                obtain ⟨rfl, rfl⟩ := Prod.mk.inj (show (((((-1000) - (24 * x4.1)) - x9.1), (F_Ref_goes v16.2)) : Int32 × SG) = (rr, so) from hK9)
                exact RM.reti (by decide +kernel) rfl
        obtain ⟨y9, hl9, e4⟩ := ob_some e4
        refine RN.dropB [true, true, true, false] rfl ?_
        refine hL9 FU (0, y6) y9 hl9 ?_
        rcases y9 with y9 | q9
        · simp only [Sum.elim_inl] at e4 ⊢
          refine RM.blk [(0, 0, 0, .int 0), (4, 3, 0, .null)] (pc' := 139) (L' := [some (.ref 76), some (.int x4.1), none, some (.int 0)]) (st' := []) (σ1 := y9) (by decide +kernel) rfl ?_
          have hL18 : ∀ (n : Nat) (x18 : Int32 × SG) (y18 : SG), lpW L_Ref_lay_139 n x18 = some y18 → RN 2 M_Ref_lay (some (.int rr)) so 163 [some (.ref 76), some (.int x4.1), none, none] [] y18 → RN 2 M_Ref_lay (some (.int rr)) so 139 [some (.ref 76), some (.int x4.1), none, some (.int x18.1)] [] x18.2 := by
            intro n
            induction n with
            | zero => intro x18 y18 hy18; cases hy18
            | succ n ih18 =>
              intro x18 y18 hy18 hK18
              obtain ⟨z18, e18, hy18⟩ := ob_some hy18
              unfold L_Ref_lay_139 at e18
              refine RM.blk [(1, 3, 0, .null), (0, 0, 0, .int 25)] (pc' := 142) (L' := [some (.ref 76), some (.int (x4.1)), none, some (.int x18.1)]) (st' := [.int 25, .int x18.1]) (σ1 := x18.2) (by decide +kernel) rfl ?_
              refine RM.icmp_ge (tgt := 163) (by decide +kernel) (fun c19 => ?_) (fun c19 => ?_)
              · rw [if_pos c19] at e18
                obtain rfl := Option.some.inj e18
                obtain rfl := Option.some.inj (show some (x18.2 : SG) = some y18 from hy18)
                refine RN.dropB [true, true, false, false] rfl ?_
                exact hK18
              · rw [if_neg c19] at e18
                refine RM.blk [(2, 0, 0, .null), (3, 12, 24, .null), (1, 3, 0, .null), (2, 0, 0, .null), (3, 12, 25, .null), (1, 3, 0, .null)] (pc' := 155) (L' := [some (.ref 76), some (.int (x4.1)), none, some (.int x18.1)]) (st' := [.int x18.1, .ref 93, .int x18.1, .ref 92]) (σ1 := x18.2) (by decide +kernel) rfl ?_
                obtain ⟨g20, e18⟩ := og_some e18
                refine RM.zald (q := 93) (n := 25) (by decide +kernel) rfl (vin_of g20) ?_
                obtain ⟨g21, e18⟩ := og_some e18
                obtain ⟨g22, e18⟩ := og_some e18
                refine RM.zast (q := 92) (n := 25) (by decide +kernel) rfl (vin_of g21) (nbz_of g22) ?_
                generalize ns23 : (up x18.2 92 (ix x18.1) (x18.2 93 (ix x18.1))) = s23 at e18 ⊢
                replace e18 := nm_h e18
                refine RM.blk [(10, 3, 0, .int 1), (23, 0, 0, .null)] (pc' := 139) (L' := [some (.ref 76), some (.int (x4.1)), none, some (.int (x18.1 + 1))]) (st' := []) (σ1 := s23) (by decide +kernel) rfl ?_
                obtain rfl := Option.some.inj e18
                refine RN.dropB [true, true, false, true] rfl ?_
                exact ih18 ((x18.1 + 1), s23) _ hy18 hK18
          obtain ⟨y18, hl18, e4⟩ := ob_some e4
          refine RN.dropB [true, true, false, true] rfl ?_
          refine hL18 FU (0, y9) y18 hl18 ?_
          refine RM.blk [(10, 1, 0, .int 1), (23, 0, 0, .null)] (pc' := 27) (L' := [some (.ref 76), some (.int (x4.1 + 1)), none, none]) (st' := []) (σ1 := y18) (by decide +kernel) rfl ?_
          obtain rfl := Option.some.inj e4
          refine RN.dropB [true, true, false, false] rfl ?_
          exact ih4 ((x4.1 + 1), y18) _ hy4 hK4
        · simp only [Sum.elim_inr] at e4 ⊢
          obtain rfl := Option.some.inj e4
          obtain rfl := Option.some.inj (show some (.inr q9 : (SG) ⊕ (Int32 × SG)) = some y4 from hy4)
          exact hK4
  obtain ⟨y4, hl4, h⟩ := ob_some h
  refine RN.dropB [true, true, false, false] rfl ?_
  refine hL4 FU (0, y1) y4 hl4 ?_
  rcases y4 with y4 | q4
  · simp only [Sum.elim_inl] at h ⊢
    refine RM.blk [(2, 0, 0, .null), (0, 0, 0, .int 1), (16, 12, 7, .null), (2, 0, 0, .null), (3, 12, 10, .null)] (pc' := 178) (L' := [some (.ref 76), none, none, none]) (st' := [.int ((up y4 76 7 1) 76 10)]) (σ1 := (up y4 76 7 1)) (by decide +kernel) rfl ?_
    obtain ⟨rfl, rfl⟩ := Prod.mk.inj (Option.some.inj h)
    exact RM.reti (by decide +kernel) rfl
  · simp only [Sum.elim_inr] at h ⊢
    exact Option.some.inj h
def M_Ref_at : MI := (yX12_at, cX12_at, 4, some .int, 12)
theorem mk_Ref_at : mOK M_Ref_at 2 = true := by decide +kernel
set_option maxRecDepth 100000 in
set_option maxHeartbeats 4000000 in
theorem s_Ref_at (σ : SG) (p0 : Int32) (p1 : Int32) (rr : Int32) (h : F_Ref_at σ p0 p1 = some rr) : SpN 3 M_Ref_at [.ref 76, .int p0, .int p1] σ (some (.int rr)) σ := by
  unfold F_Ref_at at h
  refine Sp.of mk_Ref_at rfl (Nat.le_of_ble_eq_true rfl) ?_
  refine RM.blk [(2, 0, 0, .null), (1, 1, 0, .null), (1, 2, 0, .null)] (pc' := 3) (L' := [some (.ref 76), some (.int p0), some (.int p1), none]) (st' := [.int p1, .int p0, .ref 76]) (σ1 := σ) (by decide +kernel) rfl ?_
  refine RN.callV [.int p0, .int p1] (s_Ref_isPlace σ p0 p1) [] (pc3 := 6) (st3 := [.int (bI (F_Ref_isPlace σ p0 p1))]) (by decide +kernel) mk_Ref_isPlace (by decide) ?_
  refine RM.zne (tgt := 12) (by decide +kernel) (fun c1 => ?_) (fun c1 => ?_)
  · rw [if_pos c1] at h
    refine RM.blk [(0, 0, 0, .int 0), (4, 3, 0, .null)] (pc' := 14) (L' := [some (.ref 76), some (.int p0), some (.int p1), some (.int 0)]) (st' := []) (σ1 := σ) (by decide +kernel) rfl ?_
    have hL2 : ∀ (n : Nat) (x2 : Int32) (y2 : (Unit) ⊕ (Int32)), lpW (L_Ref_at_14 σ p0 p1) n x2 = some y2 → Sum.elim (fun y2 : Unit => RN 3 M_Ref_at (some (.int rr)) σ 67 [none, none, none, none] [] σ) (fun q : Int32 => q = rr) y2 → RN 3 M_Ref_at (some (.int rr)) σ 14 [some (.ref 76), some (.int p0), some (.int p1), some (.int x2)] [] σ := by
      intro n
      induction n with
      | zero => intro x2 y2 hy2; cases hy2
      | succ n ih2 =>
        intro x2 y2 hy2 hK2
        obtain ⟨z2, e2, hy2⟩ := ob_some hy2
        unfold L_Ref_at_14 at e2
        refine RM.blk [(1, 3, 0, .null), (2, 0, 0, .null), (3, 12, 10, .null)] (pc' := 19) (L' := [some (.ref 76), some (.int p0), some (.int p1), some (.int x2)]) (st' := [.int (σ 76 10), .int x2]) (σ1 := σ) (by decide +kernel) rfl ?_
        refine RM.icmp_ge (tgt := 67) (by decide +kernel) (fun c3 => ?_) (fun c3 => ?_)
        · rw [if_pos c3] at e2
          obtain rfl := Option.some.inj e2
          obtain rfl := Option.some.inj (show some ((.inl ()) : (Unit) ⊕ (Int32)) = some y2 from hy2)
          refine RN.dropB [false, false, false, false] rfl ?_
          exact hK2
        · rw [if_neg c3] at e2
          refine RM.blk [(2, 0, 0, .null), (3, 12, 11, .null), (1, 3, 0, .null)] (pc' := 27) (L' := [some (.ref 76), some (.int p0), some (.int p1), some (.int x2)]) (st' := [.int x2, .ref 82]) (σ1 := σ) (by decide +kernel) rfl ?_
          obtain ⟨g4, e2⟩ := og_some e2
          refine RM.iald (q := 82) (n := 240) (by decide +kernel) rfl (vin_of g4) ?_
          refine RM.blk [(1, 2, 0, .null)] (pc' := 29) (L' := [some (.ref 76), some (.int p0), some (.int p1), some (.int x2)]) (st' := [.int p1, .int (σ 82 (ix x2))]) (σ1 := σ) (by decide +kernel) rfl ?_
          refine RM.icmp_ne (tgt := 61) (by decide +kernel) (fun c5 => ?_) (fun c5 => ?_)
          · rw [if_neg c5] at e2
            refine RM.blk [(10, 3, 0, .int 1), (23, 0, 0, .null)] (pc' := 14) (L' := [some (.ref 76), some (.int p0), some (.int p1), some (.int (x2 + 1))]) (st' := []) (σ1 := σ) (by decide +kernel) rfl ?_
            obtain rfl := Option.some.inj e2
            refine RN.dropB [true, true, true, true] rfl ?_
            exact ih2 (x2 + 1) _ hy2 hK2
          · rw [if_pos c5] at e2
            refine RM.blk [(1, 1, 0, .null), (2, 0, 0, .null), (3, 12, 12, .null), (1, 3, 0, .null)] (pc' := 38) (L' := [some (.ref 76), some (.int p0), some (.int p1), some (.int x2)]) (st' := [.int x2, .ref 83, .int p0]) (σ1 := σ) (by decide +kernel) rfl ?_
            obtain ⟨g6, e2⟩ := og_some e2
            refine RM.iald (q := 83) (n := 240) (by decide +kernel) rfl (vin_of g6) ?_
            refine RM.icmp_lt (tgt := 61) (by decide +kernel) (fun c7 => ?_) (fun c7 => ?_)
            · rw [if_pos c7] at e2
              refine RM.blk [(10, 3, 0, .int 1), (23, 0, 0, .null)] (pc' := 14) (L' := [some (.ref 76), some (.int p0), some (.int p1), some (.int (x2 + 1))]) (st' := []) (σ1 := σ) (by decide +kernel) rfl ?_
              obtain rfl := Option.some.inj e2
              refine RN.dropB [true, true, true, true] rfl ?_
              exact ih2 (x2 + 1) _ hy2 hK2
            · rw [if_neg c7] at e2
              refine RM.blk [(1, 1, 0, .null), (2, 0, 0, .null), (3, 12, 12, .null), (1, 3, 0, .null)] (pc' := 48) (L' := [some (.ref 76), some (.int p0), some (.int p1), some (.int x2)]) (st' := [.int x2, .ref 83, .int p0]) (σ1 := σ) (by decide +kernel) rfl ?_
              obtain ⟨g8, e2⟩ := og_some e2
              refine RM.iald (q := 83) (n := 240) (by decide +kernel) rfl (vin_of g8) ?_
              refine RM.blk [(2, 0, 0, .null), (3, 12, 13, .null), (1, 3, 0, .null)] (pc' := 54) (L' := [some (.ref 76), some (.int p0), some (.int p1), some (.int x2)]) (st' := [.int x2, .ref 84, .int (σ 83 (ix x2)), .int p0]) (σ1 := σ) (by decide +kernel) rfl ?_
              obtain ⟨g9, e2⟩ := og_some e2
              refine RM.iald (q := 84) (n := 240) (by decide +kernel) rfl (vin_of g9) ?_
              refine RM.blk [(5, 0, 0, .null)] (pc' := 56) (L' := [some (.ref 76), some (.int p0), some (.int p1), some (.int x2)]) (st' := [.int ((σ 83 (ix x2)) + (σ 84 (ix x2))), .int p0]) (σ1 := σ) (by decide +kernel) rfl ?_
              refine RM.icmp_ge (tgt := 61) (by decide +kernel) (fun c10 => ?_) (fun c10 => ?_)
              · rw [if_pos c10] at e2
                refine RM.blk [(10, 3, 0, .int 1), (23, 0, 0, .null)] (pc' := 14) (L' := [some (.ref 76), some (.int p0), some (.int p1), some (.int (x2 + 1))]) (st' := []) (σ1 := σ) (by decide +kernel) rfl ?_
                obtain rfl := Option.some.inj e2
                refine RN.dropB [true, true, true, true] rfl ?_
                exact ih2 (x2 + 1) _ hy2 hK2
              · rw [if_neg c10] at e2
                refine RM.blk [(1, 3, 0, .null)] (pc' := 60) (L' := [some (.ref 76), some (.int p0), some (.int p1), some (.int x2)]) (st' := [.int x2]) (σ1 := σ) (by decide +kernel) rfl ?_
                obtain rfl := Option.some.inj e2
                obtain rfl := Option.some.inj (show some (.inr x2 : (Unit) ⊕ (Int32)) = some y2 from hy2)
                obtain rfl := (show (x2 : Int32) = rr from hK2)
                exact RM.reti (by decide +kernel) rfl
    obtain ⟨y2, hl2, h⟩ := ob_some h
    refine RN.dropB [true, true, true, true] rfl ?_
    refine hL2 FU 0 y2 hl2 ?_
    rcases y2 with y2 | q2
    · simp only [Sum.elim_inl] at h ⊢
      refine RM.blk [(0, 0, 0, .int (-1))] (pc' := 68) (L' := [none, none, none, none]) (st' := [.int (-1)]) (σ1 := σ) (by decide +kernel) rfl ?_
      obtain rfl := (Option.some.inj h)
      exact RM.reti (by decide +kernel) rfl
    · simp only [Sum.elim_inr] at h ⊢
      exact Option.some.inj h
  · rw [if_neg (bf c1)] at h
    refine RM.blk [(0, 0, 0, .int (-2))] (pc' := 11) (L' := [some (.ref 76), some (.int p0), some (.int p1), none]) (st' := [.int (-2)]) (σ1 := σ) (by decide +kernel) rfl ?_
    obtain rfl := (Option.some.inj h)
    exact RM.reti (by decide +kernel) rfl
def M_Ref_faceDown : MI := (yX12_faceDown, cX12_faceDown, 4, some .int, 12)
theorem mk_Ref_faceDown : mOK M_Ref_faceDown 1 = true := by decide +kernel
set_option maxRecDepth 100000 in
set_option maxHeartbeats 4000000 in
theorem s_Ref_faceDown (σ : SG) (p0 : Int32) (rr : Int32) (h : F_Ref_faceDown σ p0 = some rr) : SpN 1 M_Ref_faceDown [.ref 76, .int p0] σ (some (.int rr)) σ := by
  unfold F_Ref_faceDown at h
  refine Sp.of mk_Ref_faceDown rfl (Nat.le_of_ble_eq_true rfl) ?_
  refine RM.blk [(2, 0, 0, .null), (3, 12, 16, .null), (1, 1, 0, .null)] (pc' := 5) (L' := [some (.ref 76), some (.int p0), none, none]) (st' := [.int p0, .ref 87]) (σ1 := σ) (by decide +kernel) rfl ?_
  obtain ⟨g1, h⟩ := og_some h
  refine RM.iald (q := 87) (n := 240) (by decide +kernel) rfl (vin_of g1) ?_
  refine RM.blk [(0, 0, 0, .int (-1))] (pc' := 7) (L' := [some (.ref 76), some (.int p0), none, none]) (st' := [.int (-1), .int (σ 87 (ix p0))]) (σ1 := σ) (by decide +kernel) rfl ?_
  refine RM.icmp_ne (tgt := 12) (by decide +kernel) (fun c2 => ?_) (fun c2 => ?_)
  · rw [if_neg c2] at h
    refine RM.blk [(0, 0, 0, .int 0), (4, 2, 0, .null), (1, 1, 0, .null), (0, 0, 0, .int 1), (5, 0, 0, .null), (4, 3, 0, .null)] (pc' := 18) (L' := [some (.ref 76), some (.int p0), some (.int 0), some (.int (p0 + 1))]) (st' := []) (σ1 := σ) (by decide +kernel) rfl ?_
    have hL3 : ∀ (n : Nat) (x3 : Int32 × Int32) (y3 : Int32), lpW (L_Ref_faceDown_18 σ p0) n x3 = some y3 → RN 1 M_Ref_faceDown (some (.int rr)) σ 75 [none, none, some (.int y3), none] [] σ → RN 1 M_Ref_faceDown (some (.int rr)) σ 18 [some (.ref 76), some (.int p0), some (.int x3.1), some (.int x3.2)] [] σ := by
      intro n
      induction n with
      | zero => intro x3 y3 hy3; cases hy3
      | succ n ih3 =>
        intro x3 y3 hy3 hK3
        obtain ⟨z3, e3, hy3⟩ := ob_some hy3
        unfold L_Ref_faceDown_18 at e3
        refine RM.blk [(1, 3, 0, .null), (2, 0, 0, .null), (3, 12, 10, .null)] (pc' := 23) (L' := [some (.ref 76), some (.int p0), some (.int x3.1), some (.int x3.2)]) (st' := [.int (σ 76 10), .int x3.2]) (σ1 := σ) (by decide +kernel) rfl ?_
        refine RM.icmp_ge (tgt := 75) (by decide +kernel) (fun c4 => ?_) (fun c4 => ?_)
        · rw [if_pos c4] at e3
          obtain rfl := Option.some.inj e3
          obtain rfl := Option.some.inj (show some (x3.1 : Int32) = some y3 from hy3)
          refine RN.dropB [false, false, true, false] rfl ?_
          exact hK3
        · rw [if_neg c4] at e3
          refine RM.blk [(1, 2, 0, .null), (2, 0, 0, .null), (3, 12, 11, .null), (1, 3, 0, .null)] (pc' := 32) (L' := [some (.ref 76), some (.int p0), some (.int x3.1), some (.int x3.2)]) (st' := [.int x3.2, .ref 82, .int x3.1]) (σ1 := σ) (by decide +kernel) rfl ?_
          obtain ⟨g5, e3⟩ := og_some e3
          refine RM.iald (q := 82) (n := 240) (by decide +kernel) rfl (vin_of g5) ?_
          refine RM.blk [(2, 0, 0, .null), (3, 12, 11, .null), (1, 1, 0, .null)] (pc' := 38) (L' := [some (.ref 76), some (.int p0), some (.int x3.1), some (.int x3.2)]) (st' := [.int p0, .ref 82, .int (σ 82 (ix x3.2)), .int x3.1]) (σ1 := σ) (by decide +kernel) rfl ?_
          obtain ⟨g6, e3⟩ := og_some e3
          refine RM.iald (q := 82) (n := 240) (by decide +kernel) rfl (vin_of g6) ?_
          refine RM.icmp_ne (tgt := 66) (by decide +kernel) (fun c7 => ?_) (fun c7 => ?_)
          · rw [if_neg c7] at e3
            refine RM.blk [(0, 0, 0, .int 0), (5, 0, 0, .null), (4, 2, 0, .null), (10, 3, 0, .int 1), (23, 0, 0, .null)] (pc' := 18) (L' := [some (.ref 76), some (.int p0), some (.int (x3.1 + 0)), some (.int (x3.2 + 1))]) (st' := []) (σ1 := σ) (by decide +kernel) rfl ?_
            obtain rfl := Option.some.inj e3
            refine RN.dropB [true, true, true, true] rfl ?_
            exact ih3 ((x3.1 + 0), (x3.2 + 1)) _ hy3 hK3
          · rw [if_pos c7] at e3
            refine RM.blk [(2, 0, 0, .null), (3, 12, 16, .null), (1, 3, 0, .null)] (pc' := 47) (L' := [some (.ref 76), some (.int p0), some (.int x3.1), some (.int x3.2)]) (st' := [.int x3.2, .ref 87, .int x3.1]) (σ1 := σ) (by decide +kernel) rfl ?_
            obtain ⟨g8, e3⟩ := og_some e3
            refine RM.iald (q := 87) (n := 240) (by decide +kernel) rfl (vin_of g8) ?_
            refine RM.blk [(2, 0, 0, .null), (3, 12, 16, .null), (1, 1, 0, .null)] (pc' := 53) (L' := [some (.ref 76), some (.int p0), some (.int x3.1), some (.int x3.2)]) (st' := [.int p0, .ref 87, .int (σ 87 (ix x3.2)), .int x3.1]) (σ1 := σ) (by decide +kernel) rfl ?_
            obtain ⟨g9, e3⟩ := og_some e3
            refine RM.iald (q := 87) (n := 240) (by decide +kernel) rfl (vin_of g9) ?_
            refine RM.icmp_ne (tgt := 66) (by decide +kernel) (fun c10 => ?_) (fun c10 => ?_)
            · rw [if_neg c10] at e3
              refine RM.blk [(0, 0, 0, .int 0), (5, 0, 0, .null), (4, 2, 0, .null), (10, 3, 0, .int 1), (23, 0, 0, .null)] (pc' := 18) (L' := [some (.ref 76), some (.int p0), some (.int (x3.1 + 0)), some (.int (x3.2 + 1))]) (st' := []) (σ1 := σ) (by decide +kernel) rfl ?_
              obtain rfl := Option.some.inj e3
              refine RN.dropB [true, true, true, true] rfl ?_
              exact ih3 ((x3.1 + 0), (x3.2 + 1)) _ hy3 hK3
            · rw [if_pos c10] at e3
              refine RM.blk [(2, 0, 0, .null), (3, 12, 13, .null), (1, 3, 0, .null)] (pc' := 62) (L' := [some (.ref 76), some (.int p0), some (.int x3.1), some (.int x3.2)]) (st' := [.int x3.2, .ref 84, .int x3.1]) (σ1 := σ) (by decide +kernel) rfl ?_
              obtain ⟨g11, e3⟩ := og_some e3
              refine RM.iald (q := 84) (n := 240) (by decide +kernel) rfl (vin_of g11) ?_
              refine RM.blk [(23, 0, 0, .null), (5, 0, 0, .null), (4, 2, 0, .null), (10, 3, 0, .int 1), (23, 0, 0, .null)] (pc' := 18) (L' := [some (.ref 76), some (.int p0), some (.int (x3.1 + (σ 84 (ix x3.2)))), some (.int (x3.2 + 1))]) (st' := []) (σ1 := σ) (by decide +kernel) rfl ?_
              obtain rfl := Option.some.inj e3
              refine RN.dropB [true, true, true, true] rfl ?_
              exact ih3 ((x3.1 + (σ 84 (ix x3.2))), (x3.2 + 1)) _ hy3 hK3
    obtain ⟨y3, hl3, h⟩ := ob_some h
    refine RN.dropB [true, true, true, true] rfl ?_
    refine hL3 FU (0, (p0 + 1)) y3 hl3 ?_
    refine RM.blk [(1, 2, 0, .null)] (pc' := 76) (L' := [none, none, some (.int y3), none]) (st' := [.int y3]) (σ1 := σ) (by decide +kernel) rfl ?_
    obtain rfl := (Option.some.inj h)
    exact RM.reti (by decide +kernel) rfl
  · rw [if_pos c2] at h
    refine RM.blk [(0, 0, 0, .int (-1))] (pc' := 11) (L' := [some (.ref 76), some (.int p0), none, none]) (st' := [.int (-1)]) (σ1 := σ) (by decide +kernel) rfl ?_
    obtain rfl := (Option.some.inj h)
    exact RM.reti (by decide +kernel) rfl
def M_Ref_cube : MI := (yX12_cube, cX12_cube, 3, some .int, 12)
theorem mk_Ref_cube : mOK M_Ref_cube 2 = true := by decide +kernel
set_option maxRecDepth 100000 in
set_option maxHeartbeats 4000000 in
theorem s_Ref_cube (σ : SG) (p0 : Int32) (p1 : Int32) (rr : Int32) (h : F_Ref_cube σ p0 p1 = some rr) : SpN 2 M_Ref_cube [.ref 76, .int p0, .int p1] σ (some (.int rr)) σ := by
  unfold F_Ref_cube at h
  refine Sp.of mk_Ref_cube rfl (Nat.le_of_ble_eq_true rfl) ?_
  refine RM.blk [(1, 2, 0, .null), (0, 0, 0, .int 0), (0, 0, 0, .int 6)] (pc' := 4) (L' := [some (.ref 76), some (.int p0), some (.int p1)]) (st' := [.int 6, .int 0, .int p1]) (σ1 := σ) (by decide +kernel) rfl ?_
  refine RN.callS [.int p1, .int 0, .int 6] (s_Ref_in σ p1 0 6) [] (pc3 := 7) (st3 := [.int (bI (F_Ref_in p1 0 6))]) (by decide +kernel) mk_Ref_in (by decide) ?_
  refine RM.zne (tgt := 13) (by decide +kernel) (fun c1 => ?_) (fun c1 => ?_)
  · rw [if_pos c1] at h
    refine RM.blk [(1, 1, 0, .null), (0, 0, 0, .int 0), (2, 0, 0, .null), (3, 12, 10, .null), (0, 0, 0, .int 1), (6, 0, 0, .null)] (pc' := 21) (L' := [some (.ref 76), some (.int p0), some (.int p1)]) (st' := [.int ((σ 76 10) - 1), .int 0, .int p0]) (σ1 := σ) (by decide +kernel) rfl ?_
    refine RN.callS [.int p0, .int 0, .int ((σ 76 10) - 1)] (s_Ref_in σ p0 0 ((σ 76 10) - 1)) [] (pc3 := 24) (st3 := [.int (bI (F_Ref_in p0 0 ((σ 76 10) - 1)))]) (by decide +kernel) mk_Ref_in (by decide) ?_
    refine RM.zne (tgt := 29) (by decide +kernel) (fun c2 => ?_) (fun c2 => ?_)
    · rw [if_pos c2] at h
      refine RM.blk [(1, 2, 0, .null)] (pc' := 30) (L' := [some (.ref 76), some (.int p0), some (.int p1)]) (st' := [.int p1]) (σ1 := σ) (by decide +kernel) rfl ?_
      refine RM.tsw (ts := [68, 75, 82, 89, 96, 103]) (df := 110) (by decide +kernel) (by decide) ⟨fun c3 => ?_, fun c3 => ?_, fun c3 => ?_, fun c3 => ?_, fun c3 => ?_, fun c3 => ?_, trivial⟩ (fun c3 => ?_)
      · rw [tsS_at (j := 0) c3 rfl rfl] at h
        refine RM.blk [(2, 0, 0, .null), (3, 12, 11, .null), (1, 1, 0, .null)] (pc' := 73) (L' := [some (.ref 76), some (.int p0), some (.int p1)]) (st' := [.int p0, .ref 82]) (σ1 := σ) (by decide +kernel) rfl ?_
        obtain ⟨g4, h⟩ := og_some h
        refine RM.iald (q := 82) (n := 240) (by decide +kernel) rfl (vin_of g4) ?_
        obtain rfl := (Option.some.inj h)
        exact RM.reti (by decide +kernel) rfl
      · rw [tsS_at (j := 1) c3 rfl rfl] at h
        refine RM.blk [(2, 0, 0, .null), (3, 12, 12, .null), (1, 1, 0, .null)] (pc' := 80) (L' := [some (.ref 76), some (.int p0), some (.int p1)]) (st' := [.int p0, .ref 83]) (σ1 := σ) (by decide +kernel) rfl ?_
        obtain ⟨g5, h⟩ := og_some h
        refine RM.iald (q := 83) (n := 240) (by decide +kernel) rfl (vin_of g5) ?_
        obtain rfl := (Option.some.inj h)
        exact RM.reti (by decide +kernel) rfl
      · rw [tsS_at (j := 2) c3 rfl rfl] at h
        refine RM.blk [(2, 0, 0, .null), (3, 12, 13, .null), (1, 1, 0, .null)] (pc' := 87) (L' := [some (.ref 76), some (.int p0), some (.int p1)]) (st' := [.int p0, .ref 84]) (σ1 := σ) (by decide +kernel) rfl ?_
        obtain ⟨g6, h⟩ := og_some h
        refine RM.iald (q := 84) (n := 240) (by decide +kernel) rfl (vin_of g6) ?_
        obtain rfl := (Option.some.inj h)
        exact RM.reti (by decide +kernel) rfl
      · rw [tsS_at (j := 3) c3 rfl rfl] at h
        refine RM.blk [(2, 0, 0, .null), (3, 12, 14, .null), (1, 1, 0, .null)] (pc' := 94) (L' := [some (.ref 76), some (.int p0), some (.int p1)]) (st' := [.int p0, .ref 85]) (σ1 := σ) (by decide +kernel) rfl ?_
        obtain ⟨g7, h⟩ := og_some h
        refine RM.iald (q := 85) (n := 240) (by decide +kernel) rfl (vin_of g7) ?_
        obtain rfl := (Option.some.inj h)
        exact RM.reti (by decide +kernel) rfl
      · rw [tsS_at (j := 4) c3 rfl rfl] at h
        refine RM.blk [(2, 0, 0, .null), (3, 12, 15, .null), (1, 1, 0, .null)] (pc' := 101) (L' := [some (.ref 76), some (.int p0), some (.int p1)]) (st' := [.int p0, .ref 86]) (σ1 := σ) (by decide +kernel) rfl ?_
        obtain ⟨g8, h⟩ := og_some h
        refine RM.iald (q := 86) (n := 240) (by decide +kernel) rfl (vin_of g8) ?_
        obtain rfl := (Option.some.inj h)
        exact RM.reti (by decide +kernel) rfl
      · rw [tsS_at (j := 5) c3 rfl rfl] at h
        refine RM.blk [(2, 0, 0, .null), (3, 12, 16, .null), (1, 1, 0, .null)] (pc' := 108) (L' := [some (.ref 76), some (.int p0), some (.int p1)]) (st' := [.int p0, .ref 87]) (σ1 := σ) (by decide +kernel) rfl ?_
        obtain ⟨g9, h⟩ := og_some h
        refine RM.iald (q := 87) (n := 240) (by decide +kernel) rfl (vin_of g9) ?_
        obtain rfl := (Option.some.inj h)
        exact RM.reti (by decide +kernel) rfl
      · rw [tsS_out c3 rfl] at h
        refine RM.blk [(2, 0, 0, .null), (1, 1, 0, .null)] (pc' := 112) (L' := [some (.ref 76), some (.int p0), some (.int p1)]) (st' := [.int p0, .ref 76]) (σ1 := σ) (by decide +kernel) rfl ?_
        obtain ⟨v10, hv10, h⟩ := ob_some h
        refine RN.callV [.int p0] (s_Ref_faceDown σ p0 v10 hv10) [] (pc3 := 115) (st3 := [.int v10]) (by decide +kernel) mk_Ref_faceDown (by decide) ?_
        obtain rfl := (Option.some.inj h)
        exact RM.reti (by decide +kernel) rfl
    · rw [if_neg (bf c2)] at h
      refine RM.blk [(0, 0, 0, .int (-1))] (pc' := 28) (L' := [some (.ref 76), some (.int p0), some (.int p1)]) (st' := [.int (-1)]) (σ1 := σ) (by decide +kernel) rfl ?_
      obtain rfl := (Option.some.inj h)
      exact RM.reti (by decide +kernel) rfl
  · rw [if_neg (bf c1)] at h
    refine RM.blk [(0, 0, 0, .int (-2))] (pc' := 12) (L' := [some (.ref 76), some (.int p0), some (.int p1)]) (st' := [.int (-2)]) (σ1 := σ) (by decide +kernel) rfl ?_
    obtain rfl := (Option.some.inj h)
    exact RM.reti (by decide +kernel) rfl
def M_Ref_lot : MI := (yX12_lot, cX12_lot, 5, some .int, 12)
theorem mk_Ref_lot : mOK M_Ref_lot 4 = true := by decide +kernel
set_option maxRecDepth 100000 in
set_option maxHeartbeats 4000000 in
theorem s_Ref_lot (σ : SG) (p0 : Int32) (p1 : Int32) (p2 : Int32) (p3 : Int32) (rr : Int32) (so : SG) (h : F_Ref_lot σ p0 p1 p2 p3 = some (rr, so)) : SpN 3 M_Ref_lot [.ref 76, .int p0, .int p1, .int p2, .int p3] σ (some (.int rr)) so := by
  unfold F_Ref_lot at h
  refine Sp.of mk_Ref_lot rfl (Nat.le_of_ble_eq_true rfl) ?_
  refine RM.blk [(1, 1, 0, .null), (1, 2, 0, .null), (1, 3, 0, .null)] (pc' := 3) (L' := [some (.ref 76), some (.int p0), some (.int p1), some (.int p2), some (.int p3)]) (st' := [.int p2, .int p1, .int p0]) (σ1 := σ) (by decide +kernel) rfl ?_
  refine RN.callS [.int p0, .int p1, .int p2] (s_Ref_isColour σ p0 p1 p2) [] (pc3 := 6) (st3 := [.int (bI (F_Ref_isColour p0 p1 p2))]) (by decide +kernel) mk_Ref_isColour (by decide) ?_
  refine RM.zeq (tgt := 21) (by decide +kernel) (fun c1 => ?_) (fun c1 => ?_)
  · rw [if_neg (bf c1)] at h
    refine RM.blk [(0, 0, 0, .int (-2))] (pc' := 23) (L' := [some (.ref 76), some (.int p0), some (.int p1), some (.int p2), some (.int p3)]) (st' := [.int (-2)]) (σ1 := σ) (by decide +kernel) rfl ?_
    obtain ⟨rfl, rfl⟩ := Prod.mk.inj (Option.some.inj h)
    exact RM.reti (by decide +kernel) rfl
  · rw [if_pos c1] at h
    refine RM.blk [(1, 4, 0, .null), (0, 0, 0, .int 0), (0, 0, 0, .int 1000)] (pc' := 15) (L' := [some (.ref 76), some (.int p0), some (.int p1), some (.int p2), some (.int p3)]) (st' := [.int 1000, .int 0, .int p3]) (σ1 := σ) (by decide +kernel) rfl ?_
    refine RN.callS [.int p3, .int 0, .int 1000] (s_Ref_in σ p3 0 1000) [] (pc3 := 18) (st3 := [.int (bI (F_Ref_in p3 0 1000))]) (by decide +kernel) mk_Ref_in (by decide) ?_
    refine RM.zne (tgt := 24) (by decide +kernel) (fun c2 => ?_) (fun c2 => ?_)
    · rw [if_pos c2] at h
      refine RM.blk [(2, 0, 0, .null), (3, 12, 18, .null), (0, 0, 0, .int 10)] (pc' := 30) (L' := [some (.ref 76), some (.int p0), some (.int p1), some (.int p2), some (.int p3)]) (st' := [.int 10, .int (σ 76 18)]) (σ1 := σ) (by decide +kernel) rfl ?_
      refine RM.icmp_ne (tgt := 36) (by decide +kernel) (fun c3 => ?_) (fun c3 => ?_)
      · rw [if_neg c3] at h
        refine RM.blk [(2, 0, 0, .null), (3, 12, 19, .null), (0, 0, 0, .int 3), (2, 0, 0, .null), (3, 12, 18, .null), (7, 0, 0, .null), (1, 1, 0, .null)] (pc' := 47) (L' := [some (.ref 76), some (.int p0), some (.int p1), some (.int p2), some (.int p3)]) (st' := [.int p0, .int (3 * (σ 76 18)), .ref 88]) (σ1 := σ) (by decide +kernel) rfl ?_
        obtain ⟨g4, h⟩ := og_some h
        refine RM.iast (q := 88) (n := 30) (by decide +kernel) rfl (vin_of g4) ?_
        refine RM.blk [(2, 0, 0, .null), (3, 12, 19, .null), (0, 0, 0, .int 3), (2, 0, 0, .null), (3, 12, 18, .null), (7, 0, 0, .null), (0, 0, 0, .int 1), (5, 0, 0, .null), (1, 2, 0, .null)] (pc' := 61) (L' := [some (.ref 76), some (.int p0), some (.int p1), some (.int p2), some (.int p3)]) (st' := [.int p1, .int ((3 * ((up σ 88 (ix (3 * (σ 76 18))) p0) 76 18)) + 1), .ref 88]) (σ1 := (up σ 88 (ix (3 * (σ 76 18))) p0)) (by decide +kernel) rfl ?_
        obtain ⟨g5, h⟩ := og_some h
        refine RM.iast (q := 88) (n := 30) (by decide +kernel) rfl (vin_of g5) ?_
        generalize ns6 : (up (up σ 88 (ix (3 * (σ 76 18))) p0) 88 (ix ((3 * ((up σ 88 (ix (3 * (σ 76 18))) p0) 76 18)) + 1)) p1) = s6 at h ⊢
        replace h := nm_h h
        refine RM.blk [(2, 0, 0, .null), (3, 12, 19, .null), (0, 0, 0, .int 3), (2, 0, 0, .null), (3, 12, 18, .null), (7, 0, 0, .null), (0, 0, 0, .int 2), (5, 0, 0, .null), (1, 3, 0, .null)] (pc' := 75) (L' := [some (.ref 76), some (.int p0), some (.int p1), some (.int p2), some (.int p3)]) (st' := [.int p2, .int ((3 * (s6 76 18)) + 2), .ref 88]) (σ1 := s6) (by decide +kernel) rfl ?_
        obtain ⟨g7, h⟩ := og_some h
        refine RM.iast (q := 88) (n := 30) (by decide +kernel) rfl (vin_of g7) ?_
        refine RM.blk [(2, 0, 0, .null), (3, 12, 20, .null), (2, 0, 0, .null), (3, 12, 18, .null), (1, 4, 0, .null)] (pc' := 86) (L' := [some (.ref 76), some (.int p0), some (.int p1), some (.int p2), some (.int p3)]) (st' := [.int p3, .int ((up s6 88 (ix ((3 * (s6 76 18)) + 2)) p2) 76 18), .ref 89]) (σ1 := (up s6 88 (ix ((3 * (s6 76 18)) + 2)) p2)) (by decide +kernel) rfl ?_
        obtain ⟨g8, h⟩ := og_some h
        refine RM.iast (q := 89) (n := 10) (by decide +kernel) rfl (vin_of g8) ?_
        generalize ns9 : (up (up s6 88 (ix ((3 * (s6 76 18)) + 2)) p2) 89 (ix ((up s6 88 (ix ((3 * (s6 76 18)) + 2)) p2) 76 18)) p3) = s9 at h ⊢
        replace h := nm_h h
        refine RM.blk [(2, 0, 0, .null), (11, 0, 0, .null), (3, 12, 18, .null), (0, 0, 0, .int 1), (5, 0, 0, .null), (15, 12, 18, .null), (2, 0, 0, .null), (3, 12, 18, .null), (0, 0, 0, .int 1), (6, 0, 0, .null)] (pc' := 103) (L' := [some (.ref 76), some (.int p0), some (.int p1), some (.int p2), some (.int p3)]) (st' := [.int (((up s9 76 18 ((s9 76 18) + 1)) 76 18) - 1)]) (σ1 := (up s9 76 18 ((s9 76 18) + 1))) (by decide +kernel) rfl ?_
        obtain ⟨rfl, rfl⟩ := Prod.mk.inj (Option.some.inj h)
        exact RM.reti (by decide +kernel) rfl
      · rw [if_pos c3] at h
        refine RM.blk [(0, 0, 0, .int (-4))] (pc' := 35) (L' := [some (.ref 76), some (.int p0), some (.int p1), some (.int p2), some (.int p3)]) (st' := [.int (-4)]) (σ1 := σ) (by decide +kernel) rfl ?_
        obtain ⟨rfl, rfl⟩ := Prod.mk.inj (Option.some.inj h)
        exact RM.reti (by decide +kernel) rfl
    · rw [if_neg (bf c2)] at h
      refine RM.blk [(0, 0, 0, .int (-2))] (pc' := 23) (L' := [some (.ref 76), some (.int p0), some (.int p1), some (.int p2), some (.int p3)]) (st' := [.int (-2)]) (σ1 := σ) (by decide +kernel) rfl ?_
      obtain ⟨rfl, rfl⟩ := Prod.mk.inj (Option.some.inj h)
      exact RM.reti (by decide +kernel) rfl
def M_Ref_left : MI := (yX12_left, cX12_left, 2, some .int, 12)
theorem mk_Ref_left : mOK M_Ref_left 1 = true := by decide +kernel
set_option maxRecDepth 100000 in
set_option maxHeartbeats 4000000 in
theorem s_Ref_left (σ : SG) (p0 : Int32) (rr : Int32) (h : F_Ref_left σ p0 = some rr) : SpN 2 M_Ref_left [.ref 76, .int p0] σ (some (.int rr)) σ := by
  unfold F_Ref_left at h
  refine Sp.of mk_Ref_left rfl (Nat.le_of_ble_eq_true rfl) ?_
  refine RM.blk [(1, 1, 0, .null), (0, 0, 0, .int 0), (2, 0, 0, .null), (3, 12, 18, .null), (0, 0, 0, .int 1), (6, 0, 0, .null)] (pc' := 8) (L' := [some (.ref 76), some (.int p0)]) (st' := [.int ((σ 76 18) - 1), .int 0, .int p0]) (σ1 := σ) (by decide +kernel) rfl ?_
  refine RN.callS [.int p0, .int 0, .int ((σ 76 18) - 1)] (s_Ref_in σ p0 0 ((σ 76 18) - 1)) [] (pc3 := 11) (st3 := [.int (bI (F_Ref_in p0 0 ((σ 76 18) - 1)))]) (by decide +kernel) mk_Ref_in (by decide) ?_
  refine RM.zeq (tgt := 23) (by decide +kernel) (fun c1 => ?_) (fun c1 => ?_)
  · rw [if_neg (bf c1)] at h
    refine RM.blk [(0, 0, 0, .int (-2))] (pc' := 25) (L' := [some (.ref 76), some (.int p0)]) (st' := [.int (-2)]) (σ1 := σ) (by decide +kernel) rfl ?_
    obtain rfl := (Option.some.inj h)
    exact RM.reti (by decide +kernel) rfl
  · rw [if_pos c1] at h
    refine RM.blk [(2, 0, 0, .null), (3, 12, 20, .null), (1, 1, 0, .null)] (pc' := 19) (L' := [some (.ref 76), some (.int p0)]) (st' := [.int p0, .ref 89]) (σ1 := σ) (by decide +kernel) rfl ?_
    obtain ⟨g2, h⟩ := og_some h
    refine RM.iald (q := 89) (n := 10) (by decide +kernel) rfl (vin_of g2) ?_
    refine RM.blk [(23, 0, 0, .null)] (pc' := 25) (L' := [some (.ref 76), some (.int p0)]) (st' := [.int (σ 89 (ix p0))]) (σ1 := σ) (by decide +kernel) rfl ?_
    obtain rfl := (Option.some.inj h)
    exact RM.reti (by decide +kernel) rfl
def M_Ref_more : MI := (yX12_more, cX12_more, 3, some .int, 12)
theorem mk_Ref_more : mOK M_Ref_more 2 = true := by decide +kernel
set_option maxRecDepth 100000 in
set_option maxHeartbeats 4000000 in
theorem s_Ref_more (σ : SG) (p0 : Int32) (p1 : Int32) (rr : Int32) (so : SG) (h : F_Ref_more σ p0 p1 = some (rr, so)) : SpN 2 M_Ref_more [.ref 76, .int p0, .int p1] σ (some (.int rr)) so := by
  unfold F_Ref_more at h
  refine Sp.of mk_Ref_more rfl (Nat.le_of_ble_eq_true rfl) ?_
  refine RM.blk [(1, 1, 0, .null), (0, 0, 0, .int 0), (2, 0, 0, .null), (3, 12, 18, .null), (0, 0, 0, .int 1), (6, 0, 0, .null)] (pc' := 8) (L' := [some (.ref 76), some (.int p0), some (.int p1)]) (st' := [.int ((σ 76 18) - 1), .int 0, .int p0]) (σ1 := σ) (by decide +kernel) rfl ?_
  refine RN.callS [.int p0, .int 0, .int ((σ 76 18) - 1)] (s_Ref_in σ p0 0 ((σ 76 18) - 1)) [] (pc3 := 11) (st3 := [.int (bI (F_Ref_in p0 0 ((σ 76 18) - 1)))]) (by decide +kernel) mk_Ref_in (by decide) ?_
  refine RM.zeq (tgt := 25) (by decide +kernel) (fun c1 => ?_) (fun c1 => ?_)
  · rw [if_neg (bf c1)] at h
    refine RM.blk [(0, 0, 0, .int (-2))] (pc' := 27) (L' := [some (.ref 76), some (.int p0), some (.int p1)]) (st' := [.int (-2)]) (σ1 := σ) (by decide +kernel) rfl ?_
    obtain ⟨rfl, rfl⟩ := Prod.mk.inj (Option.some.inj h)
    exact RM.reti (by decide +kernel) rfl
  · rw [if_pos c1] at h
    refine RM.blk [(1, 2, 0, .null), (0, 0, 0, .int 0), (0, 0, 0, .int 1000)] (pc' := 19) (L' := [some (.ref 76), some (.int p0), some (.int p1)]) (st' := [.int 1000, .int 0, .int p1]) (σ1 := σ) (by decide +kernel) rfl ?_
    refine RN.callS [.int p1, .int 0, .int 1000] (s_Ref_in σ p1 0 1000) [] (pc3 := 22) (st3 := [.int (bI (F_Ref_in p1 0 1000))]) (by decide +kernel) mk_Ref_in (by decide) ?_
    refine RM.zne (tgt := 28) (by decide +kernel) (fun c2 => ?_) (fun c2 => ?_)
    · rw [if_pos c2] at h
      refine RM.blk [(2, 0, 0, .null), (3, 12, 20, .null), (1, 1, 0, .null)] (pc' := 33) (L' := [some (.ref 76), some (.int p0), some (.int p1)]) (st' := [.int p0, .ref 89]) (σ1 := σ) (by decide +kernel) rfl ?_
      obtain ⟨g3, h⟩ := og_some h
      refine RM.iald (q := 89) (n := 10) (by decide +kernel) rfl (vin_of g3) ?_
      refine RM.blk [(1, 2, 0, .null), (5, 0, 0, .null), (0, 0, 0, .int 1000)] (pc' := 39) (L' := [some (.ref 76), some (.int p0), some (.int p1)]) (st' := [.int 1000, .int ((σ 89 (ix p0)) + p1)]) (σ1 := σ) (by decide +kernel) rfl ?_
      refine RM.icmp_le (tgt := 45) (by decide +kernel) (fun c4 => ?_) (fun c4 => ?_)
      · rw [if_pos c4] at h
        refine RM.blk [(2, 0, 0, .null), (3, 12, 20, .null), (1, 1, 0, .null), (12, 0, 0, .null)] (pc' := 51) (L' := [some (.ref 76), some (.int p0), some (.int p1)]) (st' := [.int p0, .ref 89, .int p0, .ref 89]) (σ1 := σ) (by decide +kernel) rfl ?_
        obtain ⟨g5, h⟩ := og_some h
        refine RM.iald (q := 89) (n := 10) (by decide +kernel) rfl (vin_of g5) ?_
        refine RM.blk [(1, 2, 0, .null), (5, 0, 0, .null)] (pc' := 54) (L' := [some (.ref 76), some (.int p0), some (.int p1)]) (st' := [.int ((σ 89 (ix p0)) + p1), .int p0, .ref 89]) (σ1 := σ) (by decide +kernel) rfl ?_
        obtain ⟨g6, h⟩ := og_some h
        refine RM.iast (q := 89) (n := 10) (by decide +kernel) rfl (vin_of g6) ?_
        refine RM.blk [(2, 0, 0, .null), (3, 12, 20, .null), (1, 1, 0, .null)] (pc' := 60) (L' := [some (.ref 76), some (.int p0), some (.int p1)]) (st' := [.int p0, .ref 89]) (σ1 := (up σ 89 (ix p0) ((σ 89 (ix p0)) + p1))) (by decide +kernel) rfl ?_
        obtain ⟨g7, h⟩ := og_some h
        refine RM.iald (q := 89) (n := 10) (by decide +kernel) rfl (vin_of g7) ?_
        obtain ⟨rfl, rfl⟩ := Prod.mk.inj (Option.some.inj h)
        exact RM.reti (by decide +kernel) rfl
      · rw [if_neg c4] at h
        refine RM.blk [(0, 0, 0, .int (-3))] (pc' := 44) (L' := [some (.ref 76), some (.int p0), some (.int p1)]) (st' := [.int (-3)]) (σ1 := σ) (by decide +kernel) rfl ?_
        obtain ⟨rfl, rfl⟩ := Prod.mk.inj (Option.some.inj h)
        exact RM.reti (by decide +kernel) rfl
    · rw [if_neg (bf c2)] at h
      refine RM.blk [(0, 0, 0, .int (-2))] (pc' := 27) (L' := [some (.ref 76), some (.int p0), some (.int p1)]) (st' := [.int (-2)]) (σ1 := σ) (by decide +kernel) rfl ?_
      obtain ⟨rfl, rfl⟩ := Prod.mk.inj (Option.some.inj h)
      exact RM.reti (by decide +kernel) rfl
