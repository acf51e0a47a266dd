/-! methods: Ref_nearest_89, Ref_bare, Ref_paint, Ref_scrape, Ref_changes, Ref_nearestBorder, Ref_cut, Ref_noSheet, Ref_sumOf, Ref_hasFace, Ref_sheet -/
def M_Ref_nearest : MI := (yX12_nearest, cX12_nearest, 10, some .int, 12)
theorem mk_Ref_nearest : mOK M_Ref_nearest 3 = true := by decide +kernel
set_option maxRecDepth 100000 in
set_option maxHeartbeats 4000000 in
theorem s_Ref_nearest_89 (σ : SG) (p0 : Int32) (p1 : Int32) (rr : Int32) (h : F_Ref_nearest_89 σ p0 p1 = some rr) : SpN 1 M_Ref_nearest [.ref 76, .int p0, .int p1, .ref 89] σ (some (.int rr)) σ := by
  unfold F_Ref_nearest_89 at h
  refine Sp.of mk_Ref_nearest rfl (Nat.le_of_ble_eq_true rfl) ?_
  refine RM.blk [(0, 0, 0, .int (-1)), (4, 4, 0, .null), (0, 0, 0, .int 0), (4, 5, 0, .null), (0, 0, 0, .int 0), (4, 6, 0, .null)] (pc' := 9) (L' := [some (.ref 76), some (.int p0), some (.int p1), some (.ref 89), some (.int (-1)), some (.int 0), some (.int 0), none, none, none]) (st' := []) (σ1 := σ) (by decide +kernel) rfl ?_
  have hL1 : ∀ (n : Nat) (x1 : Int32 × Int32 × Int32) (y1 : Int32), lpW (L_Ref_nearest_89_9 σ p0 p1) n x1 = some y1 → RN 1 M_Ref_nearest (some (.int rr)) σ 107 [none, none, none, none, some (.int y1), none, none, none, none, none] [] σ → RN 1 M_Ref_nearest (some (.int rr)) σ 9 [some (.ref 76), some (.int p0), some (.int p1), some (.ref 89), some (.int x1.1), some (.int x1.2.1), some (.int x1.2.2), none, none, none] [] σ := by
    intro n
    induction n with
    | zero => intro x1 y1 hy1; cases hy1
    | succ n ih1 =>
      intro x1 y1 hy1 hK1
      obtain ⟨z1, e1, hy1⟩ := ob_some hy1
      unfold L_Ref_nearest_89_9 at e1
      refine RM.blk [(1, 6, 0, .null), (2, 0, 0, .null), (3, 12, 18, .null)] (pc' := 15) (L' := [some (.ref 76), some (.int p0), some (.int p1), some (.ref 89), some (.int x1.1), some (.int x1.2.1), some (.int x1.2.2), none, none, none]) (st' := [.int (σ 76 18), .int x1.2.2]) (σ1 := σ) (by decide +kernel) rfl ?_
      refine RM.icmp_ge (tgt := 107) (by decide +kernel) (fun c2 => ?_) (fun c2 => ?_)
      · rw [if_pos c2] at e1
        obtain rfl := Option.some.inj e1
        obtain rfl := Option.some.inj (show some (x1.1 : Int32) = some y1 from hy1)
        refine RN.dropB [false, false, false, false, true, false, false, false, false, false] rfl ?_
        exact hK1
      · rw [if_neg c2] at e1
        refine RM.blk [(0, 0, 0, .int 0), (4, 7, 0, .null), (0, 0, 0, .int 0), (4, 8, 0, .null)] (pc' := 24) (L' := [some (.ref 76), some (.int p0), some (.int p1), some (.ref 89), some (.int x1.1), some (.int x1.2.1), some (.int x1.2.2), some (.int 0), some (.int 0), none]) (st' := []) (σ1 := σ) (by decide +kernel) rfl ?_
        have hL3 : ∀ (n : Nat) (x3 : Int32 × Int32) (y3 : Int32), lpW (L_Ref_nearest_89_24 σ p0 x1.2.2) n x3 = some y3 → RN 1 M_Ref_nearest (some (.int rr)) σ 72 [some (.ref 76), some (.int p0), some (.int p1), some (.ref 89), some (.int x1.1), some (.int x1.2.1), some (.int x1.2.2), some (.int y3), none, none] [] σ → RN 1 M_Ref_nearest (some (.int rr)) σ 24 [some (.ref 76), some (.int p0), some (.int p1), some (.ref 89), some (.int x1.1), some (.int x1.2.1), some (.int x1.2.2), some (.int x3.1), some (.int x3.2), none] [] σ := by
          intro n
          induction n with
          | zero => intro x3 y3 hy3; cases hy3
          | succ n ih3 =>
            intro x3 y3 hy3 hK3
            obtain ⟨z3, e3, hy3⟩ := ob_some hy3
            unfold L_Ref_nearest_89_24 at e3
            refine RM.blk [(1, 8, 0, .null), (0, 0, 0, .int 3)] (pc' := 27) (L' := [some (.ref 76), some (.int p0), some (.int p1), some (.ref 89), some (.int (x1.1)), some (.int (x1.2.1)), some (.int (x1.2.2)), some (.int x3.1), some (.int x3.2), none]) (st' := [.int 3, .int x3.2]) (σ1 := σ) (by decide +kernel) rfl ?_
            refine RM.icmp_ge (tgt := 72) (by decide +kernel) (fun c4 => ?_) (fun c4 => ?_)
            · rw [if_pos c4] at e3
              obtain rfl := Option.some.inj e3
              obtain rfl := Option.some.inj (show some (x3.1 : Int32) = some y3 from hy3)
              refine RN.dropB [true, true, true, true, true, true, true, true, false, false] rfl ?_
              exact hK3
            · rw [if_neg c4] at e3
              refine RM.blk [(2, 0, 0, .null), (3, 12, 3, .null), (0, 0, 0, .int 3), (1, 1, 0, .null), (7, 0, 0, .null), (1, 8, 0, .null), (5, 0, 0, .null)] (pc' := 40) (L' := [some (.ref 76), some (.int p0), some (.int p1), some (.ref 89), some (.int (x1.1)), some (.int (x1.2.1)), some (.int (x1.2.2)), some (.int x3.1), some (.int x3.2), none]) (st' := [.int ((3 * p0) + x3.2), .ref 78]) (σ1 := σ) (by decide +kernel) rfl ?_
              obtain ⟨g5, e3⟩ := og_some e3
              refine RM.iald (q := 78) (n := 24) (by decide +kernel) rfl (vin_of g5) ?_
              refine RM.blk [(2, 0, 0, .null), (3, 12, 19, .null), (0, 0, 0, .int 3), (1, 6, 0, .null), (7, 0, 0, .null), (1, 8, 0, .null), (5, 0, 0, .null)] (pc' := 52) (L' := [some (.ref 76), some (.int p0), some (.int p1), some (.ref 89), some (.int (x1.1)), some (.int (x1.2.1)), some (.int (x1.2.2)), some (.int x3.1), some (.int x3.2), none]) (st' := [.int ((3 * x1.2.2) + x3.2), .ref 88, .int (σ 78 (ix ((3 * p0) + x3.2)))]) (σ1 := σ) (by decide +kernel) rfl ?_
              obtain ⟨g6, e3⟩ := og_some e3
              refine RM.iald (q := 88) (n := 30) (by decide +kernel) rfl (vin_of g6) ?_
              refine RM.blk [(6, 0, 0, .null), (4, 9, 0, .null), (1, 7, 0, .null), (1, 9, 0, .null), (1, 9, 0, .null), (7, 0, 0, .null), (5, 0, 0, .null), (4, 7, 0, .null), (10, 8, 0, .int 1), (23, 0, 0, .null)] (pc' := 24) (L' := [some (.ref 76), some (.int p0), some (.int p1), some (.ref 89), some (.int (x1.1)), some (.int (x1.2.1)), some (.int (x1.2.2)), some (.int (x3.1 + (((σ 78 (ix ((3 * p0) + x3.2))) - (σ 88 (ix ((3 * x1.2.2) + x3.2)))) * ((σ 78 (ix ((3 * p0) + x3.2))) - (σ 88 (ix ((3 * x1.2.2) + x3.2))))))), some (.int (x3.2 + 1)), some (.int ((σ 78 (ix ((3 * p0) + x3.2))) - (σ 88 (ix ((3 * x1.2.2) + x3.2)))))]) (st' := []) (σ1 := σ) (by decide +kernel) rfl ?_
              obtain rfl := Option.some.inj e3
              refine RN.dropB [true, true, true, true, true, true, true, true, true, false] rfl ?_
              exact ih3 ((x3.1 + (((σ 78 (ix ((3 * p0) + x3.2))) - (σ 88 (ix ((3 * x1.2.2) + x3.2)))) * ((σ 78 (ix ((3 * p0) + x3.2))) - (σ 88 (ix ((3 * x1.2.2) + x3.2)))))), (x3.2 + 1)) _ hy3 hK3
        obtain ⟨y3, hl3, e1⟩ := ob_some e1
        refine RN.dropB [true, true, true, true, true, true, true, true, true, false] rfl ?_
        refine hL3 FU (0, 0) y3 hl3 ?_
        refine RM.blk [(2, 3, 0, .null), (1, 6, 0, .null)] (pc' := 75) (L' := [some (.ref 76), some (.int p0), some (.int p1), some (.ref 89), some (.int x1.1), some (.int x1.2.1), some (.int x1.2.2), some (.int y3), none, none]) (st' := [.int x1.2.2, .ref 89]) (σ1 := σ) (by decide +kernel) rfl ?_
        obtain ⟨g7, e1⟩ := og_some e1
        refine RM.iald (q := 89) (n := 10) (by decide +kernel) rfl (vin_of g7) ?_
        refine RM.blk [(1, 2, 0, .null)] (pc' := 77) (L' := [some (.ref 76), some (.int p0), some (.int p1), some (.ref 89), some (.int x1.1), some (.int x1.2.1), some (.int x1.2.2), some (.int y3), none, none]) (st' := [.int p1, .int (σ 89 (ix x1.2.2))]) (σ1 := σ) (by decide +kernel) rfl ?_
        refine RM.icmp_lt (tgt := 101) (by decide +kernel) (fun c8 => ?_) (fun c8 => ?_)
        · rw [if_pos c8] at e1
          refine RM.blk [(10, 6, 0, .int 1), (23, 0, 0, .null)] (pc' := 9) (L' := [some (.ref 76), some (.int p0), some (.int p1), some (.ref 89), some (.int x1.1), some (.int x1.2.1), some (.int (x1.2.2 + 1)), some (.int y3), none, none]) (st' := []) (σ1 := σ) (by decide +kernel) rfl ?_
          obtain rfl := Option.some.inj e1
          refine RN.dropB [true, true, true, true, true, true, true, false, false, false] rfl ?_
          exact ih1 (x1.1, x1.2.1, (x1.2.2 + 1)) _ hy1 hK1
        · rw [if_neg c8] at e1
          refine RM.blk [(1, 4, 0, .null), (0, 0, 0, .int (-1))] (pc' := 83) (L' := [some (.ref 76), some (.int p0), some (.int p1), some (.ref 89), some (.int x1.1), some (.int x1.2.1), some (.int x1.2.2), some (.int y3), none, none]) (st' := [.int (-1), .int x1.1]) (σ1 := σ) (by decide +kernel) rfl ?_
          refine RM.icmp_eq (tgt := 93) (by decide +kernel) (fun c9 => ?_) (fun c9 => ?_)
          · rw [if_pos c9] at e1
            refine RM.blk [(1, 6, 0, .null), (4, 4, 0, .null), (1, 7, 0, .null), (4, 5, 0, .null), (10, 6, 0, .int 1), (23, 0, 0, .null)] (pc' := 9) (L' := [some (.ref 76), some (.int p0), some (.int p1), some (.ref 89), some (.int x1.2.2), some (.int y3), some (.int (x1.2.2 + 1)), some (.int y3), none, none]) (st' := []) (σ1 := σ) (by decide +kernel) rfl ?_
            obtain rfl := Option.some.inj e1
            refine RN.dropB [true, true, true, true, true, true, true, false, false, false] rfl ?_
            exact ih1 (x1.2.2, y3, (x1.2.2 + 1)) _ hy1 hK1
          · rw [if_neg c9] at e1
            refine RM.blk [(1, 7, 0, .null), (1, 5, 0, .null)] (pc' := 90) (L' := [some (.ref 76), some (.int p0), some (.int p1), some (.ref 89), some (.int x1.1), some (.int x1.2.1), some (.int x1.2.2), some (.int y3), none, none]) (st' := [.int x1.2.1, .int y3]) (σ1 := σ) (by decide +kernel) rfl ?_
            refine RM.icmp_ge (tgt := 101) (by decide +kernel) (fun c10 => ?_) (fun c10 => ?_)
            · rw [if_pos c10] at e1
              refine RM.blk [(10, 6, 0, .int 1), (23, 0, 0, .null)] (pc' := 9) (L' := [some (.ref 76), some (.int p0), some (.int p1), some (.ref 89), some (.int x1.1), some (.int x1.2.1), some (.int (x1.2.2 + 1)), some (.int y3), none, none]) (st' := []) (σ1 := σ) (by decide +kernel) rfl ?_
              obtain rfl := Option.some.inj e1
              refine RN.dropB [true, true, true, true, true, true, true, false, false, false] rfl ?_
              exact ih1 (x1.1, x1.2.1, (x1.2.2 + 1)) _ hy1 hK1
            · rw [if_neg c10] at e1
              refine RM.blk [(1, 6, 0, .null), (4, 4, 0, .null), (1, 7, 0, .null), (4, 5, 0, .null), (10, 6, 0, .int 1), (23, 0, 0, .null)] (pc' := 9) (L' := [some (.ref 76), some (.int p0), some (.int p1), some (.ref 89), some (.int x1.2.2), some (.int y3), some (.int (x1.2.2 + 1)), some (.int y3), none, none]) (st' := []) (σ1 := σ) (by decide +kernel) rfl ?_
              obtain rfl := Option.some.inj e1
              refine RN.dropB [true, true, true, true, true, true, true, false, false, false] rfl ?_
              exact ih1 (x1.2.2, y3, (x1.2.2 + 1)) _ hy1 hK1
  obtain ⟨y1, hl1, h⟩ := ob_some h
  refine RN.dropB [true, true, true, true, true, true, true, false, false, false] rfl ?_
  refine hL1 FU ((-1), 0, 0) y1 hl1 ?_
  refine RM.blk [(1, 4, 0, .null)] (pc' := 109) (L' := [none, none, none, none, some (.int y1), none, none, none, none, none]) (st' := [.int y1]) (σ1 := σ) (by decide +kernel) rfl ?_
  obtain rfl := (Option.some.inj h)
  exact RM.reti (by decide +kernel) rfl
def M_Ref_bare : MI := (yX12_bare, cX12_bare, 3, some .int, 12)
theorem mk_Ref_bare : mOK M_Ref_bare 0 = true := by decide +kernel
set_option maxRecDepth 100000 in
set_option maxHeartbeats 4000000 in
theorem s_Ref_bare (σ : SG) (rr : Int32) (h : F_Ref_bare σ = some rr) : SpN 1 M_Ref_bare [.ref 76] σ (some (.int rr)) σ := by
  unfold F_Ref_bare at h
  refine Sp.of mk_Ref_bare rfl (Nat.le_of_ble_eq_true rfl) ?_
  refine RM.blk [(0, 0, 0, .int 0), (4, 1, 0, .null), (0, 0, 0, .int 0), (4, 2, 0, .null)] (pc' := 4) (L' := [some (.ref 76), some (.int 0), some (.int 0)]) (st' := []) (σ1 := σ) (by decide +kernel) rfl ?_
  have hL1 : ∀ (n : Nat) (x1 : Int32 × Int32) (y1 : Int32), lpW (L_Ref_bare_4 σ) n x1 = some y1 → RN 1 M_Ref_bare (some (.int rr)) σ 36 [none, some (.int y1), none] [] σ → RN 1 M_Ref_bare (some (.int rr)) σ 4 [some (.ref 76), some (.int x1.1), some (.int x1.2)] [] σ := by
    intro n
    induction n with
    | zero => intro x1 y1 hy1; cases hy1
    | succ n ih1 =>
      intro x1 y1 hy1 hK1
      obtain ⟨z1, e1, hy1⟩ := ob_some hy1
      unfold L_Ref_bare_4 at e1
      refine RM.blk [(1, 2, 0, .null), (2, 0, 0, .null), (3, 12, 10, .null)] (pc' := 9) (L' := [some (.ref 76), some (.int x1.1), some (.int x1.2)]) (st' := [.int (σ 76 10), .int x1.2]) (σ1 := σ) (by decide +kernel) rfl ?_
      refine RM.icmp_ge (tgt := 36) (by decide +kernel) (fun c2 => ?_) (fun c2 => ?_)
      · rw [if_pos c2] at e1
        obtain rfl := Option.some.inj e1
        obtain rfl := Option.some.inj (show some (x1.1 : Int32) = some y1 from hy1)
        refine RN.dropB [false, true, false] rfl ?_
        exact hK1
      · rw [if_neg c2] at e1
        refine RM.blk [(1, 1, 0, .null), (2, 0, 0, .null), (3, 12, 15, .null), (1, 2, 0, .null)] (pc' := 18) (L' := [some (.ref 76), some (.int x1.1), some (.int x1.2)]) (st' := [.int x1.2, .ref 86, .int x1.1]) (σ1 := σ) (by decide +kernel) rfl ?_
        obtain ⟨g3, e1⟩ := og_some e1
        refine RM.iald (q := 86) (n := 240) (by decide +kernel) rfl (vin_of g3) ?_
        refine RM.blk [(0, 0, 0, .int (-1))] (pc' := 20) (L' := [some (.ref 76), some (.int x1.1), some (.int x1.2)]) (st' := [.int (-1), .int (σ 86 (ix x1.2)), .int x1.1]) (σ1 := σ) (by decide +kernel) rfl ?_
        refine RM.icmp_ne (tgt := 27) (by decide +kernel) (fun c4 => ?_) (fun c4 => ?_)
        · rw [if_neg c4] at e1
          refine RM.blk [(0, 0, 0, .int 0), (5, 0, 0, .null), (4, 1, 0, .null), (10, 2, 0, .int 1), (23, 0, 0, .null)] (pc' := 4) (L' := [some (.ref 76), some (.int (x1.1 + 0)), some (.int (x1.2 + 1))]) (st' := []) (σ1 := σ) (by decide +kernel) rfl ?_
          obtain rfl := Option.some.inj e1
          refine RN.dropB [true, true, true] rfl ?_
          exact ih1 ((x1.1 + 0), (x1.2 + 1)) _ hy1 hK1
        · rw [if_pos c4] at e1
          refine RM.blk [(0, 0, 0, .int 1), (23, 0, 0, .null), (5, 0, 0, .null), (4, 1, 0, .null), (10, 2, 0, .int 1), (23, 0, 0, .null)] (pc' := 4) (L' := [some (.ref 76), some (.int (x1.1 + 1)), some (.int (x1.2 + 1))]) (st' := []) (σ1 := σ) (by decide +kernel) rfl ?_
          obtain rfl := Option.some.inj e1
          refine RN.dropB [true, true, true] rfl ?_
          exact ih1 ((x1.1 + 1), (x1.2 + 1)) _ hy1 hK1
  obtain ⟨y1, hl1, h⟩ := ob_some h
  refine RN.dropB [true, true, true] rfl ?_
  refine hL1 FU (0, 0) y1 hl1 ?_
  refine RM.blk [(1, 1, 0, .null)] (pc' := 37) (L' := [none, some (.int y1), none]) (st' := [.int y1]) (σ1 := σ) (by decide +kernel) rfl ?_
  obtain rfl := (Option.some.inj h)
  exact RM.reti (by decide +kernel) rfl
def M_Ref_paint : MI := (yX12_paint, cX12_paint, 6, some .int, 12)
theorem mk_Ref_paint : mOK M_Ref_paint 0 = true := by decide +kernel
set_option maxRecDepth 100000 in
set_option maxHeartbeats 4000000 in
theorem s_Ref_paint (σ : SG) (rr : Int32) (so : SG) (h : F_Ref_paint σ = some (rr, so)) : SpN 2 M_Ref_paint [.ref 76] σ (some (.int rr)) so := by
  unfold F_Ref_paint at h
  refine Sp.of mk_Ref_paint rfl (Nat.le_of_ble_eq_true rfl) ?_
  refine RM.blk [(2, 0, 0, .null), (3, 12, 7, .null)] (pc' := 4) (L' := [some (.ref 76), none, none, none, none, none]) (st' := [.int (σ 76 7)]) (σ1 := σ) (by decide +kernel) rfl ?_
  refine RM.if_eq (tgt := 14) (by decide +kernel) (fun c1 => ?_) (fun c1 => ?_)
  · rw [if_pos c1] at h
    refine RM.blk [(0, 0, 0, .int (-3))] (pc' := 16) (L' := [some (.ref 76), none, none, none, none, none]) (st' := [.int (-3)]) (σ1 := σ) (by decide +kernel) rfl ?_
    obtain ⟨rfl, rfl⟩ := Prod.mk.inj (Option.some.inj h)
    exact RM.reti (by decide +kernel) rfl
  · rw [if_neg c1] at h
    refine RM.blk [(2, 0, 0, .null), (3, 12, 8, .null)] (pc' := 11) (L' := [some (.ref 76), none, none, none, none, none]) (st' := [.int (σ 76 8)]) (σ1 := σ) (by decide +kernel) rfl ?_
    refine RM.if_eq (tgt := 17) (by decide +kernel) (fun c2 => ?_) (fun c2 => ?_)
    · rw [if_pos c2] at h
      refine RM.blk [(0, 0, 0, .int 0), (4, 1, 0, .null)] (pc' := 19) (L' := [some (.ref 76), some (.int 0), none, none, none, none]) (st' := []) (σ1 := σ) (by decide +kernel) rfl ?_
      have hL3 : ∀ (n : Nat) (x3 : Int32 × SG) (y3 : SG), lpW L_Ref_paint_19 n x3 = some y3 → RN 2 M_Ref_paint (some (.int rr)) so 179 [some (.ref 76), none, none, none, none, none] [] y3 → RN 2 M_Ref_paint (some (.int rr)) so 19 [some (.ref 76), some (.int x3.1), none, none, none, none] [] x3.2 := by
        intro n
        induction n with
        | zero => intro x3 y3 hy3; cases hy3
        | succ n ih3 =>
          intro x3 y3 hy3 hK3
          obtain ⟨z3, e3, hy3⟩ := ob_some hy3
          unfold L_Ref_paint_19 at e3
          refine RM.blk [(1, 1, 0, .null), (0, 0, 0, .int 8)] (pc' := 22) (L' := [some (.ref 76), some (.int x3.1), none, none, none, none]) (st' := [.int 8, .int x3.1]) (σ1 := x3.2) (by decide +kernel) rfl ?_
          refine RM.icmp_ge (tgt := 179) (by decide +kernel) (fun c4 => ?_) (fun c4 => ?_)
          · rw [if_pos c4] at e3
            obtain rfl := Option.some.inj e3
            obtain rfl := Option.some.inj (show some (x3.2 : SG) = some y3 from hy3)
            refine RN.dropB [true, false, false, false, false, false] rfl ?_
            exact hK3
          · rw [if_neg c4] at e3
            refine RM.blk [(0, 0, 0, .int 0), (4, 2, 0, .null), (0, 0, 0, .int 0), (4, 3, 0, .null)] (pc' := 29) (L' := [some (.ref 76), some (.int x3.1), some (.int 0), some (.int 0), none, none]) (st' := []) (σ1 := x3.2) (by decide +kernel) rfl ?_
            have hL5 : ∀ (n : Nat) (x5 : Int32 × Int32) (y5 : Int32), lpW (L_Ref_paint_29 x3 x3.1) n x5 = some y5 → RN 2 M_Ref_paint (some (.int rr)) so 66 [some (.ref 76), some (.int x3.1), some (.int y5), none, none, none] [] x3.2 → RN 2 M_Ref_paint (some (.int rr)) so 29 [some (.ref 76), some (.int x3.1), some (.int x5.1), some (.int x5.2), none, none] [] x3.2 := by
              intro n
              induction n with
              | zero => intro x5 y5 hy5; cases hy5
              | succ n ih5 =>
                intro x5 y5 hy5 hK5
                obtain ⟨z5, e5, hy5⟩ := ob_some hy5
                unfold L_Ref_paint_29 at e5
                refine RM.blk [(1, 3, 0, .null), (2, 0, 0, .null), (3, 12, 10, .null)] (pc' := 34) (L' := [some (.ref 76), some (.int (x3.1)), some (.int x5.1), some (.int x5.2), none, none]) (st' := [.int (x3.2 76 10), .int x5.2]) (σ1 := x3.2) (by decide +kernel) rfl ?_
                refine RM.icmp_ge (tgt := 66) (by decide +kernel) (fun c6 => ?_) (fun c6 => ?_)
                · rw [if_pos c6] at e5
                  obtain rfl := Option.some.inj e5
                  obtain rfl := Option.some.inj (show some (x5.1 : Int32) = some y5 from hy5)
                  refine RN.dropB [true, true, true, false, false, false] rfl ?_
                  exact hK5
                · rw [if_neg c6] at e5
                  refine RM.blk [(1, 2, 0, .null), (2, 0, 0, .null), (3, 12, 14, .null), (1, 3, 0, .null)] (pc' := 43) (L' := [some (.ref 76), some (.int (x3.1)), some (.int x5.1), some (.int x5.2), none, none]) (st' := [.int x5.2, .ref 85, .int x5.1]) (σ1 := x3.2) (by decide +kernel) rfl ?_
                  obtain ⟨g7, e5⟩ := og_some e5
                  refine RM.iald (q := 85) (n := 240) (by decide +kernel) rfl (vin_of g7) ?_
                  refine RM.blk [(1, 1, 0, .null)] (pc' := 45) (L' := [some (.ref 76), some (.int (x3.1)), some (.int x5.1), some (.int x5.2), none, none]) (st' := [.int (x3.1), .int (x3.2 85 (ix x5.2)), .int x5.1]) (σ1 := x3.2) (by decide +kernel) rfl ?_
                  refine RM.icmp_ne (tgt := 57) (by decide +kernel) (fun c8 => ?_) (fun c8 => ?_)
                  · rw [if_neg c8] at e5
                    refine RM.blk [(0, 0, 0, .int 0), (5, 0, 0, .null), (4, 2, 0, .null), (10, 3, 0, .int 1), (23, 0, 0, .null)] (pc' := 29) (L' := [some (.ref 76), some (.int (x3.1)), some (.int (x5.1 + 0)), some (.int (x5.2 + 1)), none, none]) (st' := []) (σ1 := x3.2) (by decide +kernel) rfl ?_
                    obtain rfl := Option.some.inj e5
                    refine RN.dropB [true, true, true, true, false, false] rfl ?_
                    exact ih5 ((x5.1 + 0), (x5.2 + 1)) _ hy5 hK5
                  · rw [if_pos c8] at e5
                    refine RM.blk [(2, 0, 0, .null), (3, 12, 13, .null), (1, 3, 0, .null)] (pc' := 53) (L' := [some (.ref 76), some (.int (x3.1)), some (.int x5.1), some (.int x5.2), none, none]) (st' := [.int x5.2, .ref 84, .int x5.1]) (σ1 := x3.2) (by decide +kernel) rfl ?_
                    obtain ⟨g9, e5⟩ := og_some e5
                    refine RM.iald (q := 84) (n := 240) (by decide +kernel) rfl (vin_of g9) ?_
                    refine RM.blk [(23, 0, 0, .null), (5, 0, 0, .null), (4, 2, 0, .null), (10, 3, 0, .int 1), (23, 0, 0, .null)] (pc' := 29) (L' := [some (.ref 76), some (.int (x3.1)), some (.int (x5.1 + (x3.2 84 (ix x5.2)))), some (.int (x5.2 + 1)), none, none]) (st' := []) (σ1 := x3.2) (by decide +kernel) rfl ?_
                    obtain rfl := Option.some.inj e5
                    refine RN.dropB [true, true, true, true, false, false] rfl ?_
                    exact ih5 ((x5.1 + (x3.2 84 (ix x5.2))), (x5.2 + 1)) _ hy5 hK5
            obtain ⟨y5, hl5, e3⟩ := ob_some e3
            refine RN.dropB [true, true, true, true, false, false] rfl ?_
            refine hL5 FU (0, 0) y5 hl5 ?_
            refine RM.blk [(1, 2, 0, .null)] (pc' := 67) (L' := [some (.ref 76), some (.int x3.1), some (.int y5), none, none, none]) (st' := [.int y5]) (σ1 := x3.2) (by decide +kernel) rfl ?_
            refine RM.if_ne (tgt := 74) (by decide +kernel) (fun c10 => ?_) (fun c10 => ?_)
            · rw [if_neg c10] at e3
              refine RM.blk [(2, 0, 0, .null), (1, 1, 0, .null), (1, 2, 0, .null), (2, 0, 0, .null), (3, 12, 20, .null)] (pc' := 81) (L' := [some (.ref 76), some (.int x3.1), some (.int y5), none, none, none]) (st' := [.ref 89, .int y5, .int x3.1, .ref 76]) (σ1 := x3.2) (by decide +kernel) rfl ?_
              obtain ⟨v11, hv11, e3⟩ := ob_some e3
              refine RN.callV [.int x3.1, .int y5, .ref 89] (s_Ref_nearest_89 x3.2 x3.1 y5 v11 hv11) [] (pc3 := 84) (st3 := [.int v11]) (by decide +kernel) mk_Ref_nearest (by decide) ?_
              refine RM.blk [(4, 3, 0, .null), (0, 0, 0, .int 0), (4, 4, 0, .null)] (pc' := 88) (L' := [some (.ref 76), some (.int x3.1), some (.int y5), some (.int v11), some (.int 0), none]) (st' := []) (σ1 := x3.2) (by decide +kernel) rfl ?_
              have hL12 : ∀ (n : Nat) (x12 : Int32 × SG) (y12 : SG), lpW (L_Ref_paint_88 x3.1 v11) n x12 = some y12 → RN 2 M_Ref_paint (some (.int rr)) so 173 [some (.ref 76), some (.int x3.1), none, none, none, none] [] y12 → RN 2 M_Ref_paint (some (.int rr)) so 88 [some (.ref 76), some (.int x3.1), none, some (.int v11), some (.int x12.1), none] [] x12.2 := by
                intro n
                induction n with
                | zero => intro x12 y12 hy12; cases hy12
                | succ n ih12 =>
                  intro x12 y12 hy12 hK12
                  obtain ⟨z12, e12, hy12⟩ := ob_some hy12
                  unfold L_Ref_paint_88 at e12
                  refine RM.blk [(1, 4, 0, .null), (2, 0, 0, .null), (3, 12, 10, .null)] (pc' := 94) (L' := [some (.ref 76), some (.int (x3.1)), none, some (.int (v11)), some (.int x12.1), none]) (st' := [.int (x12.2 76 10), .int x12.1]) (σ1 := x12.2) (by decide +kernel) rfl ?_
                  refine RM.icmp_ge (tgt := 173) (by decide +kernel) (fun c13 => ?_) (fun c13 => ?_)
                  · rw [if_pos c13] at e12
                    obtain rfl := Option.some.inj e12
                    obtain rfl := Option.some.inj (show some (x12.2 : SG) = some y12 from hy12)
                    refine RN.dropB [true, true, false, false, false, false] rfl ?_
                    exact hK12
                  · rw [if_neg c13] at e12
                    refine RM.blk [(2, 0, 0, .null), (3, 12, 14, .null), (1, 4, 0, .null)] (pc' := 103) (L' := [some (.ref 76), some (.int (x3.1)), none, some (.int (v11)), some (.int x12.1), none]) (st' := [.int x12.1, .ref 85]) (σ1 := x12.2) (by decide +kernel) rfl ?_
                    obtain ⟨g14, e12⟩ := og_some e12
                    refine RM.iald (q := 85) (n := 240) (by decide +kernel) rfl (vin_of g14) ?_
                    refine RM.blk [(1, 1, 0, .null)] (pc' := 105) (L' := [some (.ref 76), some (.int (x3.1)), none, some (.int (v11)), some (.int x12.1), none]) (st' := [.int (x3.1), .int (x12.2 85 (ix x12.1))]) (σ1 := x12.2) (by decide +kernel) rfl ?_
                    refine RM.icmp_ne (tgt := 167) (by decide +kernel) (fun c15 => ?_) (fun c15 => ?_)
                    · rw [if_neg c15] at e12
                      refine RM.blk [(10, 4, 0, .int 1), (23, 0, 0, .null)] (pc' := 88) (L' := [some (.ref 76), some (.int (x3.1)), none, some (.int (v11)), some (.int (x12.1 + 1)), none]) (st' := []) (σ1 := x12.2) (by decide +kernel) rfl ?_
                      obtain rfl := Option.some.inj e12
                      refine RN.dropB [true, true, false, true, true, false] rfl ?_
                      exact ih12 ((x12.1 + 1), x12.2) _ hy12 hK12
                    · rw [if_pos c15] at e12
                      refine RM.blk [(1, 3, 0, .null), (0, 0, 0, .int (-1))] (pc' := 110) (L' := [some (.ref 76), some (.int (x3.1)), none, some (.int (v11)), some (.int x12.1), none]) (st' := [.int (-1), .int (v11)]) (σ1 := x12.2) (by decide +kernel) rfl ?_
                      refine RM.icmp_ne (tgt := 132) (by decide +kernel) (fun c16 => ?_) (fun c16 => ?_)
                      · rw [if_neg c16] at e12
                        refine RM.blk [(1, 3, 0, .null), (4, 5, 0, .null), (2, 0, 0, .null), (3, 12, 15, .null), (1, 4, 0, .null), (1, 5, 0, .null)] (pc' := 143) (L' := [some (.ref 76), some (.int (x3.1)), none, some (.int (v11)), some (.int x12.1), some (.int (v11))]) (st' := [.int (v11), .int x12.1, .ref 86]) (σ1 := x12.2) (by decide +kernel) rfl ?_
                        obtain ⟨g17, e12⟩ := og_some e12
                        refine RM.iast (q := 86) (n := 240) (by decide +kernel) rfl (vin_of g17) ?_
                        refine RM.blk [(1, 5, 0, .null), (0, 0, 0, .int (-1))] (pc' := 147) (L' := [some (.ref 76), some (.int (x3.1)), none, some (.int (v11)), some (.int x12.1), some (.int (v11))]) (st' := [.int (-1), .int (v11)]) (σ1 := (up x12.2 86 (ix x12.1) (v11))) (by decide +kernel) rfl ?_
                        refine RM.icmp_eq (tgt := 167) (by decide +kernel) (fun c18 => ?_) (fun c18 => ?_)
                        · rw [if_pos c18] at e12
                          refine RM.blk [(10, 4, 0, .int 1), (23, 0, 0, .null)] (pc' := 88) (L' := [some (.ref 76), some (.int (x3.1)), none, some (.int (v11)), some (.int (x12.1 + 1)), some (.int (v11))]) (st' := []) (σ1 := (up x12.2 86 (ix x12.1) (v11))) (by decide +kernel) rfl ?_
                          obtain rfl := Option.some.inj e12
                          refine RN.dropB [true, true, false, true, true, false] rfl ?_
                          exact ih12 ((x12.1 + 1), (up x12.2 86 (ix x12.1) (v11))) _ hy12 hK12
                        · rw [if_neg c18] at e12
                          refine RM.blk [(2, 0, 0, .null), (3, 12, 20, .null), (1, 5, 0, .null), (12, 0, 0, .null)] (pc' := 157) (L' := [some (.ref 76), some (.int (x3.1)), none, some (.int (v11)), some (.int x12.1), some (.int (v11))]) (st' := [.int (v11), .ref 89, .int (v11), .ref 89]) (σ1 := (up x12.2 86 (ix x12.1) (v11))) (by decide +kernel) rfl ?_
                          obtain ⟨g19, e12⟩ := og_some e12
                          refine RM.iald (q := 89) (n := 10) (by decide +kernel) rfl (vin_of g19) ?_
                          refine RM.blk [(2, 0, 0, .null), (3, 12, 13, .null), (1, 4, 0, .null)] (pc' := 164) (L' := [some (.ref 76), some (.int (x3.1)), none, some (.int (v11)), some (.int x12.1), some (.int (v11))]) (st' := [.int x12.1, .ref 84, .int ((up x12.2 86 (ix x12.1) (v11)) 89 (ix (v11))), .int (v11), .ref 89]) (σ1 := (up x12.2 86 (ix x12.1) (v11))) (by decide +kernel) rfl ?_
                          obtain ⟨g20, e12⟩ := og_some e12
                          refine RM.iald (q := 84) (n := 240) (by decide +kernel) rfl (vin_of g20) ?_
                          refine RM.blk [(6, 0, 0, .null)] (pc' := 166) (L' := [some (.ref 76), some (.int (x3.1)), none, some (.int (v11)), some (.int x12.1), some (.int (v11))]) (st' := [.int (((up x12.2 86 (ix x12.1) (v11)) 89 (ix (v11))) - ((up x12.2 86 (ix x12.1) (v11)) 84 (ix x12.1))), .int (v11), .ref 89]) (σ1 := (up x12.2 86 (ix x12.1) (v11))) (by decide +kernel) rfl ?_
                          obtain ⟨g21, e12⟩ := og_some e12
                          refine RM.iast (q := 89) (n := 10) (by decide +kernel) rfl (vin_of g21) ?_
                          generalize ns22 : (up (up x12.2 86 (ix x12.1) (v11)) 89 (ix (v11)) (((up x12.2 86 (ix x12.1) (v11)) 89 (ix (v11))) - ((up x12.2 86 (ix x12.1) (v11)) 84 (ix x12.1)))) = s22 at e12 ⊢
                          replace e12 := nm_h e12
                          refine RM.blk [(10, 4, 0, .int 1), (23, 0, 0, .null)] (pc' := 88) (L' := [some (.ref 76), some (.int (x3.1)), none, some (.int (v11)), some (.int (x12.1 + 1)), some (.int (v11))]) (st' := []) (σ1 := s22) (by decide +kernel) rfl ?_
                          obtain rfl := Option.some.inj e12
                          refine RN.dropB [true, true, false, true, true, false] rfl ?_
                          exact ih12 ((x12.1 + 1), s22) _ hy12 hK12
                      · rw [if_pos c16] at e12
                        refine RM.blk [(2, 0, 0, .null), (1, 1, 0, .null), (2, 0, 0, .null), (3, 12, 13, .null), (1, 4, 0, .null)] (pc' := 121) (L' := [some (.ref 76), some (.int (x3.1)), none, some (.int (v11)), some (.int x12.1), none]) (st' := [.int x12.1, .ref 84, .int (x3.1), .ref 76]) (σ1 := x12.2) (by decide +kernel) rfl ?_
                        obtain ⟨g23, e12⟩ := og_some e12
                        refine RM.iald (q := 84) (n := 240) (by decide +kernel) rfl (vin_of g23) ?_
                        refine RM.blk [(2, 0, 0, .null), (3, 12, 20, .null)] (pc' := 126) (L' := [some (.ref 76), some (.int (x3.1)), none, some (.int (v11)), some (.int x12.1), none]) (st' := [.ref 89, .int (x12.2 84 (ix x12.1)), .int (x3.1), .ref 76]) (σ1 := x12.2) (by decide +kernel) rfl ?_
                        obtain ⟨v24, hv24, e12⟩ := ob_some e12
                        refine RN.callV [.int (x3.1), .int (x12.2 84 (ix x12.1)), .ref 89] (s_Ref_nearest_89 x12.2 (x3.1) (x12.2 84 (ix x12.1)) v24 hv24) [] (pc3 := 129) (st3 := [.int v24]) (by decide +kernel) mk_Ref_nearest (by decide) ?_
                        refine RM.blk [(23, 0, 0, .null), (4, 5, 0, .null), (2, 0, 0, .null), (3, 12, 15, .null), (1, 4, 0, .null), (1, 5, 0, .null)] (pc' := 143) (L' := [some (.ref 76), some (.int (x3.1)), none, some (.int (v11)), some (.int x12.1), some (.int v24)]) (st' := [.int v24, .int x12.1, .ref 86]) (σ1 := x12.2) (by decide +kernel) rfl ?_
                        obtain ⟨g25, e12⟩ := og_some e12
                        refine RM.iast (q := 86) (n := 240) (by decide +kernel) rfl (vin_of g25) ?_
                        refine RM.blk [(1, 5, 0, .null), (0, 0, 0, .int (-1))] (pc' := 147) (L' := [some (.ref 76), some (.int (x3.1)), none, some (.int (v11)), some (.int x12.1), some (.int v24)]) (st' := [.int (-1), .int v24]) (σ1 := (up x12.2 86 (ix x12.1) v24)) (by decide +kernel) rfl ?_
                        refine RM.icmp_eq (tgt := 167) (by decide +kernel) (fun c26 => ?_) (fun c26 => ?_)
                        · rw [if_pos c26] at e12
                          refine RM.blk [(10, 4, 0, .int 1), (23, 0, 0, .null)] (pc' := 88) (L' := [some (.ref 76), some (.int (x3.1)), none, some (.int (v11)), some (.int (x12.1 + 1)), some (.int v24)]) (st' := []) (σ1 := (up x12.2 86 (ix x12.1) v24)) (by decide +kernel) rfl ?_
                          obtain rfl := Option.some.inj e12
                          refine RN.dropB [true, true, false, true, true, false] rfl ?_
                          exact ih12 ((x12.1 + 1), (up x12.2 86 (ix x12.1) v24)) _ hy12 hK12
                        · rw [if_neg c26] at e12
                          refine RM.blk [(2, 0, 0, .null), (3, 12, 20, .null), (1, 5, 0, .null), (12, 0, 0, .null)] (pc' := 157) (L' := [some (.ref 76), some (.int (x3.1)), none, some (.int (v11)), some (.int x12.1), some (.int v24)]) (st' := [.int v24, .ref 89, .int v24, .ref 89]) (σ1 := (up x12.2 86 (ix x12.1) v24)) (by decide +kernel) rfl ?_
                          obtain ⟨g27, e12⟩ := og_some e12
                          refine RM.iald (q := 89) (n := 10) (by decide +kernel) rfl (vin_of g27) ?_
                          refine RM.blk [(2, 0, 0, .null), (3, 12, 13, .null), (1, 4, 0, .null)] (pc' := 164) (L' := [some (.ref 76), some (.int (x3.1)), none, some (.int (v11)), some (.int x12.1), some (.int v24)]) (st' := [.int x12.1, .ref 84, .int ((up x12.2 86 (ix x12.1) v24) 89 (ix v24)), .int v24, .ref 89]) (σ1 := (up x12.2 86 (ix x12.1) v24)) (by decide +kernel) rfl ?_
                          obtain ⟨g28, e12⟩ := og_some e12
                          refine RM.iald (q := 84) (n := 240) (by decide +kernel) rfl (vin_of g28) ?_
                          refine RM.blk [(6, 0, 0, .null)] (pc' := 166) (L' := [some (.ref 76), some (.int (x3.1)), none, some (.int (v11)), some (.int x12.1), some (.int v24)]) (st' := [.int (((up x12.2 86 (ix x12.1) v24) 89 (ix v24)) - ((up x12.2 86 (ix x12.1) v24) 84 (ix x12.1))), .int v24, .ref 89]) (σ1 := (up x12.2 86 (ix x12.1) v24)) (by decide +kernel) rfl ?_
                          obtain ⟨g29, e12⟩ := og_some e12
                          refine RM.iast (q := 89) (n := 10) (by decide +kernel) rfl (vin_of g29) ?_
                          generalize ns30 : (up (up x12.2 86 (ix x12.1) v24) 89 (ix v24) (((up x12.2 86 (ix x12.1) v24) 89 (ix v24)) - ((up x12.2 86 (ix x12.1) v24) 84 (ix x12.1)))) = s30 at e12 ⊢
                          replace e12 := nm_h e12
                          refine RM.blk [(10, 4, 0, .int 1), (23, 0, 0, .null)] (pc' := 88) (L' := [some (.ref 76), some (.int (x3.1)), none, some (.int (v11)), some (.int (x12.1 + 1)), some (.int v24)]) (st' := []) (σ1 := s30) (by decide +kernel) rfl ?_
                          obtain rfl := Option.some.inj e12
                          refine RN.dropB [true, true, false, true, true, false] rfl ?_
                          exact ih12 ((x12.1 + 1), s30) _ hy12 hK12
              obtain ⟨y12, hl12, e3⟩ := ob_some e3
              refine RN.dropB [true, true, false, true, true, false] rfl ?_
              refine hL12 FU (0, x3.2) y12 hl12 ?_
              refine RM.blk [(10, 1, 0, .int 1), (23, 0, 0, .null)] (pc' := 19) (L' := [some (.ref 76), some (.int (x3.1 + 1)), none, none, none, none]) (st' := []) (σ1 := y12) (by decide +kernel) rfl ?_
              obtain rfl := Option.some.inj e3
              refine RN.dropB [true, true, false, false, false, false] rfl ?_
              exact ih3 ((x3.1 + 1), y12) _ hy3 hK3
            · rw [if_pos c10] at e3
              refine RM.blk [(0, 0, 0, .int (-1)), (23, 0, 0, .null), (4, 3, 0, .null), (0, 0, 0, .int 0), (4, 4, 0, .null)] (pc' := 88) (L' := [some (.ref 76), some (.int x3.1), some (.int y5), some (.int (-1)), some (.int 0), none]) (st' := []) (σ1 := x3.2) (by decide +kernel) rfl ?_
              have hL31 : ∀ (n : Nat) (x31 : Int32 × SG) (y31 : SG), lpW (L_Ref_paint_88 x3.1 (-1)) n x31 = some y31 → RN 2 M_Ref_paint (some (.int rr)) so 173 [some (.ref 76), some (.int x3.1), none, none, none, none] [] y31 → RN 2 M_Ref_paint (some (.int rr)) so 88 [some (.ref 76), some (.int x3.1), none, some (.int (-1)), some (.int x31.1), none] [] x31.2 := by
                intro n
                induction n with
                | zero => intro x31 y31 hy31; cases hy31
                | succ n ih31 =>
                  intro x31 y31 hy31 hK31
                  obtain ⟨z31, e31, hy31⟩ := ob_some hy31
                  unfold L_Ref_paint_88 at e31
                  refine RM.blk [(1, 4, 0, .null), (2, 0, 0, .null), (3, 12, 10, .null)] (pc' := 94) (L' := [some (.ref 76), some (.int (x3.1)), none, some (.int ((-1))), some (.int x31.1), none]) (st' := [.int (x31.2 76 10), .int x31.1]) (σ1 := x31.2) (by decide +kernel) rfl ?_
                  refine RM.icmp_ge (tgt := 173) (by decide +kernel) (fun c32 => ?_) (fun c32 => ?_)
                  · rw [if_pos c32] at e31
                    obtain rfl := Option.some.inj e31
                    obtain rfl := Option.some.inj (show some (x31.2 : SG) = some y31 from hy31)
                    refine RN.dropB [true, true, false, false, false, false] rfl ?_
                    exact hK31
                  · rw [if_neg c32] at e31
                    refine RM.blk [(2, 0, 0, .null), (3, 12, 14, .null), (1, 4, 0, .null)] (pc' := 103) (L' := [some (.ref 76), some (.int (x3.1)), none, some (.int ((-1))), some (.int x31.1), none]) (st' := [.int x31.1, .ref 85]) (σ1 := x31.2) (by decide +kernel) rfl ?_
                    obtain ⟨g33, e31⟩ := og_some e31
                    refine RM.iald (q := 85) (n := 240) (by decide +kernel) rfl (vin_of g33) ?_
                    refine RM.blk [(1, 1, 0, .null)] (pc' := 105) (L' := [some (.ref 76), some (.int (x3.1)), none, some (.int ((-1))), some (.int x31.1), none]) (st' := [.int (x3.1), .int (x31.2 85 (ix x31.1))]) (σ1 := x31.2) (by decide +kernel) rfl ?_
                    refine RM.icmp_ne (tgt := 167) (by decide +kernel) (fun c34 => ?_) (fun c34 => ?_)
                    · rw [if_neg c34] at e31
                      refine RM.blk [(10, 4, 0, .int 1), (23, 0, 0, .null)] (pc' := 88) (L' := [some (.ref 76), some (.int (x3.1)), none, some (.int ((-1))), some (.int (x31.1 + 1)), none]) (st' := []) (σ1 := x31.2) (by decide +kernel) rfl ?_
                      obtain rfl := Option.some.inj e31
                      refine RN.dropB [true, true, false, true, true, false] rfl ?_
                      exact ih31 ((x31.1 + 1), x31.2) _ hy31 hK31
                    · rw [if_pos c34] at e31
                      refine RM.blk [(1, 3, 0, .null), (0, 0, 0, .int (-1))] (pc' := 110) (L' := [some (.ref 76), some (.int (x3.1)), none, some (.int ((-1))), some (.int x31.1), none]) (st' := [.int (-1), .int ((-1))]) (σ1 := x31.2) (by decide +kernel) rfl ?_
                      refine RM.icmp_ne (tgt := 132) (by decide +kernel) (fun c35 => ?_) (fun c35 => ?_)
                      · rw [if_neg c35] at e31
                        refine RM.blk [(1, 3, 0, .null), (4, 5, 0, .null), (2, 0, 0, .null), (3, 12, 15, .null), (1, 4, 0, .null), (1, 5, 0, .null)] (pc' := 143) (L' := [some (.ref 76), some (.int (x3.1)), none, some (.int ((-1))), some (.int x31.1), some (.int ((-1)))]) (st' := [.int ((-1)), .int x31.1, .ref 86]) (σ1 := x31.2) (by decide +kernel) rfl ?_
                        obtain ⟨g36, e31⟩ := og_some e31
                        refine RM.iast (q := 86) (n := 240) (by decide +kernel) rfl (vin_of g36) ?_
                        refine RM.blk [(1, 5, 0, .null), (0, 0, 0, .int (-1))] (pc' := 147) (L' := [some (.ref 76), some (.int (x3.1)), none, some (.int ((-1))), some (.int x31.1), some (.int ((-1)))]) (st' := [.int (-1), .int ((-1))]) (σ1 := (up x31.2 86 (ix x31.1) ((-1)))) (by decide +kernel) rfl ?_
                        refine RM.icmp_eq (tgt := 167) (by decide +kernel) (fun c37 => ?_) (fun c37 => ?_)
                        · rw [if_pos c37] at e31
                          refine RM.blk [(10, 4, 0, .int 1), (23, 0, 0, .null)] (pc' := 88) (L' := [some (.ref 76), some (.int (x3.1)), none, some (.int ((-1))), some (.int (x31.1 + 1)), some (.int ((-1)))]) (st' := []) (σ1 := (up x31.2 86 (ix x31.1) ((-1)))) (by decide +kernel) rfl ?_
                          obtain rfl := Option.some.inj e31
                          refine RN.dropB [true, true, false, true, true, false] rfl ?_
                          exact ih31 ((x31.1 + 1), (up x31.2 86 (ix x31.1) ((-1)))) _ hy31 hK31
                        · rw [if_neg c37] at e31
                          refine RM.blk [(2, 0, 0, .null), (3, 12, 20, .null), (1, 5, 0, .null), (12, 0, 0, .null)] (pc' := 157) (L' := [some (.ref 76), some (.int (x3.1)), none, some (.int ((-1))), some (.int x31.1), some (.int ((-1)))]) (st' := [.int ((-1)), .ref 89, .int ((-1)), .ref 89]) (σ1 := (up x31.2 86 (ix x31.1) ((-1)))) (by decide +kernel) rfl ?_
                          obtain ⟨g38, e31⟩ := og_some e31
                          refine RM.iald (q := 89) (n := 10) (by decide +kernel) rfl (vin_of g38) ?_
                          refine RM.blk [(2, 0, 0, .null), (3, 12, 13, .null), (1, 4, 0, .null)] (pc' := 164) (L' := [some (.ref 76), some (.int (x3.1)), none, some (.int ((-1))), some (.int x31.1), some (.int ((-1)))]) (st' := [.int x31.1, .ref 84, .int ((up x31.2 86 (ix x31.1) ((-1))) 89 (ix ((-1)))), .int ((-1)), .ref 89]) (σ1 := (up x31.2 86 (ix x31.1) ((-1)))) (by decide +kernel) rfl ?_
                          obtain ⟨g39, e31⟩ := og_some e31
                          refine RM.iald (q := 84) (n := 240) (by decide +kernel) rfl (vin_of g39) ?_
                          refine RM.blk [(6, 0, 0, .null)] (pc' := 166) (L' := [some (.ref 76), some (.int (x3.1)), none, some (.int ((-1))), some (.int x31.1), some (.int ((-1)))]) (st' := [.int (((up x31.2 86 (ix x31.1) ((-1))) 89 (ix ((-1)))) - ((up x31.2 86 (ix x31.1) ((-1))) 84 (ix x31.1))), .int ((-1)), .ref 89]) (σ1 := (up x31.2 86 (ix x31.1) ((-1)))) (by decide +kernel) rfl ?_
                          obtain ⟨g40, e31⟩ := og_some e31
                          refine RM.iast (q := 89) (n := 10) (by decide +kernel) rfl (vin_of g40) ?_
                          generalize ns41 : (up (up x31.2 86 (ix x31.1) ((-1))) 89 (ix ((-1))) (((up x31.2 86 (ix x31.1) ((-1))) 89 (ix ((-1)))) - ((up x31.2 86 (ix x31.1) ((-1))) 84 (ix x31.1)))) = s41 at e31 ⊢
                          replace e31 := nm_h e31
                          refine RM.blk [(10, 4, 0, .int 1), (23, 0, 0, .null)] (pc' := 88) (L' := [some (.ref 76), some (.int (x3.1)), none, some (.int ((-1))), some (.int (x31.1 + 1)), some (.int ((-1)))]) (st' := []) (σ1 := s41) (by decide +kernel) rfl ?_
                          obtain rfl := Option.some.inj e31
                          refine RN.dropB [true, true, false, true, true, false] rfl ?_
                          exact ih31 ((x31.1 + 1), s41) _ hy31 hK31
                      · rw [if_pos c35] at e31
                        refine RM.blk [(2, 0, 0, .null), (1, 1, 0, .null), (2, 0, 0, .null), (3, 12, 13, .null), (1, 4, 0, .null)] (pc' := 121) (L' := [some (.ref 76), some (.int (x3.1)), none, some (.int ((-1))), some (.int x31.1), none]) (st' := [.int x31.1, .ref 84, .int (x3.1), .ref 76]) (σ1 := x31.2) (by decide +kernel) rfl ?_
                        obtain ⟨g42, e31⟩ := og_some e31
                        refine RM.iald (q := 84) (n := 240) (by decide +kernel) rfl (vin_of g42) ?_
                        refine RM.blk [(2, 0, 0, .null), (3, 12, 20, .null)] (pc' := 126) (L' := [some (.ref 76), some (.int (x3.1)), none, some (.int ((-1))), some (.int x31.1), none]) (st' := [.ref 89, .int (x31.2 84 (ix x31.1)), .int (x3.1), .ref 76]) (σ1 := x31.2) (by decide +kernel) rfl ?_
                        obtain ⟨v43, hv43, e31⟩ := ob_some e31
                        refine RN.callV [.int (x3.1), .int (x31.2 84 (ix x31.1)), .ref 89] (s_Ref_nearest_89 x31.2 (x3.1) (x31.2 84 (ix x31.1)) v43 hv43) [] (pc3 := 129) (st3 := [.int v43]) (by decide +kernel) mk_Ref_nearest (by decide) ?_
                        refine RM.blk [(23, 0, 0, .null), (4, 5, 0, .null), (2, 0, 0, .null), (3, 12, 15, .null), (1, 4, 0, .null), (1, 5, 0, .null)] (pc' := 143) (L' := [some (.ref 76), some (.int (x3.1)), none, some (.int ((-1))), some (.int x31.1), some (.int v43)]) (st' := [.int v43, .int x31.1, .ref 86]) (σ1 := x31.2) (by decide +kernel) rfl ?_
                        obtain ⟨g44, e31⟩ := og_some e31
                        refine RM.iast (q := 86) (n := 240) (by decide +kernel) rfl (vin_of g44) ?_
                        refine RM.blk [(1, 5, 0, .null), (0, 0, 0, .int (-1))] (pc' := 147) (L' := [some (.ref 76), some (.int (x3.1)), none, some (.int ((-1))), some (.int x31.1), some (.int v43)]) (st' := [.int (-1), .int v43]) (σ1 := (up x31.2 86 (ix x31.1) v43)) (by decide +kernel) rfl ?_
                        refine RM.icmp_eq (tgt := 167) (by decide +kernel) (fun c45 => ?_) (fun c45 => ?_)
                        · rw [if_pos c45] at e31
                          refine RM.blk [(10, 4, 0, .int 1), (23, 0, 0, .null)] (pc' := 88) (L' := [some (.ref 76), some (.int (x3.1)), none, some (.int ((-1))), some (.int (x31.1 + 1)), some (.int v43)]) (st' := []) (σ1 := (up x31.2 86 (ix x31.1) v43)) (by decide +kernel) rfl ?_
                          obtain rfl := Option.some.inj e31
                          refine RN.dropB [true, true, false, true, true, false] rfl ?_
                          exact ih31 ((x31.1 + 1), (up x31.2 86 (ix x31.1) v43)) _ hy31 hK31
                        · rw [if_neg c45] at e31
                          refine RM.blk [(2, 0, 0, .null), (3, 12, 20, .null), (1, 5, 0, .null), (12, 0, 0, .null)] (pc' := 157) (L' := [some (.ref 76), some (.int (x3.1)), none, some (.int ((-1))), some (.int x31.1), some (.int v43)]) (st' := [.int v43, .ref 89, .int v43, .ref 89]) (σ1 := (up x31.2 86 (ix x31.1) v43)) (by decide +kernel) rfl ?_
                          obtain ⟨g46, e31⟩ := og_some e31
                          refine RM.iald (q := 89) (n := 10) (by decide +kernel) rfl (vin_of g46) ?_
                          refine RM.blk [(2, 0, 0, .null), (3, 12, 13, .null), (1, 4, 0, .null)] (pc' := 164) (L' := [some (.ref 76), some (.int (x3.1)), none, some (.int ((-1))), some (.int x31.1), some (.int v43)]) (st' := [.int x31.1, .ref 84, .int ((up x31.2 86 (ix x31.1) v43) 89 (ix v43)), .int v43, .ref 89]) (σ1 := (up x31.2 86 (ix x31.1) v43)) (by decide +kernel) rfl ?_
                          obtain ⟨g47, e31⟩ := og_some e31
                          refine RM.iald (q := 84) (n := 240) (by decide +kernel) rfl (vin_of g47) ?_
                          refine RM.blk [(6, 0, 0, .null)] (pc' := 166) (L' := [some (.ref 76), some (.int (x3.1)), none, some (.int ((-1))), some (.int x31.1), some (.int v43)]) (st' := [.int (((up x31.2 86 (ix x31.1) v43) 89 (ix v43)) - ((up x31.2 86 (ix x31.1) v43) 84 (ix x31.1))), .int v43, .ref 89]) (σ1 := (up x31.2 86 (ix x31.1) v43)) (by decide +kernel) rfl ?_
                          obtain ⟨g48, e31⟩ := og_some e31
                          refine RM.iast (q := 89) (n := 10) (by decide +kernel) rfl (vin_of g48) ?_
                          generalize ns49 : (up (up x31.2 86 (ix x31.1) v43) 89 (ix v43) (((up x31.2 86 (ix x31.1) v43) 89 (ix v43)) - ((up x31.2 86 (ix x31.1) v43) 84 (ix x31.1)))) = s49 at e31 ⊢
                          replace e31 := nm_h e31
                          refine RM.blk [(10, 4, 0, .int 1), (23, 0, 0, .null)] (pc' := 88) (L' := [some (.ref 76), some (.int (x3.1)), none, some (.int ((-1))), some (.int (x31.1 + 1)), some (.int v43)]) (st' := []) (σ1 := s49) (by decide +kernel) rfl ?_
                          obtain rfl := Option.some.inj e31
                          refine RN.dropB [true, true, false, true, true, false] rfl ?_
                          exact ih31 ((x31.1 + 1), s49) _ hy31 hK31
              obtain ⟨y31, hl31, e3⟩ := ob_some e3
              refine RN.dropB [true, true, false, true, true, false] rfl ?_
              refine hL31 FU (0, x3.2) y31 hl31 ?_
              refine RM.blk [(10, 1, 0, .int 1), (23, 0, 0, .null)] (pc' := 19) (L' := [some (.ref 76), some (.int (x3.1 + 1)), none, none, none, none]) (st' := []) (σ1 := y31) (by decide +kernel) rfl ?_
              obtain rfl := Option.some.inj e3
              refine RN.dropB [true, true, false, false, false, false] rfl ?_
              exact ih3 ((x3.1 + 1), y31) _ hy3 hK3
      obtain ⟨y3, hl3, h⟩ := ob_some h
      refine RN.dropB [true, true, false, false, false, false] rfl ?_
      refine hL3 FU (0, σ) y3 hl3 ?_
      refine RM.blk [(2, 0, 0, .null), (0, 0, 0, .int 1), (16, 12, 8, .null), (2, 0, 0, .null)] (pc' := 185) (L' := [some (.ref 76), none, none, none, none, none]) (st' := [.ref 76]) (σ1 := (up y3 76 8 1)) (by decide +kernel) rfl ?_
      obtain ⟨v50, hv50, h⟩ := ob_some h
      refine RN.callV [] (s_Ref_bare (up y3 76 8 1) v50 hv50) [] (pc3 := 188) (st3 := [.int v50]) (by decide +kernel) mk_Ref_bare (by decide) ?_
      obtain ⟨rfl, rfl⟩ := Prod.mk.inj (Option.some.inj h)
      exact RM.reti (by decide +kernel) rfl
    · rw [if_neg c2] at h
      refine RM.blk [(0, 0, 0, .int (-3))] (pc' := 16) (L' := [some (.ref 76), none, none, none, none, none]) (st' := [.int (-3)]) (σ1 := σ) (by decide +kernel) rfl ?_
      obtain ⟨rfl, rfl⟩ := Prod.mk.inj (Option.some.inj h)
      exact RM.reti (by decide +kernel) rfl
def M_Ref_scrape : MI := (yX12_scrape, cX12_scrape, 4, some .int, 12)
theorem mk_Ref_scrape : mOK M_Ref_scrape 0 = true := by decide +kernel
set_option maxRecDepth 100000 in
set_option maxHeartbeats 4000000 in
theorem s_Ref_scrape (σ : SG) (rr : Int32) (so : SG) (h : F_Ref_scrape σ = some (rr, so)) : SpN 1 M_Ref_scrape [.ref 76] σ (some (.int rr)) so := by
  unfold F_Ref_scrape at h
  refine Sp.of mk_Ref_scrape rfl (Nat.le_of_ble_eq_true rfl) ?_
  refine RM.blk [(2, 0, 0, .null), (3, 12, 8, .null)] (pc' := 4) (L' := [some (.ref 76), none, none, none]) (st' := [.int (σ 76 8)]) (σ1 := σ) (by decide +kernel) rfl ?_
  refine RM.if_ne (tgt := 10) (by decide +kernel) (fun c1 => ?_) (fun c1 => ?_)
  · rw [if_neg c1] at h
    refine RM.blk [(0, 0, 0, .int 0), (4, 1, 0, .null), (0, 0, 0, .int 0), (4, 2, 0, .null)] (pc' := 14) (L' := [some (.ref 76), some (.int 0), some (.int 0), none]) (st' := []) (σ1 := σ) (by decide +kernel) rfl ?_
    have hL2 : ∀ (n : Nat) (x2 : Int32 × Int32 × SG) (y2 : Int32 × SG), lpW L_Ref_scrape_14 n x2 = some y2 → RN 1 M_Ref_scrape (some (.int rr)) so 100 [some (.ref 76), some (.int y2.1), none, none] [] y2.2 → RN 1 M_Ref_scrape (some (.int rr)) so 14 [some (.ref 76), some (.int x2.1), some (.int x2.2.1), none] [] x2.2.2 := by
      intro n
      induction n with
      | zero => intro x2 y2 hy2; cases hy2
      | succ n ih2 =>
        intro x2 y2 hy2 hK2
        obtain ⟨z2, e2, hy2⟩ := ob_some hy2
        unfold L_Ref_scrape_14 at e2
        refine RM.blk [(1, 2, 0, .null), (2, 0, 0, .null), (3, 12, 10, .null)] (pc' := 19) (L' := [some (.ref 76), some (.int x2.1), some (.int x2.2.1), none]) (st' := [.int (x2.2.2 76 10), .int x2.2.1]) (σ1 := x2.2.2) (by decide +kernel) rfl ?_
        refine RM.icmp_ge (tgt := 100) (by decide +kernel) (fun c3 => ?_) (fun c3 => ?_)
        · rw [if_pos c3] at e2
          obtain rfl := Option.some.inj e2
          obtain rfl := Option.some.inj (show some ((x2.1, x2.2.2) : Int32 × SG) = some y2 from hy2)
          refine RN.dropB [true, true, false, false] rfl ?_
          exact hK2
        · rw [if_neg c3] at e2
          refine RM.blk [(2, 0, 0, .null), (3, 12, 15, .null), (1, 2, 0, .null)] (pc' := 27) (L' := [some (.ref 76), some (.int x2.1), some (.int x2.2.1), none]) (st' := [.int x2.2.1, .ref 86]) (σ1 := x2.2.2) (by decide +kernel) rfl ?_
          obtain ⟨g4, e2⟩ := og_some e2
          refine RM.iald (q := 86) (n := 240) (by decide +kernel) rfl (vin_of g4) ?_
          refine RM.blk [(4, 3, 0, .null), (1, 3, 0, .null), (0, 0, 0, .int (-1))] (pc' := 31) (L' := [some (.ref 76), some (.int x2.1), some (.int x2.2.1), some (.int (x2.2.2 86 (ix x2.2.1)))]) (st' := [.int (-1), .int (x2.2.2 86 (ix x2.2.1))]) (σ1 := x2.2.2) (by decide +kernel) rfl ?_
          refine RM.icmp_eq (tgt := 94) (by decide +kernel) (fun c5 => ?_) (fun c5 => ?_)
          · rw [if_pos c5] at e2
            refine RM.blk [(10, 2, 0, .int 1), (23, 0, 0, .null)] (pc' := 14) (L' := [some (.ref 76), some (.int x2.1), some (.int (x2.2.1 + 1)), some (.int (x2.2.2 86 (ix x2.2.1)))]) (st' := []) (σ1 := x2.2.2) (by decide +kernel) rfl ?_
            obtain rfl := Option.some.inj e2
            refine RN.dropB [true, true, true, false] rfl ?_
            exact ih2 (x2.1, (x2.2.1 + 1), x2.2.2) _ hy2 hK2
          · rw [if_neg c5] at e2
            refine RM.blk [(1, 1, 0, .null), (2, 0, 0, .null), (3, 12, 13, .null), (1, 2, 0, .null)] (pc' := 40) (L' := [some (.ref 76), some (.int x2.1), some (.int x2.2.1), some (.int (x2.2.2 86 (ix x2.2.1)))]) (st' := [.int x2.2.1, .ref 84, .int x2.1]) (σ1 := x2.2.2) (by decide +kernel) rfl ?_
            obtain ⟨g6, e2⟩ := og_some e2
            refine RM.iald (q := 84) (n := 240) (by decide +kernel) rfl (vin_of g6) ?_
            refine RM.blk [(5, 0, 0, .null), (4, 1, 0, .null), (2, 0, 0, .null), (3, 12, 20, .null), (1, 3, 0, .null), (2, 0, 0, .null), (3, 12, 20, .null), (1, 3, 0, .null)] (pc' := 53) (L' := [some (.ref 76), some (.int (x2.1 + (x2.2.2 84 (ix x2.2.1)))), some (.int x2.2.1), some (.int (x2.2.2 86 (ix x2.2.1)))]) (st' := [.int (x2.2.2 86 (ix x2.2.1)), .ref 89, .int (x2.2.2 86 (ix x2.2.1)), .ref 89]) (σ1 := x2.2.2) (by decide +kernel) rfl ?_
            obtain ⟨g7, e2⟩ := og_some e2
            refine RM.iald (q := 89) (n := 10) (by decide +kernel) rfl (vin_of g7) ?_
            refine RM.blk [(2, 0, 0, .null), (3, 12, 13, .null), (1, 2, 0, .null)] (pc' := 59) (L' := [some (.ref 76), some (.int (x2.1 + (x2.2.2 84 (ix x2.2.1)))), some (.int x2.2.1), some (.int (x2.2.2 86 (ix x2.2.1)))]) (st' := [.int x2.2.1, .ref 84, .int (x2.2.2 89 (ix (x2.2.2 86 (ix x2.2.1)))), .int (x2.2.2 86 (ix x2.2.1)), .ref 89]) (σ1 := x2.2.2) (by decide +kernel) rfl ?_
            obtain ⟨g8, e2⟩ := og_some e2
            refine RM.iald (q := 84) (n := 240) (by decide +kernel) rfl (vin_of g8) ?_
            refine RM.blk [(5, 0, 0, .null), (0, 0, 0, .int 1000)] (pc' := 64) (L' := [some (.ref 76), some (.int (x2.1 + (x2.2.2 84 (ix x2.2.1)))), some (.int x2.2.1), some (.int (x2.2.2 86 (ix x2.2.1)))]) (st' := [.int 1000, .int ((x2.2.2 89 (ix (x2.2.2 86 (ix x2.2.1)))) + (x2.2.2 84 (ix x2.2.1))), .int (x2.2.2 86 (ix x2.2.1)), .ref 89]) (σ1 := x2.2.2) (by decide +kernel) rfl ?_
            refine RM.icmp_le (tgt := 73) (by decide +kernel) (fun c9 => ?_) (fun c9 => ?_)
            · rw [if_pos c9] at e2
              refine RM.blk [(2, 0, 0, .null), (3, 12, 20, .null), (1, 3, 0, .null)] (pc' := 78) (L' := [some (.ref 76), some (.int (x2.1 + (x2.2.2 84 (ix x2.2.1)))), some (.int x2.2.1), some (.int (x2.2.2 86 (ix x2.2.1)))]) (st' := [.int (x2.2.2 86 (ix x2.2.1)), .ref 89, .int (x2.2.2 86 (ix x2.2.1)), .ref 89]) (σ1 := x2.2.2) (by decide +kernel) rfl ?_
              obtain ⟨g10, e2⟩ := og_some e2
              refine RM.iald (q := 89) (n := 10) (by decide +kernel) rfl (vin_of g10) ?_
              refine RM.blk [(2, 0, 0, .null), (3, 12, 13, .null), (1, 2, 0, .null)] (pc' := 84) (L' := [some (.ref 76), some (.int (x2.1 + (x2.2.2 84 (ix x2.2.1)))), some (.int x2.2.1), some (.int (x2.2.2 86 (ix x2.2.1)))]) (st' := [.int x2.2.1, .ref 84, .int (x2.2.2 89 (ix (x2.2.2 86 (ix x2.2.1)))), .int (x2.2.2 86 (ix x2.2.1)), .ref 89]) (σ1 := x2.2.2) (by decide +kernel) rfl ?_
              obtain ⟨g11, e2⟩ := og_some e2
              refine RM.iald (q := 84) (n := 240) (by decide +kernel) rfl (vin_of g11) ?_
              refine RM.blk [(5, 0, 0, .null)] (pc' := 86) (L' := [some (.ref 76), some (.int (x2.1 + (x2.2.2 84 (ix x2.2.1)))), some (.int x2.2.1), some (.int (x2.2.2 86 (ix x2.2.1)))]) (st' := [.int ((x2.2.2 89 (ix (x2.2.2 86 (ix x2.2.1)))) + (x2.2.2 84 (ix x2.2.1))), .int (x2.2.2 86 (ix x2.2.1)), .ref 89]) (σ1 := x2.2.2) (by decide +kernel) rfl ?_
              obtain ⟨g12, e2⟩ := og_some e2
              refine RM.iast (q := 89) (n := 10) (by decide +kernel) rfl (vin_of g12) ?_
              generalize ns13 : (up x2.2.2 89 (ix (x2.2.2 86 (ix x2.2.1))) ((x2.2.2 89 (ix (x2.2.2 86 (ix x2.2.1)))) + (x2.2.2 84 (ix x2.2.1)))) = s13 at e2 ⊢
              replace e2 := nm_h e2
              refine RM.blk [(2, 0, 0, .null), (3, 12, 15, .null), (1, 2, 0, .null), (0, 0, 0, .int (-1))] (pc' := 93) (L' := [some (.ref 76), some (.int (x2.1 + (x2.2.2 84 (ix x2.2.1)))), some (.int x2.2.1), some (.int (x2.2.2 86 (ix x2.2.1)))]) (st' := [.int (-1), .int x2.2.1, .ref 86]) (σ1 := s13) (by decide +kernel) rfl ?_
              obtain ⟨g14, e2⟩ := og_some e2
              refine RM.iast (q := 86) (n := 240) (by decide +kernel) rfl (vin_of g14) ?_
              refine RM.blk [(10, 2, 0, .int 1), (23, 0, 0, .null)] (pc' := 14) (L' := [some (.ref 76), some (.int (x2.1 + (x2.2.2 84 (ix x2.2.1)))), some (.int (x2.2.1 + 1)), some (.int (x2.2.2 86 (ix x2.2.1)))]) (st' := []) (σ1 := (up s13 86 (ix x2.2.1) (-1))) (by decide +kernel) rfl ?_
              obtain rfl := Option.some.inj e2
              refine RN.dropB [true, true, true, false] rfl ?_
              exact ih2 ((x2.1 + (x2.2.2 84 (ix x2.2.1))), (x2.2.1 + 1), (up s13 86 (ix x2.2.1) (-1))) _ hy2 hK2
            · rw [if_neg c9] at e2
              refine RM.blk [(0, 0, 0, .int 1000), (23, 0, 0, .null)] (pc' := 86) (L' := [some (.ref 76), some (.int (x2.1 + (x2.2.2 84 (ix x2.2.1)))), some (.int x2.2.1), some (.int (x2.2.2 86 (ix x2.2.1)))]) (st' := [.int 1000, .int (x2.2.2 86 (ix x2.2.1)), .ref 89]) (σ1 := x2.2.2) (by decide +kernel) rfl ?_
              obtain ⟨g15, e2⟩ := og_some e2
              refine RM.iast (q := 89) (n := 10) (by decide +kernel) rfl (vin_of g15) ?_
              generalize ns16 : (up x2.2.2 89 (ix (x2.2.2 86 (ix x2.2.1))) 1000) = s16 at e2 ⊢
              replace e2 := nm_h e2
              refine RM.blk [(2, 0, 0, .null), (3, 12, 15, .null), (1, 2, 0, .null), (0, 0, 0, .int (-1))] (pc' := 93) (L' := [some (.ref 76), some (.int (x2.1 + (x2.2.2 84 (ix x2.2.1)))), some (.int x2.2.1), some (.int (x2.2.2 86 (ix x2.2.1)))]) (st' := [.int (-1), .int x2.2.1, .ref 86]) (σ1 := s16) (by decide +kernel) rfl ?_
              obtain ⟨g17, e2⟩ := og_some e2
              refine RM.iast (q := 86) (n := 240) (by decide +kernel) rfl (vin_of g17) ?_
              refine RM.blk [(10, 2, 0, .int 1), (23, 0, 0, .null)] (pc' := 14) (L' := [some (.ref 76), some (.int (x2.1 + (x2.2.2 84 (ix x2.2.1)))), some (.int (x2.2.1 + 1)), some (.int (x2.2.2 86 (ix x2.2.1)))]) (st' := []) (σ1 := (up s16 86 (ix x2.2.1) (-1))) (by decide +kernel) rfl ?_
              obtain rfl := Option.some.inj e2
              refine RN.dropB [true, true, true, false] rfl ?_
              exact ih2 ((x2.1 + (x2.2.2 84 (ix x2.2.1))), (x2.2.1 + 1), (up s16 86 (ix x2.2.1) (-1))) _ hy2 hK2
    obtain ⟨y2, hl2, h⟩ := ob_some h
    refine RN.dropB [true, true, true, false] rfl ?_
    refine hL2 FU (0, 0, σ) y2 hl2 ?_
    refine RM.blk [(2, 0, 0, .null), (0, 0, 0, .int 0), (16, 12, 8, .null), (1, 1, 0, .null)] (pc' := 106) (L' := [some (.ref 76), some (.int y2.1), none, none]) (st' := [.int y2.1]) (σ1 := (up y2.2 76 8 0)) (by decide +kernel) rfl ?_
    obtain ⟨rfl, rfl⟩ := Prod.mk.inj (Option.some.inj h)
    exact RM.reti (by decide +kernel) rfl
  · rw [if_pos c1] at h
    refine RM.blk [(0, 0, 0, .int (-3))] (pc' := 9) (L' := [some (.ref 76), none, none, none]) (st' := [.int (-3)]) (σ1 := σ) (by decide +kernel) rfl ?_
    obtain ⟨rfl, rfl⟩ := Prod.mk.inj (Option.some.inj h)
    exact RM.reti (by decide +kernel) rfl
def M_Ref_changes : MI := (yX12_changes, cX12_changes, 5, some .int, 12)
theorem mk_Ref_changes : mOK M_Ref_changes 1 = true := by decide +kernel
set_option maxRecDepth 100000 in
set_option maxHeartbeats 4000000 in
theorem s_Ref_changes (σ : SG) (p0 : Int32) (rr : Int32) (h : F_Ref_changes σ p0 = some rr) : SpN 2 M_Ref_changes [.ref 76, .int p0] σ (some (.int rr)) σ := by
  unfold F_Ref_changes at h
  refine Sp.of mk_Ref_changes rfl (Nat.le_of_ble_eq_true rfl) ?_
  refine RM.blk [(1, 1, 0, .null), (0, 0, 0, .int 0), (0, 0, 0, .int 7)] (pc' := 4) (L' := [some (.ref 76), some (.int p0), none, none, none]) (st' := [.int 7, .int 0, .int p0]) (σ1 := σ) (by decide +kernel) rfl ?_
  refine RN.callS [.int p0, .int 0, .int 7] (s_Ref_in σ p0 0 7) [] (pc3 := 7) (st3 := [.int (bI (F_Ref_in p0 0 7))]) (by decide +kernel) mk_Ref_in (by decide) ?_
  refine RM.zne (tgt := 13) (by decide +kernel) (fun c1 => ?_) (fun c1 => ?_)
  · rw [if_pos c1] at h
    refine RM.blk [(2, 0, 0, .null), (3, 12, 8, .null)] (pc' := 17) (L' := [some (.ref 76), some (.int p0), none, none, none]) (st' := [.int (σ 76 8)]) (σ1 := σ) (by decide +kernel) rfl ?_
    refine RM.if_ne (tgt := 23) (by decide +kernel) (fun c2 => ?_) (fun c2 => ?_)
    · rw [if_neg c2] at h
      refine RM.blk [(0, 0, 0, .int 0), (4, 2, 0, .null), (0, 0, 0, .int (-9)), (4, 3, 0, .null), (0, 0, 0, .int 0), (4, 4, 0, .null)] (pc' := 31) (L' := [some (.ref 76), some (.int p0), some (.int 0), some (.int (-9)), some (.int 0)]) (st' := []) (σ1 := σ) (by decide +kernel) rfl ?_
      have hL3 : ∀ (n : Nat) (x3 : Int32 × Int32 × Int32) (y3 : Int32), lpW (L_Ref_changes_31 σ p0) n x3 = some y3 → RN 2 M_Ref_changes (some (.int rr)) σ 90 [none, none, some (.int y3), none, none] [] σ → RN 2 M_Ref_changes (some (.int rr)) σ 31 [some (.ref 76), some (.int p0), some (.int x3.1), some (.int x3.2.1), some (.int x3.2.2)] [] σ := by
        intro n
        induction n with
        | zero => intro x3 y3 hy3; cases hy3
        | succ n ih3 =>
          intro x3 y3 hy3 hK3
          obtain ⟨z3, e3, hy3⟩ := ob_some hy3
          unfold L_Ref_changes_31 at e3
          refine RM.blk [(1, 4, 0, .null), (2, 0, 0, .null), (3, 12, 10, .null)] (pc' := 37) (L' := [some (.ref 76), some (.int p0), some (.int x3.1), some (.int x3.2.1), some (.int x3.2.2)]) (st' := [.int (σ 76 10), .int x3.2.2]) (σ1 := σ) (by decide +kernel) rfl ?_
          refine RM.icmp_ge (tgt := 90) (by decide +kernel) (fun c4 => ?_) (fun c4 => ?_)
          · rw [if_pos c4] at e3
            obtain rfl := Option.some.inj e3
            obtain rfl := Option.some.inj (show some (x3.1 : Int32) = some y3 from hy3)
            refine RN.dropB [false, false, true, false, false] rfl ?_
            exact hK3
          · rw [if_neg c4] at e3
            refine RM.blk [(2, 0, 0, .null), (3, 12, 14, .null), (1, 4, 0, .null)] (pc' := 46) (L' := [some (.ref 76), some (.int p0), some (.int x3.1), some (.int x3.2.1), some (.int x3.2.2)]) (st' := [.int x3.2.2, .ref 85]) (σ1 := σ) (by decide +kernel) rfl ?_
            obtain ⟨g5, e3⟩ := og_some e3
            refine RM.iald (q := 85) (n := 240) (by decide +kernel) rfl (vin_of g5) ?_
            refine RM.blk [(1, 1, 0, .null)] (pc' := 48) (L' := [some (.ref 76), some (.int p0), some (.int x3.1), some (.int x3.2.1), some (.int x3.2.2)]) (st' := [.int p0, .int (σ 85 (ix x3.2.2))]) (σ1 := σ) (by decide +kernel) rfl ?_
            refine RM.icmp_ne (tgt := 84) (by decide +kernel) (fun c6 => ?_) (fun c6 => ?_)
            · rw [if_neg c6] at e3
              refine RM.blk [(10, 4, 0, .int 1), (23, 0, 0, .null)] (pc' := 31) (L' := [some (.ref 76), some (.int p0), some (.int x3.1), some (.int x3.2.1), some (.int (x3.2.2 + 1))]) (st' := []) (σ1 := σ) (by decide +kernel) rfl ?_
              obtain rfl := Option.some.inj e3
              refine RN.dropB [true, true, true, true, true] rfl ?_
              exact ih3 (x3.1, x3.2.1, (x3.2.2 + 1)) _ hy3 hK3
            · rw [if_pos c6] at e3
              refine RM.blk [(1, 2, 0, .null), (1, 3, 0, .null), (0, 0, 0, .int (-9))] (pc' := 55) (L' := [some (.ref 76), some (.int p0), some (.int x3.1), some (.int x3.2.1), some (.int x3.2.2)]) (st' := [.int (-9), .int x3.2.1, .int x3.1]) (σ1 := σ) (by decide +kernel) rfl ?_
              refine RM.icmp_eq (tgt := 73) (by decide +kernel) (fun c7 => ?_) (fun c7 => ?_)
              · rw [if_pos c7] at e3
                refine RM.blk [(0, 0, 0, .int 0), (5, 0, 0, .null), (4, 2, 0, .null), (2, 0, 0, .null), (3, 12, 15, .null), (1, 4, 0, .null)] (pc' := 82) (L' := [some (.ref 76), some (.int p0), some (.int (x3.1 + 0)), some (.int x3.2.1), some (.int x3.2.2)]) (st' := [.int x3.2.2, .ref 86]) (σ1 := σ) (by decide +kernel) rfl ?_
                obtain ⟨g8, e3⟩ := og_some e3
                refine RM.iald (q := 86) (n := 240) (by decide +kernel) rfl (vin_of g8) ?_
                refine RM.blk [(4, 3, 0, .null), (10, 4, 0, .int 1), (23, 0, 0, .null)] (pc' := 31) (L' := [some (.ref 76), some (.int p0), some (.int (x3.1 + 0)), some (.int (σ 86 (ix x3.2.2))), some (.int (x3.2.2 + 1))]) (st' := []) (σ1 := σ) (by decide +kernel) rfl ?_
                obtain rfl := Option.some.inj e3
                refine RN.dropB [true, true, true, true, true] rfl ?_
                exact ih3 ((x3.1 + 0), (σ 86 (ix x3.2.2)), (x3.2.2 + 1)) _ hy3 hK3
              · rw [if_neg c7] at e3
                refine RM.blk [(1, 3, 0, .null), (2, 0, 0, .null), (3, 12, 15, .null), (1, 4, 0, .null)] (pc' := 65) (L' := [some (.ref 76), some (.int p0), some (.int x3.1), some (.int x3.2.1), some (.int x3.2.2)]) (st' := [.int x3.2.2, .ref 86, .int x3.2.1, .int x3.1]) (σ1 := σ) (by decide +kernel) rfl ?_
                obtain ⟨g9, e3⟩ := og_some e3
                refine RM.iald (q := 86) (n := 240) (by decide +kernel) rfl (vin_of g9) ?_
                refine RM.icmp_eq (tgt := 73) (by decide +kernel) (fun c10 => ?_) (fun c10 => ?_)
                · rw [if_pos c10] at e3
                  refine RM.blk [(0, 0, 0, .int 0), (5, 0, 0, .null), (4, 2, 0, .null), (2, 0, 0, .null), (3, 12, 15, .null), (1, 4, 0, .null)] (pc' := 82) (L' := [some (.ref 76), some (.int p0), some (.int (x3.1 + 0)), some (.int x3.2.1), some (.int x3.2.2)]) (st' := [.int x3.2.2, .ref 86]) (σ1 := σ) (by decide +kernel) rfl ?_
                  obtain ⟨g11, e3⟩ := og_some e3
                  refine RM.iald (q := 86) (n := 240) (by decide +kernel) rfl (vin_of g11) ?_
                  refine RM.blk [(4, 3, 0, .null), (10, 4, 0, .int 1), (23, 0, 0, .null)] (pc' := 31) (L' := [some (.ref 76), some (.int p0), some (.int (x3.1 + 0)), some (.int (σ 86 (ix x3.2.2))), some (.int (x3.2.2 + 1))]) (st' := []) (σ1 := σ) (by decide +kernel) rfl ?_
                  obtain rfl := Option.some.inj e3
                  refine RN.dropB [true, true, true, true, true] rfl ?_
                  exact ih3 ((x3.1 + 0), (σ 86 (ix x3.2.2)), (x3.2.2 + 1)) _ hy3 hK3
                · rw [if_neg c10] at e3
                  refine RM.blk [(0, 0, 0, .int 1), (23, 0, 0, .null), (5, 0, 0, .null), (4, 2, 0, .null), (2, 0, 0, .null), (3, 12, 15, .null), (1, 4, 0, .null)] (pc' := 82) (L' := [some (.ref 76), some (.int p0), some (.int (x3.1 + 1)), some (.int x3.2.1), some (.int x3.2.2)]) (st' := [.int x3.2.2, .ref 86]) (σ1 := σ) (by decide +kernel) rfl ?_
                  obtain ⟨g12, e3⟩ := og_some e3
                  refine RM.iald (q := 86) (n := 240) (by decide +kernel) rfl (vin_of g12) ?_
                  refine RM.blk [(4, 3, 0, .null), (10, 4, 0, .int 1), (23, 0, 0, .null)] (pc' := 31) (L' := [some (.ref 76), some (.int p0), some (.int (x3.1 + 1)), some (.int (σ 86 (ix x3.2.2))), some (.int (x3.2.2 + 1))]) (st' := []) (σ1 := σ) (by decide +kernel) rfl ?_
                  obtain rfl := Option.some.inj e3
                  refine RN.dropB [true, true, true, true, true] rfl ?_
                  exact ih3 ((x3.1 + 1), (σ 86 (ix x3.2.2)), (x3.2.2 + 1)) _ hy3 hK3
      obtain ⟨y3, hl3, h⟩ := ob_some h
      refine RN.dropB [true, true, true, true, true] rfl ?_
      refine hL3 FU (0, (-9), 0) y3 hl3 ?_
      refine RM.blk [(1, 2, 0, .null)] (pc' := 91) (L' := [none, none, some (.int y3), none, none]) (st' := [.int y3]) (σ1 := σ) (by decide +kernel) rfl ?_
      obtain rfl := (Option.some.inj h)
      exact RM.reti (by decide +kernel) rfl
    · rw [if_pos c2] at h
      refine RM.blk [(0, 0, 0, .int (-3))] (pc' := 22) (L' := [some (.ref 76), some (.int p0), none, none, none]) (st' := [.int (-3)]) (σ1 := σ) (by decide +kernel) rfl ?_
      obtain rfl := (Option.some.inj h)
      exact RM.reti (by decide +kernel) rfl
  · rw [if_neg (bf c1)] at h
    refine RM.blk [(0, 0, 0, .int (-2))] (pc' := 12) (L' := [some (.ref 76), some (.int p0), none, none, none]) (st' := [.int (-2)]) (σ1 := σ) (by decide +kernel) rfl ?_
    obtain rfl := (Option.some.inj h)
    exact RM.reti (by decide +kernel) rfl
def M_Ref_nearestBorder : MI := (yX12_nearestBorder, cX12_nearestBorder, 8, some .int, 12)
theorem mk_Ref_nearestBorder : mOK M_Ref_nearestBorder 2 = true := by decide +kernel
set_option maxRecDepth 100000 in
set_option maxHeartbeats 4000000 in
theorem s_Ref_nearestBorder (σ : SG) (p0 : Int32) (p1 : Int32) (rr : Int32) (h : F_Ref_nearestBorder σ p0 p1 = some rr) : SpN 1 M_Ref_nearestBorder [.ref 76, .int p0, .int p1] σ (some (.int rr)) σ := by
  unfold F_Ref_nearestBorder at h
  refine Sp.of mk_Ref_nearestBorder rfl (Nat.le_of_ble_eq_true rfl) ?_
  refine RM.blk [(0, 0, 0, .int 0), (4, 3, 0, .null), (0, 0, 0, .int 0), (4, 4, 0, .null)] (pc' := 5) (L' := [some (.ref 76), some (.int p0), some (.int p1), some (.int 0), some (.int 0), none, none, none]) (st' := []) (σ1 := σ) (by decide +kernel) rfl ?_
  have hL1 : ∀ (n : Nat) (x1 : Int32 × Int32) (y1 : Int32), lpW (L_Ref_nearestBorder_5 σ p0 p1) n x1 = some y1 → RN 1 M_Ref_nearestBorder (some (.int rr)) σ 97 [none, none, none, some (.int y1), none, none, none, none] [] σ → RN 1 M_Ref_nearestBorder (some (.int rr)) σ 5 [some (.ref 76), some (.int p0), some (.int p1), some (.int x1.1), some (.int x1.2), none, none, none] [] σ := by
    intro n
    induction n with
    | zero => intro x1 y1 hy1; cases hy1
    | succ n ih1 =>
      intro x1 y1 hy1 hK1
      obtain ⟨z1, e1, hy1⟩ := ob_some hy1
      unfold L_Ref_nearestBorder_5 at e1
      refine RM.blk [(1, 4, 0, .null), (2, 0, 0, .null), (3, 12, 10, .null)] (pc' := 11) (L' := [some (.ref 76), some (.int p0), some (.int p1), some (.int x1.1), some (.int x1.2), none, none, none]) (st' := [.int (σ 76 10), .int x1.2]) (σ1 := σ) (by decide +kernel) rfl ?_
      refine RM.icmp_ge (tgt := 97) (by decide +kernel) (fun c2 => ?_) (fun c2 => ?_)
      · rw [if_pos c2] at e1
        obtain rfl := Option.some.inj e1
        obtain rfl := Option.some.inj (show some (x1.1 : Int32) = some y1 from hy1)
        refine RN.dropB [false, false, false, true, false, false, false, false] rfl ?_
        exact hK1
      · rw [if_neg c2] at e1
        refine RM.blk [(2, 0, 0, .null), (3, 12, 11, .null), (1, 4, 0, .null)] (pc' := 20) (L' := [some (.ref 76), some (.int p0), some (.int p1), some (.int x1.1), some (.int x1.2), none, none, none]) (st' := [.int x1.2, .ref 82]) (σ1 := σ) (by decide +kernel) rfl ?_
        obtain ⟨g3, e1⟩ := og_some e1
        refine RM.iald (q := 82) (n := 240) (by decide +kernel) rfl (vin_of g3) ?_
        refine RM.blk [(1, 1, 0, .null)] (pc' := 22) (L' := [some (.ref 76), some (.int p0), some (.int p1), some (.int x1.1), some (.int x1.2), none, none, none]) (st' := [.int p0, .int (σ 82 (ix x1.2))]) (σ1 := σ) (by decide +kernel) rfl ?_
        refine RM.icmp_ne (tgt := 91) (by decide +kernel) (fun c4 => ?_) (fun c4 => ?_)
        · rw [if_neg c4] at e1
          refine RM.blk [(10, 4, 0, .int 1), (23, 0, 0, .null)] (pc' := 5) (L' := [some (.ref 76), some (.int p0), some (.int p1), some (.int x1.1), some (.int (x1.2 + 1)), none, none, none]) (st' := []) (σ1 := σ) (by decide +kernel) rfl ?_
          obtain rfl := Option.some.inj e1
          refine RN.dropB [true, true, true, true, true, false, false, false] rfl ?_
          exact ih1 (x1.1, (x1.2 + 1)) _ hy1 hK1
        · rw [if_pos c4] at e1
          refine RM.blk [(2, 0, 0, .null), (3, 12, 12, .null), (1, 4, 0, .null)] (pc' := 31) (L' := [some (.ref 76), some (.int p0), some (.int p1), some (.int x1.1), some (.int x1.2), none, none, none]) (st' := [.int x1.2, .ref 83]) (σ1 := σ) (by decide +kernel) rfl ?_
          obtain ⟨g5, e1⟩ := og_some e1
          refine RM.iald (q := 83) (n := 240) (by decide +kernel) rfl (vin_of g5) ?_
          refine RM.blk [(2, 0, 0, .null), (3, 12, 13, .null), (1, 4, 0, .null)] (pc' := 38) (L' := [some (.ref 76), some (.int p0), some (.int p1), some (.int x1.1), some (.int x1.2), none, none, none]) (st' := [.int x1.2, .ref 84, .int (σ 83 (ix x1.2))]) (σ1 := σ) (by decide +kernel) rfl ?_
          obtain ⟨g6, e1⟩ := og_some e1
          refine RM.iald (q := 84) (n := 240) (by decide +kernel) rfl (vin_of g6) ?_
          refine RM.blk [(5, 0, 0, .null), (4, 5, 0, .null), (1, 5, 0, .null), (1, 2, 0, .null)] (pc' := 45) (L' := [some (.ref 76), some (.int p0), some (.int p1), some (.int x1.1), some (.int x1.2), some (.int ((σ 83 (ix x1.2)) + (σ 84 (ix x1.2)))), none, none]) (st' := [.int p1, .int ((σ 83 (ix x1.2)) + (σ 84 (ix x1.2)))]) (σ1 := σ) (by decide +kernel) rfl ?_
          refine RM.icmp_le (tgt := 55) (by decide +kernel) (fun c7 => ?_) (fun c7 => ?_)
          · rw [if_pos c7] at e1
            refine RM.blk [(1, 2, 0, .null), (1, 5, 0, .null), (6, 0, 0, .null), (4, 6, 0, .null), (1, 3, 0, .null), (1, 2, 0, .null)] (pc' := 63) (L' := [some (.ref 76), some (.int p0), some (.int p1), some (.int x1.1), some (.int x1.2), some (.int ((σ 83 (ix x1.2)) + (σ 84 (ix x1.2)))), some (.int (p1 - ((σ 83 (ix x1.2)) + (σ 84 (ix x1.2))))), none]) (st' := [.int p1, .int x1.1]) (σ1 := σ) (by decide +kernel) rfl ?_
            refine RM.icmp_le (tgt := 72) (by decide +kernel) (fun c8 => ?_) (fun c8 => ?_)
            · rw [if_pos c8] at e1
              refine RM.blk [(1, 2, 0, .null), (1, 3, 0, .null), (6, 0, 0, .null), (4, 7, 0, .null), (1, 6, 0, .null), (1, 7, 0, .null)] (pc' := 81) (L' := [some (.ref 76), some (.int p0), some (.int p1), some (.int x1.1), some (.int x1.2), some (.int ((σ 83 (ix x1.2)) + (σ 84 (ix x1.2)))), some (.int (p1 - ((σ 83 (ix x1.2)) + (σ 84 (ix x1.2))))), some (.int (p1 - x1.1))]) (st' := [.int (p1 - x1.1), .int (p1 - ((σ 83 (ix x1.2)) + (σ 84 (ix x1.2))))]) (σ1 := σ) (by decide +kernel) rfl ?_
              refine RM.icmp_ge (tgt := 89) (by decide +kernel) (fun c9 => ?_) (fun c9 => ?_)
              · rw [if_pos c9] at e1
                refine RM.blk [(1, 3, 0, .null), (4, 3, 0, .null), (10, 4, 0, .int 1), (23, 0, 0, .null)] (pc' := 5) (L' := [some (.ref 76), some (.int p0), some (.int p1), some (.int x1.1), some (.int (x1.2 + 1)), some (.int ((σ 83 (ix x1.2)) + (σ 84 (ix x1.2)))), some (.int (p1 - ((σ 83 (ix x1.2)) + (σ 84 (ix x1.2))))), some (.int (p1 - x1.1))]) (st' := []) (σ1 := σ) (by decide +kernel) rfl ?_
                obtain rfl := Option.some.inj e1
                refine RN.dropB [true, true, true, true, true, false, false, false] rfl ?_
                exact ih1 (x1.1, (x1.2 + 1)) _ hy1 hK1
              · rw [if_neg c9] at e1
                refine RM.blk [(1, 5, 0, .null), (23, 0, 0, .null), (4, 3, 0, .null), (10, 4, 0, .int 1), (23, 0, 0, .null)] (pc' := 5) (L' := [some (.ref 76), some (.int p0), some (.int p1), some (.int ((σ 83 (ix x1.2)) + (σ 84 (ix x1.2)))), some (.int (x1.2 + 1)), some (.int ((σ 83 (ix x1.2)) + (σ 84 (ix x1.2)))), some (.int (p1 - ((σ 83 (ix x1.2)) + (σ 84 (ix x1.2))))), some (.int (p1 - x1.1))]) (st' := []) (σ1 := σ) (by decide +kernel) rfl ?_
                obtain rfl := Option.some.inj e1
                refine RN.dropB [true, true, true, true, true, false, false, false] rfl ?_
                exact ih1 (((σ 83 (ix x1.2)) + (σ 84 (ix x1.2))), (x1.2 + 1)) _ hy1 hK1
            · rw [if_neg c8] at e1
              refine RM.blk [(1, 3, 0, .null), (1, 2, 0, .null), (6, 0, 0, .null), (23, 0, 0, .null), (4, 7, 0, .null), (1, 6, 0, .null), (1, 7, 0, .null)] (pc' := 81) (L' := [some (.ref 76), some (.int p0), some (.int p1), some (.int x1.1), some (.int x1.2), some (.int ((σ 83 (ix x1.2)) + (σ 84 (ix x1.2)))), some (.int (p1 - ((σ 83 (ix x1.2)) + (σ 84 (ix x1.2))))), some (.int (x1.1 - p1))]) (st' := [.int (x1.1 - p1), .int (p1 - ((σ 83 (ix x1.2)) + (σ 84 (ix x1.2))))]) (σ1 := σ) (by decide +kernel) rfl ?_
              refine RM.icmp_ge (tgt := 89) (by decide +kernel) (fun c10 => ?_) (fun c10 => ?_)
              · rw [if_pos c10] at e1
                refine RM.blk [(1, 3, 0, .null), (4, 3, 0, .null), (10, 4, 0, .int 1), (23, 0, 0, .null)] (pc' := 5) (L' := [some (.ref 76), some (.int p0), some (.int p1), some (.int x1.1), some (.int (x1.2 + 1)), some (.int ((σ 83 (ix x1.2)) + (σ 84 (ix x1.2)))), some (.int (p1 - ((σ 83 (ix x1.2)) + (σ 84 (ix x1.2))))), some (.int (x1.1 - p1))]) (st' := []) (σ1 := σ) (by decide +kernel) rfl ?_
                obtain rfl := Option.some.inj e1
                refine RN.dropB [true, true, true, true, true, false, false, false] rfl ?_
                exact ih1 (x1.1, (x1.2 + 1)) _ hy1 hK1
              · rw [if_neg c10] at e1
                refine RM.blk [(1, 5, 0, .null), (23, 0, 0, .null), (4, 3, 0, .null), (10, 4, 0, .int 1), (23, 0, 0, .null)] (pc' := 5) (L' := [some (.ref 76), some (.int p0), some (.int p1), some (.int ((σ 83 (ix x1.2)) + (σ 84 (ix x1.2)))), some (.int (x1.2 + 1)), some (.int ((σ 83 (ix x1.2)) + (σ 84 (ix x1.2)))), some (.int (p1 - ((σ 83 (ix x1.2)) + (σ 84 (ix x1.2))))), some (.int (x1.1 - p1))]) (st' := []) (σ1 := σ) (by decide +kernel) rfl ?_
                obtain rfl := Option.some.inj e1
                refine RN.dropB [true, true, true, true, true, false, false, false] rfl ?_
                exact ih1 (((σ 83 (ix x1.2)) + (σ 84 (ix x1.2))), (x1.2 + 1)) _ hy1 hK1
          · rw [if_neg c7] at e1
            refine RM.blk [(1, 5, 0, .null), (1, 2, 0, .null), (6, 0, 0, .null), (23, 0, 0, .null), (4, 6, 0, .null), (1, 3, 0, .null), (1, 2, 0, .null)] (pc' := 63) (L' := [some (.ref 76), some (.int p0), some (.int p1), some (.int x1.1), some (.int x1.2), some (.int ((σ 83 (ix x1.2)) + (σ 84 (ix x1.2)))), some (.int (((σ 83 (ix x1.2)) + (σ 84 (ix x1.2))) - p1)), none]) (st' := [.int p1, .int x1.1]) (σ1 := σ) (by decide +kernel) rfl ?_
            refine RM.icmp_le (tgt := 72) (by decide +kernel) (fun c11 => ?_) (fun c11 => ?_)
            · rw [if_pos c11] at e1
              refine RM.blk [(1, 2, 0, .null), (1, 3, 0, .null), (6, 0, 0, .null), (4, 7, 0, .null), (1, 6, 0, .null), (1, 7, 0, .null)] (pc' := 81) (L' := [some (.ref 76), some (.int p0), some (.int p1), some (.int x1.1), some (.int x1.2), some (.int ((σ 83 (ix x1.2)) + (σ 84 (ix x1.2)))), some (.int (((σ 83 (ix x1.2)) + (σ 84 (ix x1.2))) - p1)), some (.int (p1 - x1.1))]) (st' := [.int (p1 - x1.1), .int (((σ 83 (ix x1.2)) + (σ 84 (ix x1.2))) - p1)]) (σ1 := σ) (by decide +kernel) rfl ?_
              refine RM.icmp_ge (tgt := 89) (by decide +kernel) (fun c12 => ?_) (fun c12 => ?_)
              · rw [if_pos c12] at e1
                refine RM.blk [(1, 3, 0, .null), (4, 3, 0, .null), (10, 4, 0, .int 1), (23, 0, 0, .null)] (pc' := 5) (L' := [some (.ref 76), some (.int p0), some (.int p1), some (.int x1.1), some (.int (x1.2 + 1)), some (.int ((σ 83 (ix x1.2)) + (σ 84 (ix x1.2)))), some (.int (((σ 83 (ix x1.2)) + (σ 84 (ix x1.2))) - p1)), some (.int (p1 - x1.1))]) (st' := []) (σ1 := σ) (by decide +kernel) rfl ?_
                obtain rfl := Option.some.inj e1
                refine RN.dropB [true, true, true, true, true, false, false, false] rfl ?_
                exact ih1 (x1.1, (x1.2 + 1)) _ hy1 hK1
              · rw [if_neg c12] at e1
                refine RM.blk [(1, 5, 0, .null), (23, 0, 0, .null), (4, 3, 0, .null), (10, 4, 0, .int 1), (23, 0, 0, .null)] (pc' := 5) (L' := [some (.ref 76), some (.int p0), some (.int p1), some (.int ((σ 83 (ix x1.2)) + (σ 84 (ix x1.2)))), some (.int (x1.2 + 1)), some (.int ((σ 83 (ix x1.2)) + (σ 84 (ix x1.2)))), some (.int (((σ 83 (ix x1.2)) + (σ 84 (ix x1.2))) - p1)), some (.int (p1 - x1.1))]) (st' := []) (σ1 := σ) (by decide +kernel) rfl ?_
                obtain rfl := Option.some.inj e1
                refine RN.dropB [true, true, true, true, true, false, false, false] rfl ?_
                exact ih1 (((σ 83 (ix x1.2)) + (σ 84 (ix x1.2))), (x1.2 + 1)) _ hy1 hK1
            · rw [if_neg c11] at e1
              refine RM.blk [(1, 3, 0, .null), (1, 2, 0, .null), (6, 0, 0, .null), (23, 0, 0, .null), (4, 7, 0, .null), (1, 6, 0, .null), (1, 7, 0, .null)] (pc' := 81) (L' := [some (.ref 76), some (.int p0), some (.int p1), some (.int x1.1), some (.int x1.2), some (.int ((σ 83 (ix x1.2)) + (σ 84 (ix x1.2)))), some (.int (((σ 83 (ix x1.2)) + (σ 84 (ix x1.2))) - p1)), some (.int (x1.1 - p1))]) (st' := [.int (x1.1 - p1), .int (((σ 83 (ix x1.2)) + (σ 84 (ix x1.2))) - p1)]) (σ1 := σ) (by decide +kernel) rfl ?_
              refine RM.icmp_ge (tgt := 89) (by decide +kernel) (fun c13 => ?_) (fun c13 => ?_)
              · rw [if_pos c13] at e1
                refine RM.blk [(1, 3, 0, .null), (4, 3, 0, .null), (10, 4, 0, .int 1), (23, 0, 0, .null)] (pc' := 5) (L' := [some (.ref 76), some (.int p0), some (.int p1), some (.int x1.1), some (.int (x1.2 + 1)), some (.int ((σ 83 (ix x1.2)) + (σ 84 (ix x1.2)))), some (.int (((σ 83 (ix x1.2)) + (σ 84 (ix x1.2))) - p1)), some (.int (x1.1 - p1))]) (st' := []) (σ1 := σ) (by decide +kernel) rfl ?_
                obtain rfl := Option.some.inj e1
                refine RN.dropB [true, true, true, true, true, false, false, false] rfl ?_
                exact ih1 (x1.1, (x1.2 + 1)) _ hy1 hK1
              · rw [if_neg c13] at e1
                refine RM.blk [(1, 5, 0, .null), (23, 0, 0, .null), (4, 3, 0, .null), (10, 4, 0, .int 1), (23, 0, 0, .null)] (pc' := 5) (L' := [some (.ref 76), some (.int p0), some (.int p1), some (.int ((σ 83 (ix x1.2)) + (σ 84 (ix x1.2)))), some (.int (x1.2 + 1)), some (.int ((σ 83 (ix x1.2)) + (σ 84 (ix x1.2)))), some (.int (((σ 83 (ix x1.2)) + (σ 84 (ix x1.2))) - p1)), some (.int (x1.1 - p1))]) (st' := []) (σ1 := σ) (by decide +kernel) rfl ?_
                obtain rfl := Option.some.inj e1
                refine RN.dropB [true, true, true, true, true, false, false, false] rfl ?_
                exact ih1 (((σ 83 (ix x1.2)) + (σ 84 (ix x1.2))), (x1.2 + 1)) _ hy1 hK1
  obtain ⟨y1, hl1, h⟩ := ob_some h
  refine RN.dropB [true, true, true, true, true, false, false, false] rfl ?_
  refine hL1 FU (0, 0) y1 hl1 ?_
  refine RM.blk [(1, 3, 0, .null)] (pc' := 98) (L' := [none, none, none, some (.int y1), none, none, none, none]) (st' := [.int y1]) (σ1 := σ) (by decide +kernel) rfl ?_
  obtain rfl := (Option.some.inj h)
  exact RM.reti (by decide +kernel) rfl
def M_Ref_cut : MI := (yX12_cut, cX12_cut, 7, some .int, 12)
theorem mk_Ref_cut : mOK M_Ref_cut 2 = true := by decide +kernel
set_option maxRecDepth 100000 in
set_option maxHeartbeats 4000000 in
theorem s_Ref_cut (σ : SG) (p0 : Int32) (p1 : Int32) (rr : Int32) (so : SG) (h : F_Ref_cut σ p0 p1 = some (rr, so)) : SpN 2 M_Ref_cut [.ref 76, .int p0, .int p1] σ (some (.int rr)) so := by
  unfold F_Ref_cut at h
  refine Sp.of mk_Ref_cut rfl (Nat.le_of_ble_eq_true rfl) ?_
  refine RM.blk [(1, 1, 0, .null), (0, 0, 0, .int 1), (0, 0, 0, .int 10)] (pc' := 4) (L' := [some (.ref 76), some (.int p0), some (.int p1), none, none, none, none]) (st' := [.int 10, .int 1, .int p0]) (σ1 := σ) (by decide +kernel) rfl ?_
  refine RN.callS [.int p0, .int 1, .int 10] (s_Ref_in σ p0 1 10) [] (pc3 := 7) (st3 := [.int (bI (F_Ref_in p0 1 10))]) (by decide +kernel) mk_Ref_in (by decide) ?_
  refine RM.zeq (tgt := 20) (by decide +kernel) (fun c1 => ?_) (fun c1 => ?_)
  · rw [if_neg (bf c1)] at h
    refine RM.blk [(0, 0, 0, .int (-2))] (pc' := 22) (L' := [some (.ref 76), some (.int p0), some (.int p1), none, none, none, none]) (st' := [.int (-2)]) (σ1 := σ) (by decide +kernel) rfl ?_
    obtain ⟨rfl, rfl⟩ := Prod.mk.inj (Option.some.inj h)
    exact RM.reti (by decide +kernel) rfl
  · rw [if_pos c1] at h
    refine RM.blk [(1, 2, 0, .null), (0, 0, 0, .int 1), (0, 0, 0, .int 24)] (pc' := 14) (L' := [some (.ref 76), some (.int p0), some (.int p1), none, none, none, none]) (st' := [.int 24, .int 1, .int p1]) (σ1 := σ) (by decide +kernel) rfl ?_
    refine RN.callS [.int p1, .int 1, .int 24] (s_Ref_in σ p1 1 24) [] (pc3 := 17) (st3 := [.int (bI (F_Ref_in p1 1 24))]) (by decide +kernel) mk_Ref_in (by decide) ?_
    refine RM.zne (tgt := 23) (by decide +kernel) (fun c2 => ?_) (fun c2 => ?_)
    · rw [if_pos c2] at h
      refine RM.blk [(2, 0, 0, .null), (3, 12, 7, .null)] (pc' := 27) (L' := [some (.ref 76), some (.int p0), some (.int p1), none, none, none, none]) (st' := [.int (σ 76 7)]) (σ1 := σ) (by decide +kernel) rfl ?_
      refine RM.if_ne (tgt := 33) (by decide +kernel) (fun c3 => ?_) (fun c3 => ?_)
      · rw [if_neg c3] at h
        refine RM.blk [(2, 0, 0, .null), (3, 12, 0, .null), (1, 2, 0, .null), (5, 0, 0, .null), (0, 0, 0, .int 1), (6, 0, 0, .null), (1, 2, 0, .null)] (pc' := 42) (L' := [some (.ref 76), some (.int p0), some (.int p1), none, none, none, none]) (st' := [.int p1, .int (((σ 76 0) + p1) - 1)]) (σ1 := σ) (by decide +kernel) rfl ?_
        obtain ⟨g4, h⟩ := og_some h
        refine RM.idiv (by decide +kernel) (nz_of g4) ?_
        refine RM.blk [(4, 3, 0, .null), (2, 0, 0, .null), (2, 0, 0, .null), (3, 12, 1, .null), (1, 1, 0, .null), (5, 0, 0, .null), (0, 0, 0, .int 1), (6, 0, 0, .null), (1, 1, 0, .null)] (pc' := 54) (L' := [some (.ref 76), some (.int p0), some (.int p1), some (.int ((((σ 76 0) + p1) - 1) / p1)), none, none, none]) (st' := [.int p0, .int (((σ 76 1) + p0) - 1), .ref 76]) (σ1 := σ) (by decide +kernel) rfl ?_
        obtain ⟨g5, h⟩ := og_some h
        refine RM.idiv (by decide +kernel) (nz_of g5) ?_
        refine RM.blk [(1, 3, 0, .null), (7, 0, 0, .null), (15, 12, 17, .null), (0, 0, 0, .int 0), (4, 4, 0, .null)] (pc' := 63) (L' := [some (.ref 76), some (.int p0), some (.int p1), some (.int ((((σ 76 0) + p1) - 1) / p1)), some (.int 0), none, none]) (st' := []) (σ1 := (up σ 76 17 (((((σ 76 1) + p0) - 1) / p0) * ((((σ 76 0) + p1) - 1) / p1)))) (by decide +kernel) rfl ?_
        generalize ns6 : (up σ 76 17 (((((σ 76 1) + p0) - 1) / p0) * ((((σ 76 0) + p1) - 1) / p1))) = s6 at h ⊢
        replace h := nm_h h
        have hL7 : ∀ (n : Nat) (x7 : Int32 × SG) (y7 : SG), lpW (L_Ref_cut_63 p0 p1 ((((σ 76 0) + p1) - 1) / p1)) n x7 = some y7 → RN 2 M_Ref_cut (some (.int rr)) so 156 [some (.ref 76), none, none, none, none, none, none] [] y7 → RN 2 M_Ref_cut (some (.int rr)) so 63 [some (.ref 76), some (.int p0), some (.int p1), some (.int ((((σ 76 0) + p1) - 1) / p1)), some (.int x7.1), none, none] [] x7.2 := by
          intro n
          induction n with
          | zero => intro x7 y7 hy7; cases hy7
          | succ n ih7 =>
            intro x7 y7 hy7 hK7
            obtain ⟨z7, e7, hy7⟩ := ob_some hy7
            unfold L_Ref_cut_63 at e7
            refine RM.blk [(1, 4, 0, .null), (2, 0, 0, .null), (3, 12, 10, .null)] (pc' := 69) (L' := [some (.ref 76), some (.int p0), some (.int p1), some (.int (((((σ 76 0) + p1) - 1) / p1))), some (.int x7.1), none, none]) (st' := [.int (x7.2 76 10), .int x7.1]) (σ1 := x7.2) (by decide +kernel) rfl ?_
            refine RM.icmp_ge (tgt := 156) (by decide +kernel) (fun c8 => ?_) (fun c8 => ?_)
            · rw [if_pos c8] at e7
              obtain rfl := Option.some.inj e7
              obtain rfl := Option.some.inj (show some (x7.2 : SG) = some y7 from hy7)
              refine RN.dropB [true, false, false, false, false, false, false] rfl ?_
              exact hK7
            · rw [if_neg c8] at e7
              refine RM.blk [(0, 0, 0, .int 0), (4, 5, 0, .null), (1, 2, 0, .null), (4, 6, 0, .null)] (pc' := 78) (L' := [some (.ref 76), some (.int p0), some (.int p1), some (.int (((((σ 76 0) + p1) - 1) / p1))), some (.int x7.1), some (.int 0), some (.int p1)]) (st' := []) (σ1 := x7.2) (by decide +kernel) rfl ?_
              have hL9 : ∀ (n : Nat) (x9 : Int32 × Int32) (y9 : Int32), lpW (L_Ref_cut_78 p1 x7 x7.1) n x9 = some y9 → RN 2 M_Ref_cut (some (.int rr)) so 129 [some (.ref 76), some (.int p0), some (.int p1), some (.int (((((σ 76 0) + p1) - 1) / p1))), some (.int x7.1), some (.int y9), none] [] x7.2 → RN 2 M_Ref_cut (some (.int rr)) so 78 [some (.ref 76), some (.int p0), some (.int p1), some (.int (((((σ 76 0) + p1) - 1) / p1))), some (.int x7.1), some (.int x9.1), some (.int x9.2)] [] x7.2 := by
                intro n
                induction n with
                | zero => intro x9 y9 hy9; cases hy9
                | succ n ih9 =>
                  intro x9 y9 hy9 hK9
                  obtain ⟨z9, e9, hy9⟩ := ob_some hy9
                  unfold L_Ref_cut_78 at e9
                  refine RM.blk [(1, 6, 0, .null), (2, 0, 0, .null), (3, 12, 0, .null)] (pc' := 84) (L' := [some (.ref 76), some (.int p0), some (.int p1), some (.int (((((σ 76 0) + p1) - 1) / p1))), some (.int (x7.1)), some (.int x9.1), some (.int x9.2)]) (st' := [.int (x7.2 76 0), .int x9.2]) (σ1 := x7.2) (by decide +kernel) rfl ?_
                  refine RM.icmp_ge (tgt := 129) (by decide +kernel) (fun c10 => ?_) (fun c10 => ?_)
                  · rw [if_pos c10] at e9
                    obtain rfl := Option.some.inj e9
                    obtain rfl := Option.some.inj (show some (x9.1 : Int32) = some y9 from hy9)
                    refine RN.dropB [true, true, true, true, true, true, false] rfl ?_
                    exact hK9
                  · rw [if_neg c10] at e9
                    refine RM.blk [(1, 5, 0, .null), (2, 0, 0, .null), (2, 0, 0, .null), (3, 12, 11, .null), (1, 4, 0, .null)] (pc' := 96) (L' := [some (.ref 76), some (.int p0), some (.int p1), some (.int (((((σ 76 0) + p1) - 1) / p1))), some (.int (x7.1)), some (.int x9.1), some (.int x9.2)]) (st' := [.int (x7.1), .ref 82, .ref 76, .int x9.1]) (σ1 := x7.2) (by decide +kernel) rfl ?_
                    obtain ⟨g11, e9⟩ := og_some e9
                    refine RM.iald (q := 82) (n := 240) (by decide +kernel) rfl (vin_of g11) ?_
                    refine RM.blk [(1, 6, 0, .null)] (pc' := 99) (L' := [some (.ref 76), some (.int p0), some (.int p1), some (.int (((((σ 76 0) + p1) - 1) / p1))), some (.int (x7.1)), some (.int x9.1), some (.int x9.2)]) (st' := [.int x9.2, .int (x7.2 82 (ix (x7.1))), .ref 76, .int x9.1]) (σ1 := x7.2) (by decide +kernel) rfl ?_
                    obtain ⟨v12, hv12, e9⟩ := ob_some e9
                    refine RN.callV [.int (x7.2 82 (ix (x7.1))), .int x9.2] (s_Ref_nearestBorder x7.2 (x7.2 82 (ix (x7.1))) x9.2 v12 hv12) [.int x9.1] (pc3 := 102) (st3 := [.int v12, .int x9.1]) (by decide +kernel) mk_Ref_nearestBorder (by decide) ?_
                    refine RM.blk [(2, 0, 0, .null), (3, 12, 12, .null), (1, 4, 0, .null)] (pc' := 108) (L' := [some (.ref 76), some (.int p0), some (.int p1), some (.int (((((σ 76 0) + p1) - 1) / p1))), some (.int (x7.1)), some (.int x9.1), some (.int x9.2)]) (st' := [.int (x7.1), .ref 83, .int v12, .int x9.1]) (σ1 := x7.2) (by decide +kernel) rfl ?_
                    obtain ⟨g13, e9⟩ := og_some e9
                    refine RM.iald (q := 83) (n := 240) (by decide +kernel) rfl (vin_of g13) ?_
                    refine RM.icmp_gt (tgt := 116) (by decide +kernel) (fun c14 => ?_) (fun c14 => ?_)
                    · rw [if_pos c14] at e9
                      refine RM.blk [(0, 0, 0, .int 0), (5, 0, 0, .null), (4, 5, 0, .null), (1, 6, 0, .null), (1, 2, 0, .null), (5, 0, 0, .null), (4, 6, 0, .null), (23, 0, 0, .null)] (pc' := 78) (L' := [some (.ref 76), some (.int p0), some (.int p1), some (.int (((((σ 76 0) + p1) - 1) / p1))), some (.int (x7.1)), some (.int (x9.1 + 0)), some (.int (x9.2 + p1))]) (st' := []) (σ1 := x7.2) (by decide +kernel) rfl ?_
                      obtain rfl := Option.some.inj e9
                      refine RN.dropB [true, true, true, true, true, true, true] rfl ?_
                      exact ih9 ((x9.1 + 0), (x9.2 + p1)) _ hy9 hK9
                    · rw [if_neg c14] at e9
                      refine RM.blk [(0, 0, 0, .int 1), (23, 0, 0, .null), (5, 0, 0, .null), (4, 5, 0, .null), (1, 6, 0, .null), (1, 2, 0, .null), (5, 0, 0, .null), (4, 6, 0, .null), (23, 0, 0, .null)] (pc' := 78) (L' := [some (.ref 76), some (.int p0), some (.int p1), some (.int (((((σ 76 0) + p1) - 1) / p1))), some (.int (x7.1)), some (.int (x9.1 + 1)), some (.int (x9.2 + p1))]) (st' := []) (σ1 := x7.2) (by decide +kernel) rfl ?_
                      obtain rfl := Option.some.inj e9
                      refine RN.dropB [true, true, true, true, true, true, true] rfl ?_
                      exact ih9 ((x9.1 + 1), (x9.2 + p1)) _ hy9 hK9
              obtain ⟨y9, hl9, e7⟩ := ob_some e7
              refine RN.dropB [true, true, true, true, true, true, true] rfl ?_
              refine hL9 FU (0, p1) y9 hl9 ?_
              refine RM.blk [(2, 0, 0, .null), (3, 12, 16, .null), (1, 4, 0, .null), (2, 0, 0, .null), (3, 12, 11, .null), (1, 4, 0, .null)] (pc' := 141) (L' := [some (.ref 76), some (.int p0), some (.int p1), some (.int (((((σ 76 0) + p1) - 1) / p1))), some (.int x7.1), some (.int y9), none]) (st' := [.int x7.1, .ref 82, .int x7.1, .ref 87]) (σ1 := x7.2) (by decide +kernel) rfl ?_
              obtain ⟨g15, e7⟩ := og_some e7
              refine RM.iald (q := 82) (n := 240) (by decide +kernel) rfl (vin_of g15) ?_
              refine RM.blk [(1, 1, 0, .null)] (pc' := 143) (L' := [some (.ref 76), some (.int p0), some (.int p1), some (.int (((((σ 76 0) + p1) - 1) / p1))), some (.int x7.1), some (.int y9), none]) (st' := [.int p0, .int (x7.2 82 (ix x7.1)), .int x7.1, .ref 87]) (σ1 := x7.2) (by decide +kernel) rfl ?_
              obtain ⟨g16, e7⟩ := og_some e7
              refine RM.idiv (by decide +kernel) (nz_of g16) ?_
              refine RM.blk [(1, 3, 0, .null), (7, 0, 0, .null), (1, 5, 0, .null), (5, 0, 0, .null)] (pc' := 149) (L' := [some (.ref 76), some (.int p0), some (.int p1), some (.int (((((σ 76 0) + p1) - 1) / p1))), some (.int x7.1), some (.int y9), none]) (st' := [.int ((((x7.2 82 (ix x7.1)) / p0) * ((((σ 76 0) + p1) - 1) / p1)) + y9), .int x7.1, .ref 87]) (σ1 := x7.2) (by decide +kernel) rfl ?_
              obtain ⟨g17, e7⟩ := og_some e7
              refine RM.iast (q := 87) (n := 240) (by decide +kernel) rfl (vin_of g17) ?_
              generalize ns18 : (up x7.2 87 (ix x7.1) ((((x7.2 82 (ix x7.1)) / p0) * ((((σ 76 0) + p1) - 1) / p1)) + y9)) = s18 at e7 ⊢
              replace e7 := nm_h e7
              refine RM.blk [(10, 4, 0, .int 1), (23, 0, 0, .null)] (pc' := 63) (L' := [some (.ref 76), some (.int p0), some (.int p1), some (.int (((((σ 76 0) + p1) - 1) / p1))), some (.int (x7.1 + 1)), some (.int y9), none]) (st' := []) (σ1 := s18) (by decide +kernel) rfl ?_
              obtain rfl := Option.some.inj e7
              refine RN.dropB [true, true, true, true, true, false, false] rfl ?_
              exact ih7 ((x7.1 + 1), s18) _ hy7 hK7
        obtain ⟨y7, hl7, h⟩ := ob_some h
        refine RN.dropB [true, true, true, true, true, false, false] rfl ?_
        refine hL7 FU (0, s6) y7 hl7 ?_
        refine RM.blk [(2, 0, 0, .null), (0, 0, 0, .int 1), (16, 12, 9, .null), (2, 0, 0, .null), (3, 12, 17, .null)] (pc' := 165) (L' := [some (.ref 76), none, none, none, none, none, none]) (st' := [.int ((up y7 76 9 1) 76 17)]) (σ1 := (up y7 76 9 1)) (by decide +kernel) rfl ?_
        obtain ⟨rfl, rfl⟩ := Prod.mk.inj (Option.some.inj h)
        exact RM.reti (by decide +kernel) rfl
      · rw [if_pos c3] at h
        refine RM.blk [(0, 0, 0, .int (-3))] (pc' := 32) (L' := [some (.ref 76), some (.int p0), some (.int p1), none, none, none, none]) (st' := [.int (-3)]) (σ1 := σ) (by decide +kernel) rfl ?_
        obtain ⟨rfl, rfl⟩ := Prod.mk.inj (Option.some.inj h)
        exact RM.reti (by decide +kernel) rfl
    · rw [if_neg (bf c2)] at h
      refine RM.blk [(0, 0, 0, .int (-2))] (pc' := 22) (L' := [some (.ref 76), some (.int p0), some (.int p1), none, none, none, none]) (st' := [.int (-2)]) (σ1 := σ) (by decide +kernel) rfl ?_
      obtain ⟨rfl, rfl⟩ := Prod.mk.inj (Option.some.inj h)
      exact RM.reti (by decide +kernel) rfl
def M_Ref_noSheet : MI := (yX12_noSheet, cX12_noSheet, 2, some .int, 12)
theorem mk_Ref_noSheet : mOK M_Ref_noSheet 1 = true := by decide +kernel
set_option maxRecDepth 100000 in
set_option maxHeartbeats 4000000 in
theorem s_Ref_noSheet (σ : SG) (p0 : Int32) : SpN 1 M_Ref_noSheet [.ref 76, .int p0] σ (some (.int (F_Ref_noSheet σ p0))) σ := by
  generalize h : F_Ref_noSheet σ p0 = rr
  unfold F_Ref_noSheet at h
  refine Sp.of mk_Ref_noSheet rfl (Nat.le_of_ble_eq_true rfl) ?_
  refine RM.blk [(1, 1, 0, .null)] (pc' := 1) (L' := [some (.ref 76), some (.int p0)]) (st' := [.int p0]) (σ1 := σ) (by decide +kernel) rfl ?_
  refine RM.if_lt (tgt := 19) (by decide +kernel) (fun c1 => ?_) (fun c1 => ?_)
  · rw [if_pos c1] at h
    refine RM.blk [(0, 0, 0, .int (-2)), (23, 0, 0, .null)] (pc' := 37) (L' := [some (.ref 76), some (.int p0)]) (st' := [.int (-2)]) (σ1 := σ) (by decide +kernel) rfl ?_
    obtain rfl := h
    exact RM.reti (by decide +kernel) rfl
  · rw [if_neg c1] at h
    refine RM.blk [(2, 0, 0, .null), (3, 12, 9, .null)] (pc' := 8) (L' := [some (.ref 76), some (.int p0)]) (st' := [.int (σ 76 9)]) (σ1 := σ) (by decide +kernel) rfl ?_
    refine RM.if_eq (tgt := 24) (by decide +kernel) (fun c2 => ?_) (fun c2 => ?_)
    · rw [if_pos c2] at h
      refine RM.blk [(2, 0, 0, .null), (3, 12, 9, .null)] (pc' := 28) (L' := [some (.ref 76), some (.int p0)]) (st' := [.int (σ 76 9)]) (σ1 := σ) (by decide +kernel) rfl ?_
      refine RM.if_eq (tgt := 35) (by decide +kernel) (fun c3 => ?_) (fun c3 => ?_)
      · rw [if_pos c3] at h
        refine RM.blk [(0, 0, 0, .int (-3))] (pc' := 37) (L' := [some (.ref 76), some (.int p0)]) (st' := [.int (-3)]) (σ1 := σ) (by decide +kernel) rfl ?_
        obtain rfl := h
        exact RM.reti (by decide +kernel) rfl
      · rw [if_neg c3] at h
        refine RM.blk [(0, 0, 0, .int 0), (23, 0, 0, .null)] (pc' := 37) (L' := [some (.ref 76), some (.int p0)]) (st' := [.int 0]) (σ1 := σ) (by decide +kernel) rfl ?_
        obtain rfl := h
        exact RM.reti (by decide +kernel) rfl
    · rw [if_neg c2] at h
      refine RM.blk [(1, 1, 0, .null), (2, 0, 0, .null), (3, 12, 17, .null)] (pc' := 16) (L' := [some (.ref 76), some (.int p0)]) (st' := [.int (σ 76 17), .int p0]) (σ1 := σ) (by decide +kernel) rfl ?_
      refine RM.icmp_lt (tgt := 24) (by decide +kernel) (fun c4 => ?_) (fun c4 => ?_)
      · rw [if_pos c4] at h
        refine RM.blk [(2, 0, 0, .null), (3, 12, 9, .null)] (pc' := 28) (L' := [some (.ref 76), some (.int p0)]) (st' := [.int (σ 76 9)]) (σ1 := σ) (by decide +kernel) rfl ?_
        refine RM.if_eq (tgt := 35) (by decide +kernel) (fun c5 => ?_) (fun c5 => ?_)
        · rw [if_pos c5] at h
          refine RM.blk [(0, 0, 0, .int (-3))] (pc' := 37) (L' := [some (.ref 76), some (.int p0)]) (st' := [.int (-3)]) (σ1 := σ) (by decide +kernel) rfl ?_
          obtain rfl := h
          exact RM.reti (by decide +kernel) rfl
        · rw [if_neg c5] at h
          refine RM.blk [(0, 0, 0, .int 0), (23, 0, 0, .null)] (pc' := 37) (L' := [some (.ref 76), some (.int p0)]) (st' := [.int 0]) (σ1 := σ) (by decide +kernel) rfl ?_
          obtain rfl := h
          exact RM.reti (by decide +kernel) rfl
      · rw [if_neg c4] at h
        refine RM.blk [(0, 0, 0, .int (-2)), (23, 0, 0, .null)] (pc' := 37) (L' := [some (.ref 76), some (.int p0)]) (st' := [.int (-2)]) (σ1 := σ) (by decide +kernel) rfl ?_
        obtain rfl := h
        exact RM.reti (by decide +kernel) rfl
def M_Ref_sumOf : MI := (yX12_sumOf, cX12_sumOf, 5, some .int, 12)
theorem mk_Ref_sumOf : mOK M_Ref_sumOf 2 = true := by decide +kernel
set_option maxRecDepth 100000 in
set_option maxHeartbeats 4000000 in
theorem s_Ref_sumOf (σ : SG) (p0 : Int32) (p1 : Bool) (rr : Int32) (h : F_Ref_sumOf σ p0 p1 = some rr) : SpN 1 M_Ref_sumOf [.ref 76, .int p0, .int (bI p1)] σ (some (.int rr)) σ := by
  unfold F_Ref_sumOf at h
  refine Sp.of mk_Ref_sumOf rfl (Nat.le_of_ble_eq_true rfl) ?_
  refine RM.blk [(0, 0, 0, .int 0), (4, 3, 0, .null), (0, 0, 0, .int 0), (4, 4, 0, .null)] (pc' := 5) (L' := [some (.ref 76), some (.int p0), some (.int (bI p1)), some (.int 0), some (.int 0)]) (st' := []) (σ1 := σ) (by decide +kernel) rfl ?_
  have hL1 : ∀ (n : Nat) (x1 : Int32 × Int32) (y1 : Int32), lpW (L_Ref_sumOf_5 σ p0 p1) n x1 = some y1 → RN 1 M_Ref_sumOf (some (.int rr)) σ 64 [none, none, none, some (.int y1), none] [] σ → RN 1 M_Ref_sumOf (some (.int rr)) σ 5 [some (.ref 76), some (.int p0), some (.int (bI p1)), some (.int x1.1), some (.int x1.2)] [] σ := by
    intro n
    induction n with
    | zero => intro x1 y1 hy1; cases hy1
    | succ n ih1 =>
      intro x1 y1 hy1 hK1
      obtain ⟨z1, e1, hy1⟩ := ob_some hy1
      unfold L_Ref_sumOf_5 at e1
      refine RM.blk [(1, 4, 0, .null), (2, 0, 0, .null), (3, 12, 10, .null)] (pc' := 11) (L' := [some (.ref 76), some (.int p0), some (.int (bI p1)), some (.int x1.1), some (.int x1.2)]) (st' := [.int (σ 76 10), .int x1.2]) (σ1 := σ) (by decide +kernel) rfl ?_
      refine RM.icmp_ge (tgt := 64) (by decide +kernel) (fun c2 => ?_) (fun c2 => ?_)
      · rw [if_pos c2] at e1
        obtain rfl := Option.some.inj e1
        obtain rfl := Option.some.inj (show some (x1.1 : Int32) = some y1 from hy1)
        refine RN.dropB [false, false, false, true, false] rfl ?_
        exact hK1
      · rw [if_neg c2] at e1
        refine RM.blk [(1, 3, 0, .null), (2, 0, 0, .null), (3, 12, 16, .null), (1, 4, 0, .null)] (pc' := 21) (L' := [some (.ref 76), some (.int p0), some (.int (bI p1)), some (.int x1.1), some (.int x1.2)]) (st' := [.int x1.2, .ref 87, .int x1.1]) (σ1 := σ) (by decide +kernel) rfl ?_
        obtain ⟨g3, e1⟩ := og_some e1
        refine RM.iald (q := 87) (n := 240) (by decide +kernel) rfl (vin_of g3) ?_
        refine RM.blk [(1, 1, 0, .null)] (pc' := 23) (L' := [some (.ref 76), some (.int p0), some (.int (bI p1)), some (.int x1.1), some (.int x1.2)]) (st' := [.int p0, .int (σ 87 (ix x1.2)), .int x1.1]) (σ1 := σ) (by decide +kernel) rfl ?_
        refine RM.icmp_ne (tgt := 55) (by decide +kernel) (fun c4 => ?_) (fun c4 => ?_)
        · rw [if_neg c4] at e1
          refine RM.blk [(0, 0, 0, .int 0), (5, 0, 0, .null), (4, 3, 0, .null), (10, 4, 0, .int 1), (23, 0, 0, .null)] (pc' := 5) (L' := [some (.ref 76), some (.int p0), some (.int (bI p1)), some (.int (x1.1 + 0)), some (.int (x1.2 + 1))]) (st' := []) (σ1 := σ) (by decide +kernel) rfl ?_
          obtain rfl := Option.some.inj e1
          refine RN.dropB [true, true, true, true, true] rfl ?_
          exact ih1 ((x1.1 + 0), (x1.2 + 1)) _ hy1 hK1
        · rw [if_pos c4] at e1
          refine RM.blk [(1, 2, 0, .null)] (pc' := 27) (L' := [some (.ref 76), some (.int p0), some (.int (bI p1)), some (.int x1.1), some (.int x1.2)]) (st' := [.int (bI p1), .int x1.1]) (σ1 := σ) (by decide +kernel) rfl ?_
          refine RM.zeq (tgt := 45) (by decide +kernel) (fun c5 => ?_) (fun c5 => ?_)
          · rw [if_neg (bf c5)] at e1
            refine RM.blk [(2, 0, 0, .null), (3, 12, 13, .null), (1, 4, 0, .null)] (pc' := 51) (L' := [some (.ref 76), some (.int p0), some (.int (bI p1)), some (.int x1.1), some (.int x1.2)]) (st' := [.int x1.2, .ref 84, .int x1.1]) (σ1 := σ) (by decide +kernel) rfl ?_
            obtain ⟨g6, e1⟩ := og_some e1
            refine RM.iald (q := 84) (n := 240) (by decide +kernel) rfl (vin_of g6) ?_
            refine RM.blk [(23, 0, 0, .null), (5, 0, 0, .null), (4, 3, 0, .null), (10, 4, 0, .int 1), (23, 0, 0, .null)] (pc' := 5) (L' := [some (.ref 76), some (.int p0), some (.int (bI p1)), some (.int (x1.1 + (σ 84 (ix x1.2)))), some (.int (x1.2 + 1))]) (st' := []) (σ1 := σ) (by decide +kernel) rfl ?_
            obtain rfl := Option.some.inj e1
            refine RN.dropB [true, true, true, true, true] rfl ?_
            exact ih1 ((x1.1 + (σ 84 (ix x1.2))), (x1.2 + 1)) _ hy1 hK1
          · rw [if_pos c5] at e1
            refine RM.blk [(2, 0, 0, .null), (3, 12, 5, .null), (2, 0, 0, .null), (3, 12, 14, .null), (1, 4, 0, .null)] (pc' := 40) (L' := [some (.ref 76), some (.int p0), some (.int (bI p1)), some (.int x1.1), some (.int x1.2)]) (st' := [.int x1.2, .ref 85, .ref 80, .int x1.1]) (σ1 := σ) (by decide +kernel) rfl ?_
            obtain ⟨g7, e1⟩ := og_some e1
            refine RM.iald (q := 85) (n := 240) (by decide +kernel) rfl (vin_of g7) ?_
            obtain ⟨g8, e1⟩ := og_some e1
            refine RM.zald (q := 80) (n := 8) (by decide +kernel) rfl (vin_of g8) ?_
            refine RM.if_eq (tgt := 55) (by decide +kernel) (fun c9 => ?_) (fun c9 => ?_)
            · rw [if_pos c9] at e1
              refine RM.blk [(0, 0, 0, .int 0), (5, 0, 0, .null), (4, 3, 0, .null), (10, 4, 0, .int 1), (23, 0, 0, .null)] (pc' := 5) (L' := [some (.ref 76), some (.int p0), some (.int (bI p1)), some (.int (x1.1 + 0)), some (.int (x1.2 + 1))]) (st' := []) (σ1 := σ) (by decide +kernel) rfl ?_
              obtain rfl := Option.some.inj e1
              refine RN.dropB [true, true, true, true, true] rfl ?_
              exact ih1 ((x1.1 + 0), (x1.2 + 1)) _ hy1 hK1
            · rw [if_neg c9] at e1
              refine RM.blk [(2, 0, 0, .null), (3, 12, 13, .null), (1, 4, 0, .null)] (pc' := 51) (L' := [some (.ref 76), some (.int p0), some (.int (bI p1)), some (.int x1.1), some (.int x1.2)]) (st' := [.int x1.2, .ref 84, .int x1.1]) (σ1 := σ) (by decide +kernel) rfl ?_
              obtain ⟨g10, e1⟩ := og_some e1
              refine RM.iald (q := 84) (n := 240) (by decide +kernel) rfl (vin_of g10) ?_
              refine RM.blk [(23, 0, 0, .null), (5, 0, 0, .null), (4, 3, 0, .null), (10, 4, 0, .int 1), (23, 0, 0, .null)] (pc' := 5) (L' := [some (.ref 76), some (.int p0), some (.int (bI p1)), some (.int (x1.1 + (σ 84 (ix x1.2)))), some (.int (x1.2 + 1))]) (st' := []) (σ1 := σ) (by decide +kernel) rfl ?_
              obtain rfl := Option.some.inj e1
              refine RN.dropB [true, true, true, true, true] rfl ?_
              exact ih1 ((x1.1 + (σ 84 (ix x1.2))), (x1.2 + 1)) _ hy1 hK1
  obtain ⟨y1, hl1, h⟩ := ob_some h
  refine RN.dropB [true, true, true, true, true] rfl ?_
  refine hL1 FU (0, 0) y1 hl1 ?_
  refine RM.blk [(1, 3, 0, .null)] (pc' := 65) (L' := [none, none, none, some (.int y1), none]) (st' := [.int y1]) (σ1 := σ) (by decide +kernel) rfl ?_
  obtain rfl := (Option.some.inj h)
  exact RM.reti (by decide +kernel) rfl
def M_Ref_hasFace : MI := (yX12_hasFace, cX12_hasFace, 4, some .boolean, 12)
theorem mk_Ref_hasFace : mOK M_Ref_hasFace 1 = true := by decide +kernel
set_option maxRecDepth 100000 in
set_option maxHeartbeats 4000000 in
theorem s_Ref_hasFace (σ : SG) (p0 : Int32) (rr : Bool) (h : F_Ref_hasFace σ p0 = some rr) : SpN 1 M_Ref_hasFace [.ref 76, .int p0] σ (some (.int (bI rr))) σ := by
  unfold F_Ref_hasFace at h
  refine Sp.of mk_Ref_hasFace rfl (Nat.le_of_ble_eq_true rfl) ?_
  refine RM.blk [(0, 0, 0, .int 0), (4, 2, 0, .null), (0, 0, 0, .int 0), (4, 3, 0, .null)] (pc' := 4) (L' := [some (.ref 76), some (.int p0), some (.int (bI false)), some (.int 0)]) (st' := []) (σ1 := σ) (by decide +kernel) rfl ?_
  have hL1 : ∀ (n : Nat) (x1 : Bool × Int32) (y1 : Bool), lpW (L_Ref_hasFace_4 σ p0) n x1 = some y1 → RN 1 M_Ref_hasFace (some (.int (bI rr))) σ 52 [none, none, some (.int (bI y1)), none] [] σ → RN 1 M_Ref_hasFace (some (.int (bI rr))) σ 4 [some (.ref 76), some (.int p0), some (.int (bI x1.1)), some (.int x1.2)] [] σ := by
    intro n
    induction n with
    | zero => intro x1 y1 hy1; cases hy1
    | succ n ih1 =>
      intro x1 y1 hy1 hK1
      obtain ⟨z1, e1, hy1⟩ := ob_some hy1
      unfold L_Ref_hasFace_4 at e1
      refine RM.blk [(1, 3, 0, .null), (2, 0, 0, .null), (3, 12, 10, .null)] (pc' := 9) (L' := [some (.ref 76), some (.int p0), some (.int (bI x1.1)), some (.int x1.2)]) (st' := [.int (σ 76 10), .int x1.2]) (σ1 := σ) (by decide +kernel) rfl ?_
      refine RM.icmp_ge (tgt := 52) (by decide +kernel) (fun c2 => ?_) (fun c2 => ?_)
      · rw [if_pos c2] at e1
        obtain rfl := Option.some.inj e1
        obtain rfl := Option.some.inj (show some (x1.1 : Bool) = some y1 from hy1)
        refine RN.dropB [false, false, true, false] rfl ?_
        exact hK1
      · rw [if_neg c2] at e1
        refine RM.blk [(1, 2, 0, .null)] (pc' := 13) (L' := [some (.ref 76), some (.int p0), some (.int (bI x1.1)), some (.int x1.2)]) (st' := [.int (bI x1.1)]) (σ1 := σ) (by decide +kernel) rfl ?_
        refine RM.zne (tgt := 40) (by decide +kernel) (fun c3 => ?_) (fun c3 => ?_)
        · rw [if_pos c3] at e1
          refine RM.blk [(0, 0, 0, .int 1), (23, 0, 0, .null), (4, 2, 0, .null), (10, 3, 0, .int 1), (23, 0, 0, .null)] (pc' := 4) (L' := [some (.ref 76), some (.int p0), some (.int (bI true)), some (.int (x1.2 + 1))]) (st' := []) (σ1 := σ) (by decide +kernel) rfl ?_
          obtain rfl := Option.some.inj e1
          refine RN.dropB [true, true, true, true] rfl ?_
          exact ih1 (true, (x1.2 + 1)) _ hy1 hK1
        · rw [if_neg (bf c3)] at e1
          refine RM.blk [(2, 0, 0, .null), (3, 12, 16, .null), (1, 3, 0, .null)] (pc' := 21) (L' := [some (.ref 76), some (.int p0), some (.int (bI x1.1)), some (.int x1.2)]) (st' := [.int x1.2, .ref 87]) (σ1 := σ) (by decide +kernel) rfl ?_
          obtain ⟨g4, e1⟩ := og_some e1
          refine RM.iald (q := 87) (n := 240) (by decide +kernel) rfl (vin_of g4) ?_
          refine RM.blk [(1, 1, 0, .null)] (pc' := 23) (L' := [some (.ref 76), some (.int p0), some (.int (bI x1.1)), some (.int x1.2)]) (st' := [.int p0, .int (σ 87 (ix x1.2))]) (σ1 := σ) (by decide +kernel) rfl ?_
          refine RM.icmp_ne (tgt := 44) (by decide +kernel) (fun c5 => ?_) (fun c5 => ?_)
          · rw [if_neg c5] at e1
            refine RM.blk [(0, 0, 0, .int 0), (4, 2, 0, .null), (10, 3, 0, .int 1), (23, 0, 0, .null)] (pc' := 4) (L' := [some (.ref 76), some (.int p0), some (.int (bI false)), some (.int (x1.2 + 1))]) (st' := []) (σ1 := σ) (by decide +kernel) rfl ?_
            obtain rfl := Option.some.inj e1
            refine RN.dropB [true, true, true, true] rfl ?_
            exact ih1 (false, (x1.2 + 1)) _ hy1 hK1
          · rw [if_pos c5] at e1
            refine RM.blk [(2, 0, 0, .null), (3, 12, 6, .null), (2, 0, 0, .null), (3, 12, 14, .null), (1, 3, 0, .null)] (pc' := 35) (L' := [some (.ref 76), some (.int p0), some (.int (bI x1.1)), some (.int x1.2)]) (st' := [.int x1.2, .ref 85, .ref 81]) (σ1 := σ) (by decide +kernel) rfl ?_
            obtain ⟨g6, e1⟩ := og_some e1
            refine RM.iald (q := 85) (n := 240) (by decide +kernel) rfl (vin_of g6) ?_
            obtain ⟨g7, e1⟩ := og_some e1
            refine RM.zald (q := 81) (n := 8) (by decide +kernel) rfl (vin_of g7) ?_
            refine RM.if_eq (tgt := 44) (by decide +kernel) (fun c8 => ?_) (fun c8 => ?_)
            · rw [if_pos c8] at e1
              refine RM.blk [(0, 0, 0, .int 0), (4, 2, 0, .null), (10, 3, 0, .int 1), (23, 0, 0, .null)] (pc' := 4) (L' := [some (.ref 76), some (.int p0), some (.int (bI false)), some (.int (x1.2 + 1))]) (st' := []) (σ1 := σ) (by decide +kernel) rfl ?_
              obtain rfl := Option.some.inj e1
              refine RN.dropB [true, true, true, true] rfl ?_
              exact ih1 (false, (x1.2 + 1)) _ hy1 hK1
            · rw [if_neg c8] at e1
              refine RM.blk [(0, 0, 0, .int 1), (23, 0, 0, .null), (4, 2, 0, .null), (10, 3, 0, .int 1), (23, 0, 0, .null)] (pc' := 4) (L' := [some (.ref 76), some (.int p0), some (.int (bI true)), some (.int (x1.2 + 1))]) (st' := []) (σ1 := σ) (by decide +kernel) rfl ?_
              obtain rfl := Option.some.inj e1
              refine RN.dropB [true, true, true, true] rfl ?_
              exact ih1 (true, (x1.2 + 1)) _ hy1 hK1
  obtain ⟨y1, hl1, h⟩ := ob_some h
  refine RN.dropB [true, true, true, true] rfl ?_
  refine hL1 FU (false, 0) y1 hl1 ?_
  refine RM.blk [(1, 2, 0, .null)] (pc' := 53) (L' := [none, none, some (.int (bI y1)), none]) (st' := [.int (bI y1)]) (σ1 := σ) (by decide +kernel) rfl ?_
  obtain rfl := (Option.some.inj h)
  exact RM.retz (z := y1) (by decide +kernel) rfl
def M_Ref_sheet : MI := (yX12_sheet, cX12_sheet, 8, some .int, 12)
theorem mk_Ref_sheet : mOK M_Ref_sheet 2 = true := by decide +kernel
set_option maxRecDepth 100000 in
set_option maxHeartbeats 4000000 in
theorem s_Ref_sheet (σ : SG) (p0 : Int32) (p1 : Int32) (rr : Int32) (h : F_Ref_sheet σ p0 p1 = some rr) : SpN 2 M_Ref_sheet [.ref 76, .int p0, .int p1] σ (some (.int rr)) σ := by
  unfold F_Ref_sheet at h
  refine Sp.of mk_Ref_sheet rfl (Nat.le_of_ble_eq_true rfl) ?_
  refine RM.blk [(2, 0, 0, .null), (1, 1, 0, .null)] (pc' := 2) (L' := [some (.ref 76), some (.int p0), some (.int p1), none, none, none, none, none]) (st' := [.int p0, .ref 76]) (σ1 := σ) (by decide +kernel) rfl ?_
  refine RN.callV [.int p0] (s_Ref_noSheet σ p0) [] (pc3 := 5) (st3 := [.int (F_Ref_noSheet σ p0)]) (by decide +kernel) mk_Ref_noSheet (by decide) ?_
  refine RM.blk [(4, 3, 0, .null), (1, 3, 0, .null), (0, 0, 0, .int (-2))] (pc' := 9) (L' := [some (.ref 76), some (.int p0), some (.int p1), some (.int (F_Ref_noSheet σ p0)), none, none, none, none]) (st' := [.int (-2), .int (F_Ref_noSheet σ p0)]) (σ1 := σ) (by decide +kernel) rfl ?_
  refine RM.icmp_eq (tgt := 21) (by decide +kernel) (fun c1 => ?_) (fun c1 => ?_)
  · rw [if_pos c1] at h
    refine RM.blk [(0, 0, 0, .int (-2))] (pc' := 23) (L' := [some (.ref 76), some (.int p0), some (.int p1), some (.int (F_Ref_noSheet σ p0)), none, none, none, none]) (st' := [.int (-2)]) (σ1 := σ) (by decide +kernel) rfl ?_
    obtain rfl := (Option.some.inj h)
    exact RM.reti (by decide +kernel) rfl
  · rw [if_neg c1] at h
    refine RM.blk [(1, 2, 0, .null), (0, 0, 0, .int 0), (0, 0, 0, .int 5)] (pc' := 15) (L' := [some (.ref 76), some (.int p0), some (.int p1), some (.int (F_Ref_noSheet σ p0)), none, none, none, none]) (st' := [.int 5, .int 0, .int p1]) (σ1 := σ) (by decide +kernel) rfl ?_
    refine RN.callS [.int p1, .int 0, .int 5] (s_Ref_in σ p1 0 5) [] (pc3 := 18) (st3 := [.int (bI (F_Ref_in p1 0 5))]) (by decide +kernel) mk_Ref_in (by decide) ?_
    refine RM.zne (tgt := 24) (by decide +kernel) (fun c2 => ?_) (fun c2 => ?_)
    · rw [if_pos c2] at h
      refine RM.blk [(1, 3, 0, .null)] (pc' := 25) (L' := [some (.ref 76), some (.int p0), some (.int p1), some (.int (F_Ref_noSheet σ p0)), none, none, none, none]) (st' := [.int (F_Ref_noSheet σ p0)]) (σ1 := σ) (by decide +kernel) rfl ?_
      refine RM.if_ge (tgt := 30) (by decide +kernel) (fun c3 => ?_) (fun c3 => ?_)
      · rw [if_pos c3] at h
        refine RM.blk [(0, 0, 0, .int 0), (4, 4, 0, .null), (0, 0, 0, .int (-1)), (4, 5, 0, .null), (0, 0, 0, .int (-1)), (4, 6, 0, .null), (0, 0, 0, .int 0), (4, 7, 0, .null)] (pc' := 42) (L' := [some (.ref 76), some (.int p0), some (.int p1), some (.int (F_Ref_noSheet σ p0)), some (.int 0), some (.int (-1)), some (.int (-1)), some (.int 0)]) (st' := []) (σ1 := σ) (by decide +kernel) rfl ?_
        have hL4 : ∀ (n : Nat) (x4 : Int32 × Int32 × Int32 × Int32) (y4 : Int32 × Int32 × Int32), lpW (L_Ref_sheet_42 σ p0) n x4 = some y4 → RN 2 M_Ref_sheet (some (.int rr)) σ 145 [some (.ref 76), some (.int p0), some (.int p1), none, some (.int y4.1), some (.int y4.2.1), some (.int y4.2.2), none] [] σ → RN 2 M_Ref_sheet (some (.int rr)) σ 42 [some (.ref 76), some (.int p0), some (.int p1), none, some (.int x4.1), some (.int x4.2.1), some (.int x4.2.2.1), some (.int x4.2.2.2)] [] σ := by
          intro n
          induction n with
          | zero => intro x4 y4 hy4; cases hy4
          | succ n ih4 =>
            intro x4 y4 hy4 hK4
            obtain ⟨z4, e4, hy4⟩ := ob_some hy4
            unfold L_Ref_sheet_42 at e4
            refine RM.blk [(1, 7, 0, .null), (2, 0, 0, .null), (3, 12, 10, .null)] (pc' := 48) (L' := [some (.ref 76), some (.int p0), some (.int p1), none, some (.int x4.1), some (.int x4.2.1), some (.int x4.2.2.1), some (.int x4.2.2.2)]) (st' := [.int (σ 76 10), .int x4.2.2.2]) (σ1 := σ) (by decide +kernel) rfl ?_
            refine RM.icmp_ge (tgt := 145) (by decide +kernel) (fun c5 => ?_) (fun c5 => ?_)
            · rw [if_pos c5] at e4
              obtain rfl := Option.some.inj e4
              obtain rfl := Option.some.inj (show some ((x4.1, x4.2.1, x4.2.2.1) : Int32 × Int32 × Int32) = some y4 from hy4)
              refine RN.dropB [true, true, true, false, true, true, true, false] rfl ?_
              exact hK4
            · rw [if_neg c5] at e4
              refine RM.blk [(2, 0, 0, .null), (3, 12, 16, .null), (1, 7, 0, .null)] (pc' := 57) (L' := [some (.ref 76), some (.int p0), some (.int p1), none, some (.int x4.1), some (.int x4.2.1), some (.int x4.2.2.1), some (.int x4.2.2.2)]) (st' := [.int x4.2.2.2, .ref 87]) (σ1 := σ) (by decide +kernel) rfl ?_
              obtain ⟨g6, e4⟩ := og_some e4
              refine RM.iald (q := 87) (n := 240) (by decide +kernel) rfl (vin_of g6) ?_
              refine RM.blk [(1, 1, 0, .null)] (pc' := 59) (L' := [some (.ref 76), some (.int p0), some (.int p1), none, some (.int x4.1), some (.int x4.2.1), some (.int x4.2.2.1), some (.int x4.2.2.2)]) (st' := [.int p0, .int (σ 87 (ix x4.2.2.2))]) (σ1 := σ) (by decide +kernel) rfl ?_
              refine RM.icmp_ne (tgt := 139) (by decide +kernel) (fun c7 => ?_) (fun c7 => ?_)
              · rw [if_neg c7] at e4
                refine RM.blk [(10, 7, 0, .int 1), (23, 0, 0, .null)] (pc' := 42) (L' := [some (.ref 76), some (.int p0), some (.int p1), none, some (.int x4.1), some (.int x4.2.1), some (.int x4.2.2.1), some (.int (x4.2.2.2 + 1))]) (st' := []) (σ1 := σ) (by decide +kernel) rfl ?_
                obtain rfl := Option.some.inj e4
                refine RN.dropB [true, true, true, false, true, true, true, true] rfl ?_
                exact ih4 (x4.1, x4.2.1, x4.2.2.1, (x4.2.2.2 + 1)) _ hy4 hK4
              · rw [if_pos c7] at e4
                refine RM.blk [(10, 4, 0, .int 1), (1, 5, 0, .null), (0, 0, 0, .int (-1))] (pc' := 68) (L' := [some (.ref 76), some (.int p0), some (.int p1), none, some (.int (x4.1 + 1)), some (.int x4.2.1), some (.int x4.2.2.1), some (.int x4.2.2.2)]) (st' := [.int (-1), .int x4.2.1]) (σ1 := σ) (by decide +kernel) rfl ?_
                refine RM.icmp_eq (tgt := 83) (by decide +kernel) (fun c8 => ?_) (fun c8 => ?_)
                · rw [if_pos c8] at e4
                  refine RM.blk [(2, 0, 0, .null), (3, 12, 12, .null), (1, 7, 0, .null)] (pc' := 89) (L' := [some (.ref 76), some (.int p0), some (.int p1), none, some (.int (x4.1 + 1)), some (.int x4.2.1), some (.int x4.2.2.1), some (.int x4.2.2.2)]) (st' := [.int x4.2.2.2, .ref 83]) (σ1 := σ) (by decide +kernel) rfl ?_
                  obtain ⟨g9, e4⟩ := og_some e4
                  refine RM.iald (q := 83) (n := 240) (by decide +kernel) rfl (vin_of g9) ?_
                  refine RM.blk [(23, 0, 0, .null), (4, 5, 0, .null), (2, 0, 0, .null), (3, 12, 12, .null), (1, 7, 0, .null)] (pc' := 103) (L' := [some (.ref 76), some (.int p0), some (.int p1), none, some (.int (x4.1 + 1)), some (.int (σ 83 (ix x4.2.2.2))), some (.int x4.2.2.1), some (.int x4.2.2.2)]) (st' := [.int x4.2.2.2, .ref 83]) (σ1 := σ) (by decide +kernel) rfl ?_
                  obtain ⟨g10, e4⟩ := og_some e4
                  refine RM.iald (q := 83) (n := 240) (by decide +kernel) rfl (vin_of g10) ?_
                  refine RM.blk [(2, 0, 0, .null), (3, 12, 13, .null), (1, 7, 0, .null)] (pc' := 110) (L' := [some (.ref 76), some (.int p0), some (.int p1), none, some (.int (x4.1 + 1)), some (.int (σ 83 (ix x4.2.2.2))), some (.int x4.2.2.1), some (.int x4.2.2.2)]) (st' := [.int x4.2.2.2, .ref 84, .int (σ 83 (ix x4.2.2.2))]) (σ1 := σ) (by decide +kernel) rfl ?_
                  obtain ⟨g11, e4⟩ := og_some e4
                  refine RM.iald (q := 84) (n := 240) (by decide +kernel) rfl (vin_of g11) ?_
                  refine RM.blk [(5, 0, 0, .null), (1, 6, 0, .null)] (pc' := 114) (L' := [some (.ref 76), some (.int p0), some (.int p1), none, some (.int (x4.1 + 1)), some (.int (σ 83 (ix x4.2.2.2))), some (.int x4.2.2.1), some (.int x4.2.2.2)]) (st' := [.int x4.2.2.1, .int ((σ 83 (ix x4.2.2.2)) + (σ 84 (ix x4.2.2.2)))]) (σ1 := σ) (by decide +kernel) rfl ?_
                  refine RM.icmp_le (tgt := 135) (by decide +kernel) (fun c12 => ?_) (fun c12 => ?_)
                  · rw [if_pos c12] at e4
                    refine RM.blk [(1, 6, 0, .null), (4, 6, 0, .null), (10, 7, 0, .int 1), (23, 0, 0, .null)] (pc' := 42) (L' := [some (.ref 76), some (.int p0), some (.int p1), none, some (.int (x4.1 + 1)), some (.int (σ 83 (ix x4.2.2.2))), some (.int x4.2.2.1), some (.int (x4.2.2.2 + 1))]) (st' := []) (σ1 := σ) (by decide +kernel) rfl ?_
                    obtain rfl := Option.some.inj e4
                    refine RN.dropB [true, true, true, false, true, true, true, true] rfl ?_
                    exact ih4 ((x4.1 + 1), (σ 83 (ix x4.2.2.2)), x4.2.2.1, (x4.2.2.2 + 1)) _ hy4 hK4
                  · rw [if_neg c12] at e4
                    refine RM.blk [(2, 0, 0, .null), (3, 12, 12, .null), (1, 7, 0, .null)] (pc' := 123) (L' := [some (.ref 76), some (.int p0), some (.int p1), none, some (.int (x4.1 + 1)), some (.int (σ 83 (ix x4.2.2.2))), some (.int x4.2.2.1), some (.int x4.2.2.2)]) (st' := [.int x4.2.2.2, .ref 83]) (σ1 := σ) (by decide +kernel) rfl ?_
                    obtain ⟨g13, e4⟩ := og_some e4
                    refine RM.iald (q := 83) (n := 240) (by decide +kernel) rfl (vin_of g13) ?_
                    refine RM.blk [(2, 0, 0, .null), (3, 12, 13, .null), (1, 7, 0, .null)] (pc' := 130) (L' := [some (.ref 76), some (.int p0), some (.int p1), none, some (.int (x4.1 + 1)), some (.int (σ 83 (ix x4.2.2.2))), some (.int x4.2.2.1), some (.int x4.2.2.2)]) (st' := [.int x4.2.2.2, .ref 84, .int (σ 83 (ix x4.2.2.2))]) (σ1 := σ) (by decide +kernel) rfl ?_
                    obtain ⟨g14, e4⟩ := og_some e4
                    refine RM.iald (q := 84) (n := 240) (by decide +kernel) rfl (vin_of g14) ?_
                    refine RM.blk [(5, 0, 0, .null), (23, 0, 0, .null), (4, 6, 0, .null), (10, 7, 0, .int 1), (23, 0, 0, .null)] (pc' := 42) (L' := [some (.ref 76), some (.int p0), some (.int p1), none, some (.int (x4.1 + 1)), some (.int (σ 83 (ix x4.2.2.2))), some (.int ((σ 83 (ix x4.2.2.2)) + (σ 84 (ix x4.2.2.2)))), some (.int (x4.2.2.2 + 1))]) (st' := []) (σ1 := σ) (by decide +kernel) rfl ?_
                    obtain rfl := Option.some.inj e4
                    refine RN.dropB [true, true, true, false, true, true, true, true] rfl ?_
                    exact ih4 ((x4.1 + 1), (σ 83 (ix x4.2.2.2)), ((σ 83 (ix x4.2.2.2)) + (σ 84 (ix x4.2.2.2))), (x4.2.2.2 + 1)) _ hy4 hK4
                · rw [if_neg c8] at e4
                  refine RM.blk [(2, 0, 0, .null), (3, 12, 12, .null), (1, 7, 0, .null)] (pc' := 77) (L' := [some (.ref 76), some (.int p0), some (.int p1), none, some (.int (x4.1 + 1)), some (.int x4.2.1), some (.int x4.2.2.1), some (.int x4.2.2.2)]) (st' := [.int x4.2.2.2, .ref 83]) (σ1 := σ) (by decide +kernel) rfl ?_
                  obtain ⟨g15, e4⟩ := og_some e4
                  refine RM.iald (q := 83) (n := 240) (by decide +kernel) rfl (vin_of g15) ?_
                  refine RM.blk [(1, 5, 0, .null)] (pc' := 80) (L' := [some (.ref 76), some (.int p0), some (.int p1), none, some (.int (x4.1 + 1)), some (.int x4.2.1), some (.int x4.2.2.1), some (.int x4.2.2.2)]) (st' := [.int x4.2.1, .int (σ 83 (ix x4.2.2.2))]) (σ1 := σ) (by decide +kernel) rfl ?_
                  refine RM.icmp_ge (tgt := 93) (by decide +kernel) (fun c16 => ?_) (fun c16 => ?_)
                  · rw [if_pos c16] at e4
                    refine RM.blk [(1, 5, 0, .null), (4, 5, 0, .null), (2, 0, 0, .null), (3, 12, 12, .null), (1, 7, 0, .null)] (pc' := 103) (L' := [some (.ref 76), some (.int p0), some (.int p1), none, some (.int (x4.1 + 1)), some (.int x4.2.1), some (.int x4.2.2.1), some (.int x4.2.2.2)]) (st' := [.int x4.2.2.2, .ref 83]) (σ1 := σ) (by decide +kernel) rfl ?_
                    obtain ⟨g17, e4⟩ := og_some e4
                    refine RM.iald (q := 83) (n := 240) (by decide +kernel) rfl (vin_of g17) ?_
                    refine RM.blk [(2, 0, 0, .null), (3, 12, 13, .null), (1, 7, 0, .null)] (pc' := 110) (L' := [some (.ref 76), some (.int p0), some (.int p1), none, some (.int (x4.1 + 1)), some (.int x4.2.1), some (.int x4.2.2.1), some (.int x4.2.2.2)]) (st' := [.int x4.2.2.2, .ref 84, .int (σ 83 (ix x4.2.2.2))]) (σ1 := σ) (by decide +kernel) rfl ?_
                    obtain ⟨g18, e4⟩ := og_some e4
                    refine RM.iald (q := 84) (n := 240) (by decide +kernel) rfl (vin_of g18) ?_
                    refine RM.blk [(5, 0, 0, .null), (1, 6, 0, .null)] (pc' := 114) (L' := [some (.ref 76), some (.int p0), some (.int p1), none, some (.int (x4.1 + 1)), some (.int x4.2.1), some (.int x4.2.2.1), some (.int x4.2.2.2)]) (st' := [.int x4.2.2.1, .int ((σ 83 (ix x4.2.2.2)) + (σ 84 (ix x4.2.2.2)))]) (σ1 := σ) (by decide +kernel) rfl ?_
                    refine RM.icmp_le (tgt := 135) (by decide +kernel) (fun c19 => ?_) (fun c19 => ?_)
                    · rw [if_pos c19] at e4
                      refine RM.blk [(1, 6, 0, .null), (4, 6, 0, .null), (10, 7, 0, .int 1), (23, 0, 0, .null)] (pc' := 42) (L' := [some (.ref 76), some (.int p0), some (.int p1), none, some (.int (x4.1 + 1)), some (.int x4.2.1), some (.int x4.2.2.1), some (.int (x4.2.2.2 + 1))]) (st' := []) (σ1 := σ) (by decide +kernel) rfl ?_
                      obtain rfl := Option.some.inj e4
                      refine RN.dropB [true, true, true, false, true, true, true, true] rfl ?_
                      exact ih4 ((x4.1 + 1), x4.2.1, x4.2.2.1, (x4.2.2.2 + 1)) _ hy4 hK4
                    · rw [if_neg c19] at e4
                      refine RM.blk [(2, 0, 0, .null), (3, 12, 12, .null), (1, 7, 0, .null)] (pc' := 123) (L' := [some (.ref 76), some (.int p0), some (.int p1), none, some (.int (x4.1 + 1)), some (.int x4.2.1), some (.int x4.2.2.1), some (.int x4.2.2.2)]) (st' := [.int x4.2.2.2, .ref 83]) (σ1 := σ) (by decide +kernel) rfl ?_
                      obtain ⟨g20, e4⟩ := og_some e4
                      refine RM.iald (q := 83) (n := 240) (by decide +kernel) rfl (vin_of g20) ?_
                      refine RM.blk [(2, 0, 0, .null), (3, 12, 13, .null), (1, 7, 0, .null)] (pc' := 130) (L' := [some (.ref 76), some (.int p0), some (.int p1), none, some (.int (x4.1 + 1)), some (.int x4.2.1), some (.int x4.2.2.1), some (.int x4.2.2.2)]) (st' := [.int x4.2.2.2, .ref 84, .int (σ 83 (ix x4.2.2.2))]) (σ1 := σ) (by decide +kernel) rfl ?_
                      obtain ⟨g21, e4⟩ := og_some e4
                      refine RM.iald (q := 84) (n := 240) (by decide +kernel) rfl (vin_of g21) ?_
                      refine RM.blk [(5, 0, 0, .null), (23, 0, 0, .null), (4, 6, 0, .null), (10, 7, 0, .int 1), (23, 0, 0, .null)] (pc' := 42) (L' := [some (.ref 76), some (.int p0), some (.int p1), none, some (.int (x4.1 + 1)), some (.int x4.2.1), some (.int ((σ 83 (ix x4.2.2.2)) + (σ 84 (ix x4.2.2.2)))), some (.int (x4.2.2.2 + 1))]) (st' := []) (σ1 := σ) (by decide +kernel) rfl ?_
                      obtain rfl := Option.some.inj e4
                      refine RN.dropB [true, true, true, false, true, true, true, true] rfl ?_
                      exact ih4 ((x4.1 + 1), x4.2.1, ((σ 83 (ix x4.2.2.2)) + (σ 84 (ix x4.2.2.2))), (x4.2.2.2 + 1)) _ hy4 hK4
                  · rw [if_neg c16] at e4
                    refine RM.blk [(2, 0, 0, .null), (3, 12, 12, .null), (1, 7, 0, .null)] (pc' := 89) (L' := [some (.ref 76), some (.int p0), some (.int p1), none, some (.int (x4.1 + 1)), some (.int x4.2.1), some (.int x4.2.2.1), some (.int x4.2.2.2)]) (st' := [.int x4.2.2.2, .ref 83]) (σ1 := σ) (by decide +kernel) rfl ?_
                    obtain ⟨g22, e4⟩ := og_some e4
                    refine RM.iald (q := 83) (n := 240) (by decide +kernel) rfl (vin_of g22) ?_
                    refine RM.blk [(23, 0, 0, .null), (4, 5, 0, .null), (2, 0, 0, .null), (3, 12, 12, .null), (1, 7, 0, .null)] (pc' := 103) (L' := [some (.ref 76), some (.int p0), some (.int p1), none, some (.int (x4.1 + 1)), some (.int (σ 83 (ix x4.2.2.2))), some (.int x4.2.2.1), some (.int x4.2.2.2)]) (st' := [.int x4.2.2.2, .ref 83]) (σ1 := σ) (by decide +kernel) rfl ?_
                    obtain ⟨g23, e4⟩ := og_some e4
                    refine RM.iald (q := 83) (n := 240) (by decide +kernel) rfl (vin_of g23) ?_
                    refine RM.blk [(2, 0, 0, .null), (3, 12, 13, .null), (1, 7, 0, .null)] (pc' := 110) (L' := [some (.ref 76), some (.int p0), some (.int p1), none, some (.int (x4.1 + 1)), some (.int (σ 83 (ix x4.2.2.2))), some (.int x4.2.2.1), some (.int x4.2.2.2)]) (st' := [.int x4.2.2.2, .ref 84, .int (σ 83 (ix x4.2.2.2))]) (σ1 := σ) (by decide +kernel) rfl ?_
                    obtain ⟨g24, e4⟩ := og_some e4
                    refine RM.iald (q := 84) (n := 240) (by decide +kernel) rfl (vin_of g24) ?_
                    refine RM.blk [(5, 0, 0, .null), (1, 6, 0, .null)] (pc' := 114) (L' := [some (.ref 76), some (.int p0), some (.int p1), none, some (.int (x4.1 + 1)), some (.int (σ 83 (ix x4.2.2.2))), some (.int x4.2.2.1), some (.int x4.2.2.2)]) (st' := [.int x4.2.2.1, .int ((σ 83 (ix x4.2.2.2)) + (σ 84 (ix x4.2.2.2)))]) (σ1 := σ) (by decide +kernel) rfl ?_
                    refine RM.icmp_le (tgt := 135) (by decide +kernel) (fun c25 => ?_) (fun c25 => ?_)
                    · rw [if_pos c25] at e4
                      refine RM.blk [(1, 6, 0, .null), (4, 6, 0, .null), (10, 7, 0, .int 1), (23, 0, 0, .null)] (pc' := 42) (L' := [some (.ref 76), some (.int p0), some (.int p1), none, some (.int (x4.1 + 1)), some (.int (σ 83 (ix x4.2.2.2))), some (.int x4.2.2.1), some (.int (x4.2.2.2 + 1))]) (st' := []) (σ1 := σ) (by decide +kernel) rfl ?_
                      obtain rfl := Option.some.inj e4
                      refine RN.dropB [true, true, true, false, true, true, true, true] rfl ?_
                      exact ih4 ((x4.1 + 1), (σ 83 (ix x4.2.2.2)), x4.2.2.1, (x4.2.2.2 + 1)) _ hy4 hK4
                    · rw [if_neg c25] at e4
                      refine RM.blk [(2, 0, 0, .null), (3, 12, 12, .null), (1, 7, 0, .null)] (pc' := 123) (L' := [some (.ref 76), some (.int p0), some (.int p1), none, some (.int (x4.1 + 1)), some (.int (σ 83 (ix x4.2.2.2))), some (.int x4.2.2.1), some (.int x4.2.2.2)]) (st' := [.int x4.2.2.2, .ref 83]) (σ1 := σ) (by decide +kernel) rfl ?_
                      obtain ⟨g26, e4⟩ := og_some e4
                      refine RM.iald (q := 83) (n := 240) (by decide +kernel) rfl (vin_of g26) ?_
                      refine RM.blk [(2, 0, 0, .null), (3, 12, 13, .null), (1, 7, 0, .null)] (pc' := 130) (L' := [some (.ref 76), some (.int p0), some (.int p1), none, some (.int (x4.1 + 1)), some (.int (σ 83 (ix x4.2.2.2))), some (.int x4.2.2.1), some (.int x4.2.2.2)]) (st' := [.int x4.2.2.2, .ref 84, .int (σ 83 (ix x4.2.2.2))]) (σ1 := σ) (by decide +kernel) rfl ?_
                      obtain ⟨g27, e4⟩ := og_some e4
                      refine RM.iald (q := 84) (n := 240) (by decide +kernel) rfl (vin_of g27) ?_
                      refine RM.blk [(5, 0, 0, .null), (23, 0, 0, .null), (4, 6, 0, .null), (10, 7, 0, .int 1), (23, 0, 0, .null)] (pc' := 42) (L' := [some (.ref 76), some (.int p0), some (.int p1), none, some (.int (x4.1 + 1)), some (.int (σ 83 (ix x4.2.2.2))), some (.int ((σ 83 (ix x4.2.2.2)) + (σ 84 (ix x4.2.2.2)))), some (.int (x4.2.2.2 + 1))]) (st' := []) (σ1 := σ) (by decide +kernel) rfl ?_
                      obtain rfl := Option.some.inj e4
                      refine RN.dropB [true, true, true, false, true, true, true, true] rfl ?_
                      exact ih4 ((x4.1 + 1), (σ 83 (ix x4.2.2.2)), ((σ 83 (ix x4.2.2.2)) + (σ 84 (ix x4.2.2.2))), (x4.2.2.2 + 1)) _ hy4 hK4
        obtain ⟨y4, hl4, h⟩ := ob_some h
        refine RN.dropB [true, true, true, false, true, true, true, true] rfl ?_
        refine hL4 FU (0, (-1), (-1), 0) y4 hl4 ?_
        refine RM.blk [(1, 2, 0, .null)] (pc' := 146) (L' := [some (.ref 76), some (.int p0), some (.int p1), none, some (.int y4.1), some (.int y4.2.1), some (.int y4.2.2), none]) (st' := [.int p1]) (σ1 := σ) (by decide +kernel) rfl ?_
        refine RM.tsw (ts := [180, 183, 190, 197, 211]) (df := 214) (by decide +kernel) (by decide) ⟨fun c28 => ?_, fun c28 => ?_, fun c28 => ?_, fun c28 => ?_, fun c28 => ?_, trivial⟩ (fun c28 => ?_)
        · rw [tsS_at (j := 0) c28 rfl rfl] at h
          refine RM.blk [(1, 4, 0, .null)] (pc' := 182) (L' := [some (.ref 76), some (.int p0), some (.int p1), none, some (.int y4.1), some (.int y4.2.1), some (.int y4.2.2), none]) (st' := [.int y4.1]) (σ1 := σ) (by decide +kernel) rfl ?_
          obtain rfl := (Option.some.inj h)
          exact RM.reti (by decide +kernel) rfl
        · rw [tsS_at (j := 1) c28 rfl rfl] at h
          refine RM.blk [(2, 0, 0, .null), (1, 1, 0, .null), (0, 0, 0, .int 0)] (pc' := 186) (L' := [some (.ref 76), some (.int p0), some (.int p1), none, some (.int y4.1), some (.int y4.2.1), some (.int y4.2.2), none]) (st' := [.int 0, .int p0, .ref 76]) (σ1 := σ) (by decide +kernel) rfl ?_
          obtain ⟨v29, hv29, h⟩ := ob_some h
          refine RN.callV [.int p0, .int (bI false)] (s_Ref_sumOf σ p0 false v29 hv29) [] (pc3 := 189) (st3 := [.int v29]) (by decide +kernel) mk_Ref_sumOf (by decide) ?_
          obtain rfl := (Option.some.inj h)
          exact RM.reti (by decide +kernel) rfl
        · rw [tsS_at (j := 2) c28 rfl rfl] at h
          refine RM.blk [(2, 0, 0, .null), (1, 1, 0, .null), (0, 0, 0, .int 1)] (pc' := 193) (L' := [some (.ref 76), some (.int p0), some (.int p1), none, some (.int y4.1), some (.int y4.2.1), some (.int y4.2.2), none]) (st' := [.int 1, .int p0, .ref 76]) (σ1 := σ) (by decide +kernel) rfl ?_
          obtain ⟨v30, hv30, h⟩ := ob_some h
          refine RN.callV [.int p0, .int (bI true)] (s_Ref_sumOf σ p0 true v30 hv30) [] (pc3 := 196) (st3 := [.int v30]) (by decide +kernel) mk_Ref_sumOf (by decide) ?_
          obtain rfl := (Option.some.inj h)
          exact RM.reti (by decide +kernel) rfl
        · rw [tsS_at (j := 3) c28 rfl rfl] at h
          refine RM.blk [(2, 0, 0, .null), (1, 1, 0, .null)] (pc' := 199) (L' := [some (.ref 76), some (.int p0), some (.int p1), none, some (.int y4.1), some (.int y4.2.1), some (.int y4.2.2), none]) (st' := [.int p0, .ref 76]) (σ1 := σ) (by decide +kernel) rfl ?_
          obtain ⟨v31, hv31, h⟩ := ob_some h
          refine RN.callV [.int p0] (s_Ref_hasFace σ p0 v31 hv31) [] (pc3 := 202) (st3 := [.int (bI v31)]) (by decide +kernel) mk_Ref_hasFace (by decide) ?_
          refine RM.zeq (tgt := 209) (by decide +kernel) (fun c32 => ?_) (fun c32 => ?_)
          · rw [if_neg (bf c32)] at h
            refine RM.blk [(0, 0, 0, .int 0)] (pc' := 210) (L' := [some (.ref 76), some (.int p0), some (.int p1), none, some (.int y4.1), some (.int y4.2.1), some (.int y4.2.2), none]) (st' := [.int 0]) (σ1 := σ) (by decide +kernel) rfl ?_
            obtain rfl := (Option.some.inj h)
            exact RM.reti (by decide +kernel) rfl
          · rw [if_pos c32] at h
            refine RM.blk [(0, 0, 0, .int 1), (23, 0, 0, .null)] (pc' := 210) (L' := [some (.ref 76), some (.int p0), some (.int p1), none, some (.int y4.1), some (.int y4.2.1), some (.int y4.2.2), none]) (st' := [.int 1]) (σ1 := σ) (by decide +kernel) rfl ?_
            obtain rfl := (Option.some.inj h)
            exact RM.reti (by decide +kernel) rfl
        · rw [tsS_at (j := 4) c28 rfl rfl] at h
          refine RM.blk [(1, 5, 0, .null)] (pc' := 213) (L' := [some (.ref 76), some (.int p0), some (.int p1), none, some (.int y4.1), some (.int y4.2.1), some (.int y4.2.2), none]) (st' := [.int y4.2.1]) (σ1 := σ) (by decide +kernel) rfl ?_
          obtain rfl := (Option.some.inj h)
          exact RM.reti (by decide +kernel) rfl
        · rw [tsS_out c28 rfl] at h
          refine RM.blk [(1, 6, 0, .null)] (pc' := 216) (L' := [some (.ref 76), some (.int p0), some (.int p1), none, some (.int y4.1), some (.int y4.2.1), some (.int y4.2.2), none]) (st' := [.int y4.2.2]) (σ1 := σ) (by decide +kernel) rfl ?_
          obtain rfl := (Option.some.inj h)
          exact RM.reti (by decide +kernel) rfl
      · rw [if_neg c3] at h
        refine RM.blk [(1, 3, 0, .null)] (pc' := 29) (L' := [some (.ref 76), some (.int p0), some (.int p1), some (.int (F_Ref_noSheet σ p0)), none, none, none, none]) (st' := [.int (F_Ref_noSheet σ p0)]) (σ1 := σ) (by decide +kernel) rfl ?_
        obtain rfl := (Option.some.inj h)
        exact RM.reti (by decide +kernel) rfl
    · rw [if_neg (bf c2)] at h
      refine RM.blk [(0, 0, 0, .int (-2))] (pc' := 23) (L' := [some (.ref 76), some (.int p0), some (.int p1), some (.int (F_Ref_noSheet σ p0)), none, none, none, none]) (st' := [.int (-2)]) (σ1 := σ) (by decide +kernel) rfl ?_
      obtain rfl := (Option.some.inj h)
      exact RM.reti (by decide +kernel) rfl
