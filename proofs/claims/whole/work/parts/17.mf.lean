/-! methods: Ref_nearest_96, Ref_broken, Ref_cratesTo, Ref_crates, Ref_crate, Ref_hand, Ref_greatestOf, Ref_deal, Ref_days -/
set_option maxRecDepth 100000 in
set_option maxHeartbeats 4000000 in
theorem s_Ref_nearest_96 (σ : SG) (p0 : Int32) (p1 : Int32) (rr : Int32) (h : F_Ref_nearest_96 σ p0 p1 = some rr) : SpN 1 M_Ref_nearest [.ref 76, .int p0, .int p1, .ref 96] σ (some (.int rr)) σ := by
  unfold F_Ref_nearest_96 at h
  refine Sp.of mk_Ref_nearest rfl (Nat.le_of_ble_eq_true rfl) ?_
  refine RM.blk [(0, 0, 0, .int (-1)), (4, 4, 0, .null), (0, 0, 0, .int 0), (4, 5, 0, .null), (0, 0, 0, .int 0), (4, 6, 0, .null)] (pc' := 9) (L' := [some (.ref 76), some (.int p0), some (.int p1), some (.ref 96), some (.int (-1)), some (.int 0), some (.int 0), none, none, none]) (st' := []) (σ1 := σ) (by decide +kernel) rfl ?_
  have hL1 : ∀ (n : Nat) (x1 : Int32 × Int32 × Int32) (y1 : Int32), lpW (L_Ref_nearest_96_9 σ p0 p1) n x1 = some y1 → RN 1 M_Ref_nearest (some (.int rr)) σ 107 [none, none, none, none, some (.int y1), none, none, none, none, none] [] σ → RN 1 M_Ref_nearest (some (.int rr)) σ 9 [some (.ref 76), some (.int p0), some (.int p1), some (.ref 96), some (.int x1.1), some (.int x1.2.1), some (.int x1.2.2), none, none, none] [] σ := by
    intro n
    induction n with
    | zero => intro x1 y1 hy1; cases hy1
    | succ n ih1 =>
      intro x1 y1 hy1 hK1
      obtain ⟨z1, e1, hy1⟩ := ob_some hy1
      unfold L_Ref_nearest_96_9 at e1
      refine RM.blk [(1, 6, 0, .null), (2, 0, 0, .null), (3, 12, 18, .null)] (pc' := 15) (L' := [some (.ref 76), some (.int p0), some (.int p1), some (.ref 96), some (.int x1.1), some (.int x1.2.1), some (.int x1.2.2), none, none, none]) (st' := [.int (σ 76 18), .int x1.2.2]) (σ1 := σ) (by decide +kernel) rfl ?_
      refine RM.icmp_ge (tgt := 107) (by decide +kernel) (fun c2 => ?_) (fun c2 => ?_)
      · rw [if_pos c2] at e1
        obtain rfl := Option.some.inj e1
        obtain rfl := Option.some.inj (show some (x1.1 : Int32) = some y1 from hy1)
        refine RN.dropB [false, false, false, false, true, false, false, false, false, false] rfl ?_
        exact hK1
      · rw [if_neg c2] at e1
        refine RM.blk [(0, 0, 0, .int 0), (4, 7, 0, .null), (0, 0, 0, .int 0), (4, 8, 0, .null)] (pc' := 24) (L' := [some (.ref 76), some (.int p0), some (.int p1), some (.ref 96), some (.int x1.1), some (.int x1.2.1), some (.int x1.2.2), some (.int 0), some (.int 0), none]) (st' := []) (σ1 := σ) (by decide +kernel) rfl ?_
        have hL3 : ∀ (n : Nat) (x3 : Int32 × Int32) (y3 : Int32), lpW (L_Ref_nearest_96_24 σ p0 x1.2.2) n x3 = some y3 → RN 1 M_Ref_nearest (some (.int rr)) σ 72 [some (.ref 76), some (.int p0), some (.int p1), some (.ref 96), some (.int x1.1), some (.int x1.2.1), some (.int x1.2.2), some (.int y3), none, none] [] σ → RN 1 M_Ref_nearest (some (.int rr)) σ 24 [some (.ref 76), some (.int p0), some (.int p1), some (.ref 96), some (.int x1.1), some (.int x1.2.1), some (.int x1.2.2), some (.int x3.1), some (.int x3.2), none] [] σ := by
          intro n
          induction n with
          | zero => intro x3 y3 hy3; cases hy3
          | succ n ih3 =>
            intro x3 y3 hy3 hK3
            obtain ⟨z3, e3, hy3⟩ := ob_some hy3
            unfold L_Ref_nearest_96_24 at e3
            refine RM.blk [(1, 8, 0, .null), (0, 0, 0, .int 3)] (pc' := 27) (L' := [some (.ref 76), some (.int p0), some (.int p1), some (.ref 96), some (.int (x1.1)), some (.int (x1.2.1)), some (.int (x1.2.2)), some (.int x3.1), some (.int x3.2), none]) (st' := [.int 3, .int x3.2]) (σ1 := σ) (by decide +kernel) rfl ?_
            refine RM.icmp_ge (tgt := 72) (by decide +kernel) (fun c4 => ?_) (fun c4 => ?_)
            · rw [if_pos c4] at e3
              obtain rfl := Option.some.inj e3
              obtain rfl := Option.some.inj (show some (x3.1 : Int32) = some y3 from hy3)
              refine RN.dropB [true, true, true, true, true, true, true, true, false, false] rfl ?_
              exact hK3
            · rw [if_neg c4] at e3
              refine RM.blk [(2, 0, 0, .null), (3, 12, 3, .null), (0, 0, 0, .int 3), (1, 1, 0, .null), (7, 0, 0, .null), (1, 8, 0, .null), (5, 0, 0, .null)] (pc' := 40) (L' := [some (.ref 76), some (.int p0), some (.int p1), some (.ref 96), some (.int (x1.1)), some (.int (x1.2.1)), some (.int (x1.2.2)), some (.int x3.1), some (.int x3.2), none]) (st' := [.int ((3 * p0) + x3.2), .ref 78]) (σ1 := σ) (by decide +kernel) rfl ?_
              obtain ⟨g5, e3⟩ := og_some e3
              refine RM.iald (q := 78) (n := 24) (by decide +kernel) rfl (vin_of g5) ?_
              refine RM.blk [(2, 0, 0, .null), (3, 12, 19, .null), (0, 0, 0, .int 3), (1, 6, 0, .null), (7, 0, 0, .null), (1, 8, 0, .null), (5, 0, 0, .null)] (pc' := 52) (L' := [some (.ref 76), some (.int p0), some (.int p1), some (.ref 96), some (.int (x1.1)), some (.int (x1.2.1)), some (.int (x1.2.2)), some (.int x3.1), some (.int x3.2), none]) (st' := [.int ((3 * x1.2.2) + x3.2), .ref 88, .int (σ 78 (ix ((3 * p0) + x3.2)))]) (σ1 := σ) (by decide +kernel) rfl ?_
              obtain ⟨g6, e3⟩ := og_some e3
              refine RM.iald (q := 88) (n := 30) (by decide +kernel) rfl (vin_of g6) ?_
              refine RM.blk [(6, 0, 0, .null), (4, 9, 0, .null), (1, 7, 0, .null), (1, 9, 0, .null), (1, 9, 0, .null), (7, 0, 0, .null), (5, 0, 0, .null), (4, 7, 0, .null), (10, 8, 0, .int 1), (23, 0, 0, .null)] (pc' := 24) (L' := [some (.ref 76), some (.int p0), some (.int p1), some (.ref 96), some (.int (x1.1)), some (.int (x1.2.1)), some (.int (x1.2.2)), some (.int (x3.1 + (((σ 78 (ix ((3 * p0) + x3.2))) - (σ 88 (ix ((3 * x1.2.2) + x3.2)))) * ((σ 78 (ix ((3 * p0) + x3.2))) - (σ 88 (ix ((3 * x1.2.2) + x3.2))))))), some (.int (x3.2 + 1)), some (.int ((σ 78 (ix ((3 * p0) + x3.2))) - (σ 88 (ix ((3 * x1.2.2) + x3.2)))))]) (st' := []) (σ1 := σ) (by decide +kernel) rfl ?_
              obtain rfl := Option.some.inj e3
              refine RN.dropB [true, true, true, true, true, true, true, true, true, false] rfl ?_
              exact ih3 ((x3.1 + (((σ 78 (ix ((3 * p0) + x3.2))) - (σ 88 (ix ((3 * x1.2.2) + x3.2)))) * ((σ 78 (ix ((3 * p0) + x3.2))) - (σ 88 (ix ((3 * x1.2.2) + x3.2)))))), (x3.2 + 1)) _ hy3 hK3
        obtain ⟨y3, hl3, e1⟩ := ob_some e1
        refine RN.dropB [true, true, true, true, true, true, true, true, true, false] rfl ?_
        refine hL3 FU (0, 0) y3 hl3 ?_
        refine RM.blk [(2, 3, 0, .null), (1, 6, 0, .null)] (pc' := 75) (L' := [some (.ref 76), some (.int p0), some (.int p1), some (.ref 96), some (.int x1.1), some (.int x1.2.1), some (.int x1.2.2), some (.int y3), none, none]) (st' := [.int x1.2.2, .ref 96]) (σ1 := σ) (by decide +kernel) rfl ?_
        obtain ⟨g7, e1⟩ := og_some e1
        refine RM.iald (q := 96) (n := 10) (by decide +kernel) rfl (vin_of g7) ?_
        refine RM.blk [(1, 2, 0, .null)] (pc' := 77) (L' := [some (.ref 76), some (.int p0), some (.int p1), some (.ref 96), some (.int x1.1), some (.int x1.2.1), some (.int x1.2.2), some (.int y3), none, none]) (st' := [.int p1, .int (σ 96 (ix x1.2.2))]) (σ1 := σ) (by decide +kernel) rfl ?_
        refine RM.icmp_lt (tgt := 101) (by decide +kernel) (fun c8 => ?_) (fun c8 => ?_)
        · rw [if_pos c8] at e1
          refine RM.blk [(10, 6, 0, .int 1), (23, 0, 0, .null)] (pc' := 9) (L' := [some (.ref 76), some (.int p0), some (.int p1), some (.ref 96), some (.int x1.1), some (.int x1.2.1), some (.int (x1.2.2 + 1)), some (.int y3), none, none]) (st' := []) (σ1 := σ) (by decide +kernel) rfl ?_
          obtain rfl := Option.some.inj e1
          refine RN.dropB [true, true, true, true, true, true, true, false, false, false] rfl ?_
          exact ih1 (x1.1, x1.2.1, (x1.2.2 + 1)) _ hy1 hK1
        · rw [if_neg c8] at e1
          refine RM.blk [(1, 4, 0, .null), (0, 0, 0, .int (-1))] (pc' := 83) (L' := [some (.ref 76), some (.int p0), some (.int p1), some (.ref 96), some (.int x1.1), some (.int x1.2.1), some (.int x1.2.2), some (.int y3), none, none]) (st' := [.int (-1), .int x1.1]) (σ1 := σ) (by decide +kernel) rfl ?_
          refine RM.icmp_eq (tgt := 93) (by decide +kernel) (fun c9 => ?_) (fun c9 => ?_)
          · rw [if_pos c9] at e1
            refine RM.blk [(1, 6, 0, .null), (4, 4, 0, .null), (1, 7, 0, .null), (4, 5, 0, .null), (10, 6, 0, .int 1), (23, 0, 0, .null)] (pc' := 9) (L' := [some (.ref 76), some (.int p0), some (.int p1), some (.ref 96), some (.int x1.2.2), some (.int y3), some (.int (x1.2.2 + 1)), some (.int y3), none, none]) (st' := []) (σ1 := σ) (by decide +kernel) rfl ?_
            obtain rfl := Option.some.inj e1
            refine RN.dropB [true, true, true, true, true, true, true, false, false, false] rfl ?_
            exact ih1 (x1.2.2, y3, (x1.2.2 + 1)) _ hy1 hK1
          · rw [if_neg c9] at e1
            refine RM.blk [(1, 7, 0, .null), (1, 5, 0, .null)] (pc' := 90) (L' := [some (.ref 76), some (.int p0), some (.int p1), some (.ref 96), some (.int x1.1), some (.int x1.2.1), some (.int x1.2.2), some (.int y3), none, none]) (st' := [.int x1.2.1, .int y3]) (σ1 := σ) (by decide +kernel) rfl ?_
            refine RM.icmp_ge (tgt := 101) (by decide +kernel) (fun c10 => ?_) (fun c10 => ?_)
            · rw [if_pos c10] at e1
              refine RM.blk [(10, 6, 0, .int 1), (23, 0, 0, .null)] (pc' := 9) (L' := [some (.ref 76), some (.int p0), some (.int p1), some (.ref 96), some (.int x1.1), some (.int x1.2.1), some (.int (x1.2.2 + 1)), some (.int y3), none, none]) (st' := []) (σ1 := σ) (by decide +kernel) rfl ?_
              obtain rfl := Option.some.inj e1
              refine RN.dropB [true, true, true, true, true, true, true, false, false, false] rfl ?_
              exact ih1 (x1.1, x1.2.1, (x1.2.2 + 1)) _ hy1 hK1
            · rw [if_neg c10] at e1
              refine RM.blk [(1, 6, 0, .null), (4, 4, 0, .null), (1, 7, 0, .null), (4, 5, 0, .null), (10, 6, 0, .int 1), (23, 0, 0, .null)] (pc' := 9) (L' := [some (.ref 76), some (.int p0), some (.int p1), some (.ref 96), some (.int x1.2.2), some (.int y3), some (.int (x1.2.2 + 1)), some (.int y3), none, none]) (st' := []) (σ1 := σ) (by decide +kernel) rfl ?_
              obtain rfl := Option.some.inj e1
              refine RN.dropB [true, true, true, true, true, true, true, false, false, false] rfl ?_
              exact ih1 (x1.2.2, y3, (x1.2.2 + 1)) _ hy1 hK1
  obtain ⟨y1, hl1, h⟩ := ob_some h
  refine RN.dropB [true, true, true, true, true, true, true, false, false, false] rfl ?_
  refine hL1 FU ((-1), 0, 0) y1 hl1 ?_
  refine RM.blk [(1, 4, 0, .null)] (pc' := 109) (L' := [none, none, none, none, some (.int y1), none, none, none, none, none]) (st' := [.int y1]) (σ1 := σ) (by decide +kernel) rfl ?_
  obtain rfl := (Option.some.inj h)
  exact RM.reti (by decide +kernel) rfl
def M_Ref_broken : MI := (yX12_broken, cX12_broken, 6, some .int, 12)
theorem mk_Ref_broken : mOK M_Ref_broken 1 = true := by decide +kernel
set_option maxRecDepth 100000 in
set_option maxHeartbeats 4000000 in
theorem s_Ref_broken (σ : SG) (p0 : Int32) (rr : Int32) (so : SG) (h : F_Ref_broken σ p0 = some (rr, so)) : SpN 2 M_Ref_broken [.ref 76, .int p0] σ (some (.int rr)) so := by
  unfold F_Ref_broken at h
  refine Sp.of mk_Ref_broken rfl (Nat.le_of_ble_eq_true rfl) ?_
  refine RM.blk [(2, 0, 0, .null), (1, 1, 0, .null)] (pc' := 2) (L' := [some (.ref 76), some (.int p0), none, none, none, none]) (st' := [.int p0, .ref 76]) (σ1 := σ) (by decide +kernel) rfl ?_
  refine RN.callV [.int p0] (s_Ref_noSheet σ p0) [] (pc3 := 5) (st3 := [.int (F_Ref_noSheet σ p0)]) (by decide +kernel) mk_Ref_noSheet (by decide) ?_
  refine RM.blk [(4, 2, 0, .null), (1, 2, 0, .null)] (pc' := 7) (L' := [some (.ref 76), some (.int p0), some (.int (F_Ref_noSheet σ p0)), none, none, none]) (st' := [.int (F_Ref_noSheet σ p0)]) (σ1 := σ) (by decide +kernel) rfl ?_
  refine RM.if_ge (tgt := 12) (by decide +kernel) (fun c1 => ?_) (fun c1 => ?_)
  · rw [if_pos c1] at h
    refine RM.blk [(2, 0, 0, .null), (3, 12, 8, .null)] (pc' := 16) (L' := [some (.ref 76), some (.int p0), some (.int (F_Ref_noSheet σ p0)), none, none, none]) (st' := [.int (σ 76 8)]) (σ1 := σ) (by decide +kernel) rfl ?_
    refine RM.if_ne (tgt := 22) (by decide +kernel) (fun c2 => ?_) (fun c2 => ?_)
    · rw [if_neg c2] at h
      refine RM.blk [(0, 0, 0, .int 0), (4, 3, 0, .null)] (pc' := 24) (L' := [some (.ref 76), some (.int p0), some (.int (F_Ref_noSheet σ p0)), some (.int 0), none, none]) (st' := []) (σ1 := σ) (by decide +kernel) rfl ?_
      have hL3 : ∀ (n : Nat) (x3 : Int32 × SG) (y3 : SG), lpW L_Ref_broken_24 n x3 = some y3 → RN 2 M_Ref_broken (some (.int rr)) so 48 [some (.ref 76), some (.int p0), none, none, none, none] [] y3 → RN 2 M_Ref_broken (some (.int rr)) so 24 [some (.ref 76), some (.int p0), none, some (.int x3.1), none, none] [] x3.2 := by
        intro n
        induction n with
        | zero => intro x3 y3 hy3; cases hy3
        | succ n ih3 =>
          intro x3 y3 hy3 hK3
          obtain ⟨z3, e3, hy3⟩ := ob_some hy3
          unfold L_Ref_broken_24 at e3
          refine RM.blk [(1, 3, 0, .null), (0, 0, 0, .int 10)] (pc' := 27) (L' := [some (.ref 76), some (.int p0), none, some (.int x3.1), none, none]) (st' := [.int 10, .int x3.1]) (σ1 := x3.2) (by decide +kernel) rfl ?_
          refine RM.icmp_ge (tgt := 48) (by decide +kernel) (fun c4 => ?_) (fun c4 => ?_)
          · rw [if_pos c4] at e3
            obtain rfl := Option.some.inj e3
            obtain rfl := Option.some.inj (show some (x3.2 : SG) = some y3 from hy3)
            refine RN.dropB [true, true, false, false, false, false] rfl ?_
            exact hK3
          · rw [if_neg c4] at e3
            refine RM.blk [(2, 0, 0, .null), (3, 12, 28, .null), (1, 3, 0, .null), (2, 0, 0, .null), (3, 12, 20, .null), (1, 3, 0, .null)] (pc' := 40) (L' := [some (.ref 76), some (.int p0), none, some (.int x3.1), none, none]) (st' := [.int x3.1, .ref 89, .int x3.1, .ref 96]) (σ1 := x3.2) (by decide +kernel) rfl ?_
            obtain ⟨g5, e3⟩ := og_some e3
            refine RM.iald (q := 89) (n := 10) (by decide +kernel) rfl (vin_of g5) ?_
            obtain ⟨g6, e3⟩ := og_some e3
            refine RM.iast (q := 96) (n := 10) (by decide +kernel) rfl (vin_of g6) ?_
            refine RM.blk [(10, 3, 0, .int 1), (23, 0, 0, .null)] (pc' := 24) (L' := [some (.ref 76), some (.int p0), none, some (.int (x3.1 + 1)), none, none]) (st' := []) (σ1 := (up x3.2 96 (ix x3.1) (x3.2 89 (ix x3.1)))) (by decide +kernel) rfl ?_
            obtain rfl := Option.some.inj e3
            refine RN.dropB [true, true, false, true, false, false] rfl ?_
            exact ih3 ((x3.1 + 1), (up x3.2 96 (ix x3.1) (x3.2 89 (ix x3.1)))) _ hy3 hK3
      obtain ⟨y3, hl3, h⟩ := ob_some h
      refine RN.dropB [true, true, false, true, false, false] rfl ?_
      refine hL3 FU (0, σ) y3 hl3 ?_
      refine RM.blk [(0, 0, 0, .int 0), (4, 3, 0, .null), (0, 0, 0, .int 0), (4, 4, 0, .null)] (pc' := 53) (L' := [some (.ref 76), some (.int p0), none, some (.int 0), some (.int 0), none]) (st' := []) (σ1 := y3) (by decide +kernel) rfl ?_
      have hL7 : ∀ (n : Nat) (x7 : Int32 × Int32 × SG) (y7 : (Int32 × SG) ⊕ (Int32 × SG)), lpW (L_Ref_broken_53 p0) n x7 = some y7 → Sum.elim (fun y7 : Int32 × SG => RN 2 M_Ref_broken (some (.int rr)) so 215 [some (.ref 76), none, none, some (.int y7.1), none, none] [] y7.2) (fun q : Int32 × SG => q = (rr, so)) y7 → RN 2 M_Ref_broken (some (.int rr)) so 53 [some (.ref 76), some (.int p0), none, some (.int x7.1), some (.int x7.2.1), none] [] x7.2.2 := by
        intro n
        induction n with
        | zero => intro x7 y7 hy7; cases hy7
        | succ n ih7 =>
          intro x7 y7 hy7 hK7
          obtain ⟨z7, e7, hy7⟩ := ob_some hy7
          unfold L_Ref_broken_53 at e7
          refine RM.blk [(1, 4, 0, .null), (2, 0, 0, .null), (3, 12, 10, .null)] (pc' := 59) (L' := [some (.ref 76), some (.int p0), none, some (.int x7.1), some (.int x7.2.1), none]) (st' := [.int (x7.2.2 76 10), .int x7.2.1]) (σ1 := x7.2.2) (by decide +kernel) rfl ?_
          refine RM.icmp_ge (tgt := 215) (by decide +kernel) (fun c8 => ?_) (fun c8 => ?_)
          · rw [if_pos c8] at e7
            obtain rfl := Option.some.inj e7
            obtain rfl := Option.some.inj (show some ((.inl (x7.1, x7.2.2)) : (Int32 × SG) ⊕ (Int32 × SG)) = some y7 from hy7)
            refine RN.dropB [true, false, false, true, false, false] rfl ?_
            exact hK7
          · rw [if_neg c8] at e7
            refine RM.blk [(2, 0, 0, .null), (3, 12, 29, .null), (1, 4, 0, .null), (2, 0, 0, .null), (3, 12, 15, .null), (1, 4, 0, .null)] (pc' := 74) (L' := [some (.ref 76), some (.int p0), none, some (.int x7.1), some (.int x7.2.1), none]) (st' := [.int x7.2.1, .ref 86, .int x7.2.1, .ref 97]) (σ1 := x7.2.2) (by decide +kernel) rfl ?_
            obtain ⟨g9, e7⟩ := og_some e7
            refine RM.iald (q := 86) (n := 240) (by decide +kernel) rfl (vin_of g9) ?_
            obtain ⟨g10, e7⟩ := og_some e7
            refine RM.iast (q := 97) (n := 240) (by decide +kernel) rfl (vin_of g10) ?_
            generalize ns11 : (up x7.2.2 97 (ix x7.2.1) (x7.2.2 86 (ix x7.2.1))) = s11 at e7 ⊢
            replace e7 := nm_h e7
            refine RM.blk [(2, 0, 0, .null), (3, 12, 16, .null), (1, 4, 0, .null)] (pc' := 82) (L' := [some (.ref 76), some (.int p0), none, some (.int x7.1), some (.int x7.2.1), none]) (st' := [.int x7.2.1, .ref 87]) (σ1 := s11) (by decide +kernel) rfl ?_
            obtain ⟨g12, e7⟩ := og_some e7
            refine RM.iald (q := 87) (n := 240) (by decide +kernel) rfl (vin_of g12) ?_
            refine RM.blk [(1, 1, 0, .null)] (pc' := 84) (L' := [some (.ref 76), some (.int p0), none, some (.int x7.1), some (.int x7.2.1), none]) (st' := [.int p0, .int (s11 87 (ix x7.2.1))]) (σ1 := s11) (by decide +kernel) rfl ?_
            refine RM.icmp_ne (tgt := 209) (by decide +kernel) (fun c13 => ?_) (fun c13 => ?_)
            · rw [if_neg c13] at e7
              refine RM.blk [(10, 4, 0, .int 1), (23, 0, 0, .null)] (pc' := 53) (L' := [some (.ref 76), some (.int p0), none, some (.int x7.1), some (.int (x7.2.1 + 1)), none]) (st' := []) (σ1 := s11) (by decide +kernel) rfl ?_
              obtain rfl := Option.some.inj e7
              refine RN.dropB [true, true, false, true, true, false] rfl ?_
              exact ih7 (x7.1, (x7.2.1 + 1), s11) _ hy7 hK7
            · rw [if_pos c13] at e7
              refine RM.blk [(2, 0, 0, .null), (3, 12, 15, .null), (1, 4, 0, .null)] (pc' := 93) (L' := [some (.ref 76), some (.int p0), none, some (.int x7.1), some (.int x7.2.1), none]) (st' := [.int x7.2.1, .ref 86]) (σ1 := s11) (by decide +kernel) rfl ?_
              obtain ⟨g14, e7⟩ := og_some e7
              refine RM.iald (q := 86) (n := 240) (by decide +kernel) rfl (vin_of g14) ?_
              refine RM.blk [(0, 0, 0, .int (-1))] (pc' := 95) (L' := [some (.ref 76), some (.int p0), none, some (.int x7.1), some (.int x7.2.1), none]) (st' := [.int (-1), .int (s11 86 (ix x7.2.1))]) (σ1 := s11) (by decide +kernel) rfl ?_
              refine RM.icmp_eq (tgt := 209) (by decide +kernel) (fun c15 => ?_) (fun c15 => ?_)
              · rw [if_pos c15] at e7
                refine RM.blk [(10, 4, 0, .int 1), (23, 0, 0, .null)] (pc' := 53) (L' := [some (.ref 76), some (.int p0), none, some (.int x7.1), some (.int (x7.2.1 + 1)), none]) (st' := []) (σ1 := s11) (by decide +kernel) rfl ?_
                obtain rfl := Option.some.inj e7
                refine RN.dropB [true, true, false, true, true, false] rfl ?_
                exact ih7 (x7.1, (x7.2.1 + 1), s11) _ hy7 hK7
              · rw [if_neg c15] at e7
                refine RM.blk [(2, 0, 0, .null), (3, 12, 28, .null), (2, 0, 0, .null), (3, 12, 15, .null), (1, 4, 0, .null)] (pc' := 108) (L' := [some (.ref 76), some (.int p0), none, some (.int x7.1), some (.int x7.2.1), none]) (st' := [.int x7.2.1, .ref 86, .ref 96]) (σ1 := s11) (by decide +kernel) rfl ?_
                obtain ⟨g16, e7⟩ := og_some e7
                refine RM.iald (q := 86) (n := 240) (by decide +kernel) rfl (vin_of g16) ?_
                obtain ⟨g17, e7⟩ := og_some e7
                refine RM.iald (q := 96) (n := 10) (by decide +kernel) rfl (vin_of g17) ?_
                refine RM.blk [(2, 0, 0, .null), (3, 12, 13, .null), (1, 4, 0, .null)] (pc' := 116) (L' := [some (.ref 76), some (.int p0), none, some (.int x7.1), some (.int x7.2.1), none]) (st' := [.int x7.2.1, .ref 84, .int (s11 96 (ix (s11 86 (ix x7.2.1))))]) (σ1 := s11) (by decide +kernel) rfl ?_
                obtain ⟨g18, e7⟩ := og_some e7
                refine RM.iald (q := 84) (n := 240) (by decide +kernel) rfl (vin_of g18) ?_
                refine RM.icmp_lt (tgt := 130) (by decide +kernel) (fun c19 => ?_) (fun c19 => ?_)
                · rw [if_pos c19] at e7
                  refine RM.blk [(2, 0, 0, .null), (2, 0, 0, .null), (3, 12, 14, .null), (1, 4, 0, .null)] (pc' := 137) (L' := [some (.ref 76), some (.int p0), none, some (.int x7.1), some (.int x7.2.1), none]) (st' := [.int x7.2.1, .ref 85, .ref 76]) (σ1 := s11) (by decide +kernel) rfl ?_
                  obtain ⟨g20, e7⟩ := og_some e7
                  refine RM.iald (q := 85) (n := 240) (by decide +kernel) rfl (vin_of g20) ?_
                  refine RM.blk [(2, 0, 0, .null), (3, 12, 13, .null), (1, 4, 0, .null)] (pc' := 144) (L' := [some (.ref 76), some (.int p0), none, some (.int x7.1), some (.int x7.2.1), none]) (st' := [.int x7.2.1, .ref 84, .int (s11 85 (ix x7.2.1)), .ref 76]) (σ1 := s11) (by decide +kernel) rfl ?_
                  obtain ⟨g21, e7⟩ := og_some e7
                  refine RM.iald (q := 84) (n := 240) (by decide +kernel) rfl (vin_of g21) ?_
                  refine RM.blk [(2, 0, 0, .null), (3, 12, 28, .null)] (pc' := 149) (L' := [some (.ref 76), some (.int p0), none, some (.int x7.1), some (.int x7.2.1), none]) (st' := [.ref 96, .int (s11 84 (ix x7.2.1)), .int (s11 85 (ix x7.2.1)), .ref 76]) (σ1 := s11) (by decide +kernel) rfl ?_
                  obtain ⟨v22, hv22, e7⟩ := ob_some e7
                  refine RN.callV [.int (s11 85 (ix x7.2.1)), .int (s11 84 (ix x7.2.1)), .ref 96] (s_Ref_nearest_96 s11 (s11 85 (ix x7.2.1)) (s11 84 (ix x7.2.1)) v22 hv22) [] (pc3 := 152) (st3 := [.int v22]) (by decide +kernel) mk_Ref_nearest (by decide) ?_
                  refine RM.blk [(4, 5, 0, .null), (1, 5, 0, .null), (0, 0, 0, .int (-1))] (pc' := 157) (L' := [some (.ref 76), some (.int p0), none, some (.int x7.1), some (.int x7.2.1), some (.int v22)]) (st' := [.int (-1), .int v22]) (σ1 := s11) (by decide +kernel) rfl ?_
                  refine RM.icmp_ne (tgt := 163) (by decide +kernel) (fun c23 => ?_) (fun c23 => ?_)
                  · rw [if_neg c23] at e7
                    refine RM.blk [(2, 0, 0, .null), (3, 12, 28, .null), (1, 5, 0, .null), (12, 0, 0, .null)] (pc' := 170) (L' := [some (.ref 76), some (.int p0), none, some (.int x7.1), some (.int x7.2.1), some (.int v22)]) (st' := [.int v22, .ref 96, .int v22, .ref 96]) (σ1 := s11) (by decide +kernel) rfl ?_
                    obtain ⟨g24, e7⟩ := og_some e7
                    refine RM.iald (q := 96) (n := 10) (by decide +kernel) rfl (vin_of g24) ?_
                    refine RM.blk [(2, 0, 0, .null), (3, 12, 13, .null), (1, 4, 0, .null)] (pc' := 177) (L' := [some (.ref 76), some (.int p0), none, some (.int x7.1), some (.int x7.2.1), some (.int v22)]) (st' := [.int x7.2.1, .ref 84, .int (s11 96 (ix v22)), .int v22, .ref 96]) (σ1 := s11) (by decide +kernel) rfl ?_
                    obtain ⟨g25, e7⟩ := og_some e7
                    refine RM.iald (q := 84) (n := 240) (by decide +kernel) rfl (vin_of g25) ?_
                    refine RM.blk [(6, 0, 0, .null)] (pc' := 179) (L' := [some (.ref 76), some (.int p0), none, some (.int x7.1), some (.int x7.2.1), some (.int v22)]) (st' := [.int ((s11 96 (ix v22)) - (s11 84 (ix x7.2.1))), .int v22, .ref 96]) (σ1 := s11) (by decide +kernel) rfl ?_
                    obtain ⟨g26, e7⟩ := og_some e7
                    refine RM.iast (q := 96) (n := 10) (by decide +kernel) rfl (vin_of g26) ?_
                    generalize ns27 : (up s11 96 (ix v22) ((s11 96 (ix v22)) - (s11 84 (ix x7.2.1)))) = s27 at e7 ⊢
                    replace e7 := nm_h e7
                    refine RM.blk [(2, 0, 0, .null), (3, 12, 29, .null), (1, 4, 0, .null), (1, 5, 0, .null)] (pc' := 188) (L' := [some (.ref 76), some (.int p0), none, some (.int x7.1), some (.int x7.2.1), some (.int v22)]) (st' := [.int v22, .int x7.2.1, .ref 97]) (σ1 := s27) (by decide +kernel) rfl ?_
                    obtain ⟨g28, e7⟩ := og_some e7
                    refine RM.iast (q := 97) (n := 240) (by decide +kernel) rfl (vin_of g28) ?_
                    refine RM.blk [(1, 3, 0, .null), (1, 5, 0, .null), (2, 0, 0, .null), (3, 12, 15, .null), (1, 4, 0, .null)] (pc' := 198) (L' := [some (.ref 76), some (.int p0), none, some (.int x7.1), some (.int x7.2.1), some (.int v22)]) (st' := [.int x7.2.1, .ref 86, .int v22, .int x7.1]) (σ1 := (up s27 97 (ix x7.2.1) v22)) (by decide +kernel) rfl ?_
                    obtain ⟨g29, e7⟩ := og_some e7
                    refine RM.iald (q := 86) (n := 240) (by decide +kernel) rfl (vin_of g29) ?_
                    refine RM.icmp_eq (tgt := 206) (by decide +kernel) (fun c30 => ?_) (fun c30 => ?_)
                    · rw [if_pos c30] at e7
                      refine RM.blk [(0, 0, 0, .int 0), (5, 0, 0, .null), (4, 3, 0, .null), (10, 4, 0, .int 1), (23, 0, 0, .null)] (pc' := 53) (L' := [some (.ref 76), some (.int p0), none, some (.int (x7.1 + 0)), some (.int (x7.2.1 + 1)), some (.int v22)]) (st' := []) (σ1 := (up s27 97 (ix x7.2.1) v22)) (by decide +kernel) rfl ?_
                      obtain rfl := Option.some.inj e7
                      refine RN.dropB [true, true, false, true, true, false] rfl ?_
                      exact ih7 ((x7.1 + 0), (x7.2.1 + 1), (up s27 97 (ix x7.2.1) v22)) _ hy7 hK7
                    · rw [if_neg c30] at e7
                      refine RM.blk [(0, 0, 0, .int 1), (23, 0, 0, .null), (5, 0, 0, .null), (4, 3, 0, .null), (10, 4, 0, .int 1), (23, 0, 0, .null)] (pc' := 53) (L' := [some (.ref 76), some (.int p0), none, some (.int (x7.1 + 1)), some (.int (x7.2.1 + 1)), some (.int v22)]) (st' := []) (σ1 := (up s27 97 (ix x7.2.1) v22)) (by decide +kernel) rfl ?_
                      obtain rfl := Option.some.inj e7
                      refine RN.dropB [true, true, false, true, true, false] rfl ?_
                      exact ih7 ((x7.1 + 1), (x7.2.1 + 1), (up s27 97 (ix x7.2.1) v22)) _ hy7 hK7
                  · rw [if_pos c23] at e7
                    refine RM.blk [(0, 0, 0, .int (-3))] (pc' := 162) (L' := [some (.ref 76), some (.int p0), none, some (.int x7.1), some (.int x7.2.1), some (.int v22)]) (st' := [.int (-3)]) (σ1 := s11) (by decide +kernel) rfl ?_
                    obtain rfl := Option.some.inj e7
                    obtain rfl := Option.some.inj (show some (.inr ((-3), s11) : (Int32 × SG) ⊕ (Int32 × SG)) = some y7 from hy7)
                    obtain ⟨rfl, rfl⟩ := Prod.mk.inj (show (((-3), s11) : Int32 × SG) = (rr, so) from hK7)
                    exact RM.reti (by decide +kernel) rfl
                · rw [if_neg c19] at e7
                  refine RM.blk [(2, 0, 0, .null), (3, 12, 15, .null), (1, 4, 0, .null)] (pc' := 126) (L' := [some (.ref 76), some (.int p0), none, some (.int x7.1), some (.int x7.2.1), none]) (st' := [.int x7.2.1, .ref 86]) (σ1 := s11) (by decide +kernel) rfl ?_
                  obtain ⟨g31, e7⟩ := og_some e7
                  refine RM.iald (q := 86) (n := 240) (by decide +kernel) rfl (vin_of g31) ?_
                  refine RM.blk [(23, 0, 0, .null), (4, 5, 0, .null), (1, 5, 0, .null), (0, 0, 0, .int (-1))] (pc' := 157) (L' := [some (.ref 76), some (.int p0), none, some (.int x7.1), some (.int x7.2.1), some (.int (s11 86 (ix x7.2.1)))]) (st' := [.int (-1), .int (s11 86 (ix x7.2.1))]) (σ1 := s11) (by decide +kernel) rfl ?_
                  refine RM.icmp_ne (tgt := 163) (by decide +kernel) (fun c32 => ?_) (fun c32 => ?_)
                  · rw [if_neg c32] at e7
                    refine RM.blk [(2, 0, 0, .null), (3, 12, 28, .null), (1, 5, 0, .null), (12, 0, 0, .null)] (pc' := 170) (L' := [some (.ref 76), some (.int p0), none, some (.int x7.1), some (.int x7.2.1), some (.int (s11 86 (ix x7.2.1)))]) (st' := [.int (s11 86 (ix x7.2.1)), .ref 96, .int (s11 86 (ix x7.2.1)), .ref 96]) (σ1 := s11) (by decide +kernel) rfl ?_
                    obtain ⟨g33, e7⟩ := og_some e7
                    refine RM.iald (q := 96) (n := 10) (by decide +kernel) rfl (vin_of g33) ?_
                    refine RM.blk [(2, 0, 0, .null), (3, 12, 13, .null), (1, 4, 0, .null)] (pc' := 177) (L' := [some (.ref 76), some (.int p0), none, some (.int x7.1), some (.int x7.2.1), some (.int (s11 86 (ix x7.2.1)))]) (st' := [.int x7.2.1, .ref 84, .int (s11 96 (ix (s11 86 (ix x7.2.1)))), .int (s11 86 (ix x7.2.1)), .ref 96]) (σ1 := s11) (by decide +kernel) rfl ?_
                    obtain ⟨g34, e7⟩ := og_some e7
                    refine RM.iald (q := 84) (n := 240) (by decide +kernel) rfl (vin_of g34) ?_
                    refine RM.blk [(6, 0, 0, .null)] (pc' := 179) (L' := [some (.ref 76), some (.int p0), none, some (.int x7.1), some (.int x7.2.1), some (.int (s11 86 (ix x7.2.1)))]) (st' := [.int ((s11 96 (ix (s11 86 (ix x7.2.1)))) - (s11 84 (ix x7.2.1))), .int (s11 86 (ix x7.2.1)), .ref 96]) (σ1 := s11) (by decide +kernel) rfl ?_
                    obtain ⟨g35, e7⟩ := og_some e7
                    refine RM.iast (q := 96) (n := 10) (by decide +kernel) rfl (vin_of g35) ?_
                    generalize ns36 : (up s11 96 (ix (s11 86 (ix x7.2.1))) ((s11 96 (ix (s11 86 (ix x7.2.1)))) - (s11 84 (ix x7.2.1)))) = s36 at e7 ⊢
                    replace e7 := nm_h e7
                    refine RM.blk [(2, 0, 0, .null), (3, 12, 29, .null), (1, 4, 0, .null), (1, 5, 0, .null)] (pc' := 188) (L' := [some (.ref 76), some (.int p0), none, some (.int x7.1), some (.int x7.2.1), some (.int (s11 86 (ix x7.2.1)))]) (st' := [.int (s11 86 (ix x7.2.1)), .int x7.2.1, .ref 97]) (σ1 := s36) (by decide +kernel) rfl ?_
                    obtain ⟨g37, e7⟩ := og_some e7
                    refine RM.iast (q := 97) (n := 240) (by decide +kernel) rfl (vin_of g37) ?_
                    refine RM.blk [(1, 3, 0, .null), (1, 5, 0, .null), (2, 0, 0, .null), (3, 12, 15, .null), (1, 4, 0, .null)] (pc' := 198) (L' := [some (.ref 76), some (.int p0), none, some (.int x7.1), some (.int x7.2.1), some (.int (s11 86 (ix x7.2.1)))]) (st' := [.int x7.2.1, .ref 86, .int (s11 86 (ix x7.2.1)), .int x7.1]) (σ1 := (up s36 97 (ix x7.2.1) (s11 86 (ix x7.2.1)))) (by decide +kernel) rfl ?_
                    obtain ⟨g38, e7⟩ := og_some e7
                    refine RM.iald (q := 86) (n := 240) (by decide +kernel) rfl (vin_of g38) ?_
                    refine RM.icmp_eq (tgt := 206) (by decide +kernel) (fun c39 => ?_) (fun c39 => ?_)
                    · rw [if_pos c39] at e7
                      refine RM.blk [(0, 0, 0, .int 0), (5, 0, 0, .null), (4, 3, 0, .null), (10, 4, 0, .int 1), (23, 0, 0, .null)] (pc' := 53) (L' := [some (.ref 76), some (.int p0), none, some (.int (x7.1 + 0)), some (.int (x7.2.1 + 1)), some (.int (s11 86 (ix x7.2.1)))]) (st' := []) (σ1 := (up s36 97 (ix x7.2.1) (s11 86 (ix x7.2.1)))) (by decide +kernel) rfl ?_
                      obtain rfl := Option.some.inj e7
                      refine RN.dropB [true, true, false, true, true, false] rfl ?_
                      exact ih7 ((x7.1 + 0), (x7.2.1 + 1), (up s36 97 (ix x7.2.1) (s11 86 (ix x7.2.1)))) _ hy7 hK7
                    · rw [if_neg c39] at e7
                      refine RM.blk [(0, 0, 0, .int 1), (23, 0, 0, .null), (5, 0, 0, .null), (4, 3, 0, .null), (10, 4, 0, .int 1), (23, 0, 0, .null)] (pc' := 53) (L' := [some (.ref 76), some (.int p0), none, some (.int (x7.1 + 1)), some (.int (x7.2.1 + 1)), some (.int (s11 86 (ix x7.2.1)))]) (st' := []) (σ1 := (up s36 97 (ix x7.2.1) (s11 86 (ix x7.2.1)))) (by decide +kernel) rfl ?_
                      obtain rfl := Option.some.inj e7
                      refine RN.dropB [true, true, false, true, true, false] rfl ?_
                      exact ih7 ((x7.1 + 1), (x7.2.1 + 1), (up s36 97 (ix x7.2.1) (s11 86 (ix x7.2.1)))) _ hy7 hK7
                  · rw [if_pos c32] at e7
                    refine RM.blk [(0, 0, 0, .int (-3))] (pc' := 162) (L' := [some (.ref 76), some (.int p0), none, some (.int x7.1), some (.int x7.2.1), some (.int (s11 86 (ix x7.2.1)))]) (st' := [.int (-3)]) (σ1 := s11) (by decide +kernel) rfl ?_
                    obtain rfl := Option.some.inj e7
                    obtain rfl := Option.some.inj (show some (.inr ((-3), s11) : (Int32 × SG) ⊕ (Int32 × SG)) = some y7 from hy7)
                    obtain ⟨rfl, rfl⟩ := Prod.mk.inj (show (((-3), s11) : Int32 × SG) = (rr, so) from hK7)
                    exact RM.reti (by decide +kernel) rfl
      obtain ⟨y7, hl7, h⟩ := ob_some h
      refine RN.dropB [true, true, false, true, true, false] rfl ?_
      refine hL7 FU (0, 0, y3) y7 hl7 ?_
      rcases y7 with y7 | q7
      · simp only [Sum.elim_inl] at h ⊢
        refine RM.blk [(0, 0, 0, .int 0), (4, 4, 0, .null)] (pc' := 218) (L' := [some (.ref 76), none, none, some (.int y7.1), some (.int 0), none]) (st' := []) (σ1 := y7.2) (by decide +kernel) rfl ?_
        have hL40 : ∀ (n : Nat) (x40 : Int32 × SG) (y40 : SG), lpW L_Ref_broken_218 n x40 = some y40 → RN 2 M_Ref_broken (some (.int rr)) so 245 [some (.ref 76), none, none, some (.int y7.1), none, none] [] y40 → RN 2 M_Ref_broken (some (.int rr)) so 218 [some (.ref 76), none, none, some (.int y7.1), some (.int x40.1), none] [] x40.2 := by
          intro n
          induction n with
          | zero => intro x40 y40 hy40; cases hy40
          | succ n ih40 =>
            intro x40 y40 hy40 hK40
            obtain ⟨z40, e40, hy40⟩ := ob_some hy40
            unfold L_Ref_broken_218 at e40
            refine RM.blk [(1, 4, 0, .null), (0, 0, 0, .int 10)] (pc' := 222) (L' := [some (.ref 76), none, none, some (.int (y7.1)), some (.int x40.1), none]) (st' := [.int 10, .int x40.1]) (σ1 := x40.2) (by decide +kernel) rfl ?_
            refine RM.icmp_ge (tgt := 245) (by decide +kernel) (fun c41 => ?_) (fun c41 => ?_)
            · rw [if_pos c41] at e40
              obtain rfl := Option.some.inj e40
              obtain rfl := Option.some.inj (show some (x40.2 : SG) = some y40 from hy40)
              refine RN.dropB [true, false, false, true, false, false] rfl ?_
              exact hK40
            · rw [if_neg c41] at e40
              refine RM.blk [(2, 0, 0, .null), (3, 12, 20, .null), (1, 4, 0, .null), (2, 0, 0, .null), (3, 12, 28, .null), (1, 4, 0, .null)] (pc' := 237) (L' := [some (.ref 76), none, none, some (.int (y7.1)), some (.int x40.1), none]) (st' := [.int x40.1, .ref 96, .int x40.1, .ref 89]) (σ1 := x40.2) (by decide +kernel) rfl ?_
              obtain ⟨g42, e40⟩ := og_some e40
              refine RM.iald (q := 96) (n := 10) (by decide +kernel) rfl (vin_of g42) ?_
              obtain ⟨g43, e40⟩ := og_some e40
              refine RM.iast (q := 89) (n := 10) (by decide +kernel) rfl (vin_of g43) ?_
              generalize ns44 : (up x40.2 89 (ix x40.1) (x40.2 96 (ix x40.1))) = s44 at e40 ⊢
              replace e40 := nm_h e40
              refine RM.blk [(10, 4, 0, .int 1), (23, 0, 0, .null)] (pc' := 218) (L' := [some (.ref 76), none, none, some (.int (y7.1)), some (.int (x40.1 + 1)), none]) (st' := []) (σ1 := s44) (by decide +kernel) rfl ?_
              obtain rfl := Option.some.inj e40
              refine RN.dropB [true, false, false, true, true, false] rfl ?_
              exact ih40 ((x40.1 + 1), s44) _ hy40 hK40
        obtain ⟨y40, hl40, h⟩ := ob_some h
        refine RN.dropB [true, false, false, true, true, false] rfl ?_
        refine hL40 FU (0, y7.2) y40 hl40 ?_
        refine RM.blk [(0, 0, 0, .int 0), (4, 4, 0, .null)] (pc' := 248) (L' := [some (.ref 76), none, none, some (.int y7.1), some (.int 0), none]) (st' := []) (σ1 := y40) (by decide +kernel) rfl ?_
        have hL45 : ∀ (n : Nat) (x45 : Int32 × SG) (y45 : SG), lpW L_Ref_broken_248 n x45 = some y45 → RN 2 M_Ref_broken (some (.int rr)) so 277 [none, none, none, some (.int y7.1), none, none] [] y45 → RN 2 M_Ref_broken (some (.int rr)) so 248 [some (.ref 76), none, none, some (.int y7.1), some (.int x45.1), none] [] x45.2 := by
          intro n
          induction n with
          | zero => intro x45 y45 hy45; cases hy45
          | succ n ih45 =>
            intro x45 y45 hy45 hK45
            obtain ⟨z45, e45, hy45⟩ := ob_some hy45
            unfold L_Ref_broken_248 at e45
            refine RM.blk [(1, 4, 0, .null), (2, 0, 0, .null), (3, 12, 10, .null)] (pc' := 254) (L' := [some (.ref 76), none, none, some (.int (y7.1)), some (.int x45.1), none]) (st' := [.int (x45.2 76 10), .int x45.1]) (σ1 := x45.2) (by decide +kernel) rfl ?_
            refine RM.icmp_ge (tgt := 277) (by decide +kernel) (fun c46 => ?_) (fun c46 => ?_)
            · rw [if_pos c46] at e45
              obtain rfl := Option.some.inj e45
              obtain rfl := Option.some.inj (show some (x45.2 : SG) = some y45 from hy45)
              refine RN.dropB [false, false, false, true, false, false] rfl ?_
              exact hK45
            · rw [if_neg c46] at e45
              refine RM.blk [(2, 0, 0, .null), (3, 12, 15, .null), (1, 4, 0, .null), (2, 0, 0, .null), (3, 12, 29, .null), (1, 4, 0, .null)] (pc' := 269) (L' := [some (.ref 76), none, none, some (.int (y7.1)), some (.int x45.1), none]) (st' := [.int x45.1, .ref 97, .int x45.1, .ref 86]) (σ1 := x45.2) (by decide +kernel) rfl ?_
              obtain ⟨g47, e45⟩ := og_some e45
              refine RM.iald (q := 97) (n := 240) (by decide +kernel) rfl (vin_of g47) ?_
              obtain ⟨g48, e45⟩ := og_some e45
              refine RM.iast (q := 86) (n := 240) (by decide +kernel) rfl (vin_of g48) ?_
              generalize ns49 : (up x45.2 86 (ix x45.1) (x45.2 97 (ix x45.1))) = s49 at e45 ⊢
              replace e45 := nm_h e45
              refine RM.blk [(10, 4, 0, .int 1), (23, 0, 0, .null)] (pc' := 248) (L' := [some (.ref 76), none, none, some (.int (y7.1)), some (.int (x45.1 + 1)), none]) (st' := []) (σ1 := s49) (by decide +kernel) rfl ?_
              obtain rfl := Option.some.inj e45
              refine RN.dropB [true, false, false, true, true, false] rfl ?_
              exact ih45 ((x45.1 + 1), s49) _ hy45 hK45
        obtain ⟨y45, hl45, h⟩ := ob_some h
        refine RN.dropB [true, false, false, true, true, false] rfl ?_
        refine hL45 FU (0, y40) y45 hl45 ?_
        refine RM.blk [(1, 3, 0, .null)] (pc' := 278) (L' := [none, none, none, some (.int y7.1), none, none]) (st' := [.int y7.1]) (σ1 := y45) (by decide +kernel) rfl ?_
        obtain ⟨rfl, rfl⟩ := Prod.mk.inj (Option.some.inj h)
        exact RM.reti (by decide +kernel) rfl
      · simp only [Sum.elim_inr] at h ⊢
        exact Option.some.inj h
    · rw [if_pos c2] at h
      refine RM.blk [(0, 0, 0, .int (-3))] (pc' := 21) (L' := [some (.ref 76), some (.int p0), some (.int (F_Ref_noSheet σ p0)), none, none, none]) (st' := [.int (-3)]) (σ1 := σ) (by decide +kernel) rfl ?_
      obtain ⟨rfl, rfl⟩ := Prod.mk.inj (Option.some.inj h)
      exact RM.reti (by decide +kernel) rfl
  · rw [if_neg c1] at h
    refine RM.blk [(1, 2, 0, .null)] (pc' := 11) (L' := [some (.ref 76), some (.int p0), some (.int (F_Ref_noSheet σ p0)), none, none, none]) (st' := [.int (F_Ref_noSheet σ p0)]) (σ1 := σ) (by decide +kernel) rfl ?_
    obtain ⟨rfl, rfl⟩ := Prod.mk.inj (Option.some.inj h)
    exact RM.reti (by decide +kernel) rfl
def M_Ref_cratesTo : MI := (yX12_cratesTo, cX12_cratesTo, 8, some .int, 12)
theorem mk_Ref_cratesTo : mOK M_Ref_cratesTo 2 = true := by decide +kernel
set_option maxRecDepth 100000 in
set_option maxHeartbeats 4000000 in
theorem s_Ref_cratesTo (σ : SG) (p0 : Int32) (p1 : Int32) (rr : Int32) (h : F_Ref_cratesTo σ p0 p1 = some rr) : SpN 2 M_Ref_cratesTo [.ref 76, .int p0, .int p1] σ (some (.int rr)) σ := by
  unfold F_Ref_cratesTo at h
  refine Sp.of mk_Ref_cratesTo rfl (Nat.le_of_ble_eq_true rfl) ?_
  refine RM.blk [(0, 0, 0, .int 0), (4, 3, 0, .null), (0, 0, 0, .int 0), (4, 4, 0, .null), (0, 0, 0, .int 0), (4, 5, 0, .null)] (pc' := 8) (L' := [some (.ref 76), some (.int p0), some (.int p1), some (.int 0), some (.int 0), some (.int 0), none, none]) (st' := []) (σ1 := σ) (by decide +kernel) rfl ?_
  have hL1 : ∀ (n : Nat) (x1 : Int32 × Int32 × Int32) (y1 : Int32), lpW (L_Ref_cratesTo_8 σ p0 p1) n x1 = some y1 → RN 2 M_Ref_cratesTo (some (.int rr)) σ 84 [none, none, none, some (.int y1), none, none, none, none] [] σ → RN 2 M_Ref_cratesTo (some (.int rr)) σ 8 [some (.ref 76), some (.int p0), some (.int p1), some (.int x1.1), some (.int x1.2.1), some (.int x1.2.2), none, none] [] σ := by
    intro n
    induction n with
    | zero => intro x1 y1 hy1; cases hy1
    | succ n ih1 =>
      intro x1 y1 hy1 hK1
      obtain ⟨z1, e1, hy1⟩ := ob_some hy1
      unfold L_Ref_cratesTo_8 at e1
      refine RM.blk [(1, 5, 0, .null), (1, 2, 0, .null)] (pc' := 11) (L' := [some (.ref 76), some (.int p0), some (.int p1), some (.int x1.1), some (.int x1.2.1), some (.int x1.2.2), none, none]) (st' := [.int p1, .int x1.2.2]) (σ1 := σ) (by decide +kernel) rfl ?_
      refine RM.icmp_gt (tgt := 84) (by decide +kernel) (fun c2 => ?_) (fun c2 => ?_)
      · rw [if_pos c2] at e1
        obtain rfl := Option.some.inj e1
        obtain rfl := Option.some.inj (show some (x1.1 : Int32) = some y1 from hy1)
        refine RN.dropB [false, false, false, true, false, false, false, false] rfl ?_
        exact hK1
      · rw [if_neg c2] at e1
        refine RM.blk [(2, 0, 0, .null), (1, 5, 0, .null), (0, 0, 0, .int 0)] (pc' := 18) (L' := [some (.ref 76), some (.int p0), some (.int p1), some (.int x1.1), some (.int x1.2.1), some (.int x1.2.2), none, none]) (st' := [.int 0, .int x1.2.2, .ref 76]) (σ1 := σ) (by decide +kernel) rfl ?_
        obtain ⟨v3, hv3, e1⟩ := ob_some e1
        refine RN.callV [.int x1.2.2, .int (bI false)] (s_Ref_sumOf σ x1.2.2 false v3 hv3) [] (pc3 := 21) (st3 := [.int v3]) (by decide +kernel) mk_Ref_sumOf (by decide) ?_
        refine RM.blk [(4, 6, 0, .null), (1, 6, 0, .null)] (pc' := 25) (L' := [some (.ref 76), some (.int p0), some (.int p1), some (.int x1.1), some (.int x1.2.1), some (.int x1.2.2), some (.int v3), none]) (st' := [.int v3]) (σ1 := σ) (by decide +kernel) rfl ?_
        refine RM.if_le (tgt := 78) (by decide +kernel) (fun c4 => ?_) (fun c4 => ?_)
        · rw [if_pos c4] at e1
          refine RM.blk [(10, 5, 0, .int 1), (23, 0, 0, .null)] (pc' := 8) (L' := [some (.ref 76), some (.int p0), some (.int p1), some (.int x1.1), some (.int x1.2.1), some (.int (x1.2.2 + 1)), some (.int v3), none]) (st' := []) (σ1 := σ) (by decide +kernel) rfl ?_
          obtain rfl := Option.some.inj e1
          refine RN.dropB [true, true, true, true, true, true, false, false] rfl ?_
          exact ih1 (x1.1, x1.2.1, (x1.2.2 + 1)) _ hy1 hK1
        · rw [if_neg c4] at e1
          refine RM.blk [(1, 3, 0, .null)] (pc' := 29) (L' := [some (.ref 76), some (.int p0), some (.int p1), some (.int x1.1), some (.int x1.2.1), some (.int x1.2.2), some (.int v3), none]) (st' := [.int x1.1]) (σ1 := σ) (by decide +kernel) rfl ?_
          refine RM.if_le (tgt := 45) (by decide +kernel) (fun c5 => ?_) (fun c5 => ?_)
          · rw [if_pos c5] at e1
            refine RM.blk [(0, 0, 0, .int 0), (4, 7, 0, .null), (1, 3, 0, .null), (1, 7, 0, .null)] (pc' := 51) (L' := [some (.ref 76), some (.int p0), some (.int p1), some (.int x1.1), some (.int x1.2.1), some (.int x1.2.2), some (.int v3), some (.int (bI false))]) (st' := [.int (bI false), .int x1.1]) (σ1 := σ) (by decide +kernel) rfl ?_
            refine RM.zeq (tgt := 58) (by decide +kernel) (fun c6 => ?_) (fun c6 => ?_)
            · rw [if_neg (bf c6)] at e1
              refine RM.blk [(0, 0, 0, .int 1), (5, 0, 0, .null), (4, 3, 0, .null), (1, 7, 0, .null)] (pc' := 63) (L' := [some (.ref 76), some (.int p0), some (.int p1), some (.int (x1.1 + 1)), some (.int x1.2.1), some (.int x1.2.2), some (.int v3), some (.int (bI false))]) (st' := [.int (bI false)]) (σ1 := σ) (by decide +kernel) rfl ?_
              refine RM.zeq (tgt := 74) (by decide +kernel) (fun c7 => ?_) (fun c7 => ?_)
              · rw [if_neg (bf c7)] at e1
                refine RM.blk [(1, 6, 0, .null), (4, 4, 0, .null), (10, 5, 0, .int 1), (23, 0, 0, .null)] (pc' := 8) (L' := [some (.ref 76), some (.int p0), some (.int p1), some (.int (x1.1 + 1)), some (.int v3), some (.int (x1.2.2 + 1)), some (.int v3), some (.int (bI false))]) (st' := []) (σ1 := σ) (by decide +kernel) rfl ?_
                obtain rfl := Option.some.inj e1
                refine RN.dropB [true, true, true, true, true, true, false, false] rfl ?_
                exact ih1 ((x1.1 + 1), v3, (x1.2.2 + 1)) _ hy1 hK1
              · rw [if_pos c7] at e1
                refine RM.blk [(1, 4, 0, .null), (1, 6, 0, .null), (5, 0, 0, .null), (23, 0, 0, .null), (4, 4, 0, .null), (10, 5, 0, .int 1), (23, 0, 0, .null)] (pc' := 8) (L' := [some (.ref 76), some (.int p0), some (.int p1), some (.int (x1.1 + 1)), some (.int (x1.2.1 + v3)), some (.int (x1.2.2 + 1)), some (.int v3), some (.int (bI false))]) (st' := []) (σ1 := σ) (by decide +kernel) rfl ?_
                obtain rfl := Option.some.inj e1
                refine RN.dropB [true, true, true, true, true, true, false, false] rfl ?_
                exact ih1 ((x1.1 + 1), (x1.2.1 + v3), (x1.2.2 + 1)) _ hy1 hK1
            · rw [if_pos c6] at e1
              refine RM.blk [(0, 0, 0, .int 0), (23, 0, 0, .null), (5, 0, 0, .null), (4, 3, 0, .null), (1, 7, 0, .null)] (pc' := 63) (L' := [some (.ref 76), some (.int p0), some (.int p1), some (.int (x1.1 + 0)), some (.int x1.2.1), some (.int x1.2.2), some (.int v3), some (.int (bI false))]) (st' := [.int (bI false)]) (σ1 := σ) (by decide +kernel) rfl ?_
              refine RM.zeq (tgt := 74) (by decide +kernel) (fun c8 => ?_) (fun c8 => ?_)
              · rw [if_neg (bf c8)] at e1
                refine RM.blk [(1, 6, 0, .null), (4, 4, 0, .null), (10, 5, 0, .int 1), (23, 0, 0, .null)] (pc' := 8) (L' := [some (.ref 76), some (.int p0), some (.int p1), some (.int (x1.1 + 0)), some (.int v3), some (.int (x1.2.2 + 1)), some (.int v3), some (.int (bI false))]) (st' := []) (σ1 := σ) (by decide +kernel) rfl ?_
                obtain rfl := Option.some.inj e1
                refine RN.dropB [true, true, true, true, true, true, false, false] rfl ?_
                exact ih1 ((x1.1 + 0), v3, (x1.2.2 + 1)) _ hy1 hK1
              · rw [if_pos c8] at e1
                refine RM.blk [(1, 4, 0, .null), (1, 6, 0, .null), (5, 0, 0, .null), (23, 0, 0, .null), (4, 4, 0, .null), (10, 5, 0, .int 1), (23, 0, 0, .null)] (pc' := 8) (L' := [some (.ref 76), some (.int p0), some (.int p1), some (.int (x1.1 + 0)), some (.int (x1.2.1 + v3)), some (.int (x1.2.2 + 1)), some (.int v3), some (.int (bI false))]) (st' := []) (σ1 := σ) (by decide +kernel) rfl ?_
                obtain rfl := Option.some.inj e1
                refine RN.dropB [true, true, true, true, true, true, false, false] rfl ?_
                exact ih1 ((x1.1 + 0), (x1.2.1 + v3), (x1.2.2 + 1)) _ hy1 hK1
          · rw [if_neg c5] at e1
            refine RM.blk [(1, 4, 0, .null), (1, 6, 0, .null), (5, 0, 0, .null), (1, 1, 0, .null)] (pc' := 38) (L' := [some (.ref 76), some (.int p0), some (.int p1), some (.int x1.1), some (.int x1.2.1), some (.int x1.2.2), some (.int v3), none]) (st' := [.int p0, .int (x1.2.1 + v3)]) (σ1 := σ) (by decide +kernel) rfl ?_
            refine RM.icmp_gt (tgt := 45) (by decide +kernel) (fun c9 => ?_) (fun c9 => ?_)
            · rw [if_pos c9] at e1
              refine RM.blk [(0, 0, 0, .int 0), (4, 7, 0, .null), (1, 3, 0, .null), (1, 7, 0, .null)] (pc' := 51) (L' := [some (.ref 76), some (.int p0), some (.int p1), some (.int x1.1), some (.int x1.2.1), some (.int x1.2.2), some (.int v3), some (.int (bI false))]) (st' := [.int (bI false), .int x1.1]) (σ1 := σ) (by decide +kernel) rfl ?_
              refine RM.zeq (tgt := 58) (by decide +kernel) (fun c10 => ?_) (fun c10 => ?_)
              · rw [if_neg (bf c10)] at e1
                refine RM.blk [(0, 0, 0, .int 1), (5, 0, 0, .null), (4, 3, 0, .null), (1, 7, 0, .null)] (pc' := 63) (L' := [some (.ref 76), some (.int p0), some (.int p1), some (.int (x1.1 + 1)), some (.int x1.2.1), some (.int x1.2.2), some (.int v3), some (.int (bI false))]) (st' := [.int (bI false)]) (σ1 := σ) (by decide +kernel) rfl ?_
                refine RM.zeq (tgt := 74) (by decide +kernel) (fun c11 => ?_) (fun c11 => ?_)
                · rw [if_neg (bf c11)] at e1
                  refine RM.blk [(1, 6, 0, .null), (4, 4, 0, .null), (10, 5, 0, .int 1), (23, 0, 0, .null)] (pc' := 8) (L' := [some (.ref 76), some (.int p0), some (.int p1), some (.int (x1.1 + 1)), some (.int v3), some (.int (x1.2.2 + 1)), some (.int v3), some (.int (bI false))]) (st' := []) (σ1 := σ) (by decide +kernel) rfl ?_
                  obtain rfl := Option.some.inj e1
                  refine RN.dropB [true, true, true, true, true, true, false, false] rfl ?_
                  exact ih1 ((x1.1 + 1), v3, (x1.2.2 + 1)) _ hy1 hK1
                · rw [if_pos c11] at e1
                  refine RM.blk [(1, 4, 0, .null), (1, 6, 0, .null), (5, 0, 0, .null), (23, 0, 0, .null), (4, 4, 0, .null), (10, 5, 0, .int 1), (23, 0, 0, .null)] (pc' := 8) (L' := [some (.ref 76), some (.int p0), some (.int p1), some (.int (x1.1 + 1)), some (.int (x1.2.1 + v3)), some (.int (x1.2.2 + 1)), some (.int v3), some (.int (bI false))]) (st' := []) (σ1 := σ) (by decide +kernel) rfl ?_
                  obtain rfl := Option.some.inj e1
                  refine RN.dropB [true, true, true, true, true, true, false, false] rfl ?_
                  exact ih1 ((x1.1 + 1), (x1.2.1 + v3), (x1.2.2 + 1)) _ hy1 hK1
              · rw [if_pos c10] at e1
                refine RM.blk [(0, 0, 0, .int 0), (23, 0, 0, .null), (5, 0, 0, .null), (4, 3, 0, .null), (1, 7, 0, .null)] (pc' := 63) (L' := [some (.ref 76), some (.int p0), some (.int p1), some (.int (x1.1 + 0)), some (.int x1.2.1), some (.int x1.2.2), some (.int v3), some (.int (bI false))]) (st' := [.int (bI false)]) (σ1 := σ) (by decide +kernel) rfl ?_
                refine RM.zeq (tgt := 74) (by decide +kernel) (fun c12 => ?_) (fun c12 => ?_)
                · rw [if_neg (bf c12)] at e1
                  refine RM.blk [(1, 6, 0, .null), (4, 4, 0, .null), (10, 5, 0, .int 1), (23, 0, 0, .null)] (pc' := 8) (L' := [some (.ref 76), some (.int p0), some (.int p1), some (.int (x1.1 + 0)), some (.int v3), some (.int (x1.2.2 + 1)), some (.int v3), some (.int (bI false))]) (st' := []) (σ1 := σ) (by decide +kernel) rfl ?_
                  obtain rfl := Option.some.inj e1
                  refine RN.dropB [true, true, true, true, true, true, false, false] rfl ?_
                  exact ih1 ((x1.1 + 0), v3, (x1.2.2 + 1)) _ hy1 hK1
                · rw [if_pos c12] at e1
                  refine RM.blk [(1, 4, 0, .null), (1, 6, 0, .null), (5, 0, 0, .null), (23, 0, 0, .null), (4, 4, 0, .null), (10, 5, 0, .int 1), (23, 0, 0, .null)] (pc' := 8) (L' := [some (.ref 76), some (.int p0), some (.int p1), some (.int (x1.1 + 0)), some (.int (x1.2.1 + v3)), some (.int (x1.2.2 + 1)), some (.int v3), some (.int (bI false))]) (st' := []) (σ1 := σ) (by decide +kernel) rfl ?_
                  obtain rfl := Option.some.inj e1
                  refine RN.dropB [true, true, true, true, true, true, false, false] rfl ?_
                  exact ih1 ((x1.1 + 0), (x1.2.1 + v3), (x1.2.2 + 1)) _ hy1 hK1
            · rw [if_neg c9] at e1
              refine RM.blk [(0, 0, 0, .int 1), (23, 0, 0, .null), (4, 7, 0, .null), (1, 3, 0, .null), (1, 7, 0, .null)] (pc' := 51) (L' := [some (.ref 76), some (.int p0), some (.int p1), some (.int x1.1), some (.int x1.2.1), some (.int x1.2.2), some (.int v3), some (.int (bI true))]) (st' := [.int (bI true), .int x1.1]) (σ1 := σ) (by decide +kernel) rfl ?_
              refine RM.zeq (tgt := 58) (by decide +kernel) (fun c13 => ?_) (fun c13 => ?_)
              · rw [if_neg (bf c13)] at e1
                refine RM.blk [(0, 0, 0, .int 1), (5, 0, 0, .null), (4, 3, 0, .null), (1, 7, 0, .null)] (pc' := 63) (L' := [some (.ref 76), some (.int p0), some (.int p1), some (.int (x1.1 + 1)), some (.int x1.2.1), some (.int x1.2.2), some (.int v3), some (.int (bI true))]) (st' := [.int (bI true)]) (σ1 := σ) (by decide +kernel) rfl ?_
                refine RM.zeq (tgt := 74) (by decide +kernel) (fun c14 => ?_) (fun c14 => ?_)
                · rw [if_neg (bf c14)] at e1
                  refine RM.blk [(1, 6, 0, .null), (4, 4, 0, .null), (10, 5, 0, .int 1), (23, 0, 0, .null)] (pc' := 8) (L' := [some (.ref 76), some (.int p0), some (.int p1), some (.int (x1.1 + 1)), some (.int v3), some (.int (x1.2.2 + 1)), some (.int v3), some (.int (bI true))]) (st' := []) (σ1 := σ) (by decide +kernel) rfl ?_
                  obtain rfl := Option.some.inj e1
                  refine RN.dropB [true, true, true, true, true, true, false, false] rfl ?_
                  exact ih1 ((x1.1 + 1), v3, (x1.2.2 + 1)) _ hy1 hK1
                · rw [if_pos c14] at e1
                  refine RM.blk [(1, 4, 0, .null), (1, 6, 0, .null), (5, 0, 0, .null), (23, 0, 0, .null), (4, 4, 0, .null), (10, 5, 0, .int 1), (23, 0, 0, .null)] (pc' := 8) (L' := [some (.ref 76), some (.int p0), some (.int p1), some (.int (x1.1 + 1)), some (.int (x1.2.1 + v3)), some (.int (x1.2.2 + 1)), some (.int v3), some (.int (bI true))]) (st' := []) (σ1 := σ) (by decide +kernel) rfl ?_
                  obtain rfl := Option.some.inj e1
                  refine RN.dropB [true, true, true, true, true, true, false, false] rfl ?_
                  exact ih1 ((x1.1 + 1), (x1.2.1 + v3), (x1.2.2 + 1)) _ hy1 hK1
              · rw [if_pos c13] at e1
                refine RM.blk [(0, 0, 0, .int 0), (23, 0, 0, .null), (5, 0, 0, .null), (4, 3, 0, .null), (1, 7, 0, .null)] (pc' := 63) (L' := [some (.ref 76), some (.int p0), some (.int p1), some (.int (x1.1 + 0)), some (.int x1.2.1), some (.int x1.2.2), some (.int v3), some (.int (bI true))]) (st' := [.int (bI true)]) (σ1 := σ) (by decide +kernel) rfl ?_
                refine RM.zeq (tgt := 74) (by decide +kernel) (fun c15 => ?_) (fun c15 => ?_)
                · rw [if_neg (bf c15)] at e1
                  refine RM.blk [(1, 6, 0, .null), (4, 4, 0, .null), (10, 5, 0, .int 1), (23, 0, 0, .null)] (pc' := 8) (L' := [some (.ref 76), some (.int p0), some (.int p1), some (.int (x1.1 + 0)), some (.int v3), some (.int (x1.2.2 + 1)), some (.int v3), some (.int (bI true))]) (st' := []) (σ1 := σ) (by decide +kernel) rfl ?_
                  obtain rfl := Option.some.inj e1
                  refine RN.dropB [true, true, true, true, true, true, false, false] rfl ?_
                  exact ih1 ((x1.1 + 0), v3, (x1.2.2 + 1)) _ hy1 hK1
                · rw [if_pos c15] at e1
                  refine RM.blk [(1, 4, 0, .null), (1, 6, 0, .null), (5, 0, 0, .null), (23, 0, 0, .null), (4, 4, 0, .null), (10, 5, 0, .int 1), (23, 0, 0, .null)] (pc' := 8) (L' := [some (.ref 76), some (.int p0), some (.int p1), some (.int (x1.1 + 0)), some (.int (x1.2.1 + v3)), some (.int (x1.2.2 + 1)), some (.int v3), some (.int (bI true))]) (st' := []) (σ1 := σ) (by decide +kernel) rfl ?_
                  obtain rfl := Option.some.inj e1
                  refine RN.dropB [true, true, true, true, true, true, false, false] rfl ?_
                  exact ih1 ((x1.1 + 0), (x1.2.1 + v3), (x1.2.2 + 1)) _ hy1 hK1
  obtain ⟨y1, hl1, h⟩ := ob_some h
  refine RN.dropB [true, true, true, true, true, true, false, false] rfl ?_
  refine hL1 FU (0, 0, 0) y1 hl1 ?_
  refine RM.blk [(1, 3, 0, .null)] (pc' := 85) (L' := [none, none, none, some (.int y1), none, none, none, none]) (st' := [.int y1]) (σ1 := σ) (by decide +kernel) rfl ?_
  obtain rfl := (Option.some.inj h)
  exact RM.reti (by decide +kernel) rfl
def M_Ref_crates : MI := (yX12_crates, cX12_crates, 2, some .int, 12)
theorem mk_Ref_crates : mOK M_Ref_crates 1 = true := by decide +kernel
set_option maxRecDepth 100000 in
set_option maxHeartbeats 4000000 in
theorem s_Ref_crates (σ : SG) (p0 : Int32) (rr : Int32) (h : F_Ref_crates σ p0 = some rr) : SpN 3 M_Ref_crates [.ref 76, .int p0] σ (some (.int rr)) σ := by
  unfold F_Ref_crates at h
  refine Sp.of mk_Ref_crates rfl (Nat.le_of_ble_eq_true rfl) ?_
  refine RM.blk [(1, 1, 0, .null), (0, 0, 0, .int 1), (0, 0, 0, .int 240)] (pc' := 5) (L' := [some (.ref 76), some (.int p0)]) (st' := [.int 240, .int 1, .int p0]) (σ1 := σ) (by decide +kernel) rfl ?_
  refine RN.callS [.int p0, .int 1, .int 240] (s_Ref_in σ p0 1 240) [] (pc3 := 8) (st3 := [.int (bI (F_Ref_in p0 1 240))]) (by decide +kernel) mk_Ref_in (by decide) ?_
  refine RM.zne (tgt := 16) (by decide +kernel) (fun c1 => ?_) (fun c1 => ?_)
  · rw [if_pos c1] at h
    refine RM.blk [(2, 0, 0, .null), (3, 12, 9, .null)] (pc' := 20) (L' := [some (.ref 76), some (.int p0)]) (st' := [.int (σ 76 9)]) (σ1 := σ) (by decide +kernel) rfl ?_
    refine RM.if_ne (tgt := 28) (by decide +kernel) (fun c2 => ?_) (fun c2 => ?_)
    · rw [if_neg c2] at h
      refine RM.blk [(2, 0, 0, .null), (1, 1, 0, .null), (2, 0, 0, .null), (3, 12, 17, .null), (0, 0, 0, .int 1), (6, 0, 0, .null)] (pc' := 36) (L' := [some (.ref 76), some (.int p0)]) (st' := [.int ((σ 76 17) - 1), .int p0, .ref 76]) (σ1 := σ) (by decide +kernel) rfl ?_
      obtain ⟨v3, hv3, h⟩ := ob_some h
      refine RN.callV [.int p0, .int ((σ 76 17) - 1)] (s_Ref_cratesTo σ p0 ((σ 76 17) - 1) v3 hv3) [] (pc3 := 39) (st3 := [.int v3]) (by decide +kernel) mk_Ref_cratesTo (by decide) ?_
      obtain rfl := (Option.some.inj h)
      exact RM.reti (by decide +kernel) rfl
    · rw [if_pos c2] at h
      refine RM.blk [(0, 0, 0, .int (-3)), (23, 0, 0, .null)] (pc' := 39) (L' := [some (.ref 76), some (.int p0)]) (st' := [.int (-3)]) (σ1 := σ) (by decide +kernel) rfl ?_
      obtain rfl := (Option.some.inj h)
      exact RM.reti (by decide +kernel) rfl
  · rw [if_neg (bf c1)] at h
    refine RM.blk [(0, 0, 0, .int (-2)), (23, 0, 0, .null)] (pc' := 39) (L' := [some (.ref 76), some (.int p0)]) (st' := [.int (-2)]) (σ1 := σ) (by decide +kernel) rfl ?_
    obtain rfl := (Option.some.inj h)
    exact RM.reti (by decide +kernel) rfl
def M_Ref_crate : MI := (yX12_crate, cX12_crate, 4, some .int, 12)
theorem mk_Ref_crate : mOK M_Ref_crate 2 = true := by decide +kernel
set_option maxRecDepth 100000 in
set_option maxHeartbeats 4000000 in
theorem s_Ref_crate (σ : SG) (p0 : Int32) (p1 : Int32) (rr : Int32) (h : F_Ref_crate σ p0 p1 = some rr) : SpN 3 M_Ref_crate [.ref 76, .int p0, .int p1] σ (some (.int rr)) σ := by
  unfold F_Ref_crate at h
  refine Sp.of mk_Ref_crate rfl (Nat.le_of_ble_eq_true rfl) ?_
  refine RM.blk [(2, 0, 0, .null), (1, 2, 0, .null)] (pc' := 2) (L' := [some (.ref 76), some (.int p0), some (.int p1), none]) (st' := [.int p1, .ref 76]) (σ1 := σ) (by decide +kernel) rfl ?_
  refine RN.callV [.int p1] (s_Ref_noSheet σ p1) [] (pc3 := 5) (st3 := [.int (F_Ref_noSheet σ p1)]) (by decide +kernel) mk_Ref_noSheet (by decide) ?_
  refine RM.blk [(4, 3, 0, .null), (1, 1, 0, .null), (0, 0, 0, .int 1), (0, 0, 0, .int 240)] (pc' := 11) (L' := [some (.ref 76), some (.int p0), some (.int p1), some (.int (F_Ref_noSheet σ p1))]) (st' := [.int 240, .int 1, .int p0]) (σ1 := σ) (by decide +kernel) rfl ?_
  refine RN.callS [.int p0, .int 1, .int 240] (s_Ref_in σ p0 1 240) [] (pc3 := 14) (st3 := [.int (bI (F_Ref_in p0 1 240))]) (by decide +kernel) mk_Ref_in (by decide) ?_
  refine RM.zeq (tgt := 23) (by decide +kernel) (fun c1 => ?_) (fun c1 => ?_)
  · rw [if_neg (bf c1)] at h
    refine RM.blk [(0, 0, 0, .int (-2))] (pc' := 25) (L' := [some (.ref 76), some (.int p0), some (.int p1), some (.int (F_Ref_noSheet σ p1))]) (st' := [.int (-2)]) (σ1 := σ) (by decide +kernel) rfl ?_
    obtain rfl := (Option.some.inj h)
    exact RM.reti (by decide +kernel) rfl
  · rw [if_pos c1] at h
    refine RM.blk [(1, 3, 0, .null), (0, 0, 0, .int (-2))] (pc' := 20) (L' := [some (.ref 76), some (.int p0), some (.int p1), some (.int (F_Ref_noSheet σ p1))]) (st' := [.int (-2), .int (F_Ref_noSheet σ p1)]) (σ1 := σ) (by decide +kernel) rfl ?_
    refine RM.icmp_ne (tgt := 26) (by decide +kernel) (fun c2 => ?_) (fun c2 => ?_)
    · rw [if_neg c2] at h
      refine RM.blk [(1, 3, 0, .null)] (pc' := 27) (L' := [some (.ref 76), some (.int p0), some (.int p1), some (.int (F_Ref_noSheet σ p1))]) (st' := [.int (F_Ref_noSheet σ p1)]) (σ1 := σ) (by decide +kernel) rfl ?_
      refine RM.if_ge (tgt := 32) (by decide +kernel) (fun c3 => ?_) (fun c3 => ?_)
      · rw [if_pos c3] at h
        refine RM.blk [(2, 0, 0, .null), (1, 2, 0, .null), (0, 0, 0, .int 0)] (pc' := 35) (L' := [some (.ref 76), some (.int p0), some (.int p1), some (.int (F_Ref_noSheet σ p1))]) (st' := [.int 0, .int p1, .ref 76]) (σ1 := σ) (by decide +kernel) rfl ?_
        obtain ⟨v4, hv4, h⟩ := ob_some h
        refine RN.callV [.int p1, .int (bI false)] (s_Ref_sumOf σ p1 false v4 hv4) [] (pc3 := 38) (st3 := [.int v4]) (by decide +kernel) mk_Ref_sumOf (by decide) ?_
        refine RM.if_ne (tgt := 45) (by decide +kernel) (fun c5 => ?_) (fun c5 => ?_)
        · rw [if_neg c5] at h
          refine RM.blk [(2, 0, 0, .null), (1, 1, 0, .null), (1, 2, 0, .null)] (pc' := 48) (L' := [some (.ref 76), some (.int p0), some (.int p1), some (.int (F_Ref_noSheet σ p1))]) (st' := [.int p1, .int p0, .ref 76]) (σ1 := σ) (by decide +kernel) rfl ?_
          obtain ⟨v6, hv6, h⟩ := ob_some h
          refine RN.callV [.int p0, .int p1] (s_Ref_cratesTo σ p0 p1 v6 hv6) [] (pc3 := 51) (st3 := [.int v6]) (by decide +kernel) mk_Ref_cratesTo (by decide) ?_
          refine RM.blk [(0, 0, 0, .int 1), (6, 0, 0, .null)] (pc' := 53) (L' := [some (.ref 76), some (.int p0), some (.int p1), some (.int (F_Ref_noSheet σ p1))]) (st' := [.int (v6 - 1)]) (σ1 := σ) (by decide +kernel) rfl ?_
          obtain rfl := (Option.some.inj h)
          exact RM.reti (by decide +kernel) rfl
        · rw [if_pos c5] at h
          refine RM.blk [(0, 0, 0, .int (-1)), (23, 0, 0, .null)] (pc' := 53) (L' := [some (.ref 76), some (.int p0), some (.int p1), some (.int (F_Ref_noSheet σ p1))]) (st' := [.int (-1)]) (σ1 := σ) (by decide +kernel) rfl ?_
          obtain rfl := (Option.some.inj h)
          exact RM.reti (by decide +kernel) rfl
      · rw [if_neg c3] at h
        refine RM.blk [(1, 3, 0, .null)] (pc' := 31) (L' := [some (.ref 76), some (.int p0), some (.int p1), some (.int (F_Ref_noSheet σ p1))]) (st' := [.int (F_Ref_noSheet σ p1)]) (σ1 := σ) (by decide +kernel) rfl ?_
        obtain rfl := (Option.some.inj h)
        exact RM.reti (by decide +kernel) rfl
    · rw [if_pos c2] at h
      refine RM.blk [(0, 0, 0, .int (-2))] (pc' := 25) (L' := [some (.ref 76), some (.int p0), some (.int p1), some (.int (F_Ref_noSheet σ p1))]) (st' := [.int (-2)]) (σ1 := σ) (by decide +kernel) rfl ?_
      obtain rfl := (Option.some.inj h)
      exact RM.reti (by decide +kernel) rfl
def M_Ref_hand : MI := (yX12_hand, cX12_hand, 3, some .int, 12)
theorem mk_Ref_hand : mOK M_Ref_hand 2 = true := by decide +kernel
set_option maxRecDepth 100000 in
set_option maxHeartbeats 4000000 in
theorem s_Ref_hand (σ : SG) (p0 : Int32) (p1 : Bool) (rr : Int32) (so : SG) (h : F_Ref_hand σ p0 p1 = some (rr, so)) : SpN 2 M_Ref_hand [.ref 76, .int p0, .int (bI p1)] σ (some (.int rr)) so := by
  unfold F_Ref_hand at h
  refine Sp.of mk_Ref_hand rfl (Nat.le_of_ble_eq_true rfl) ?_
  refine RM.blk [(1, 1, 0, .null), (0, 0, 0, .int 1), (0, 0, 0, .int 20)] (pc' := 4) (L' := [some (.ref 76), some (.int p0), some (.int (bI p1))]) (st' := [.int 20, .int 1, .int p0]) (σ1 := σ) (by decide +kernel) rfl ?_
  refine RN.callS [.int p0, .int 1, .int 20] (s_Ref_in σ p0 1 20) [] (pc3 := 7) (st3 := [.int (bI (F_Ref_in p0 1 20))]) (by decide +kernel) mk_Ref_in (by decide) ?_
  refine RM.zne (tgt := 13) (by decide +kernel) (fun c1 => ?_) (fun c1 => ?_)
  · rw [if_pos c1] at h
    refine RM.blk [(2, 0, 0, .null), (3, 12, 21, .null), (0, 0, 0, .int 4)] (pc' := 18) (L' := [some (.ref 76), some (.int p0), some (.int (bI p1))]) (st' := [.int 4, .int (σ 76 21)]) (σ1 := σ) (by decide +kernel) rfl ?_
    refine RM.icmp_ne (tgt := 24) (by decide +kernel) (fun c2 => ?_) (fun c2 => ?_)
    · rw [if_neg c2] at h
      refine RM.blk [(2, 0, 0, .null), (3, 12, 22, .null), (2, 0, 0, .null), (3, 12, 21, .null), (1, 1, 0, .null)] (pc' := 33) (L' := [some (.ref 76), some (.int p0), some (.int (bI p1))]) (st' := [.int p0, .int (σ 76 21), .ref 90]) (σ1 := σ) (by decide +kernel) rfl ?_
      obtain ⟨g3, h⟩ := og_some h
      refine RM.iast (q := 90) (n := 4) (by decide +kernel) rfl (vin_of g3) ?_
      refine RM.blk [(2, 0, 0, .null), (3, 12, 23, .null), (2, 0, 0, .null), (3, 12, 21, .null), (1, 2, 0, .null)] (pc' := 43) (L' := [some (.ref 76), some (.int p0), some (.int (bI p1))]) (st' := [.int (bI p1), .int ((up σ 90 (ix (σ 76 21)) p0) 76 21), .ref 91]) (σ1 := (up σ 90 (ix (σ 76 21)) p0)) (by decide +kernel) rfl ?_
      obtain ⟨g4, h⟩ := og_some h
      refine RM.zast (q := 91) (n := 4) (by decide +kernel) rfl (vin_of g4) (bI_nar2 _) ?_
      generalize ns5 : (up (up σ 90 (ix (σ 76 21)) p0) 91 (ix ((up σ 90 (ix (σ 76 21)) p0) 76 21)) (bI p1)) = s5 at h ⊢
      replace h := nm_h h
      refine RM.blk [(2, 0, 0, .null), (11, 0, 0, .null), (3, 12, 21, .null), (0, 0, 0, .int 1), (5, 0, 0, .null), (15, 12, 21, .null), (2, 0, 0, .null), (3, 12, 21, .null), (0, 0, 0, .int 1), (6, 0, 0, .null)] (pc' := 60) (L' := [some (.ref 76), some (.int p0), some (.int (bI p1))]) (st' := [.int (((up s5 76 21 ((s5 76 21) + 1)) 76 21) - 1)]) (σ1 := (up s5 76 21 ((s5 76 21) + 1))) (by decide +kernel) rfl ?_
      obtain ⟨rfl, rfl⟩ := Prod.mk.inj (Option.some.inj h)
      exact RM.reti (by decide +kernel) rfl
    · rw [if_pos c2] at h
      refine RM.blk [(0, 0, 0, .int (-4))] (pc' := 23) (L' := [some (.ref 76), some (.int p0), some (.int (bI p1))]) (st' := [.int (-4)]) (σ1 := σ) (by decide +kernel) rfl ?_
      obtain ⟨rfl, rfl⟩ := Prod.mk.inj (Option.some.inj h)
      exact RM.reti (by decide +kernel) rfl
  · rw [if_neg (bf c1)] at h
    refine RM.blk [(0, 0, 0, .int (-2))] (pc' := 12) (L' := [some (.ref 76), some (.int p0), some (.int (bI p1))]) (st' := [.int (-2)]) (σ1 := σ) (by decide +kernel) rfl ?_
    obtain ⟨rfl, rfl⟩ := Prod.mk.inj (Option.some.inj h)
    exact RM.reti (by decide +kernel) rfl
def M_Ref_greatestOf : MI := (yX12_greatestOf, cX12_greatestOf, 6, some .int, 12)
theorem mk_Ref_greatestOf : mOK M_Ref_greatestOf 2 = true := by decide +kernel
set_option maxRecDepth 100000 in
set_option maxHeartbeats 4000000 in
theorem s_Ref_greatestOf (σ : SG) (p0 : Int32) (p1 : Int32) (rr : Int32) (so : SG) (h : F_Ref_greatestOf σ p0 p1 = some (rr, so)) : SpN 1 M_Ref_greatestOf [.ref 76, .int p0, .int p1] σ (some (.int rr)) so := by
  unfold F_Ref_greatestOf at h
  refine Sp.of mk_Ref_greatestOf rfl (Nat.le_of_ble_eq_true rfl) ?_
  refine RM.blk [(0, 0, 0, .int 0), (4, 3, 0, .null)] (pc' := 2) (L' := [some (.ref 76), some (.int p0), some (.int p1), some (.int 0), none, none]) (st' := []) (σ1 := σ) (by decide +kernel) rfl ?_
  have hL1 : ∀ (n : Nat) (x1 : Int32 × SG) (y1 : SG), lpW L_Ref_greatestOf_2 n x1 = some y1 → RN 1 M_Ref_greatestOf (some (.int rr)) so 23 [some (.ref 76), some (.int p0), some (.int p1), none, none, none] [] y1 → RN 1 M_Ref_greatestOf (some (.int rr)) so 2 [some (.ref 76), some (.int p0), some (.int p1), some (.int x1.1), none, none] [] x1.2 := by
    intro n
    induction n with
    | zero => intro x1 y1 hy1; cases hy1
    | succ n ih1 =>
      intro x1 y1 hy1 hK1
      obtain ⟨z1, e1, hy1⟩ := ob_some hy1
      unfold L_Ref_greatestOf_2 at e1
      refine RM.blk [(1, 3, 0, .null), (2, 0, 0, .null), (3, 12, 21, .null)] (pc' := 7) (L' := [some (.ref 76), some (.int p0), some (.int p1), some (.int x1.1), none, none]) (st' := [.int (x1.2 76 21), .int x1.1]) (σ1 := x1.2) (by decide +kernel) rfl ?_
      refine RM.icmp_ge (tgt := 23) (by decide +kernel) (fun c2 => ?_) (fun c2 => ?_)
      · rw [if_pos c2] at e1
        obtain rfl := Option.some.inj e1
        obtain rfl := Option.some.inj (show some (x1.2 : SG) = some y1 from hy1)
        refine RN.dropB [true, true, true, false, false, false] rfl ?_
        exact hK1
      · rw [if_neg c2] at e1
        refine RM.blk [(2, 0, 0, .null), (3, 12, 36, .null), (1, 3, 0, .null), (0, 0, 0, .int 0)] (pc' := 16) (L' := [some (.ref 76), some (.int p0), some (.int p1), some (.int x1.1), none, none]) (st' := [.int 0, .int x1.1, .ref 102]) (σ1 := x1.2) (by decide +kernel) rfl ?_
        obtain ⟨g3, e1⟩ := og_some e1
        refine RM.iast (q := 102) (n := 4) (by decide +kernel) rfl (vin_of g3) ?_
        refine RM.blk [(10, 3, 0, .int 1), (23, 0, 0, .null)] (pc' := 2) (L' := [some (.ref 76), some (.int p0), some (.int p1), some (.int (x1.1 + 1)), none, none]) (st' := []) (σ1 := (up x1.2 102 (ix x1.1) 0)) (by decide +kernel) rfl ?_
        obtain rfl := Option.some.inj e1
        refine RN.dropB [true, true, true, true, false, false] rfl ?_
        exact ih1 ((x1.1 + 1), (up x1.2 102 (ix x1.1) 0)) _ hy1 hK1
  obtain ⟨y1, hl1, h⟩ := ob_some h
  refine RN.dropB [true, true, true, true, false, false] rfl ?_
  refine hL1 FU (0, σ) y1 hl1 ?_
  refine RM.blk [(1, 2, 0, .null), (4, 3, 0, .null), (0, 0, 0, .int 0), (4, 4, 0, .null)] (pc' := 28) (L' := [some (.ref 76), some (.int p0), some (.int p1), some (.int p1), some (.int 0), none]) (st' := []) (σ1 := y1) (by decide +kernel) rfl ?_
  have hL4 : ∀ (n : Nat) (x4 : Int32 × Int32 × SG) (y4 : (SG) ⊕ (Int32 × SG)), lpW (L_Ref_greatestOf_28 p0) n x4 = some y4 → Sum.elim (fun y4 : SG => RN 1 M_Ref_greatestOf (some (.int rr)) so 117 [some (.ref 76), none, none, none, none, none] [] y4) (fun q : Int32 × SG => q = (rr, so)) y4 → RN 1 M_Ref_greatestOf (some (.int rr)) so 28 [some (.ref 76), some (.int p0), none, some (.int x4.1), some (.int x4.2.1), none] [] x4.2.2 := by
    intro n
    induction n with
    | zero => intro x4 y4 hy4; cases hy4
    | succ n ih4 =>
      intro x4 y4 hy4 hK4
      obtain ⟨z4, e4, hy4⟩ := ob_some hy4
      unfold L_Ref_greatestOf_28 at e4
      refine RM.blk [(1, 4, 0, .null), (2, 0, 0, .null), (3, 12, 31, .null)] (pc' := 34) (L' := [some (.ref 76), some (.int p0), none, some (.int x4.1), some (.int x4.2.1), none]) (st' := [.int (x4.2.2 76 31), .int x4.2.1]) (σ1 := x4.2.2) (by decide +kernel) rfl ?_
      refine RM.icmp_ge (tgt := 117) (by decide +kernel) (fun c5 => ?_) (fun c5 => ?_)
      · rw [if_pos c5] at e4
        obtain rfl := Option.some.inj e4
        obtain rfl := Option.some.inj (show some ((.inl x4.2.2) : (SG) ⊕ (Int32 × SG)) = some y4 from hy4)
        refine RN.dropB [true, false, false, false, false, false] rfl ?_
        exact hK4
      · rw [if_neg c5] at e4
        refine RM.blk [(1, 3, 0, .null), (2, 0, 0, .null), (3, 12, 21, .null)] (pc' := 42) (L' := [some (.ref 76), some (.int p0), none, some (.int x4.1), some (.int x4.2.1), none]) (st' := [.int (x4.2.2 76 21), .int x4.1]) (σ1 := x4.2.2) (by decide +kernel) rfl ?_
        obtain ⟨g6, e4⟩ := og_some e4
        refine RM.idiv (by decide +kernel) (nz_of g6) ?_
        refine RM.blk [(4, 3, 0, .null), (1, 1, 0, .null), (1, 3, 0, .null)] (pc' := 46) (L' := [some (.ref 76), some (.int p0), none, some (.int (x4.1 / (x4.2.2 76 21))), some (.int x4.2.1), none]) (st' := [.int (x4.1 / (x4.2.2 76 21)), .int p0]) (σ1 := x4.2.2) (by decide +kernel) rfl ?_
        obtain ⟨g7, e4⟩ := og_some e4
        refine RM.idiv (by decide +kernel) (nz_of g7) ?_
        refine RM.blk [(2, 0, 0, .null), (3, 12, 21, .null)] (pc' := 51) (L' := [some (.ref 76), some (.int p0), none, some (.int (x4.1 / (x4.2.2 76 21))), some (.int x4.2.1), none]) (st' := [.int (x4.2.2 76 21), .int (p0 / (x4.1 / (x4.2.2 76 21)))]) (σ1 := x4.2.2) (by decide +kernel) rfl ?_
        obtain ⟨g8, e4⟩ := og_some e4
        refine RM.irem (by decide +kernel) (nz_of g8) ?_
        refine RM.blk [(4, 5, 0, .null), (2, 0, 0, .null), (3, 12, 35, .null), (1, 4, 0, .null)] (pc' := 60) (L' := [some (.ref 76), some (.int p0), none, some (.int (x4.1 / (x4.2.2 76 21))), some (.int x4.2.1), some (.int ((p0 / (x4.1 / (x4.2.2 76 21))) - (p0 / (x4.1 / (x4.2.2 76 21))) / (x4.2.2 76 21) * (x4.2.2 76 21)))]) (st' := [.int x4.2.1, .ref 101]) (σ1 := x4.2.2) (by decide +kernel) rfl ?_
        obtain ⟨g9, e4⟩ := og_some e4
        refine RM.zald (q := 101) (n := 9) (by decide +kernel) rfl (vin_of g9) ?_
        refine RM.if_eq (tgt := 76) (by decide +kernel) (fun c10 => ?_) (fun c10 => ?_)
        · rw [if_pos c10] at e4
          refine RM.blk [(2, 0, 0, .null), (3, 12, 36, .null), (1, 5, 0, .null), (12, 0, 0, .null)] (pc' := 83) (L' := [some (.ref 76), some (.int p0), none, some (.int (x4.1 / (x4.2.2 76 21))), some (.int x4.2.1), some (.int ((p0 / (x4.1 / (x4.2.2 76 21))) - (p0 / (x4.1 / (x4.2.2 76 21))) / (x4.2.2 76 21) * (x4.2.2 76 21)))]) (st' := [.int ((p0 / (x4.1 / (x4.2.2 76 21))) - (p0 / (x4.1 / (x4.2.2 76 21))) / (x4.2.2 76 21) * (x4.2.2 76 21)), .ref 102, .int ((p0 / (x4.1 / (x4.2.2 76 21))) - (p0 / (x4.1 / (x4.2.2 76 21))) / (x4.2.2 76 21) * (x4.2.2 76 21)), .ref 102]) (σ1 := x4.2.2) (by decide +kernel) rfl ?_
          obtain ⟨g11, e4⟩ := og_some e4
          refine RM.iald (q := 102) (n := 4) (by decide +kernel) rfl (vin_of g11) ?_
          refine RM.blk [(2, 0, 0, .null), (3, 12, 34, .null), (1, 4, 0, .null)] (pc' := 90) (L' := [some (.ref 76), some (.int p0), none, some (.int (x4.1 / (x4.2.2 76 21))), some (.int x4.2.1), some (.int ((p0 / (x4.1 / (x4.2.2 76 21))) - (p0 / (x4.1 / (x4.2.2 76 21))) / (x4.2.2 76 21) * (x4.2.2 76 21)))]) (st' := [.int x4.2.1, .ref 100, .int (x4.2.2 102 (ix ((p0 / (x4.1 / (x4.2.2 76 21))) - (p0 / (x4.1 / (x4.2.2 76 21))) / (x4.2.2 76 21) * (x4.2.2 76 21)))), .int ((p0 / (x4.1 / (x4.2.2 76 21))) - (p0 / (x4.1 / (x4.2.2 76 21))) / (x4.2.2 76 21) * (x4.2.2 76 21)), .ref 102]) (σ1 := x4.2.2) (by decide +kernel) rfl ?_
          obtain ⟨g12, e4⟩ := og_some e4
          refine RM.iald (q := 100) (n := 9) (by decide +kernel) rfl (vin_of g12) ?_
          refine RM.blk [(2, 0, 0, .null), (3, 12, 22, .null), (1, 5, 0, .null)] (pc' := 97) (L' := [some (.ref 76), some (.int p0), none, some (.int (x4.1 / (x4.2.2 76 21))), some (.int x4.2.1), some (.int ((p0 / (x4.1 / (x4.2.2 76 21))) - (p0 / (x4.1 / (x4.2.2 76 21))) / (x4.2.2 76 21) * (x4.2.2 76 21)))]) (st' := [.int ((p0 / (x4.1 / (x4.2.2 76 21))) - (p0 / (x4.1 / (x4.2.2 76 21))) / (x4.2.2 76 21) * (x4.2.2 76 21)), .ref 90, .int (x4.2.2 100 (ix x4.2.1)), .int (x4.2.2 102 (ix ((p0 / (x4.1 / (x4.2.2 76 21))) - (p0 / (x4.1 / (x4.2.2 76 21))) / (x4.2.2 76 21) * (x4.2.2 76 21)))), .int ((p0 / (x4.1 / (x4.2.2 76 21))) - (p0 / (x4.1 / (x4.2.2 76 21))) / (x4.2.2 76 21) * (x4.2.2 76 21)), .ref 102]) (σ1 := x4.2.2) (by decide +kernel) rfl ?_
          obtain ⟨g13, e4⟩ := og_some e4
          refine RM.iald (q := 90) (n := 4) (by decide +kernel) rfl (vin_of g13) ?_
          refine RM.blk [(5, 0, 0, .null), (0, 0, 0, .int 1), (6, 0, 0, .null), (2, 0, 0, .null), (3, 12, 22, .null), (1, 5, 0, .null)] (pc' := 107) (L' := [some (.ref 76), some (.int p0), none, some (.int (x4.1 / (x4.2.2 76 21))), some (.int x4.2.1), some (.int ((p0 / (x4.1 / (x4.2.2 76 21))) - (p0 / (x4.1 / (x4.2.2 76 21))) / (x4.2.2 76 21) * (x4.2.2 76 21)))]) (st' := [.int ((p0 / (x4.1 / (x4.2.2 76 21))) - (p0 / (x4.1 / (x4.2.2 76 21))) / (x4.2.2 76 21) * (x4.2.2 76 21)), .ref 90, .int (((x4.2.2 100 (ix x4.2.1)) + (x4.2.2 90 (ix ((p0 / (x4.1 / (x4.2.2 76 21))) - (p0 / (x4.1 / (x4.2.2 76 21))) / (x4.2.2 76 21) * (x4.2.2 76 21))))) - 1), .int (x4.2.2 102 (ix ((p0 / (x4.1 / (x4.2.2 76 21))) - (p0 / (x4.1 / (x4.2.2 76 21))) / (x4.2.2 76 21) * (x4.2.2 76 21)))), .int ((p0 / (x4.1 / (x4.2.2 76 21))) - (p0 / (x4.1 / (x4.2.2 76 21))) / (x4.2.2 76 21) * (x4.2.2 76 21)), .ref 102]) (σ1 := x4.2.2) (by decide +kernel) rfl ?_
          obtain ⟨g14, e4⟩ := og_some e4
          refine RM.iald (q := 90) (n := 4) (by decide +kernel) rfl (vin_of g14) ?_
          obtain ⟨g15, e4⟩ := og_some e4
          refine RM.idiv (by decide +kernel) (nz_of g15) ?_
          refine RM.blk [(5, 0, 0, .null)] (pc' := 110) (L' := [some (.ref 76), some (.int p0), none, some (.int (x4.1 / (x4.2.2 76 21))), some (.int x4.2.1), some (.int ((p0 / (x4.1 / (x4.2.2 76 21))) - (p0 / (x4.1 / (x4.2.2 76 21))) / (x4.2.2 76 21) * (x4.2.2 76 21)))]) (st' := [.int ((x4.2.2 102 (ix ((p0 / (x4.1 / (x4.2.2 76 21))) - (p0 / (x4.1 / (x4.2.2 76 21))) / (x4.2.2 76 21) * (x4.2.2 76 21)))) + ((((x4.2.2 100 (ix x4.2.1)) + (x4.2.2 90 (ix ((p0 / (x4.1 / (x4.2.2 76 21))) - (p0 / (x4.1 / (x4.2.2 76 21))) / (x4.2.2 76 21) * (x4.2.2 76 21))))) - 1) / (x4.2.2 90 (ix ((p0 / (x4.1 / (x4.2.2 76 21))) - (p0 / (x4.1 / (x4.2.2 76 21))) / (x4.2.2 76 21) * (x4.2.2 76 21)))))), .int ((p0 / (x4.1 / (x4.2.2 76 21))) - (p0 / (x4.1 / (x4.2.2 76 21))) / (x4.2.2 76 21) * (x4.2.2 76 21)), .ref 102]) (σ1 := x4.2.2) (by decide +kernel) rfl ?_
          obtain ⟨g16, e4⟩ := og_some e4
          refine RM.iast (q := 102) (n := 4) (by decide +kernel) rfl (vin_of g16) ?_
          generalize ns17 : (up x4.2.2 102 (ix ((p0 / (x4.1 / (x4.2.2 76 21))) - (p0 / (x4.1 / (x4.2.2 76 21))) / (x4.2.2 76 21) * (x4.2.2 76 21))) ((x4.2.2 102 (ix ((p0 / (x4.1 / (x4.2.2 76 21))) - (p0 / (x4.1 / (x4.2.2 76 21))) / (x4.2.2 76 21) * (x4.2.2 76 21)))) + ((((x4.2.2 100 (ix x4.2.1)) + (x4.2.2 90 (ix ((p0 / (x4.1 / (x4.2.2 76 21))) - (p0 / (x4.1 / (x4.2.2 76 21))) / (x4.2.2 76 21) * (x4.2.2 76 21))))) - 1) / (x4.2.2 90 (ix ((p0 / (x4.1 / (x4.2.2 76 21))) - (p0 / (x4.1 / (x4.2.2 76 21))) / (x4.2.2 76 21) * (x4.2.2 76 21))))))) = s17 at e4 ⊢
          replace e4 := nm_h e4
          refine RM.blk [(10, 4, 0, .int 1), (23, 0, 0, .null)] (pc' := 28) (L' := [some (.ref 76), some (.int p0), none, some (.int (x4.1 / (x4.2.2 76 21))), some (.int (x4.2.1 + 1)), some (.int ((p0 / (x4.1 / (x4.2.2 76 21))) - (p0 / (x4.1 / (x4.2.2 76 21))) / (x4.2.2 76 21) * (x4.2.2 76 21)))]) (st' := []) (σ1 := s17) (by decide +kernel) rfl ?_
          obtain rfl := Option.some.inj e4
          refine RN.dropB [true, true, false, true, true, false] rfl ?_
          exact ih4 ((x4.1 / (x4.2.2 76 21)), (x4.2.1 + 1), s17) _ hy4 hK4
        · rw [if_neg c10] at e4
          refine RM.blk [(2, 0, 0, .null), (3, 12, 23, .null), (1, 5, 0, .null)] (pc' := 70) (L' := [some (.ref 76), some (.int p0), none, some (.int (x4.1 / (x4.2.2 76 21))), some (.int x4.2.1), some (.int ((p0 / (x4.1 / (x4.2.2 76 21))) - (p0 / (x4.1 / (x4.2.2 76 21))) / (x4.2.2 76 21) * (x4.2.2 76 21)))]) (st' := [.int ((p0 / (x4.1 / (x4.2.2 76 21))) - (p0 / (x4.1 / (x4.2.2 76 21))) / (x4.2.2 76 21) * (x4.2.2 76 21)), .ref 91]) (σ1 := x4.2.2) (by decide +kernel) rfl ?_
          obtain ⟨g18, e4⟩ := og_some e4
          refine RM.zald (q := 91) (n := 4) (by decide +kernel) rfl (vin_of g18) ?_
          refine RM.if_ne (tgt := 76) (by decide +kernel) (fun c19 => ?_) (fun c19 => ?_)
          · rw [if_neg c19] at e4
            refine RM.blk [(2, 0, 0, .null), (3, 12, 36, .null), (1, 5, 0, .null), (12, 0, 0, .null)] (pc' := 83) (L' := [some (.ref 76), some (.int p0), none, some (.int (x4.1 / (x4.2.2 76 21))), some (.int x4.2.1), some (.int ((p0 / (x4.1 / (x4.2.2 76 21))) - (p0 / (x4.1 / (x4.2.2 76 21))) / (x4.2.2 76 21) * (x4.2.2 76 21)))]) (st' := [.int ((p0 / (x4.1 / (x4.2.2 76 21))) - (p0 / (x4.1 / (x4.2.2 76 21))) / (x4.2.2 76 21) * (x4.2.2 76 21)), .ref 102, .int ((p0 / (x4.1 / (x4.2.2 76 21))) - (p0 / (x4.1 / (x4.2.2 76 21))) / (x4.2.2 76 21) * (x4.2.2 76 21)), .ref 102]) (σ1 := x4.2.2) (by decide +kernel) rfl ?_
            obtain ⟨g20, e4⟩ := og_some e4
            refine RM.iald (q := 102) (n := 4) (by decide +kernel) rfl (vin_of g20) ?_
            refine RM.blk [(2, 0, 0, .null), (3, 12, 34, .null), (1, 4, 0, .null)] (pc' := 90) (L' := [some (.ref 76), some (.int p0), none, some (.int (x4.1 / (x4.2.2 76 21))), some (.int x4.2.1), some (.int ((p0 / (x4.1 / (x4.2.2 76 21))) - (p0 / (x4.1 / (x4.2.2 76 21))) / (x4.2.2 76 21) * (x4.2.2 76 21)))]) (st' := [.int x4.2.1, .ref 100, .int (x4.2.2 102 (ix ((p0 / (x4.1 / (x4.2.2 76 21))) - (p0 / (x4.1 / (x4.2.2 76 21))) / (x4.2.2 76 21) * (x4.2.2 76 21)))), .int ((p0 / (x4.1 / (x4.2.2 76 21))) - (p0 / (x4.1 / (x4.2.2 76 21))) / (x4.2.2 76 21) * (x4.2.2 76 21)), .ref 102]) (σ1 := x4.2.2) (by decide +kernel) rfl ?_
            obtain ⟨g21, e4⟩ := og_some e4
            refine RM.iald (q := 100) (n := 9) (by decide +kernel) rfl (vin_of g21) ?_
            refine RM.blk [(2, 0, 0, .null), (3, 12, 22, .null), (1, 5, 0, .null)] (pc' := 97) (L' := [some (.ref 76), some (.int p0), none, some (.int (x4.1 / (x4.2.2 76 21))), some (.int x4.2.1), some (.int ((p0 / (x4.1 / (x4.2.2 76 21))) - (p0 / (x4.1 / (x4.2.2 76 21))) / (x4.2.2 76 21) * (x4.2.2 76 21)))]) (st' := [.int ((p0 / (x4.1 / (x4.2.2 76 21))) - (p0 / (x4.1 / (x4.2.2 76 21))) / (x4.2.2 76 21) * (x4.2.2 76 21)), .ref 90, .int (x4.2.2 100 (ix x4.2.1)), .int (x4.2.2 102 (ix ((p0 / (x4.1 / (x4.2.2 76 21))) - (p0 / (x4.1 / (x4.2.2 76 21))) / (x4.2.2 76 21) * (x4.2.2 76 21)))), .int ((p0 / (x4.1 / (x4.2.2 76 21))) - (p0 / (x4.1 / (x4.2.2 76 21))) / (x4.2.2 76 21) * (x4.2.2 76 21)), .ref 102]) (σ1 := x4.2.2) (by decide +kernel) rfl ?_
            obtain ⟨g22, e4⟩ := og_some e4
            refine RM.iald (q := 90) (n := 4) (by decide +kernel) rfl (vin_of g22) ?_
            refine RM.blk [(5, 0, 0, .null), (0, 0, 0, .int 1), (6, 0, 0, .null), (2, 0, 0, .null), (3, 12, 22, .null), (1, 5, 0, .null)] (pc' := 107) (L' := [some (.ref 76), some (.int p0), none, some (.int (x4.1 / (x4.2.2 76 21))), some (.int x4.2.1), some (.int ((p0 / (x4.1 / (x4.2.2 76 21))) - (p0 / (x4.1 / (x4.2.2 76 21))) / (x4.2.2 76 21) * (x4.2.2 76 21)))]) (st' := [.int ((p0 / (x4.1 / (x4.2.2 76 21))) - (p0 / (x4.1 / (x4.2.2 76 21))) / (x4.2.2 76 21) * (x4.2.2 76 21)), .ref 90, .int (((x4.2.2 100 (ix x4.2.1)) + (x4.2.2 90 (ix ((p0 / (x4.1 / (x4.2.2 76 21))) - (p0 / (x4.1 / (x4.2.2 76 21))) / (x4.2.2 76 21) * (x4.2.2 76 21))))) - 1), .int (x4.2.2 102 (ix ((p0 / (x4.1 / (x4.2.2 76 21))) - (p0 / (x4.1 / (x4.2.2 76 21))) / (x4.2.2 76 21) * (x4.2.2 76 21)))), .int ((p0 / (x4.1 / (x4.2.2 76 21))) - (p0 / (x4.1 / (x4.2.2 76 21))) / (x4.2.2 76 21) * (x4.2.2 76 21)), .ref 102]) (σ1 := x4.2.2) (by decide +kernel) rfl ?_
            obtain ⟨g23, e4⟩ := og_some e4
            refine RM.iald (q := 90) (n := 4) (by decide +kernel) rfl (vin_of g23) ?_
            obtain ⟨g24, e4⟩ := og_some e4
            refine RM.idiv (by decide +kernel) (nz_of g24) ?_
            refine RM.blk [(5, 0, 0, .null)] (pc' := 110) (L' := [some (.ref 76), some (.int p0), none, some (.int (x4.1 / (x4.2.2 76 21))), some (.int x4.2.1), some (.int ((p0 / (x4.1 / (x4.2.2 76 21))) - (p0 / (x4.1 / (x4.2.2 76 21))) / (x4.2.2 76 21) * (x4.2.2 76 21)))]) (st' := [.int ((x4.2.2 102 (ix ((p0 / (x4.1 / (x4.2.2 76 21))) - (p0 / (x4.1 / (x4.2.2 76 21))) / (x4.2.2 76 21) * (x4.2.2 76 21)))) + ((((x4.2.2 100 (ix x4.2.1)) + (x4.2.2 90 (ix ((p0 / (x4.1 / (x4.2.2 76 21))) - (p0 / (x4.1 / (x4.2.2 76 21))) / (x4.2.2 76 21) * (x4.2.2 76 21))))) - 1) / (x4.2.2 90 (ix ((p0 / (x4.1 / (x4.2.2 76 21))) - (p0 / (x4.1 / (x4.2.2 76 21))) / (x4.2.2 76 21) * (x4.2.2 76 21)))))), .int ((p0 / (x4.1 / (x4.2.2 76 21))) - (p0 / (x4.1 / (x4.2.2 76 21))) / (x4.2.2 76 21) * (x4.2.2 76 21)), .ref 102]) (σ1 := x4.2.2) (by decide +kernel) rfl ?_
            obtain ⟨g25, e4⟩ := og_some e4
            refine RM.iast (q := 102) (n := 4) (by decide +kernel) rfl (vin_of g25) ?_
            generalize ns26 : (up x4.2.2 102 (ix ((p0 / (x4.1 / (x4.2.2 76 21))) - (p0 / (x4.1 / (x4.2.2 76 21))) / (x4.2.2 76 21) * (x4.2.2 76 21))) ((x4.2.2 102 (ix ((p0 / (x4.1 / (x4.2.2 76 21))) - (p0 / (x4.1 / (x4.2.2 76 21))) / (x4.2.2 76 21) * (x4.2.2 76 21)))) + ((((x4.2.2 100 (ix x4.2.1)) + (x4.2.2 90 (ix ((p0 / (x4.1 / (x4.2.2 76 21))) - (p0 / (x4.1 / (x4.2.2 76 21))) / (x4.2.2 76 21) * (x4.2.2 76 21))))) - 1) / (x4.2.2 90 (ix ((p0 / (x4.1 / (x4.2.2 76 21))) - (p0 / (x4.1 / (x4.2.2 76 21))) / (x4.2.2 76 21) * (x4.2.2 76 21))))))) = s26 at e4 ⊢
            replace e4 := nm_h e4
            refine RM.blk [(10, 4, 0, .int 1), (23, 0, 0, .null)] (pc' := 28) (L' := [some (.ref 76), some (.int p0), none, some (.int (x4.1 / (x4.2.2 76 21))), some (.int (x4.2.1 + 1)), some (.int ((p0 / (x4.1 / (x4.2.2 76 21))) - (p0 / (x4.1 / (x4.2.2 76 21))) / (x4.2.2 76 21) * (x4.2.2 76 21)))]) (st' := []) (σ1 := s26) (by decide +kernel) rfl ?_
            obtain rfl := Option.some.inj e4
            refine RN.dropB [true, true, false, true, true, false] rfl ?_
            exact ih4 ((x4.1 / (x4.2.2 76 21)), (x4.2.1 + 1), s26) _ hy4 hK4
          · rw [if_pos c19] at e4
            refine RM.blk [(0, 0, 0, .int (-1))] (pc' := 75) (L' := [some (.ref 76), some (.int p0), none, some (.int (x4.1 / (x4.2.2 76 21))), some (.int x4.2.1), some (.int ((p0 / (x4.1 / (x4.2.2 76 21))) - (p0 / (x4.1 / (x4.2.2 76 21))) / (x4.2.2 76 21) * (x4.2.2 76 21)))]) (st' := [.int (-1)]) (σ1 := x4.2.2) (by decide +kernel) rfl ?_
            obtain rfl := Option.some.inj e4
            obtain rfl := Option.some.inj (show some (.inr ((-1), x4.2.2) : (SG) ⊕ (Int32 × SG)) = some y4 from hy4)
            obtain ⟨rfl, rfl⟩ := Prod.mk.inj (show (((-1), x4.2.2) : Int32 × SG) = (rr, so) from hK4)
            exact RM.reti (by decide +kernel) rfl
  obtain ⟨y4, hl4, h⟩ := ob_some h
  refine RN.dropB [true, true, false, true, true, false] rfl ?_
  refine hL4 FU (p1, 0, y1) y4 hl4 ?_
  rcases y4 with y4 | q4
  · simp only [Sum.elim_inl] at h ⊢
    refine RM.blk [(0, 0, 0, .int 0), (4, 4, 0, .null), (0, 0, 0, .int 0), (4, 5, 0, .null)] (pc' := 123) (L' := [some (.ref 76), none, none, none, some (.int 0), some (.int 0)]) (st' := []) (σ1 := y4) (by decide +kernel) rfl ?_
    have hL27 : ∀ (n : Nat) (x27 : Int32 × Int32) (y27 : Int32), lpW (L_Ref_greatestOf_123 y4) n x27 = some y27 → RN 1 M_Ref_greatestOf (some (.int rr)) so 164 [none, none, none, none, some (.int y27), none] [] y4 → RN 1 M_Ref_greatestOf (some (.int rr)) so 123 [some (.ref 76), none, none, none, some (.int x27.1), some (.int x27.2)] [] y4 := by
      intro n
      induction n with
      | zero => intro x27 y27 hy27; cases hy27
      | succ n ih27 =>
        intro x27 y27 hy27 hK27
        obtain ⟨z27, e27, hy27⟩ := ob_some hy27
        unfold L_Ref_greatestOf_123 at e27
        refine RM.blk [(1, 5, 0, .null), (2, 0, 0, .null), (3, 12, 21, .null)] (pc' := 129) (L' := [some (.ref 76), none, none, none, some (.int x27.1), some (.int x27.2)]) (st' := [.int (y4 76 21), .int x27.2]) (σ1 := y4) (by decide +kernel) rfl ?_
        refine RM.icmp_ge (tgt := 164) (by decide +kernel) (fun c28 => ?_) (fun c28 => ?_)
        · rw [if_pos c28] at e27
          obtain rfl := Option.some.inj e27
          obtain rfl := Option.some.inj (show some (x27.1 : Int32) = some y27 from hy27)
          refine RN.dropB [false, false, false, false, true, false] rfl ?_
          exact hK27
        · rw [if_neg c28] at e27
          refine RM.blk [(2, 0, 0, .null), (3, 12, 36, .null), (1, 5, 0, .null)] (pc' := 138) (L' := [some (.ref 76), none, none, none, some (.int x27.1), some (.int x27.2)]) (st' := [.int x27.2, .ref 102]) (σ1 := y4) (by decide +kernel) rfl ?_
          obtain ⟨g29, e27⟩ := og_some e27
          refine RM.iald (q := 102) (n := 4) (by decide +kernel) rfl (vin_of g29) ?_
          refine RM.blk [(1, 4, 0, .null)] (pc' := 141) (L' := [some (.ref 76), none, none, none, some (.int x27.1), some (.int x27.2)]) (st' := [.int x27.1, .int (y4 102 (ix x27.2))]) (σ1 := y4) (by decide +kernel) rfl ?_
          refine RM.icmp_le (tgt := 154) (by decide +kernel) (fun c30 => ?_) (fun c30 => ?_)
          · rw [if_pos c30] at e27
            refine RM.blk [(1, 4, 0, .null), (4, 4, 0, .null), (10, 5, 0, .int 1), (23, 0, 0, .null)] (pc' := 123) (L' := [some (.ref 76), none, none, none, some (.int x27.1), some (.int (x27.2 + 1))]) (st' := []) (σ1 := y4) (by decide +kernel) rfl ?_
            obtain rfl := Option.some.inj e27
            refine RN.dropB [true, false, false, false, true, true] rfl ?_
            exact ih27 (x27.1, (x27.2 + 1)) _ hy27 hK27
          · rw [if_neg c30] at e27
            refine RM.blk [(2, 0, 0, .null), (3, 12, 36, .null), (1, 5, 0, .null)] (pc' := 150) (L' := [some (.ref 76), none, none, none, some (.int x27.1), some (.int x27.2)]) (st' := [.int x27.2, .ref 102]) (σ1 := y4) (by decide +kernel) rfl ?_
            obtain ⟨g31, e27⟩ := og_some e27
            refine RM.iald (q := 102) (n := 4) (by decide +kernel) rfl (vin_of g31) ?_
            refine RM.blk [(23, 0, 0, .null), (4, 4, 0, .null), (10, 5, 0, .int 1), (23, 0, 0, .null)] (pc' := 123) (L' := [some (.ref 76), none, none, none, some (.int (y4 102 (ix x27.2))), some (.int (x27.2 + 1))]) (st' := []) (σ1 := y4) (by decide +kernel) rfl ?_
            obtain rfl := Option.some.inj e27
            refine RN.dropB [true, false, false, false, true, true] rfl ?_
            exact ih27 ((y4 102 (ix x27.2)), (x27.2 + 1)) _ hy27 hK27
    obtain ⟨y27, hl27, h⟩ := ob_some h
    refine RN.dropB [true, false, false, false, true, true] rfl ?_
    refine hL27 FU (0, 0) y27 hl27 ?_
    refine RM.blk [(1, 4, 0, .null)] (pc' := 166) (L' := [none, none, none, none, some (.int y27), none]) (st' := [.int y27]) (σ1 := y4) (by decide +kernel) rfl ?_
    obtain ⟨rfl, rfl⟩ := Prod.mk.inj (Option.some.inj h)
    exact RM.reti (by decide +kernel) rfl
  · simp only [Sum.elim_inr] at h ⊢
    exact Option.some.inj h
def M_Ref_deal : MI := (yX12_deal, cX12_deal, 7, some .boolean, 12)
theorem mk_Ref_deal : mOK M_Ref_deal 0 = true := by decide +kernel
set_option maxRecDepth 100000 in
set_option maxHeartbeats 4000000 in
theorem s_Ref_deal (σ : SG) (rr : Bool) (so : SG) (h : F_Ref_deal σ = some (rr, so)) : SpN 2 M_Ref_deal [.ref 76] σ (some (.int (bI rr))) so := by
  unfold F_Ref_deal at h
  refine Sp.of mk_Ref_deal rfl (Nat.le_of_ble_eq_true rfl) ?_
  refine RM.blk [(2, 0, 0, .null), (0, 0, 0, .int 0), (15, 12, 31, .null), (0, 0, 0, .int 0), (4, 1, 0, .null), (0, 0, 0, .int 0), (4, 2, 0, .null)] (pc' := 9) (L' := [some (.ref 76), some (.int (bI false)), some (.int 0), none, none, none, none]) (st' := []) (σ1 := (up σ 76 31 0)) (by decide +kernel) rfl ?_
  have hL1 : ∀ (n : Nat) (x1 : Bool × Int32) (y1 : Bool), lpW (L_Ref_deal_9 σ) n x1 = some y1 → RN 2 M_Ref_deal (some (.int (bI rr))) so 42 [some (.ref 76), some (.int (bI y1)), none, none, none, none, none] [] (up σ 76 31 0) → RN 2 M_Ref_deal (some (.int (bI rr))) so 9 [some (.ref 76), some (.int (bI x1.1)), some (.int x1.2), none, none, none, none] [] (up σ 76 31 0) := by
    intro n
    induction n with
    | zero => intro x1 y1 hy1; cases hy1
    | succ n ih1 =>
      intro x1 y1 hy1 hK1
      obtain ⟨z1, e1, hy1⟩ := ob_some hy1
      unfold L_Ref_deal_9 at e1
      refine RM.blk [(1, 2, 0, .null), (2, 0, 0, .null), (3, 12, 21, .null)] (pc' := 14) (L' := [some (.ref 76), some (.int (bI x1.1)), some (.int x1.2), none, none, none, none]) (st' := [.int ((up σ 76 31 0) 76 21), .int x1.2]) (σ1 := (up σ 76 31 0)) (by decide +kernel) rfl ?_
      refine RM.icmp_ge (tgt := 42) (by decide +kernel) (fun c2 => ?_) (fun c2 => ?_)
      · rw [if_pos c2] at e1
        obtain rfl := Option.some.inj e1
        obtain rfl := Option.some.inj (show some (x1.1 : Bool) = some y1 from hy1)
        refine RN.dropB [true, true, false, false, false, false, false] rfl ?_
        exact hK1
      · rw [if_neg c2] at e1
        refine RM.blk [(1, 1, 0, .null)] (pc' := 18) (L' := [some (.ref 76), some (.int (bI x1.1)), some (.int x1.2), none, none, none, none]) (st' := [.int (bI x1.1)]) (σ1 := (up σ 76 31 0)) (by decide +kernel) rfl ?_
        refine RM.zne (tgt := 30) (by decide +kernel) (fun c3 => ?_) (fun c3 => ?_)
        · rw [if_pos c3] at e1
          refine RM.blk [(0, 0, 0, .int 1), (23, 0, 0, .null), (4, 1, 0, .null), (10, 2, 0, .int 1), (23, 0, 0, .null)] (pc' := 9) (L' := [some (.ref 76), some (.int (bI true)), some (.int (x1.2 + 1)), none, none, none, none]) (st' := []) (σ1 := (up σ 76 31 0)) (by decide +kernel) rfl ?_
          obtain rfl := Option.some.inj e1
          refine RN.dropB [true, true, true, false, false, false, false] rfl ?_
          exact ih1 (true, (x1.2 + 1)) _ hy1 hK1
        · rw [if_neg (bf c3)] at e1
          refine RM.blk [(2, 0, 0, .null), (3, 12, 23, .null), (1, 2, 0, .null)] (pc' := 26) (L' := [some (.ref 76), some (.int (bI x1.1)), some (.int x1.2), none, none, none, none]) (st' := [.int x1.2, .ref 91]) (σ1 := (up σ 76 31 0)) (by decide +kernel) rfl ?_
          obtain ⟨g4, e1⟩ := og_some e1
          refine RM.zald (q := 91) (n := 4) (by decide +kernel) rfl (vin_of g4) ?_
          refine RM.if_eq (tgt := 34) (by decide +kernel) (fun c5 => ?_) (fun c5 => ?_)
          · rw [if_pos c5] at e1
            refine RM.blk [(0, 0, 0, .int 0), (4, 1, 0, .null), (10, 2, 0, .int 1), (23, 0, 0, .null)] (pc' := 9) (L' := [some (.ref 76), some (.int (bI false)), some (.int (x1.2 + 1)), none, none, none, none]) (st' := []) (σ1 := (up σ 76 31 0)) (by decide +kernel) rfl ?_
            obtain rfl := Option.some.inj e1
            refine RN.dropB [true, true, true, false, false, false, false] rfl ?_
            exact ih1 (false, (x1.2 + 1)) _ hy1 hK1
          · rw [if_neg c5] at e1
            refine RM.blk [(0, 0, 0, .int 1), (23, 0, 0, .null), (4, 1, 0, .null), (10, 2, 0, .int 1), (23, 0, 0, .null)] (pc' := 9) (L' := [some (.ref 76), some (.int (bI true)), some (.int (x1.2 + 1)), none, none, none, none]) (st' := []) (σ1 := (up σ 76 31 0)) (by decide +kernel) rfl ?_
            obtain rfl := Option.some.inj e1
            refine RN.dropB [true, true, true, false, false, false, false] rfl ?_
            exact ih1 (true, (x1.2 + 1)) _ hy1 hK1
  obtain ⟨y1, hl1, h⟩ := ob_some h
  refine RN.dropB [true, true, true, false, false, false, false] rfl ?_
  refine hL1 FU (false, 0) y1 hl1 ?_
  refine RM.blk [(0, 0, 0, .int 0), (4, 2, 0, .null)] (pc' := 44) (L' := [some (.ref 76), some (.int (bI y1)), some (.int 0), none, none, none, none]) (st' := []) (σ1 := (up σ 76 31 0)) (by decide +kernel) rfl ?_
  have hL6 : ∀ (n : Nat) (x6 : Int32 × SG) (y6 : (SG) ⊕ (Bool × SG)), lpW (L_Ref_deal_44 y1) n x6 = some y6 → Sum.elim (fun y6 : SG => RN 2 M_Ref_deal (some (.int (bI rr))) so 110 [some (.ref 76), none, none, none, none, none, none] [] y6) (fun q : Bool × SG => q = (rr, so)) y6 → RN 2 M_Ref_deal (some (.int (bI rr))) so 44 [some (.ref 76), some (.int (bI y1)), some (.int x6.1), none, none, none, none] [] x6.2 := by
    intro n
    induction n with
    | zero => intro x6 y6 hy6; cases hy6
    | succ n ih6 =>
      intro x6 y6 hy6 hK6
      obtain ⟨z6, e6, hy6⟩ := ob_some hy6
      unfold L_Ref_deal_44 at e6
      refine RM.blk [(1, 2, 0, .null), (2, 0, 0, .null), (3, 12, 17, .null)] (pc' := 49) (L' := [some (.ref 76), some (.int (bI (y1))), some (.int x6.1), none, none, none, none]) (st' := [.int (x6.2 76 17), .int x6.1]) (σ1 := x6.2) (by decide +kernel) rfl ?_
      refine RM.icmp_ge (tgt := 110) (by decide +kernel) (fun c7 => ?_) (fun c7 => ?_)
      · rw [if_pos c7] at e6
        obtain rfl := Option.some.inj e6
        obtain rfl := Option.some.inj (show some ((.inl x6.2) : (SG) ⊕ (Bool × SG)) = some y6 from hy6)
        refine RN.dropB [true, false, false, false, false, false, false] rfl ?_
        exact hK6
      · rw [if_neg c7] at e6
        refine RM.blk [(2, 0, 0, .null), (1, 2, 0, .null), (0, 0, 0, .int 0)] (pc' := 55) (L' := [some (.ref 76), some (.int (bI (y1))), some (.int x6.1), none, none, none, none]) (st' := [.int 0, .int x6.1, .ref 76]) (σ1 := x6.2) (by decide +kernel) rfl ?_
        obtain ⟨v8, hv8, e6⟩ := ob_some e6
        refine RN.callV [.int x6.1, .int (bI false)] (s_Ref_sumOf x6.2 x6.1 false v8 hv8) [] (pc3 := 58) (st3 := [.int v8]) (by decide +kernel) mk_Ref_sumOf (by decide) ?_
        refine RM.if_le (tgt := 104) (by decide +kernel) (fun c9 => ?_) (fun c9 => ?_)
        · rw [if_pos c9] at e6
          refine RM.blk [(10, 2, 0, .int 1), (23, 0, 0, .null)] (pc' := 44) (L' := [some (.ref 76), some (.int (bI (y1))), some (.int (x6.1 + 1)), none, none, none, none]) (st' := []) (σ1 := x6.2) (by decide +kernel) rfl ?_
          obtain rfl := Option.some.inj e6
          refine RN.dropB [true, true, true, false, false, false, false] rfl ?_
          exact ih6 ((x6.1 + 1), x6.2) _ hy6 hK6
        · rw [if_neg c9] at e6
          refine RM.blk [(2, 0, 0, .null), (3, 12, 31, .null), (0, 0, 0, .int 9)] (pc' := 67) (L' := [some (.ref 76), some (.int (bI (y1))), some (.int x6.1), none, none, none, none]) (st' := [.int 9, .int (x6.2 76 31)]) (σ1 := x6.2) (by decide +kernel) rfl ?_
          refine RM.icmp_eq (tgt := 82) (by decide +kernel) (fun c10 => ?_) (fun c10 => ?_)
          · rw [if_pos c10] at e6
            refine RM.blk [(0, 0, 0, .int 0)] (pc' := 83) (L' := [some (.ref 76), some (.int (bI (y1))), some (.int x6.1), none, none, none, none]) (st' := [.int 0]) (σ1 := x6.2) (by decide +kernel) rfl ?_
            obtain rfl := Option.some.inj e6
            obtain rfl := Option.some.inj (show some (.inr (false, x6.2) : (SG) ⊕ (Bool × SG)) = some y6 from hy6)
            obtain ⟨rfl, rfl⟩ := Prod.mk.inj (show ((false, x6.2) : Bool × SG) = (rr, so) from hK6)
            exact RM.retz (z := false) (by decide +kernel) rfl
          · rw [if_neg c10] at e6
            refine RM.blk [(2, 0, 0, .null), (1, 2, 0, .null)] (pc' := 72) (L' := [some (.ref 76), some (.int (bI (y1))), some (.int x6.1), none, none, none, none]) (st' := [.int x6.1, .ref 76]) (σ1 := x6.2) (by decide +kernel) rfl ?_
            obtain ⟨v11, hv11, e6⟩ := ob_some e6
            refine RN.callV [.int x6.1] (s_Ref_hasFace x6.2 x6.1 v11 hv11) [] (pc3 := 75) (st3 := [.int (bI v11)]) (by decide +kernel) mk_Ref_hasFace (by decide) ?_
            refine RM.zeq (tgt := 84) (by decide +kernel) (fun c12 => ?_) (fun c12 => ?_)
            · rw [if_neg (bf c12)] at e6
              refine RM.blk [(2, 0, 0, .null), (3, 12, 30, .null), (2, 0, 0, .null), (3, 12, 31, .null), (1, 2, 0, .null)] (pc' := 93) (L' := [some (.ref 76), some (.int (bI (y1))), some (.int x6.1), none, none, none, none]) (st' := [.int x6.1, .int (x6.2 76 31), .ref 98]) (σ1 := x6.2) (by decide +kernel) rfl ?_
              obtain ⟨g13, e6⟩ := og_some e6
              refine RM.iast (q := 98) (n := 9) (by decide +kernel) rfl (vin_of g13) ?_
              refine RM.blk [(2, 0, 0, .null), (11, 0, 0, .null), (3, 12, 31, .null), (0, 0, 0, .int 1), (5, 0, 0, .null), (15, 12, 31, .null), (10, 2, 0, .int 1), (23, 0, 0, .null)] (pc' := 44) (L' := [some (.ref 76), some (.int (bI (y1))), some (.int (x6.1 + 1)), none, none, none, none]) (st' := []) (σ1 := (up (up x6.2 98 (ix (x6.2 76 31)) x6.1) 76 31 (((up x6.2 98 (ix (x6.2 76 31)) x6.1) 76 31) + 1))) (by decide +kernel) rfl ?_
              generalize ns14 : (up (up x6.2 98 (ix (x6.2 76 31)) x6.1) 76 31 (((up x6.2 98 (ix (x6.2 76 31)) x6.1) 76 31) + 1)) = s14 at e6 ⊢
              replace e6 := nm_h e6
              obtain rfl := Option.some.inj e6
              refine RN.dropB [true, true, true, false, false, false, false] rfl ?_
              exact ih6 ((x6.1 + 1), s14) _ hy6 hK6
            · rw [if_pos c12] at e6
              refine RM.blk [(1, 1, 0, .null)] (pc' := 79) (L' := [some (.ref 76), some (.int (bI (y1))), some (.int x6.1), none, none, none, none]) (st' := [.int (bI (y1))]) (σ1 := x6.2) (by decide +kernel) rfl ?_
              refine RM.zne (tgt := 84) (by decide +kernel) (fun c15 => ?_) (fun c15 => ?_)
              · rw [if_pos c15] at e6
                refine RM.blk [(2, 0, 0, .null), (3, 12, 30, .null), (2, 0, 0, .null), (3, 12, 31, .null), (1, 2, 0, .null)] (pc' := 93) (L' := [some (.ref 76), some (.int (bI (y1))), some (.int x6.1), none, none, none, none]) (st' := [.int x6.1, .int (x6.2 76 31), .ref 98]) (σ1 := x6.2) (by decide +kernel) rfl ?_
                obtain ⟨g16, e6⟩ := og_some e6
                refine RM.iast (q := 98) (n := 9) (by decide +kernel) rfl (vin_of g16) ?_
                refine RM.blk [(2, 0, 0, .null), (11, 0, 0, .null), (3, 12, 31, .null), (0, 0, 0, .int 1), (5, 0, 0, .null), (15, 12, 31, .null), (10, 2, 0, .int 1), (23, 0, 0, .null)] (pc' := 44) (L' := [some (.ref 76), some (.int (bI (y1))), some (.int (x6.1 + 1)), none, none, none, none]) (st' := []) (σ1 := (up (up x6.2 98 (ix (x6.2 76 31)) x6.1) 76 31 (((up x6.2 98 (ix (x6.2 76 31)) x6.1) 76 31) + 1))) (by decide +kernel) rfl ?_
                generalize ns17 : (up (up x6.2 98 (ix (x6.2 76 31)) x6.1) 76 31 (((up x6.2 98 (ix (x6.2 76 31)) x6.1) 76 31) + 1)) = s17 at e6 ⊢
                replace e6 := nm_h e6
                obtain rfl := Option.some.inj e6
                refine RN.dropB [true, true, true, false, false, false, false] rfl ?_
                exact ih6 ((x6.1 + 1), s17) _ hy6 hK6
              · rw [if_neg (bf c15)] at e6
                refine RM.blk [(0, 0, 0, .int 0)] (pc' := 83) (L' := [some (.ref 76), some (.int (bI (y1))), some (.int x6.1), none, none, none, none]) (st' := [.int 0]) (σ1 := x6.2) (by decide +kernel) rfl ?_
                obtain rfl := Option.some.inj e6
                obtain rfl := Option.some.inj (show some (.inr (false, x6.2) : (SG) ⊕ (Bool × SG)) = some y6 from hy6)
                obtain ⟨rfl, rfl⟩ := Prod.mk.inj (show ((false, x6.2) : Bool × SG) = (rr, so) from hK6)
                exact RM.retz (z := false) (by decide +kernel) rfl
  obtain ⟨y6, hl6, h⟩ := ob_some h
  refine RN.dropB [true, true, true, false, false, false, false] rfl ?_
  refine hL6 FU (0, (up σ 76 31 0)) y6 hl6 ?_
  rcases y6 with y6 | q6
  · simp only [Sum.elim_inl] at h ⊢
    refine RM.blk [(2, 0, 0, .null), (3, 12, 9, .null)] (pc' := 114) (L' := [some (.ref 76), none, none, none, none, none, none]) (st' := [.int (y6 76 9)]) (σ1 := y6) (by decide +kernel) rfl ?_
    refine RM.if_eq (tgt := 124) (by decide +kernel) (fun c18 => ?_) (fun c18 => ?_)
    · rw [if_pos c18] at h
      refine RM.blk [(0, 0, 0, .int 0)] (pc' := 125) (L' := [some (.ref 76), none, none, none, none, none, none]) (st' := [.int 0]) (σ1 := y6) (by decide +kernel) rfl ?_
      obtain ⟨rfl, rfl⟩ := Prod.mk.inj (Option.some.inj h)
      exact RM.retz (z := false) (by decide +kernel) rfl
    · rw [if_neg c18] at h
      refine RM.blk [(2, 0, 0, .null), (3, 12, 21, .null)] (pc' := 121) (L' := [some (.ref 76), none, none, none, none, none, none]) (st' := [.int (y6 76 21)]) (σ1 := y6) (by decide +kernel) rfl ?_
      refine RM.if_ne (tgt := 126) (by decide +kernel) (fun c19 => ?_) (fun c19 => ?_)
      · rw [if_neg c19] at h
        refine RM.blk [(0, 0, 0, .int 1), (4, 2, 0, .null), (0, 0, 0, .int 0), (4, 3, 0, .null)] (pc' := 130) (L' := [some (.ref 76), none, some (.int 1), some (.int 0), none, none, none]) (st' := []) (σ1 := y6) (by decide +kernel) rfl ?_
        have hL20 : ∀ (n : Nat) (x20 : Int32 × Int32) (y20 : Int32), lpW (L_Ref_deal_130 y6) n x20 = some y20 → RN 2 M_Ref_deal (some (.int (bI rr))) so 151 [some (.ref 76), none, some (.int y20), none, none, none, none] [] y6 → RN 2 M_Ref_deal (some (.int (bI rr))) so 130 [some (.ref 76), none, some (.int x20.1), some (.int x20.2), none, none, none] [] y6 := by
          intro n
          induction n with
          | zero => intro x20 y20 hy20; cases hy20
          | succ n ih20 =>
            intro x20 y20 hy20 hK20
            obtain ⟨z20, e20, hy20⟩ := ob_some hy20
            unfold L_Ref_deal_130 at e20
            refine RM.blk [(1, 3, 0, .null), (2, 0, 0, .null), (3, 12, 31, .null)] (pc' := 135) (L' := [some (.ref 76), none, some (.int x20.1), some (.int x20.2), none, none, none]) (st' := [.int (y6 76 31), .int x20.2]) (σ1 := y6) (by decide +kernel) rfl ?_
            refine RM.icmp_ge (tgt := 151) (by decide +kernel) (fun c21 => ?_) (fun c21 => ?_)
            · rw [if_pos c21] at e20
              obtain rfl := Option.some.inj e20
              obtain rfl := Option.some.inj (show some (x20.1 : Int32) = some y20 from hy20)
              refine RN.dropB [true, false, true, false, false, false, false] rfl ?_
              exact hK20
            · rw [if_neg c21] at e20
              refine RM.blk [(1, 2, 0, .null), (2, 0, 0, .null), (3, 12, 21, .null), (7, 0, 0, .null), (4, 2, 0, .null), (10, 3, 0, .int 1), (23, 0, 0, .null)] (pc' := 130) (L' := [some (.ref 76), none, some (.int (x20.1 * (y6 76 21))), some (.int (x20.2 + 1)), none, none, none]) (st' := []) (σ1 := y6) (by decide +kernel) rfl ?_
              obtain rfl := Option.some.inj e20
              refine RN.dropB [true, false, true, true, false, false, false] rfl ?_
              exact ih20 ((x20.1 * (y6 76 21)), (x20.2 + 1)) _ hy20 hK20
        obtain ⟨y20, hl20, h⟩ := ob_some h
        refine RN.dropB [true, false, true, true, false, false, false] rfl ?_
        refine hL20 FU (1, 0) y20 hl20 ?_
        refine RM.blk [(0, 0, 0, .int 0), (4, 3, 0, .null)] (pc' := 153) (L' := [some (.ref 76), none, some (.int y20), some (.int 0), none, none, none]) (st' := []) (σ1 := y6) (by decide +kernel) rfl ?_
        have hL22 : ∀ (n : Nat) (x22 : Int32 × SG) (y22 : SG), lpW L_Ref_deal_153 n x22 = some y22 → RN 2 M_Ref_deal (some (.int (bI rr))) so 200 [some (.ref 76), none, some (.int y20), none, none, none, none] [] y22 → RN 2 M_Ref_deal (some (.int (bI rr))) so 153 [some (.ref 76), none, some (.int y20), some (.int x22.1), none, none, none] [] x22.2 := by
          intro n
          induction n with
          | zero => intro x22 y22 hy22; cases hy22
          | succ n ih22 =>
            intro x22 y22 hy22 hK22
            obtain ⟨z22, e22, hy22⟩ := ob_some hy22
            unfold L_Ref_deal_153 at e22
            refine RM.blk [(1, 3, 0, .null), (2, 0, 0, .null), (3, 12, 31, .null)] (pc' := 158) (L' := [some (.ref 76), none, some (.int (y20)), some (.int x22.1), none, none, none]) (st' := [.int (x22.2 76 31), .int x22.1]) (σ1 := x22.2) (by decide +kernel) rfl ?_
            refine RM.icmp_ge (tgt := 200) (by decide +kernel) (fun c23 => ?_) (fun c23 => ?_)
            · rw [if_pos c23] at e22
              obtain rfl := Option.some.inj e22
              obtain rfl := Option.some.inj (show some (x22.2 : SG) = some y22 from hy22)
              refine RN.dropB [true, false, true, false, false, false, false] rfl ?_
              exact hK22
            · rw [if_neg c23] at e22
              refine RM.blk [(2, 0, 0, .null), (3, 12, 34, .null), (1, 3, 0, .null), (2, 0, 0, .null), (2, 0, 0, .null), (3, 12, 30, .null), (1, 3, 0, .null)] (pc' := 172) (L' := [some (.ref 76), none, some (.int (y20)), some (.int x22.1), none, none, none]) (st' := [.int x22.1, .ref 98, .ref 76, .int x22.1, .ref 100]) (σ1 := x22.2) (by decide +kernel) rfl ?_
              obtain ⟨g24, e22⟩ := og_some e22
              refine RM.iald (q := 98) (n := 9) (by decide +kernel) rfl (vin_of g24) ?_
              refine RM.blk [(0, 0, 0, .int 0)] (pc' := 174) (L' := [some (.ref 76), none, some (.int (y20)), some (.int x22.1), none, none, none]) (st' := [.int 0, .int (x22.2 98 (ix x22.1)), .ref 76, .int x22.1, .ref 100]) (σ1 := x22.2) (by decide +kernel) rfl ?_
              obtain ⟨v25, hv25, e22⟩ := ob_some e22
              refine RN.callV [.int (x22.2 98 (ix x22.1)), .int (bI false)] (s_Ref_sumOf x22.2 (x22.2 98 (ix x22.1)) false v25 hv25) [.int x22.1, .ref 100] (pc3 := 177) (st3 := [.int v25, .int x22.1, .ref 100]) (by decide +kernel) mk_Ref_sumOf (by decide) ?_
              obtain ⟨g26, e22⟩ := og_some e22
              refine RM.iast (q := 100) (n := 9) (by decide +kernel) rfl (vin_of g26) ?_
              refine RM.blk [(2, 0, 0, .null), (3, 12, 35, .null), (1, 3, 0, .null), (2, 0, 0, .null), (2, 0, 0, .null), (3, 12, 30, .null), (1, 3, 0, .null)] (pc' := 189) (L' := [some (.ref 76), none, some (.int (y20)), some (.int x22.1), none, none, none]) (st' := [.int x22.1, .ref 98, .ref 76, .int x22.1, .ref 101]) (σ1 := (up x22.2 100 (ix x22.1) v25)) (by decide +kernel) rfl ?_
              obtain ⟨g27, e22⟩ := og_some e22
              refine RM.iald (q := 98) (n := 9) (by decide +kernel) rfl (vin_of g27) ?_
              obtain ⟨v28, hv28, e22⟩ := ob_some e22
              refine RN.callV [.int ((up x22.2 100 (ix x22.1) v25) 98 (ix x22.1))] (s_Ref_hasFace (up x22.2 100 (ix x22.1) v25) ((up x22.2 100 (ix x22.1) v25) 98 (ix x22.1)) v28 hv28) [.int x22.1, .ref 101] (pc3 := 193) (st3 := [.int (bI v28), .int x22.1, .ref 101]) (by decide +kernel) mk_Ref_hasFace (by decide) ?_
              obtain ⟨g29, e22⟩ := og_some e22
              refine RM.zast (q := 101) (n := 9) (by decide +kernel) rfl (vin_of g29) (bI_nar2 _) ?_
              generalize ns30 : (up (up x22.2 100 (ix x22.1) v25) 101 (ix x22.1) (bI v28)) = s30 at e22 ⊢
              replace e22 := nm_h e22
              refine RM.blk [(10, 3, 0, .int 1), (23, 0, 0, .null)] (pc' := 153) (L' := [some (.ref 76), none, some (.int (y20)), some (.int (x22.1 + 1)), none, none, none]) (st' := []) (σ1 := s30) (by decide +kernel) rfl ?_
              obtain rfl := Option.some.inj e22
              refine RN.dropB [true, false, true, true, false, false, false] rfl ?_
              exact ih22 ((x22.1 + 1), s30) _ hy22 hK22
        obtain ⟨y22, hl22, h⟩ := ob_some h
        refine RN.dropB [true, false, true, true, false, false, false] rfl ?_
        refine hL22 FU (0, y6) y22 hl22 ?_
        refine RM.blk [(2, 0, 0, .null), (0, 0, 0, .int (-1)), (15, 12, 33, .null), (0, 0, 0, .int 0), (4, 3, 0, .null)] (pc' := 207) (L' := [some (.ref 76), none, some (.int y20), some (.int 0), none, none, none]) (st' := []) (σ1 := (up y22 76 33 (-1))) (by decide +kernel) rfl ?_
        have hL31 : ∀ (n : Nat) (x31 : Int32 × SG) (y31 : SG), lpW (L_Ref_deal_207 y20) n x31 = some y31 → RN 2 M_Ref_deal (some (.int (bI rr))) so 301 [none, none, none, none, none, none, none] [] y31 → RN 2 M_Ref_deal (some (.int (bI rr))) so 207 [some (.ref 76), none, some (.int y20), some (.int x31.1), none, none, none] [] x31.2 := by
          intro n
          induction n with
          | zero => intro x31 y31 hy31; cases hy31
          | succ n ih31 =>
            intro x31 y31 hy31 hK31
            obtain ⟨z31, e31, hy31⟩ := ob_some hy31
            unfold L_Ref_deal_207 at e31
            refine RM.blk [(1, 3, 0, .null), (1, 2, 0, .null)] (pc' := 209) (L' := [some (.ref 76), none, some (.int (y20)), some (.int x31.1), none, none, none]) (st' := [.int (y20), .int x31.1]) (σ1 := x31.2) (by decide +kernel) rfl ?_
            refine RM.icmp_ge (tgt := 301) (by decide +kernel) (fun c32 => ?_) (fun c32 => ?_)
            · rw [if_pos c32] at e31
              obtain rfl := Option.some.inj e31
              obtain rfl := Option.some.inj (show some (x31.2 : SG) = some y31 from hy31)
              refine RN.dropB [false, false, false, false, false, false, false] rfl ?_
              exact hK31
            · rw [if_neg c32] at e31
              refine RM.blk [(2, 0, 0, .null), (1, 3, 0, .null), (1, 2, 0, .null)] (pc' := 215) (L' := [some (.ref 76), none, some (.int (y20)), some (.int x31.1), none, none, none]) (st' := [.int (y20), .int x31.1, .ref 76]) (σ1 := x31.2) (by decide +kernel) rfl ?_
              obtain ⟨v33, hv33, e31⟩ := ob_some e31
              refine RN.callV [.int x31.1, .int (y20)] (s_Ref_greatestOf x31.2 x31.1 (y20) v33.1 v33.2 hv33) [] (pc3 := 218) (st3 := [.int v33.1]) (by decide +kernel) mk_Ref_greatestOf (by decide) ?_
              refine RM.blk [(4, 4, 0, .null), (1, 4, 0, .null), (0, 0, 0, .int (-1))] (pc' := 223) (L' := [some (.ref 76), none, some (.int (y20)), some (.int x31.1), some (.int v33.1), none, none]) (st' := [.int (-1), .int v33.1]) (σ1 := v33.2) (by decide +kernel) rfl ?_
              refine RM.icmp_eq (tgt := 295) (by decide +kernel) (fun c34 => ?_) (fun c34 => ?_)
              · rw [if_pos c34] at e31
                refine RM.blk [(10, 3, 0, .int 1), (23, 0, 0, .null)] (pc' := 207) (L' := [some (.ref 76), none, some (.int (y20)), some (.int (x31.1 + 1)), some (.int v33.1), none, none]) (st' := []) (σ1 := v33.2) (by decide +kernel) rfl ?_
                obtain rfl := Option.some.inj e31
                refine RN.dropB [true, false, true, true, false, false, false] rfl ?_
                exact ih31 ((x31.1 + 1), v33.2) _ hy31 hK31
              · rw [if_neg c34] at e31
                refine RM.blk [(2, 0, 0, .null), (3, 12, 33, .null), (0, 0, 0, .int (-1))] (pc' := 231) (L' := [some (.ref 76), none, some (.int (y20)), some (.int x31.1), some (.int v33.1), none, none]) (st' := [.int (-1), .int (v33.2 76 33)]) (σ1 := v33.2) (by decide +kernel) rfl ?_
                refine RM.icmp_eq (tgt := 243) (by decide +kernel) (fun c35 => ?_) (fun c35 => ?_)
                · rw [if_pos c35] at e31
                  refine RM.blk [(2, 0, 0, .null), (1, 4, 0, .null), (15, 12, 33, .null), (1, 2, 0, .null), (4, 5, 0, .null), (0, 0, 0, .int 0), (4, 6, 0, .null)] (pc' := 255) (L' := [some (.ref 76), none, some (.int (y20)), some (.int x31.1), some (.int v33.1), some (.int (y20)), some (.int 0)]) (st' := []) (σ1 := (up v33.2 76 33 v33.1)) (by decide +kernel) rfl ?_
                  have hL36 : ∀ (n : Nat) (x36 : Int32 × Int32 × SG) (y36 : SG), lpW (L_Ref_deal_255 x31.1) n x36 = some y36 → RN 2 M_Ref_deal (some (.int (bI rr))) so 295 [some (.ref 76), none, some (.int (y20)), some (.int x31.1), none, none, none] [] y36 → RN 2 M_Ref_deal (some (.int (bI rr))) so 255 [some (.ref 76), none, some (.int (y20)), some (.int x31.1), none, some (.int x36.1), some (.int x36.2.1)] [] x36.2.2 := by
                    intro n
                    induction n with
                    | zero => intro x36 y36 hy36; cases hy36
                    | succ n ih36 =>
                      intro x36 y36 hy36 hK36
                      obtain ⟨z36, e36, hy36⟩ := ob_some hy36
                      unfold L_Ref_deal_255 at e36
                      refine RM.blk [(1, 6, 0, .null), (2, 0, 0, .null), (3, 12, 31, .null)] (pc' := 261) (L' := [some (.ref 76), none, some (.int (y20)), some (.int (x31.1)), none, some (.int x36.1), some (.int x36.2.1)]) (st' := [.int (x36.2.2 76 31), .int x36.2.1]) (σ1 := x36.2.2) (by decide +kernel) rfl ?_
                      refine RM.icmp_ge (tgt := 295) (by decide +kernel) (fun c37 => ?_) (fun c37 => ?_)
                      · rw [if_pos c37] at e36
                        obtain rfl := Option.some.inj e36
                        obtain rfl := Option.some.inj (show some (x36.2.2 : SG) = some y36 from hy36)
                        refine RN.dropB [true, false, true, true, false, false, false] rfl ?_
                        exact hK36
                      · rw [if_neg c37] at e36
                        refine RM.blk [(1, 5, 0, .null), (2, 0, 0, .null), (3, 12, 21, .null)] (pc' := 270) (L' := [some (.ref 76), none, some (.int (y20)), some (.int (x31.1)), none, some (.int x36.1), some (.int x36.2.1)]) (st' := [.int (x36.2.2 76 21), .int x36.1]) (σ1 := x36.2.2) (by decide +kernel) rfl ?_
                        obtain ⟨g38, e36⟩ := og_some e36
                        refine RM.idiv (by decide +kernel) (nz_of g38) ?_
                        refine RM.blk [(4, 5, 0, .null), (2, 0, 0, .null), (3, 12, 32, .null), (1, 6, 0, .null), (1, 3, 0, .null), (1, 5, 0, .null)] (pc' := 282) (L' := [some (.ref 76), none, some (.int (y20)), some (.int (x31.1)), none, some (.int (x36.1 / (x36.2.2 76 21))), some (.int x36.2.1)]) (st' := [.int (x36.1 / (x36.2.2 76 21)), .int (x31.1), .int x36.2.1, .ref 99]) (σ1 := x36.2.2) (by decide +kernel) rfl ?_
                        obtain ⟨g39, e36⟩ := og_some e36
                        refine RM.idiv (by decide +kernel) (nz_of g39) ?_
                        refine RM.blk [(2, 0, 0, .null), (3, 12, 21, .null)] (pc' := 287) (L' := [some (.ref 76), none, some (.int (y20)), some (.int (x31.1)), none, some (.int (x36.1 / (x36.2.2 76 21))), some (.int x36.2.1)]) (st' := [.int (x36.2.2 76 21), .int (x31.1 / (x36.1 / (x36.2.2 76 21))), .int x36.2.1, .ref 99]) (σ1 := x36.2.2) (by decide +kernel) rfl ?_
                        obtain ⟨g40, e36⟩ := og_some e36
                        refine RM.irem (by decide +kernel) (nz_of g40) ?_
                        obtain ⟨g41, e36⟩ := og_some e36
                        refine RM.iast (q := 99) (n := 9) (by decide +kernel) rfl (vin_of g41) ?_
                        generalize ns42 : (up x36.2.2 99 (ix x36.2.1) ((x31.1 / (x36.1 / (x36.2.2 76 21))) - (x31.1 / (x36.1 / (x36.2.2 76 21))) / (x36.2.2 76 21) * (x36.2.2 76 21))) = s42 at e36 ⊢
                        replace e36 := nm_h e36
                        refine RM.blk [(10, 6, 0, .int 1), (23, 0, 0, .null)] (pc' := 255) (L' := [some (.ref 76), none, some (.int (y20)), some (.int (x31.1)), none, some (.int (x36.1 / (x36.2.2 76 21))), some (.int (x36.2.1 + 1))]) (st' := []) (σ1 := s42) (by decide +kernel) rfl ?_
                        obtain rfl := Option.some.inj e36
                        refine RN.dropB [true, false, true, true, false, true, true] rfl ?_
                        exact ih36 ((x36.1 / (x36.2.2 76 21)), (x36.2.1 + 1), s42) _ hy36 hK36
                  obtain ⟨y36, hl36, e31⟩ := ob_some e31
                  refine RN.dropB [true, false, true, true, false, true, true] rfl ?_
                  refine hL36 FU (y20, 0, (up v33.2 76 33 v33.1)) y36 hl36 ?_
                  refine RM.blk [(10, 3, 0, .int 1), (23, 0, 0, .null)] (pc' := 207) (L' := [some (.ref 76), none, some (.int (y20)), some (.int (x31.1 + 1)), none, none, none]) (st' := []) (σ1 := y36) (by decide +kernel) rfl ?_
                  obtain rfl := Option.some.inj e31
                  refine RN.dropB [true, false, true, true, false, false, false] rfl ?_
                  exact ih31 ((x31.1 + 1), y36) _ hy31 hK31
                · rw [if_neg c35] at e31
                  refine RM.blk [(1, 4, 0, .null), (2, 0, 0, .null), (3, 12, 33, .null)] (pc' := 240) (L' := [some (.ref 76), none, some (.int (y20)), some (.int x31.1), some (.int v33.1), none, none]) (st' := [.int (v33.2 76 33), .int v33.1]) (σ1 := v33.2) (by decide +kernel) rfl ?_
                  refine RM.icmp_ge (tgt := 295) (by decide +kernel) (fun c43 => ?_) (fun c43 => ?_)
                  · rw [if_pos c43] at e31
                    refine RM.blk [(10, 3, 0, .int 1), (23, 0, 0, .null)] (pc' := 207) (L' := [some (.ref 76), none, some (.int (y20)), some (.int (x31.1 + 1)), some (.int v33.1), none, none]) (st' := []) (σ1 := v33.2) (by decide +kernel) rfl ?_
                    obtain rfl := Option.some.inj e31
                    refine RN.dropB [true, false, true, true, false, false, false] rfl ?_
                    exact ih31 ((x31.1 + 1), v33.2) _ hy31 hK31
                  · rw [if_neg c43] at e31
                    refine RM.blk [(2, 0, 0, .null), (1, 4, 0, .null), (15, 12, 33, .null), (1, 2, 0, .null), (4, 5, 0, .null), (0, 0, 0, .int 0), (4, 6, 0, .null)] (pc' := 255) (L' := [some (.ref 76), none, some (.int (y20)), some (.int x31.1), some (.int v33.1), some (.int (y20)), some (.int 0)]) (st' := []) (σ1 := (up v33.2 76 33 v33.1)) (by decide +kernel) rfl ?_
                    have hL44 : ∀ (n : Nat) (x44 : Int32 × Int32 × SG) (y44 : SG), lpW (L_Ref_deal_255 x31.1) n x44 = some y44 → RN 2 M_Ref_deal (some (.int (bI rr))) so 295 [some (.ref 76), none, some (.int (y20)), some (.int x31.1), none, none, none] [] y44 → RN 2 M_Ref_deal (some (.int (bI rr))) so 255 [some (.ref 76), none, some (.int (y20)), some (.int x31.1), none, some (.int x44.1), some (.int x44.2.1)] [] x44.2.2 := by
                      intro n
                      induction n with
                      | zero => intro x44 y44 hy44; cases hy44
                      | succ n ih44 =>
                        intro x44 y44 hy44 hK44
                        obtain ⟨z44, e44, hy44⟩ := ob_some hy44
                        unfold L_Ref_deal_255 at e44
                        refine RM.blk [(1, 6, 0, .null), (2, 0, 0, .null), (3, 12, 31, .null)] (pc' := 261) (L' := [some (.ref 76), none, some (.int (y20)), some (.int (x31.1)), none, some (.int x44.1), some (.int x44.2.1)]) (st' := [.int (x44.2.2 76 31), .int x44.2.1]) (σ1 := x44.2.2) (by decide +kernel) rfl ?_
                        refine RM.icmp_ge (tgt := 295) (by decide +kernel) (fun c45 => ?_) (fun c45 => ?_)
                        · rw [if_pos c45] at e44
                          obtain rfl := Option.some.inj e44
                          obtain rfl := Option.some.inj (show some (x44.2.2 : SG) = some y44 from hy44)
                          refine RN.dropB [true, false, true, true, false, false, false] rfl ?_
                          exact hK44
                        · rw [if_neg c45] at e44
                          refine RM.blk [(1, 5, 0, .null), (2, 0, 0, .null), (3, 12, 21, .null)] (pc' := 270) (L' := [some (.ref 76), none, some (.int (y20)), some (.int (x31.1)), none, some (.int x44.1), some (.int x44.2.1)]) (st' := [.int (x44.2.2 76 21), .int x44.1]) (σ1 := x44.2.2) (by decide +kernel) rfl ?_
                          obtain ⟨g46, e44⟩ := og_some e44
                          refine RM.idiv (by decide +kernel) (nz_of g46) ?_
                          refine RM.blk [(4, 5, 0, .null), (2, 0, 0, .null), (3, 12, 32, .null), (1, 6, 0, .null), (1, 3, 0, .null), (1, 5, 0, .null)] (pc' := 282) (L' := [some (.ref 76), none, some (.int (y20)), some (.int (x31.1)), none, some (.int (x44.1 / (x44.2.2 76 21))), some (.int x44.2.1)]) (st' := [.int (x44.1 / (x44.2.2 76 21)), .int (x31.1), .int x44.2.1, .ref 99]) (σ1 := x44.2.2) (by decide +kernel) rfl ?_
                          obtain ⟨g47, e44⟩ := og_some e44
                          refine RM.idiv (by decide +kernel) (nz_of g47) ?_
                          refine RM.blk [(2, 0, 0, .null), (3, 12, 21, .null)] (pc' := 287) (L' := [some (.ref 76), none, some (.int (y20)), some (.int (x31.1)), none, some (.int (x44.1 / (x44.2.2 76 21))), some (.int x44.2.1)]) (st' := [.int (x44.2.2 76 21), .int (x31.1 / (x44.1 / (x44.2.2 76 21))), .int x44.2.1, .ref 99]) (σ1 := x44.2.2) (by decide +kernel) rfl ?_
                          obtain ⟨g48, e44⟩ := og_some e44
                          refine RM.irem (by decide +kernel) (nz_of g48) ?_
                          obtain ⟨g49, e44⟩ := og_some e44
                          refine RM.iast (q := 99) (n := 9) (by decide +kernel) rfl (vin_of g49) ?_
                          generalize ns50 : (up x44.2.2 99 (ix x44.2.1) ((x31.1 / (x44.1 / (x44.2.2 76 21))) - (x31.1 / (x44.1 / (x44.2.2 76 21))) / (x44.2.2 76 21) * (x44.2.2 76 21))) = s50 at e44 ⊢
                          replace e44 := nm_h e44
                          refine RM.blk [(10, 6, 0, .int 1), (23, 0, 0, .null)] (pc' := 255) (L' := [some (.ref 76), none, some (.int (y20)), some (.int (x31.1)), none, some (.int (x44.1 / (x44.2.2 76 21))), some (.int (x44.2.1 + 1))]) (st' := []) (σ1 := s50) (by decide +kernel) rfl ?_
                          obtain rfl := Option.some.inj e44
                          refine RN.dropB [true, false, true, true, false, true, true] rfl ?_
                          exact ih44 ((x44.1 / (x44.2.2 76 21)), (x44.2.1 + 1), s50) _ hy44 hK44
                    obtain ⟨y44, hl44, e31⟩ := ob_some e31
                    refine RN.dropB [true, false, true, true, false, true, true] rfl ?_
                    refine hL44 FU (y20, 0, (up v33.2 76 33 v33.1)) y44 hl44 ?_
                    refine RM.blk [(10, 3, 0, .int 1), (23, 0, 0, .null)] (pc' := 207) (L' := [some (.ref 76), none, some (.int (y20)), some (.int (x31.1 + 1)), none, none, none]) (st' := []) (σ1 := y44) (by decide +kernel) rfl ?_
                    obtain rfl := Option.some.inj e31
                    refine RN.dropB [true, false, true, true, false, false, false] rfl ?_
                    exact ih31 ((x31.1 + 1), y44) _ hy31 hK31
        obtain ⟨y31, hl31, h⟩ := ob_some h
        refine RN.dropB [true, false, true, true, false, false, false] rfl ?_
        refine hL31 FU (0, (up y22 76 33 (-1))) y31 hl31 ?_
        refine RM.blk [(0, 0, 0, .int 1)] (pc' := 302) (L' := [none, none, none, none, none, none, none]) (st' := [.int 1]) (σ1 := y31) (by decide +kernel) rfl ?_
        obtain ⟨rfl, rfl⟩ := Prod.mk.inj (Option.some.inj h)
        exact RM.retz (z := true) (by decide +kernel) rfl
      · rw [if_pos c19] at h
        refine RM.blk [(0, 0, 0, .int 0)] (pc' := 125) (L' := [some (.ref 76), none, none, none, none, none, none]) (st' := [.int 0]) (σ1 := y6) (by decide +kernel) rfl ?_
        obtain ⟨rfl, rfl⟩ := Prod.mk.inj (Option.some.inj h)
        exact RM.retz (z := false) (by decide +kernel) rfl
  · simp only [Sum.elim_inr] at h ⊢
    exact Option.some.inj h
def M_Ref_days : MI := (yX12_days, cX12_days, 1, some .int, 12)
theorem mk_Ref_days : mOK M_Ref_days 0 = true := by decide +kernel
set_option maxRecDepth 100000 in
set_option maxHeartbeats 4000000 in
theorem s_Ref_days (σ : SG) (rr : Int32) (so : SG) (h : F_Ref_days σ = some (rr, so)) : SpN 3 M_Ref_days [.ref 76] σ (some (.int rr)) so := by
  unfold F_Ref_days at h
  refine Sp.of mk_Ref_days rfl (Nat.le_of_ble_eq_true rfl) ?_
  refine RM.blk [(2, 0, 0, .null)] (pc' := 1) (L' := [some (.ref 76)]) (st' := [.ref 76]) (σ1 := σ) (by decide +kernel) rfl ?_
  obtain ⟨v1, hv1, h⟩ := ob_some h
  refine RN.callV [] (s_Ref_deal σ v1.1 v1.2 hv1) [] (pc3 := 4) (st3 := [.int (bI v1.1)]) (by decide +kernel) mk_Ref_deal (by decide) ?_
  refine RM.zeq (tgt := 14) (by decide +kernel) (fun c2 => ?_) (fun c2 => ?_)
  · rw [if_neg (bf c2)] at h
    refine RM.blk [(0, 0, 0, .int (-3))] (pc' := 16) (L' := [some (.ref 76)]) (st' := [.int (-3)]) (σ1 := v1.2) (by decide +kernel) rfl ?_
    obtain ⟨rfl, rfl⟩ := Prod.mk.inj (Option.some.inj h)
    exact RM.reti (by decide +kernel) rfl
  · rw [if_pos c2] at h
    refine RM.blk [(2, 0, 0, .null), (3, 12, 33, .null), (23, 0, 0, .null)] (pc' := 16) (L' := [some (.ref 76)]) (st' := [.int (v1.2 76 33)]) (σ1 := v1.2) (by decide +kernel) rfl ?_
    obtain ⟨rfl, rfl⟩ := Prod.mk.inj (Option.some.inj h)
    exact RM.reti (by decide +kernel) rfl
