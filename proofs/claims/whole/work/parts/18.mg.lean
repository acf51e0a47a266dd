/-! methods: Ref_dealt, Ref_count, Ref_digest -/
def M_Ref_dealt : MI := (yX12_dealt, cX12_dealt, 3, some .int, 12)
theorem mk_Ref_dealt : mOK M_Ref_dealt 1 = true := by decide +kernel
set_option maxRecDepth 100000 in
set_option maxHeartbeats 4000000 in
theorem s_Ref_dealt (σ : SG) (p0 : Int32) (rr : Int32) (so : SG) (h : F_Ref_dealt σ p0 = some (rr, so)) : SpN 3 M_Ref_dealt [.ref 76, .int p0] σ (some (.int rr)) so := by
  unfold F_Ref_dealt at h
  refine Sp.of mk_Ref_dealt rfl (Nat.le_of_ble_eq_true rfl) ?_
  refine RM.blk [(2, 0, 0, .null), (1, 1, 0, .null)] (pc' := 2) (L' := [some (.ref 76), some (.int p0), none]) (st' := [.int p0, .ref 76]) (σ1 := σ) (by decide +kernel) rfl ?_
  refine RN.callV [.int p0] (s_Ref_noSheet σ p0) [] (pc3 := 5) (st3 := [.int (F_Ref_noSheet σ p0)]) (by decide +kernel) mk_Ref_noSheet (by decide) ?_
  refine RM.blk [(0, 0, 0, .int (-2))] (pc' := 7) (L' := [some (.ref 76), some (.int p0), none]) (st' := [.int (-2), .int (F_Ref_noSheet σ p0)]) (σ1 := σ) (by decide +kernel) rfl ?_
  refine RM.icmp_ne (tgt := 13) (by decide +kernel) (fun c1 => ?_) (fun c1 => ?_)
  · rw [if_neg c1] at h
    refine RM.blk [(2, 0, 0, .null)] (pc' := 14) (L' := [some (.ref 76), some (.int p0), none]) (st' := [.ref 76]) (σ1 := σ) (by decide +kernel) rfl ?_
    obtain ⟨v2, hv2, h⟩ := ob_some h
    refine RN.callV [] (s_Ref_deal σ v2.1 v2.2 hv2) [] (pc3 := 17) (st3 := [.int (bI v2.1)]) (by decide +kernel) mk_Ref_deal (by decide) ?_
    refine RM.zne (tgt := 23) (by decide +kernel) (fun c3 => ?_) (fun c3 => ?_)
    · rw [if_pos c3] at h
      refine RM.blk [(0, 0, 0, .int 0), (4, 2, 0, .null)] (pc' := 25) (L' := [some (.ref 76), some (.int p0), some (.int 0)]) (st' := []) (σ1 := v2.2) (by decide +kernel) rfl ?_
      have hL4 : ∀ (n : Nat) (x4 : Int32) (y4 : (Unit) ⊕ (Int32 × SG)), lpW (L_Ref_dealt_25 p0 v2) n x4 = some y4 → Sum.elim (fun y4 : Unit => RN 3 M_Ref_dealt (some (.int rr)) so 56 [none, none, none] [] v2.2) (fun q : Int32 × SG => q = (rr, so)) y4 → RN 3 M_Ref_dealt (some (.int rr)) so 25 [some (.ref 76), some (.int p0), some (.int x4)] [] v2.2 := by
        intro n
        induction n with
        | zero => intro x4 y4 hy4; cases hy4
        | succ n ih4 =>
          intro x4 y4 hy4 hK4
          obtain ⟨z4, e4, hy4⟩ := ob_some hy4
          unfold L_Ref_dealt_25 at e4
          refine RM.blk [(1, 2, 0, .null), (2, 0, 0, .null), (3, 12, 31, .null)] (pc' := 30) (L' := [some (.ref 76), some (.int p0), some (.int x4)]) (st' := [.int (v2.2 76 31), .int x4]) (σ1 := v2.2) (by decide +kernel) rfl ?_
          refine RM.icmp_ge (tgt := 56) (by decide +kernel) (fun c5 => ?_) (fun c5 => ?_)
          · rw [if_pos c5] at e4
            obtain rfl := Option.some.inj e4
            obtain rfl := Option.some.inj (show some ((.inl ()) : (Unit) ⊕ (Int32 × SG)) = some y4 from hy4)
            refine RN.dropB [false, false, false] rfl ?_
            exact hK4
          · rw [if_neg c5] at e4
            refine RM.blk [(2, 0, 0, .null), (3, 12, 30, .null), (1, 2, 0, .null)] (pc' := 38) (L' := [some (.ref 76), some (.int p0), some (.int x4)]) (st' := [.int x4, .ref 98]) (σ1 := v2.2) (by decide +kernel) rfl ?_
            obtain ⟨g6, e4⟩ := og_some e4
            refine RM.iald (q := 98) (n := 9) (by decide +kernel) rfl (vin_of g6) ?_
            refine RM.blk [(1, 1, 0, .null)] (pc' := 40) (L' := [some (.ref 76), some (.int p0), some (.int x4)]) (st' := [.int p0, .int (v2.2 98 (ix x4))]) (σ1 := v2.2) (by decide +kernel) rfl ?_
            refine RM.icmp_ne (tgt := 50) (by decide +kernel) (fun c7 => ?_) (fun c7 => ?_)
            · rw [if_neg c7] at e4
              refine RM.blk [(10, 2, 0, .int 1), (23, 0, 0, .null)] (pc' := 25) (L' := [some (.ref 76), some (.int p0), some (.int (x4 + 1))]) (st' := []) (σ1 := v2.2) (by decide +kernel) rfl ?_
              obtain rfl := Option.some.inj e4
              refine RN.dropB [true, true, true] rfl ?_
              exact ih4 (x4 + 1) _ hy4 hK4
            · rw [if_pos c7] at e4
              refine RM.blk [(2, 0, 0, .null), (3, 12, 32, .null), (1, 2, 0, .null)] (pc' := 48) (L' := [some (.ref 76), some (.int p0), some (.int x4)]) (st' := [.int x4, .ref 99]) (σ1 := v2.2) (by decide +kernel) rfl ?_
              obtain ⟨g8, e4⟩ := og_some e4
              refine RM.iald (q := 99) (n := 9) (by decide +kernel) rfl (vin_of g8) ?_
              obtain rfl := Option.some.inj e4
              obtain rfl := Option.some.inj (show some (.inr ((v2.2 99 (ix x4)), v2.2) : (Unit) ⊕ (Int32 × SG)) = some y4 from hy4)
              obtain ⟨rfl, rfl⟩ := Prod.mk.inj (show (((v2.2 99 (ix x4)), v2.2) : Int32 × SG) = (rr, so) from hK4)
              exact RM.reti (by decide +kernel) rfl
      obtain ⟨y4, hl4, h⟩ := ob_some h
      refine RN.dropB [true, true, true] rfl ?_
      refine hL4 FU 0 y4 hl4 ?_
      rcases y4 with y4 | q4
      · simp only [Sum.elim_inl] at h ⊢
        refine RM.blk [(0, 0, 0, .int (-1))] (pc' := 57) (L' := [none, none, none]) (st' := [.int (-1)]) (σ1 := v2.2) (by decide +kernel) rfl ?_
        obtain ⟨rfl, rfl⟩ := Prod.mk.inj (Option.some.inj h)
        exact RM.reti (by decide +kernel) rfl
      · simp only [Sum.elim_inr] at h ⊢
        exact Option.some.inj h
    · rw [if_neg (bf c3)] at h
      refine RM.blk [(0, 0, 0, .int (-3))] (pc' := 22) (L' := [some (.ref 76), some (.int p0), none]) (st' := [.int (-3)]) (σ1 := v2.2) (by decide +kernel) rfl ?_
      obtain ⟨rfl, rfl⟩ := Prod.mk.inj (Option.some.inj h)
      exact RM.reti (by decide +kernel) rfl
  · rw [if_pos c1] at h
    refine RM.blk [(0, 0, 0, .int (-2))] (pc' := 12) (L' := [some (.ref 76), some (.int p0), none]) (st' := [.int (-2)]) (σ1 := σ) (by decide +kernel) rfl ?_
    obtain ⟨rfl, rfl⟩ := Prod.mk.inj (Option.some.inj h)
    exact RM.reti (by decide +kernel) rfl
def M_Ref_count : MI := (yX12_count, cX12_count, 4, some .int, 12)
theorem mk_Ref_count : mOK M_Ref_count 1 = true := by decide +kernel
set_option maxRecDepth 100000 in
set_option maxHeartbeats 4000000 in
theorem s_Ref_count (σ : SG) (p0 : Int32) (rr : Int32) (h : F_Ref_count σ p0 = some rr) : SpN 2 M_Ref_count [.ref 76, .int p0] σ (some (.int rr)) σ := by
  unfold F_Ref_count at h
  refine Sp.of mk_Ref_count rfl (Nat.le_of_ble_eq_true rfl) ?_
  refine RM.blk [(0, 0, 0, .int 0), (4, 2, 0, .null), (1, 1, 0, .null)] (pc' := 3) (L' := [some (.ref 76), some (.int p0), some (.int 0), none]) (st' := [.int p0]) (σ1 := σ) (by decide +kernel) rfl ?_
  refine RM.tsw (ts := [52, 57, 62, 67, 84, 89, 94, 99, 126]) (df := 183) (by decide +kernel) (by decide) ⟨fun c1 => ?_, fun c1 => ?_, fun c1 => ?_, fun c1 => ?_, fun c1 => ?_, fun c1 => ?_, fun c1 => ?_, fun c1 => ?_, fun c1 => ?_, trivial⟩ (fun c1 => ?_)
  · rw [tsS_at (j := 0) c1 rfl rfl] at h
    refine RM.blk [(2, 0, 0, .null), (3, 12, 0, .null)] (pc' := 56) (L' := [some (.ref 76), some (.int p0), some (.int 0), none]) (st' := [.int (σ 76 0)]) (σ1 := σ) (by decide +kernel) rfl ?_
    obtain rfl := (Option.some.inj h)
    exact RM.reti (by decide +kernel) rfl
  · rw [tsS_at (j := 1) c1 rfl rfl] at h
    refine RM.blk [(2, 0, 0, .null), (3, 12, 1, .null)] (pc' := 61) (L' := [some (.ref 76), some (.int p0), some (.int 0), none]) (st' := [.int (σ 76 1)]) (σ1 := σ) (by decide +kernel) rfl ?_
    obtain rfl := (Option.some.inj h)
    exact RM.reti (by decide +kernel) rfl
  · rw [tsS_at (j := 2) c1 rfl rfl] at h
    refine RM.blk [(2, 0, 0, .null), (3, 12, 10, .null)] (pc' := 66) (L' := [some (.ref 76), some (.int p0), some (.int 0), none]) (st' := [.int (σ 76 10)]) (σ1 := σ) (by decide +kernel) rfl ?_
    obtain rfl := (Option.some.inj h)
    exact RM.reti (by decide +kernel) rfl
  · rw [tsS_at (j := 3) c1 rfl rfl] at h
    refine RM.blk [(2, 0, 0, .null), (3, 12, 8, .null)] (pc' := 71) (L' := [some (.ref 76), some (.int p0), some (.int 0), none]) (st' := [.int (σ 76 8)]) (σ1 := σ) (by decide +kernel) rfl ?_
    refine RM.if_eq (tgt := 81) (by decide +kernel) (fun c2 => ?_) (fun c2 => ?_)
    · rw [if_pos c2] at h
      refine RM.blk [(0, 0, 0, .int (-3))] (pc' := 83) (L' := [some (.ref 76), some (.int p0), some (.int 0), none]) (st' := [.int (-3)]) (σ1 := σ) (by decide +kernel) rfl ?_
      obtain rfl := (Option.some.inj h)
      exact RM.reti (by decide +kernel) rfl
    · rw [if_neg c2] at h
      refine RM.blk [(2, 0, 0, .null)] (pc' := 75) (L' := [some (.ref 76), some (.int p0), some (.int 0), none]) (st' := [.ref 76]) (σ1 := σ) (by decide +kernel) rfl ?_
      obtain ⟨v3, hv3, h⟩ := ob_some h
      refine RN.callV [] (s_Ref_bare σ v3 hv3) [] (pc3 := 78) (st3 := [.int v3]) (by decide +kernel) mk_Ref_bare (by decide) ?_
      refine RM.blk [(23, 0, 0, .null)] (pc' := 83) (L' := [some (.ref 76), some (.int p0), some (.int 0), none]) (st' := [.int v3]) (σ1 := σ) (by decide +kernel) rfl ?_
      obtain rfl := (Option.some.inj h)
      exact RM.reti (by decide +kernel) rfl
  · rw [tsS_at (j := 4) c1 rfl rfl] at h
    refine RM.blk [(2, 0, 0, .null), (3, 12, 18, .null)] (pc' := 88) (L' := [some (.ref 76), some (.int p0), some (.int 0), none]) (st' := [.int (σ 76 18)]) (σ1 := σ) (by decide +kernel) rfl ?_
    obtain rfl := (Option.some.inj h)
    exact RM.reti (by decide +kernel) rfl
  · rw [tsS_at (j := 5) c1 rfl rfl] at h
    refine RM.blk [(2, 0, 0, .null), (3, 12, 17, .null)] (pc' := 93) (L' := [some (.ref 76), some (.int p0), some (.int 0), none]) (st' := [.int (σ 76 17)]) (σ1 := σ) (by decide +kernel) rfl ?_
    obtain rfl := (Option.some.inj h)
    exact RM.reti (by decide +kernel) rfl
  · rw [tsS_at (j := 6) c1 rfl rfl] at h
    refine RM.blk [(2, 0, 0, .null), (3, 12, 21, .null)] (pc' := 98) (L' := [some (.ref 76), some (.int p0), some (.int 0), none]) (st' := [.int (σ 76 21)]) (σ1 := σ) (by decide +kernel) rfl ?_
    obtain rfl := (Option.some.inj h)
    exact RM.reti (by decide +kernel) rfl
  · rw [tsS_at (j := 7) c1 rfl rfl] at h
    refine RM.blk [(0, 0, 0, .int 0), (4, 3, 0, .null)] (pc' := 101) (L' := [some (.ref 76), some (.int p0), some (.int 0), some (.int 0)]) (st' := []) (σ1 := σ) (by decide +kernel) rfl ?_
    have hL4 : ∀ (n : Nat) (x4 : Int32 × Int32) (y4 : Int32), lpW (L_Ref_count_101 σ) n x4 = some y4 → RN 2 M_Ref_count (some (.int rr)) σ 124 [none, none, some (.int y4), none] [] σ → RN 2 M_Ref_count (some (.int rr)) σ 101 [some (.ref 76), none, some (.int x4.1), some (.int x4.2)] [] σ := by
      intro n
      induction n with
      | zero => intro x4 y4 hy4; cases hy4
      | succ n ih4 =>
        intro x4 y4 hy4 hK4
        obtain ⟨z4, e4, hy4⟩ := ob_some hy4
        unfold L_Ref_count_101 at e4
        refine RM.blk [(1, 3, 0, .null), (2, 0, 0, .null), (3, 12, 18, .null)] (pc' := 106) (L' := [some (.ref 76), none, some (.int x4.1), some (.int x4.2)]) (st' := [.int (σ 76 18), .int x4.2]) (σ1 := σ) (by decide +kernel) rfl ?_
        refine RM.icmp_ge (tgt := 124) (by decide +kernel) (fun c5 => ?_) (fun c5 => ?_)
        · rw [if_pos c5] at e4
          obtain rfl := Option.some.inj e4
          obtain rfl := Option.some.inj (show some (x4.1 : Int32) = some y4 from hy4)
          refine RN.dropB [false, false, true, false] rfl ?_
          exact hK4
        · rw [if_neg c5] at e4
          refine RM.blk [(1, 2, 0, .null), (2, 0, 0, .null), (3, 12, 20, .null), (1, 3, 0, .null)] (pc' := 115) (L' := [some (.ref 76), none, some (.int x4.1), some (.int x4.2)]) (st' := [.int x4.2, .ref 89, .int x4.1]) (σ1 := σ) (by decide +kernel) rfl ?_
          obtain ⟨g6, e4⟩ := og_some e4
          refine RM.iald (q := 89) (n := 10) (by decide +kernel) rfl (vin_of g6) ?_
          refine RM.blk [(5, 0, 0, .null), (4, 2, 0, .null), (10, 3, 0, .int 1), (23, 0, 0, .null)] (pc' := 101) (L' := [some (.ref 76), none, some (.int (x4.1 + (σ 89 (ix x4.2)))), some (.int (x4.2 + 1))]) (st' := []) (σ1 := σ) (by decide +kernel) rfl ?_
          obtain rfl := Option.some.inj e4
          refine RN.dropB [true, false, true, true] rfl ?_
          exact ih4 ((x4.1 + (σ 89 (ix x4.2))), (x4.2 + 1)) _ hy4 hK4
    obtain ⟨y4, hl4, h⟩ := ob_some h
    refine RN.dropB [true, false, true, true] rfl ?_
    refine hL4 FU (0, 0) y4 hl4 ?_
    refine RM.blk [(1, 2, 0, .null)] (pc' := 125) (L' := [none, none, some (.int y4), none]) (st' := [.int y4]) (σ1 := σ) (by decide +kernel) rfl ?_
    obtain rfl := (Option.some.inj h)
    exact RM.reti (by decide +kernel) rfl
  · rw [tsS_at (j := 8) c1 rfl rfl] at h
    refine RM.blk [(0, 0, 0, .int 0), (4, 3, 0, .null)] (pc' := 128) (L' := [some (.ref 76), some (.int p0), some (.int 0), some (.int 0)]) (st' := []) (σ1 := σ) (by decide +kernel) rfl ?_
    have hL7 : ∀ (n : Nat) (x7 : Int32 × Int32) (y7 : Int32), lpW (L_Ref_count_128 σ) n x7 = some y7 → RN 2 M_Ref_count (some (.int rr)) σ 169 [some (.ref 76), none, some (.int y7), none] [] σ → RN 2 M_Ref_count (some (.int rr)) σ 128 [some (.ref 76), none, some (.int x7.1), some (.int x7.2)] [] σ := by
      intro n
      induction n with
      | zero => intro x7 y7 hy7; cases hy7
      | succ n ih7 =>
        intro x7 y7 hy7 hK7
        obtain ⟨z7, e7, hy7⟩ := ob_some hy7
        unfold L_Ref_count_128 at e7
        refine RM.blk [(1, 3, 0, .null), (2, 0, 0, .null), (3, 12, 10, .null)] (pc' := 133) (L' := [some (.ref 76), none, some (.int x7.1), some (.int x7.2)]) (st' := [.int (σ 76 10), .int x7.2]) (σ1 := σ) (by decide +kernel) rfl ?_
        refine RM.icmp_ge (tgt := 169) (by decide +kernel) (fun c8 => ?_) (fun c8 => ?_)
        · rw [if_pos c8] at e7
          obtain rfl := Option.some.inj e7
          obtain rfl := Option.some.inj (show some (x7.1 : Int32) = some y7 from hy7)
          refine RN.dropB [true, false, true, false] rfl ?_
          exact hK7
        · rw [if_neg c8] at e7
          refine RM.blk [(1, 2, 0, .null), (2, 0, 0, .null), (3, 12, 5, .null), (2, 0, 0, .null), (3, 12, 14, .null), (1, 3, 0, .null)] (pc' := 146) (L' := [some (.ref 76), none, some (.int x7.1), some (.int x7.2)]) (st' := [.int x7.2, .ref 85, .ref 80, .int x7.1]) (σ1 := σ) (by decide +kernel) rfl ?_
          obtain ⟨g9, e7⟩ := og_some e7
          refine RM.iald (q := 85) (n := 240) (by decide +kernel) rfl (vin_of g9) ?_
          obtain ⟨g10, e7⟩ := og_some e7
          refine RM.zald (q := 80) (n := 8) (by decide +kernel) rfl (vin_of g10) ?_
          refine RM.if_eq (tgt := 160) (by decide +kernel) (fun c11 => ?_) (fun c11 => ?_)
          · rw [if_pos c11] at e7
            refine RM.blk [(0, 0, 0, .int 0), (5, 0, 0, .null), (4, 2, 0, .null), (10, 3, 0, .int 1), (23, 0, 0, .null)] (pc' := 128) (L' := [some (.ref 76), none, some (.int (x7.1 + 0)), some (.int (x7.2 + 1))]) (st' := []) (σ1 := σ) (by decide +kernel) rfl ?_
            obtain rfl := Option.some.inj e7
            refine RN.dropB [true, false, true, true] rfl ?_
            exact ih7 ((x7.1 + 0), (x7.2 + 1)) _ hy7 hK7
          · rw [if_neg c11] at e7
            refine RM.blk [(2, 0, 0, .null), (3, 12, 13, .null), (1, 3, 0, .null)] (pc' := 156) (L' := [some (.ref 76), none, some (.int x7.1), some (.int x7.2)]) (st' := [.int x7.2, .ref 84, .int x7.1]) (σ1 := σ) (by decide +kernel) rfl ?_
            obtain ⟨g12, e7⟩ := og_some e7
            refine RM.iald (q := 84) (n := 240) (by decide +kernel) rfl (vin_of g12) ?_
            refine RM.blk [(23, 0, 0, .null), (5, 0, 0, .null), (4, 2, 0, .null), (10, 3, 0, .int 1), (23, 0, 0, .null)] (pc' := 128) (L' := [some (.ref 76), none, some (.int (x7.1 + (σ 84 (ix x7.2)))), some (.int (x7.2 + 1))]) (st' := []) (σ1 := σ) (by decide +kernel) rfl ?_
            obtain rfl := Option.some.inj e7
            refine RN.dropB [true, false, true, true] rfl ?_
            exact ih7 ((x7.1 + (σ 84 (ix x7.2))), (x7.2 + 1)) _ hy7 hK7
    obtain ⟨y7, hl7, h⟩ := ob_some h
    refine RN.dropB [true, false, true, true] rfl ?_
    refine hL7 FU (0, 0) y7 hl7 ?_
    refine RM.blk [(2, 0, 0, .null), (3, 12, 7, .null)] (pc' := 173) (L' := [some (.ref 76), none, some (.int y7), none]) (st' := [.int (σ 76 7)]) (σ1 := σ) (by decide +kernel) rfl ?_
    refine RM.if_eq (tgt := 180) (by decide +kernel) (fun c13 => ?_) (fun c13 => ?_)
    · rw [if_pos c13] at h
      refine RM.blk [(0, 0, 0, .int (-3))] (pc' := 182) (L' := [some (.ref 76), none, some (.int y7), none]) (st' := [.int (-3)]) (σ1 := σ) (by decide +kernel) rfl ?_
      obtain rfl := (Option.some.inj h)
      exact RM.reti (by decide +kernel) rfl
    · rw [if_neg c13] at h
      refine RM.blk [(1, 2, 0, .null), (23, 0, 0, .null)] (pc' := 182) (L' := [some (.ref 76), none, some (.int y7), none]) (st' := [.int y7]) (σ1 := σ) (by decide +kernel) rfl ?_
      obtain rfl := (Option.some.inj h)
      exact RM.reti (by decide +kernel) rfl
  · rw [tsS_out c1 rfl] at h
    refine RM.blk [(0, 0, 0, .int (-2))] (pc' := 185) (L' := [some (.ref 76), some (.int p0), some (.int 0), none]) (st' := [.int (-2)]) (σ1 := σ) (by decide +kernel) rfl ?_
    obtain rfl := (Option.some.inj h)
    exact RM.reti (by decide +kernel) rfl
def M_Ref_digest : MI := (yX12_digest, cX12_digest, 5, some .long, 12)
theorem mk_Ref_digest : mOK M_Ref_digest 0 = true := by decide +kernel
set_option maxRecDepth 100000 in
set_option maxHeartbeats 4000000 in
theorem s_Ref_digest (σ : SG) (rr : Int64) (h : F_Ref_digest σ = some rr) : SpN 3 M_Ref_digest [.ref 76] σ (some (.long rr)) σ := by
  unfold F_Ref_digest at h
  refine Sp.of mk_Ref_digest rfl (Nat.le_of_ble_eq_true rfl) ?_
  refine RM.blk [(0, 0, 0, .long 149), (21, 1, 0, .null), (0, 0, 0, .int 0), (4, 3, 0, .null)] (pc' := 6) (L' := [some (.ref 76), some (.long 149), none, some (.int 0), none]) (st' := []) (σ1 := σ) (by decide +kernel) rfl ?_
  have hL1 : ∀ (n : Nat) (x1 : Int64 × Int32) (y1 : Int64), lpW (L_Ref_digest_6 σ) n x1 = some y1 → RN 3 M_Ref_digest (some (.long rr)) σ 31 [some (.ref 76), some (.long y1), none, none, none] [] σ → RN 3 M_Ref_digest (some (.long rr)) σ 6 [some (.ref 76), some (.long x1.1), none, some (.int x1.2), none] [] σ := by
    intro n
    induction n with
    | zero => intro x1 y1 hy1; cases hy1
    | succ n ih1 =>
      intro x1 y1 hy1 hK1
      obtain ⟨z1, e1, hy1⟩ := ob_some hy1
      unfold L_Ref_digest_6 at e1
      refine RM.blk [(1, 3, 0, .null), (0, 0, 0, .int 9)] (pc' := 9) (L' := [some (.ref 76), some (.long x1.1), none, some (.int x1.2), none]) (st' := [.int 9, .int x1.2]) (σ1 := σ) (by decide +kernel) rfl ?_
      refine RM.icmp_ge (tgt := 31) (by decide +kernel) (fun c2 => ?_) (fun c2 => ?_)
      · rw [if_pos c2] at e1
        obtain rfl := Option.some.inj e1
        obtain rfl := Option.some.inj (show some (x1.1 : Int64) = some y1 from hy1)
        refine RN.dropB [true, true, false, false, false] rfl ?_
        exact hK1
      · rw [if_neg c2] at e1
        refine RM.blk [(0, 0, 0, .long 31), (20, 1, 0, .null), (19, 0, 0, .null), (2, 0, 0, .null), (1, 3, 0, .null)] (pc' := 19) (L' := [some (.ref 76), some (.long x1.1), none, some (.int x1.2), none]) (st' := [.int x1.2, .ref 76, .long (31 * x1.1)]) (σ1 := σ) (by decide +kernel) rfl ?_
        obtain ⟨v3, hv3, e1⟩ := ob_some e1
        refine RN.callV [.int x1.2] (s_Ref_count σ x1.2 v3 hv3) [.long (31 * x1.1)] (pc3 := 22) (st3 := [.int v3, .long (31 * x1.1)]) (by decide +kernel) mk_Ref_count (by decide) ?_
        refine RM.blk [(17, 0, 0, .null), (18, 0, 0, .null), (21, 1, 0, .null), (10, 3, 0, .int 1), (23, 0, 0, .null)] (pc' := 6) (L' := [some (.ref 76), some (.long ((31 * x1.1) + v3.toInt64)), none, some (.int (x1.2 + 1)), none]) (st' := []) (σ1 := σ) (by decide +kernel) rfl ?_
        obtain rfl := Option.some.inj e1
        refine RN.dropB [true, true, false, true, false] rfl ?_
        exact ih1 (((31 * x1.1) + v3.toInt64), (x1.2 + 1)) _ hy1 hK1
  obtain ⟨y1, hl1, h⟩ := ob_some h
  refine RN.dropB [true, true, false, true, false] rfl ?_
  refine hL1 FU (149, 0) y1 hl1 ?_
  refine RM.blk [(0, 0, 0, .int 0), (4, 3, 0, .null)] (pc' := 33) (L' := [some (.ref 76), some (.long y1), none, some (.int 0), none]) (st' := []) (σ1 := σ) (by decide +kernel) rfl ?_
  have hL4 : ∀ (n : Nat) (x4 : Int64 × Int32) (y4 : Int64), lpW (L_Ref_digest_33 σ) n x4 = some y4 → RN 3 M_Ref_digest (some (.long rr)) σ 85 [some (.ref 76), some (.long y4), none, none, none] [] σ → RN 3 M_Ref_digest (some (.long rr)) σ 33 [some (.ref 76), some (.long x4.1), none, some (.int x4.2), none] [] σ := by
    intro n
    induction n with
    | zero => intro x4 y4 hy4; cases hy4
    | succ n ih4 =>
      intro x4 y4 hy4 hK4
      obtain ⟨z4, e4, hy4⟩ := ob_some hy4
      unfold L_Ref_digest_33 at e4
      refine RM.blk [(1, 3, 0, .null), (2, 0, 0, .null), (3, 12, 1, .null)] (pc' := 38) (L' := [some (.ref 76), some (.long x4.1), none, some (.int x4.2), none]) (st' := [.int (σ 76 1), .int x4.2]) (σ1 := σ) (by decide +kernel) rfl ?_
      refine RM.icmp_ge (tgt := 85) (by decide +kernel) (fun c5 => ?_) (fun c5 => ?_)
      · rw [if_pos c5] at e4
        obtain rfl := Option.some.inj e4
        obtain rfl := Option.some.inj (show some (x4.1 : Int64) = some y4 from hy4)
        refine RN.dropB [true, true, false, false, false] rfl ?_
        exact hK4
      · rw [if_neg c5] at e4
        refine RM.blk [(0, 0, 0, .int 0), (4, 4, 0, .null)] (pc' := 44) (L' := [some (.ref 76), some (.long x4.1), none, some (.int x4.2), some (.int 0)]) (st' := []) (σ1 := σ) (by decide +kernel) rfl ?_
        have hL6 : ∀ (n : Nat) (x6 : Int64 × Int32) (y6 : Int64), lpW (L_Ref_digest_44 σ x4.2) n x6 = some y6 → RN 3 M_Ref_digest (some (.long rr)) σ 79 [some (.ref 76), some (.long y6), none, some (.int x4.2), none] [] σ → RN 3 M_Ref_digest (some (.long rr)) σ 44 [some (.ref 76), some (.long x6.1), none, some (.int x4.2), some (.int x6.2)] [] σ := by
          intro n
          induction n with
          | zero => intro x6 y6 hy6; cases hy6
          | succ n ih6 =>
            intro x6 y6 hy6 hK6
            obtain ⟨z6, e6, hy6⟩ := ob_some hy6
            unfold L_Ref_digest_44 at e6
            refine RM.blk [(1, 4, 0, .null), (2, 0, 0, .null), (3, 12, 0, .null)] (pc' := 50) (L' := [some (.ref 76), some (.long x6.1), none, some (.int (x4.2)), some (.int x6.2)]) (st' := [.int (σ 76 0), .int x6.2]) (σ1 := σ) (by decide +kernel) rfl ?_
            refine RM.icmp_ge (tgt := 79) (by decide +kernel) (fun c7 => ?_) (fun c7 => ?_)
            · rw [if_pos c7] at e6
              obtain rfl := Option.some.inj e6
              obtain rfl := Option.some.inj (show some (x6.1 : Int64) = some y6 from hy6)
              refine RN.dropB [true, true, false, true, false] rfl ?_
              exact hK6
            · rw [if_neg c7] at e6
              refine RM.blk [(0, 0, 0, .long 31), (20, 1, 0, .null), (19, 0, 0, .null), (2, 0, 0, .null), (3, 12, 2, .null), (0, 0, 0, .int 24), (1, 3, 0, .null), (7, 0, 0, .null), (1, 4, 0, .null), (5, 0, 0, .null)] (pc' := 69) (L' := [some (.ref 76), some (.long x6.1), none, some (.int (x4.2)), some (.int x6.2)]) (st' := [.int ((24 * x4.2) + x6.2), .ref 77, .long (31 * x6.1)]) (σ1 := σ) (by decide +kernel) rfl ?_
              obtain ⟨g8, e6⟩ := og_some e6
              refine RM.iald (q := 77) (n := 240) (by decide +kernel) rfl (vin_of g8) ?_
              refine RM.blk [(17, 0, 0, .null), (18, 0, 0, .null), (21, 1, 0, .null), (10, 4, 0, .int 1), (23, 0, 0, .null)] (pc' := 44) (L' := [some (.ref 76), some (.long ((31 * x6.1) + (σ 77 (ix ((24 * x4.2) + x6.2))).toInt64)), none, some (.int (x4.2)), some (.int (x6.2 + 1))]) (st' := []) (σ1 := σ) (by decide +kernel) rfl ?_
              obtain rfl := Option.some.inj e6
              refine RN.dropB [true, true, false, true, true] rfl ?_
              exact ih6 (((31 * x6.1) + (σ 77 (ix ((24 * x4.2) + x6.2))).toInt64), (x6.2 + 1)) _ hy6 hK6
        obtain ⟨y6, hl6, e4⟩ := ob_some e4
        refine RN.dropB [true, true, false, true, true] rfl ?_
        refine hL6 FU (x4.1, 0) y6 hl6 ?_
        refine RM.blk [(10, 3, 0, .int 1), (23, 0, 0, .null)] (pc' := 33) (L' := [some (.ref 76), some (.long y6), none, some (.int (x4.2 + 1)), none]) (st' := []) (σ1 := σ) (by decide +kernel) rfl ?_
        obtain rfl := Option.some.inj e4
        refine RN.dropB [true, true, false, true, false] rfl ?_
        exact ih4 (y6, (x4.2 + 1)) _ hy4 hK4
  obtain ⟨y4, hl4, h⟩ := ob_some h
  refine RN.dropB [true, true, false, true, false] rfl ?_
  refine hL4 FU (y1, 0) y4 hl4 ?_
  refine RM.blk [(0, 0, 0, .int 0), (4, 3, 0, .null)] (pc' := 87) (L' := [some (.ref 76), some (.long y4), none, some (.int 0), none]) (st' := []) (σ1 := σ) (by decide +kernel) rfl ?_
  have hL9 : ∀ (n : Nat) (x9 : Int64 × Int32) (y9 : Int64), lpW (L_Ref_digest_87 σ) n x9 = some y9 → RN 3 M_Ref_digest (some (.long rr)) σ 132 [some (.ref 76), some (.long y9), none, none, none] [] σ → RN 3 M_Ref_digest (some (.long rr)) σ 87 [some (.ref 76), some (.long x9.1), none, some (.int x9.2), none] [] σ := by
    intro n
    induction n with
    | zero => intro x9 y9 hy9; cases hy9
    | succ n ih9 =>
      intro x9 y9 hy9 hK9
      obtain ⟨z9, e9, hy9⟩ := ob_some hy9
      unfold L_Ref_digest_87 at e9
      refine RM.blk [(1, 3, 0, .null), (2, 0, 0, .null), (3, 12, 10, .null)] (pc' := 92) (L' := [some (.ref 76), some (.long x9.1), none, some (.int x9.2), none]) (st' := [.int (σ 76 10), .int x9.2]) (σ1 := σ) (by decide +kernel) rfl ?_
      refine RM.icmp_ge (tgt := 132) (by decide +kernel) (fun c10 => ?_) (fun c10 => ?_)
      · rw [if_pos c10] at e9
        obtain rfl := Option.some.inj e9
        obtain rfl := Option.some.inj (show some (x9.1 : Int64) = some y9 from hy9)
        refine RN.dropB [true, true, false, false, false] rfl ?_
        exact hK9
      · rw [if_neg c10] at e9
        refine RM.blk [(0, 0, 0, .int 0), (4, 4, 0, .null)] (pc' := 98) (L' := [some (.ref 76), some (.long x9.1), none, some (.int x9.2), some (.int 0)]) (st' := []) (σ1 := σ) (by decide +kernel) rfl ?_
        have hL11 : ∀ (n : Nat) (x11 : Int64 × Int32) (y11 : Int64), lpW (L_Ref_digest_98 σ x9.2) n x11 = some y11 → RN 3 M_Ref_digest (some (.long rr)) σ 126 [some (.ref 76), some (.long y11), none, some (.int x9.2), none] [] σ → RN 3 M_Ref_digest (some (.long rr)) σ 98 [some (.ref 76), some (.long x11.1), none, some (.int x9.2), some (.int x11.2)] [] σ := by
          intro n
          induction n with
          | zero => intro x11 y11 hy11; cases hy11
          | succ n ih11 =>
            intro x11 y11 hy11 hK11
            obtain ⟨z11, e11, hy11⟩ := ob_some hy11
            unfold L_Ref_digest_98 at e11
            refine RM.blk [(1, 4, 0, .null), (0, 0, 0, .int 7)] (pc' := 102) (L' := [some (.ref 76), some (.long x11.1), none, some (.int (x9.2)), some (.int x11.2)]) (st' := [.int 7, .int x11.2]) (σ1 := σ) (by decide +kernel) rfl ?_
            refine RM.icmp_ge (tgt := 126) (by decide +kernel) (fun c12 => ?_) (fun c12 => ?_)
            · rw [if_pos c12] at e11
              obtain rfl := Option.some.inj e11
              obtain rfl := Option.some.inj (show some (x11.1 : Int64) = some y11 from hy11)
              refine RN.dropB [true, true, false, true, false] rfl ?_
              exact hK11
            · rw [if_neg c12] at e11
              refine RM.blk [(0, 0, 0, .long 31), (20, 1, 0, .null), (19, 0, 0, .null), (2, 0, 0, .null), (1, 3, 0, .null), (1, 4, 0, .null)] (pc' := 114) (L' := [some (.ref 76), some (.long x11.1), none, some (.int (x9.2)), some (.int x11.2)]) (st' := [.int x11.2, .int (x9.2), .ref 76, .long (31 * x11.1)]) (σ1 := σ) (by decide +kernel) rfl ?_
              obtain ⟨v13, hv13, e11⟩ := ob_some e11
              refine RN.callV [.int (x9.2), .int x11.2] (s_Ref_cube σ (x9.2) x11.2 v13 hv13) [.long (31 * x11.1)] (pc3 := 117) (st3 := [.int v13, .long (31 * x11.1)]) (by decide +kernel) mk_Ref_cube (by decide) ?_
              refine RM.blk [(17, 0, 0, .null), (18, 0, 0, .null), (21, 1, 0, .null), (10, 4, 0, .int 1), (23, 0, 0, .null)] (pc' := 98) (L' := [some (.ref 76), some (.long ((31 * x11.1) + v13.toInt64)), none, some (.int (x9.2)), some (.int (x11.2 + 1))]) (st' := []) (σ1 := σ) (by decide +kernel) rfl ?_
              obtain rfl := Option.some.inj e11
              refine RN.dropB [true, true, false, true, true] rfl ?_
              exact ih11 (((31 * x11.1) + v13.toInt64), (x11.2 + 1)) _ hy11 hK11
        obtain ⟨y11, hl11, e9⟩ := ob_some e9
        refine RN.dropB [true, true, false, true, true] rfl ?_
        refine hL11 FU (x9.1, 0) y11 hl11 ?_
        refine RM.blk [(10, 3, 0, .int 1), (23, 0, 0, .null)] (pc' := 87) (L' := [some (.ref 76), some (.long y11), none, some (.int (x9.2 + 1)), none]) (st' := []) (σ1 := σ) (by decide +kernel) rfl ?_
        obtain rfl := Option.some.inj e9
        refine RN.dropB [true, true, false, true, false] rfl ?_
        exact ih9 (y11, (x9.2 + 1)) _ hy9 hK9
  obtain ⟨y9, hl9, h⟩ := ob_some h
  refine RN.dropB [true, true, false, true, false] rfl ?_
  refine hL9 FU (y4, 0) y9 hl9 ?_
  refine RM.blk [(0, 0, 0, .int 0), (4, 3, 0, .null)] (pc' := 134) (L' := [some (.ref 76), some (.long y9), none, some (.int 0), none]) (st' := []) (σ1 := σ) (by decide +kernel) rfl ?_
  have hL14 : ∀ (n : Nat) (x14 : Int64 × Int32) (y14 : Int64), lpW (L_Ref_digest_134 σ) n x14 = some y14 → RN 3 M_Ref_digest (some (.long rr)) σ 162 [none, some (.long y14), none, none, none] [] σ → RN 3 M_Ref_digest (some (.long rr)) σ 134 [some (.ref 76), some (.long x14.1), none, some (.int x14.2), none] [] σ := by
    intro n
    induction n with
    | zero => intro x14 y14 hy14; cases hy14
    | succ n ih14 =>
      intro x14 y14 hy14 hK14
      obtain ⟨z14, e14, hy14⟩ := ob_some hy14
      unfold L_Ref_digest_134 at e14
      refine RM.blk [(1, 3, 0, .null), (2, 0, 0, .null), (3, 12, 18, .null)] (pc' := 139) (L' := [some (.ref 76), some (.long x14.1), none, some (.int x14.2), none]) (st' := [.int (σ 76 18), .int x14.2]) (σ1 := σ) (by decide +kernel) rfl ?_
      refine RM.icmp_ge (tgt := 162) (by decide +kernel) (fun c15 => ?_) (fun c15 => ?_)
      · rw [if_pos c15] at e14
        obtain rfl := Option.some.inj e14
        obtain rfl := Option.some.inj (show some (x14.1 : Int64) = some y14 from hy14)
        refine RN.dropB [false, true, false, false, false] rfl ?_
        exact hK14
      · rw [if_neg c15] at e14
        refine RM.blk [(0, 0, 0, .long 31), (20, 1, 0, .null), (19, 0, 0, .null), (2, 0, 0, .null), (3, 12, 20, .null), (1, 3, 0, .null)] (pc' := 152) (L' := [some (.ref 76), some (.long x14.1), none, some (.int x14.2), none]) (st' := [.int x14.2, .ref 89, .long (31 * x14.1)]) (σ1 := σ) (by decide +kernel) rfl ?_
        obtain ⟨g16, e14⟩ := og_some e14
        refine RM.iald (q := 89) (n := 10) (by decide +kernel) rfl (vin_of g16) ?_
        refine RM.blk [(17, 0, 0, .null), (18, 0, 0, .null), (21, 1, 0, .null), (10, 3, 0, .int 1), (23, 0, 0, .null)] (pc' := 134) (L' := [some (.ref 76), some (.long ((31 * x14.1) + (σ 89 (ix x14.2)).toInt64)), none, some (.int (x14.2 + 1)), none]) (st' := []) (σ1 := σ) (by decide +kernel) rfl ?_
        obtain rfl := Option.some.inj e14
        refine RN.dropB [true, true, false, true, false] rfl ?_
        exact ih14 (((31 * x14.1) + (σ 89 (ix x14.2)).toInt64), (x14.2 + 1)) _ hy14 hK14
  obtain ⟨y14, hl14, h⟩ := ob_some h
  refine RN.dropB [true, true, false, true, false] rfl ?_
  refine hL14 FU (y9, 0) y14 hl14 ?_
  refine RM.blk [(20, 1, 0, .null)] (pc' := 163) (L' := [none, some (.long y14), none, none, none]) (st' := [.long y14]) (σ1 := σ) (by decide +kernel) rfl ?_
  obtain rfl := (Option.some.inj h)
  exact RM.retl (by decide +kernel) rfl
