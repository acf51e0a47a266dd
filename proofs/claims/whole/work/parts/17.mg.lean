/-! methods: Ref_deal, Ref_days, Ref_dealt, Ref_count, Ref_digest -/
def M_Ref_deal : MI := (yX12_deal, cX12_deal, 7, some .boolean, 12)
theorem mk_Ref_deal : mOK M_Ref_deal 0 = true := by decide +kernel
def L_Ref_deal_9 (σ : SG) (x : Bool × Int32) : Option ((Bool × Int32) ⊕ (Bool)) := (if ((up σ 76 31 0) 76 21) ≤ x.2 then some (.inr x.1) else (if x.1 = true then some (.inl (true, (x.2 + 1))) else (og (vin x.2 4) ((if ((up σ 76 31 0) 91 (ix x.2)) = 0 then some (.inl (false, (x.2 + 1))) else some (.inl (true, (x.2 + 1))))))))
def L_Ref_deal_44 (k1 : Bool) (x : Int32 × SG) : Option ((Int32 × SG) ⊕ ((SG) ⊕ (Bool × SG))) := (if (x.2 76 17) ≤ x.1 then some (.inr (.inl x.2)) else (ob (F_Ref_sumOf x.2 x.1 false) (fun v8 => (if v8 ≤ 0 then some (.inl ((x.1 + 1), x.2)) else (if (x.2 76 31) = 9 then some (.inr (.inr (false, x.2))) else (ob (F_Ref_hasFace x.2 x.1) (fun v11 => (if v11 = true then (if k1 = true then (og (vin (x.2 76 31) 9) ((nm (up (up x.2 98 (ix (x.2 76 31)) x.1) 76 31 (((up x.2 98 (ix (x.2 76 31)) x.1) 76 31) + 1)) (fun s17 => some (.inl ((x.1 + 1), s17)))))) else some (.inr (.inr (false, x.2)))) else (og (vin (x.2 76 31) 9) ((nm (up (up x.2 98 (ix (x.2 76 31)) x.1) 76 31 (((up x.2 98 (ix (x.2 76 31)) x.1) 76 31) + 1)) (fun s14 => some (.inl ((x.1 + 1), s14))))))))))))))
def L_Ref_deal_130 (y6 : SG) (x : Int32 × Int32) : Option ((Int32 × Int32) ⊕ (Int32)) := (if (y6 76 31) ≤ x.2 then some (.inr x.1) else some (.inl ((x.1 * (y6 76 21)), (x.2 + 1))))
def L_Ref_deal_153 (x : Int32 × SG) : Option ((Int32 × SG) ⊕ (SG)) := (if (x.2 76 31) ≤ x.1 then some (.inr x.2) else (og (vin x.1 9) ((ob (F_Ref_sumOf x.2 (x.2 98 (ix x.1)) false) (fun v25 => (og (vin x.1 9) ((og (vin x.1 9) ((ob (F_Ref_hasFace (up x.2 100 (ix x.1) v25) ((up x.2 100 (ix x.1) v25) 98 (ix x.1))) (fun v28 => (og (vin x.1 9) ((nm (up (up x.2 100 (ix x.1) v25) 101 (ix x.1) (bI v28)) (fun s30 => some (.inl ((x.1 + 1), s30)))))))))))))))))
def L_Ref_deal_255 (k3 : Int32) (x : Int32 × Int32 × SG) : Option ((Int32 × Int32 × SG) ⊕ (SG)) := (if (x.2.2 76 31) ≤ x.2.1 then some (.inr x.2.2) else (og (nz (x.2.2 76 21)) ((og (nz (x.1 / (x.2.2 76 21))) ((og (nz (x.2.2 76 21)) ((og (vin x.2.1 9) ((nm (up x.2.2 99 (ix x.2.1) ((k3 / (x.1 / (x.2.2 76 21))) - (k3 / (x.1 / (x.2.2 76 21))) / (x.2.2 76 21) * (x.2.2 76 21))) (fun s42 => some (.inl ((x.1 / (x.2.2 76 21)), (x.2.1 + 1), s42)))))))))))))
def L_Ref_deal_207 (k2 : Int32) (x : Int32 × SG) : Option ((Int32 × SG) ⊕ (SG)) := (if k2 ≤ x.1 then some (.inr x.2) else (ob (F_Ref_greatestOf x.2 x.1 (k2)) (fun v33 => (if v33.1 = (-1) then some (.inl ((x.1 + 1), v33.2)) else (if (v33.2 76 33) = (-1) then (ob (lpW (L_Ref_deal_255 x.1) FU (k2, 0, (up v33.2 76 33 v33.1))) (fun y36 => some (.inl ((x.1 + 1), y36)))) else (if (v33.2 76 33) ≤ v33.1 then some (.inl ((x.1 + 1), v33.2)) else (ob (lpW (L_Ref_deal_255 x.1) FU (k2, 0, (up v33.2 76 33 v33.1))) (fun y44 => some (.inl ((x.1 + 1), y44))))))))))
def F_Ref_deal (σ : SG) : Option (Bool × SG) := (ob (lpW (L_Ref_deal_9 σ) FU (false, 0)) (fun y1 => (ob (lpW (L_Ref_deal_44 y1) FU (0, (up σ 76 31 0))) (fun y6 => Sum.elim (fun y6 : SG => (if (y6 76 9) = 0 then some (false, y6) else (if (y6 76 21) = 0 then some (false, y6) else (ob (lpW (L_Ref_deal_130 y6) FU (1, 0)) (fun y20 => (ob (lpW L_Ref_deal_153 FU (0, y6)) (fun y22 => (ob (lpW (L_Ref_deal_207 y20) FU (0, (up y22 76 33 (-1)))) (fun y31 => some (true, y31)))))))))) (fun q6 : Bool × SG => some q6) y6))))
set_option maxRecDepth 100000 in
set_option maxHeartbeats 4000000 in
theorem s_Ref_deal (σ : SG) (rr : Bool) (so : SG) (h : F_Ref_deal σ = some (rr, so)) : SpN 2 M_Ref_deal [.ref 76] σ (some (.int (bI rr))) so := by
  unfold F_Ref_deal at h
  refine Sp.of mk_Ref_deal rfl (Nat.le_of_ble_eq_true rfl) ?_
  refine RM.blk [(2, 0, 0, .null), (0, 0, 0, .int 0), (15, 12, 31, .null), (0, 0, 0, .int 0), (4, 1, 0, .null), (0, 0, 0, .int 0), (4, 2, 0, .null)] (pc' := 9) (L' := [some (.ref 76), some (.int (bI false)), some (.int 0), none, none, none, none]) (st' := []) (σ1 := (up σ 76 31 0)) (by decide +kernel) rfl ?_
  have hL1 : ∀ (n : Nat) (x1 : Bool × Int32) (y1 : Bool), lpW (L_Ref_deal_9 σ) n x1 = some y1 → RN 2 M_Ref_deal (some (.int (bI rr))) so 42 [some (.ref 76), some (.int (bI y1)), none, none, none, none, none] [] (up σ 76 31 0) → RN 2 M_Ref_deal (some (.int (bI rr))) so 9 [some (.ref 76), some (.int (bI x1.1)), some (.int x1.2), none, none, none, none] [] (up σ 76 31 0) := by
    intro n
    induction n with
    | zero => intro x1 y1 hy1; cases hy1
    | succ n ih1 =>
      intro x1 y1 hy1 hK1
      obtain ⟨z1, e1, hy1⟩ := ob_some hy1
      unfold L_Ref_deal_9 at e1
      refine RM.blk [(1, 2, 0, .null), (2, 0, 0, .null), (3, 12, 21, .null)] (pc' := 14) (L' := [some (.ref 76), some (.int (bI x1.1)), some (.int x1.2), none, none, none, none]) (st' := [.int ((up σ 76 31 0) 76 21), .int x1.2]) (σ1 := (up σ 76 31 0)) (by decide +kernel) rfl ?_
      refine RM.icmp_ge (tgt := 42) (by decide +kernel) (fun c2 => ?_) (fun c2 => ?_)
      · rw [if_pos c2] at e1
        obtain rfl := Option.some.inj e1
        obtain rfl := Option.some.inj (show some (x1.1 : Bool) = some y1 from hy1)
        refine RN.dropB [true, true, false, false, false, false, false] rfl ?_
        exact hK1
      · rw [if_neg c2] at e1
        refine RM.blk [(1, 1, 0, .null)] (pc' := 18) (L' := [some (.ref 76), some (.int (bI x1.1)), some (.int x1.2), none, none, none, none]) (st' := [.int (bI x1.1)]) (σ1 := (up σ 76 31 0)) (by decide +kernel) rfl ?_
        refine RM.zne (tgt := 30) (by decide +kernel) (fun c3 => ?_) (fun c3 => ?_)
        · rw [if_pos c3] at e1
          refine RM.blk [(0, 0, 0, .int 1), (23, 0, 0, .null), (4, 1, 0, .null), (10, 2, 0, .int 1), (23, 0, 0, .null)] (pc' := 9) (L' := [some (.ref 76), some (.int (bI true)), some (.int (x1.2 + 1)), none, none, none, none]) (st' := []) (σ1 := (up σ 76 31 0)) (by decide +kernel) rfl ?_
          obtain rfl := Option.some.inj e1
          refine RN.dropB [true, true, true, false, false, false, false] rfl ?_
          exact ih1 (true, (x1.2 + 1)) _ hy1 hK1
        · rw [if_neg (bf c3)] at e1
          refine RM.blk [(2, 0, 0, .null), (3, 12, 23, .null), (1, 2, 0, .null)] (pc' := 26) (L' := [some (.ref 76), some (.int (bI x1.1)), some (.int x1.2), none, none, none, none]) (st' := [.int x1.2, .ref 91]) (σ1 := (up σ 76 31 0)) (by decide +kernel) rfl ?_
          obtain ⟨g4, e1⟩ := og_some e1
          refine RM.zald (q := 91) (n := 4) (by decide +kernel) rfl (vin_of g4) ?_
          refine RM.if_eq (tgt := 34) (by decide +kernel) (fun c5 => ?_) (fun c5 => ?_)
          · rw [if_pos c5] at e1
            refine RM.blk [(0, 0, 0, .int 0), (4, 1, 0, .null), (10, 2, 0, .int 1), (23, 0, 0, .null)] (pc' := 9) (L' := [some (.ref 76), some (.int (bI false)), some (.int (x1.2 + 1)), none, none, none, none]) (st' := []) (σ1 := (up σ 76 31 0)) (by decide +kernel) rfl ?_
            obtain rfl := Option.some.inj e1
            refine RN.dropB [true, true, true, false, false, false, false] rfl ?_
            exact ih1 (false, (x1.2 + 1)) _ hy1 hK1
          · rw [if_neg c5] at e1
            refine RM.blk [(0, 0, 0, .int 1), (23, 0, 0, .null), (4, 1, 0, .null), (10, 2, 0, .int 1), (23, 0, 0, .null)] (pc' := 9) (L' := [some (.ref 76), some (.int (bI true)), some (.int (x1.2 + 1)), none, none, none, none]) (st' := []) (σ1 := (up σ 76 31 0)) (by decide +kernel) rfl ?_
            obtain rfl := Option.some.inj e1
            refine RN.dropB [true, true, true, false, false, false, false] rfl ?_
            exact ih1 (true, (x1.2 + 1)) _ hy1 hK1
  obtain ⟨y1, hl1, h⟩ := ob_some h
  refine RN.dropB [true, true, true, false, false, false, false] rfl ?_
  refine hL1 FU (false, 0) y1 hl1 ?_
  refine RM.blk [(0, 0, 0, .int 0), (4, 2, 0, .null)] (pc' := 44) (L' := [some (.ref 76), some (.int (bI y1)), some (.int 0), none, none, none, none]) (st' := []) (σ1 := (up σ 76 31 0)) (by decide +kernel) rfl ?_
  have hL6 : ∀ (n : Nat) (x6 : Int32 × SG) (y6 : (SG) ⊕ (Bool × SG)), lpW (L_Ref_deal_44 y1) n x6 = some y6 → Sum.elim (fun y6 : SG => RN 2 M_Ref_deal (some (.int (bI rr))) so 110 [some (.ref 76), none, none, none, none, none, none] [] y6) (fun q : Bool × SG => q = (rr, so)) y6 → RN 2 M_Ref_deal (some (.int (bI rr))) so 44 [some (.ref 76), some (.int (bI y1)), some (.int x6.1), none, none, none, none] [] x6.2 := by
    intro n
    induction n with
    | zero => intro x6 y6 hy6; cases hy6
    | succ n ih6 =>
      intro x6 y6 hy6 hK6
      obtain ⟨z6, e6, hy6⟩ := ob_some hy6
      unfold L_Ref_deal_44 at e6
      refine RM.blk [(1, 2, 0, .null), (2, 0, 0, .null), (3, 12, 17, .null)] (pc' := 49) (L' := [some (.ref 76), some (.int (bI (y1))), some (.int x6.1), none, none, none, none]) (st' := [.int (x6.2 76 17), .int x6.1]) (σ1 := x6.2) (by decide +kernel) rfl ?_
      refine RM.icmp_ge (tgt := 110) (by decide +kernel) (fun c7 => ?_) (fun c7 => ?_)
      · rw [if_pos c7] at e6
        obtain rfl := Option.some.inj e6
        obtain rfl := Option.some.inj (show some ((.inl x6.2) : (SG) ⊕ (Bool × SG)) = some y6 from hy6)
        refine RN.dropB [true, false, false, false, false, false, false] rfl ?_
        exact hK6
      · rw [if_neg c7] at e6
        refine RM.blk [(2, 0, 0, .null), (1, 2, 0, .null), (0, 0, 0, .int 0)] (pc' := 55) (L' := [some (.ref 76), some (.int (bI (y1))), some (.int x6.1), none, none, none, none]) (st' := [.int 0, .int x6.1, .ref 76]) (σ1 := x6.2) (by decide +kernel) rfl ?_
        obtain ⟨v8, hv8, e6⟩ := ob_some e6
        refine RN.callV [.int x6.1, .int (bI false)] (s_Ref_sumOf x6.2 x6.1 false v8 hv8) [] (pc3 := 58) (st3 := [.int v8]) (by decide +kernel) mk_Ref_sumOf (by decide) ?_
        refine RM.if_le (tgt := 104) (by decide +kernel) (fun c9 => ?_) (fun c9 => ?_)
        · rw [if_pos c9] at e6
          refine RM.blk [(10, 2, 0, .int 1), (23, 0, 0, .null)] (pc' := 44) (L' := [some (.ref 76), some (.int (bI (y1))), some (.int (x6.1 + 1)), none, none, none, none]) (st' := []) (σ1 := x6.2) (by decide +kernel) rfl ?_
          obtain rfl := Option.some.inj e6
          refine RN.dropB [true, true, true, false, false, false, false] rfl ?_
          exact ih6 ((x6.1 + 1), x6.2) _ hy6 hK6
        · rw [if_neg c9] at e6
          refine RM.blk [(2, 0, 0, .null), (3, 12, 31, .null), (0, 0, 0, .int 9)] (pc' := 67) (L' := [some (.ref 76), some (.int (bI (y1))), some (.int x6.1), none, none, none, none]) (st' := [.int 9, .int (x6.2 76 31)]) (σ1 := x6.2) (by decide +kernel) rfl ?_
          refine RM.icmp_eq (tgt := 82) (by decide +kernel) (fun c10 => ?_) (fun c10 => ?_)
          · rw [if_pos c10] at e6
            refine RM.blk [(0, 0, 0, .int 0)] (pc' := 83) (L' := [some (.ref 76), some (.int (bI (y1))), some (.int x6.1), none, none, none, none]) (st' := [.int 0]) (σ1 := x6.2) (by decide +kernel) rfl ?_
            obtain rfl := Option.some.inj e6
            obtain rfl := Option.some.inj (show some (.inr (false, x6.2) : (SG) ⊕ (Bool × SG)) = some y6 from hy6)
            obtain ⟨rfl, rfl⟩ := Prod.mk.inj (show ((false, x6.2) : Bool × SG) = (rr, so) from hK6)
            exact RM.retz (z := false) (by decide +kernel) rfl
          · rw [if_neg c10] at e6
            refine RM.blk [(2, 0, 0, .null), (1, 2, 0, .null)] (pc' := 72) (L' := [some (.ref 76), some (.int (bI (y1))), some (.int x6.1), none, none, none, none]) (st' := [.int x6.1, .ref 76]) (σ1 := x6.2) (by decide +kernel) rfl ?_
            obtain ⟨v11, hv11, e6⟩ := ob_some e6
            refine RN.callV [.int x6.1] (s_Ref_hasFace x6.2 x6.1 v11 hv11) [] (pc3 := 75) (st3 := [.int (bI v11)]) (by decide +kernel) mk_Ref_hasFace (by decide) ?_
            refine RM.zeq (tgt := 84) (by decide +kernel) (fun c12 => ?_) (fun c12 => ?_)
            · rw [if_neg (bf c12)] at e6
              refine RM.blk [(2, 0, 0, .null), (3, 12, 30, .null), (2, 0, 0, .null), (3, 12, 31, .null), (1, 2, 0, .null)] (pc' := 93) (L' := [some (.ref 76), some (.int (bI (y1))), some (.int x6.1), none, none, none, none]) (st' := [.int x6.1, .int (x6.2 76 31), .ref 98]) (σ1 := x6.2) (by decide +kernel) rfl ?_
              obtain ⟨g13, e6⟩ := og_some e6
              refine RM.iast (q := 98) (n := 9) (by decide +kernel) rfl (vin_of g13) ?_
              refine RM.blk [(2, 0, 0, .null), (11, 0, 0, .null), (3, 12, 31, .null), (0, 0, 0, .int 1), (5, 0, 0, .null), (15, 12, 31, .null), (10, 2, 0, .int 1), (23, 0, 0, .null)] (pc' := 44) (L' := [some (.ref 76), some (.int (bI (y1))), some (.int (x6.1 + 1)), none, none, none, none]) (st' := []) (σ1 := (up (up x6.2 98 (ix (x6.2 76 31)) x6.1) 76 31 (((up x6.2 98 (ix (x6.2 76 31)) x6.1) 76 31) + 1))) (by decide +kernel) rfl ?_
              generalize ns14 : (up (up x6.2 98 (ix (x6.2 76 31)) x6.1) 76 31 (((up x6.2 98 (ix (x6.2 76 31)) x6.1) 76 31) + 1)) = s14 at e6 ⊢
              replace e6 := nm_h e6
              obtain rfl := Option.some.inj e6
              refine RN.dropB [true, true, true, false, false, false, false] rfl ?_
              exact ih6 ((x6.1 + 1), s14) _ hy6 hK6
            · rw [if_pos c12] at e6
              refine RM.blk [(1, 1, 0, .null)] (pc' := 79) (L' := [some (.ref 76), some (.int (bI (y1))), some (.int x6.1), none, none, none, none]) (st' := [.int (bI (y1))]) (σ1 := x6.2) (by decide +kernel) rfl ?_
              refine RM.zne (tgt := 84) (by decide +kernel) (fun c15 => ?_) (fun c15 => ?_)
              · rw [if_pos c15] at e6
                refine RM.blk [(2, 0, 0, .null), (3, 12, 30, .null), (2, 0, 0, .null), (3, 12, 31, .null), (1, 2, 0, .null)] (pc' := 93) (L' := [some (.ref 76), some (.int (bI (y1))), some (.int x6.1), none, none, none, none]) (st' := [.int x6.1, .int (x6.2 76 31), .ref 98]) (σ1 := x6.2) (by decide +kernel) rfl ?_
                obtain ⟨g16, e6⟩ := og_some e6
                refine RM.iast (q := 98) (n := 9) (by decide +kernel) rfl (vin_of g16) ?_
                refine RM.blk [(2, 0, 0, .null), (11, 0, 0, .null), (3, 12, 31, .null), (0, 0, 0, .int 1), (5, 0, 0, .null), (15, 12, 31, .null), (10, 2, 0, .int 1), (23, 0, 0, .null)] (pc' := 44) (L' := [some (.ref 76), some (.int (bI (y1))), some (.int (x6.1 + 1)), none, none, none, none]) (st' := []) (σ1 := (up (up x6.2 98 (ix (x6.2 76 31)) x6.1) 76 31 (((up x6.2 98 (ix (x6.2 76 31)) x6.1) 76 31) + 1))) (by decide +kernel) rfl ?_
                generalize ns17 : (up (up x6.2 98 (ix (x6.2 76 31)) x6.1) 76 31 (((up x6.2 98 (ix (x6.2 76 31)) x6.1) 76 31) + 1)) = s17 at e6 ⊢
                replace e6 := nm_h e6
                obtain rfl := Option.some.inj e6
                refine RN.dropB [true, true, true, false, false, false, false] rfl ?_
                exact ih6 ((x6.1 + 1), s17) _ hy6 hK6
              · rw [if_neg (bf c15)] at e6
                refine RM.blk [(0, 0, 0, .int 0)] (pc' := 83) (L' := [some (.ref 76), some (.int (bI (y1))), some (.int x6.1), none, none, none, none]) (st' := [.int 0]) (σ1 := x6.2) (by decide +kernel) rfl ?_
                obtain rfl := Option.some.inj e6
                obtain rfl := Option.some.inj (show some (.inr (false, x6.2) : (SG) ⊕ (Bool × SG)) = some y6 from hy6)
                obtain ⟨rfl, rfl⟩ := Prod.mk.inj (show ((false, x6.2) : Bool × SG) = (rr, so) from hK6)
                exact RM.retz (z := false) (by decide +kernel) rfl
  obtain ⟨y6, hl6, h⟩ := ob_some h
  refine RN.dropB [true, true, true, false, false, false, false] rfl ?_
  refine hL6 FU (0, (up σ 76 31 0)) y6 hl6 ?_
  rcases y6 with y6 | q6
  · simp only [Sum.elim_inl] at h ⊢
    refine RM.blk [(2, 0, 0, .null), (3, 12, 9, .null)] (pc' := 114) (L' := [some (.ref 76), none, none, none, none, none, none]) (st' := [.int (y6 76 9)]) (σ1 := y6) (by decide +kernel) rfl ?_
    refine RM.if_eq (tgt := 124) (by decide +kernel) (fun c18 => ?_) (fun c18 => ?_)
    · rw [if_pos c18] at h
      refine RM.blk [(0, 0, 0, .int 0)] (pc' := 125) (L' := [some (.ref 76), none, none, none, none, none, none]) (st' := [.int 0]) (σ1 := y6) (by decide +kernel) rfl ?_
      obtain ⟨rfl, rfl⟩ := Prod.mk.inj (Option.some.inj h)
      exact RM.retz (z := false) (by decide +kernel) rfl
    · rw [if_neg c18] at h
      refine RM.blk [(2, 0, 0, .null), (3, 12, 21, .null)] (pc' := 121) (L' := [some (.ref 76), none, none, none, none, none, none]) (st' := [.int (y6 76 21)]) (σ1 := y6) (by decide +kernel) rfl ?_
      refine RM.if_ne (tgt := 126) (by decide +kernel) (fun c19 => ?_) (fun c19 => ?_)
      · rw [if_neg c19] at h
        refine RM.blk [(0, 0, 0, .int 1), (4, 2, 0, .null), (0, 0, 0, .int 0), (4, 3, 0, .null)] (pc' := 130) (L' := [some (.ref 76), none, some (.int 1), some (.int 0), none, none, none]) (st' := []) (σ1 := y6) (by decide +kernel) rfl ?_
        have hL20 : ∀ (n : Nat) (x20 : Int32 × Int32) (y20 : Int32), lpW (L_Ref_deal_130 y6) n x20 = some y20 → RN 2 M_Ref_deal (some (.int (bI rr))) so 151 [some (.ref 76), none, some (.int y20), none, none, none, none] [] y6 → RN 2 M_Ref_deal (some (.int (bI rr))) so 130 [some (.ref 76), none, some (.int x20.1), some (.int x20.2), none, none, none] [] y6 := by
          intro n
          induction n with
          | zero => intro x20 y20 hy20; cases hy20
          | succ n ih20 =>
            intro x20 y20 hy20 hK20
            obtain ⟨z20, e20, hy20⟩ := ob_some hy20
            unfold L_Ref_deal_130 at e20
            refine RM.blk [(1, 3, 0, .null), (2, 0, 0, .null), (3, 12, 31, .null)] (pc' := 135) (L' := [some (.ref 76), none, some (.int x20.1), some (.int x20.2), none, none, none]) (st' := [.int (y6 76 31), .int x20.2]) (σ1 := y6) (by decide +kernel) rfl ?_
            refine RM.icmp_ge (tgt := 151) (by decide +kernel) (fun c21 => ?_) (fun c21 => ?_)
            · rw [if_pos c21] at e20
              obtain rfl := Option.some.inj e20
              obtain rfl := Option.some.inj (show some (x20.1 : Int32) = some y20 from hy20)
              refine RN.dropB [true, false, true, false, false, false, false] rfl ?_
              exact hK20
            · rw [if_neg c21] at e20
              refine RM.blk [(1, 2, 0, .null), (2, 0, 0, .null), (3, 12, 21, .null), (7, 0, 0, .null), (4, 2, 0, .null), (10, 3, 0, .int 1), (23, 0, 0, .null)] (pc' := 130) (L' := [some (.ref 76), none, some (.int (x20.1 * (y6 76 21))), some (.int (x20.2 + 1)), none, none, none]) (st' := []) (σ1 := y6) (by decide +kernel) rfl ?_
              obtain rfl := Option.some.inj e20
              refine RN.dropB [true, false, true, true, false, false, false] rfl ?_
              exact ih20 ((x20.1 * (y6 76 21)), (x20.2 + 1)) _ hy20 hK20
        obtain ⟨y20, hl20, h⟩ := ob_some h
        refine RN.dropB [true, false, true, true, false, false, false] rfl ?_
        refine hL20 FU (1, 0) y20 hl20 ?_
        refine RM.blk [(0, 0, 0, .int 0), (4, 3, 0, .null)] (pc' := 153) (L' := [some (.ref 76), none, some (.int y20), some (.int 0), none, none, none]) (st' := []) (σ1 := y6) (by decide +kernel) rfl ?_
        have hL22 : ∀ (n : Nat) (x22 : Int32 × SG) (y22 : SG), lpW L_Ref_deal_153 n x22 = some y22 → RN 2 M_Ref_deal (some (.int (bI rr))) so 200 [some (.ref 76), none, some (.int y20), none, none, none, none] [] y22 → RN 2 M_Ref_deal (some (.int (bI rr))) so 153 [some (.ref 76), none, some (.int y20), some (.int x22.1), none, none, none] [] x22.2 := by
          intro n
          induction n with
          | zero => intro x22 y22 hy22; cases hy22
          | succ n ih22 =>
            intro x22 y22 hy22 hK22
            obtain ⟨z22, e22, hy22⟩ := ob_some hy22
            unfold L_Ref_deal_153 at e22
            refine RM.blk [(1, 3, 0, .null), (2, 0, 0, .null), (3, 12, 31, .null)] (pc' := 158) (L' := [some (.ref 76), none, some (.int (y20)), some (.int x22.1), none, none, none]) (st' := [.int (x22.2 76 31), .int x22.1]) (σ1 := x22.2) (by decide +kernel) rfl ?_
            refine RM.icmp_ge (tgt := 200) (by decide +kernel) (fun c23 => ?_) (fun c23 => ?_)
            · rw [if_pos c23] at e22
              obtain rfl := Option.some.inj e22
              obtain rfl := Option.some.inj (show some (x22.2 : SG) = some y22 from hy22)
              refine RN.dropB [true, false, true, false, false, false, false] rfl ?_
              exact hK22
            · rw [if_neg c23] at e22
              refine RM.blk [(2, 0, 0, .null), (3, 12, 34, .null), (1, 3, 0, .null), (2, 0, 0, .null), (2, 0, 0, .null), (3, 12, 30, .null), (1, 3, 0, .null)] (pc' := 172) (L' := [some (.ref 76), none, some (.int (y20)), some (.int x22.1), none, none, none]) (st' := [.int x22.1, .ref 98, .ref 76, .int x22.1, .ref 100]) (σ1 := x22.2) (by decide +kernel) rfl ?_
              obtain ⟨g24, e22⟩ := og_some e22
              refine RM.iald (q := 98) (n := 9) (by decide +kernel) rfl (vin_of g24) ?_
              refine RM.blk [(0, 0, 0, .int 0)] (pc' := 174) (L' := [some (.ref 76), none, some (.int (y20)), some (.int x22.1), none, none, none]) (st' := [.int 0, .int (x22.2 98 (ix x22.1)), .ref 76, .int x22.1, .ref 100]) (σ1 := x22.2) (by decide +kernel) rfl ?_
              obtain ⟨v25, hv25, e22⟩ := ob_some e22
              refine RN.callV [.int (x22.2 98 (ix x22.1)), .int (bI false)] (s_Ref_sumOf x22.2 (x22.2 98 (ix x22.1)) false v25 hv25) [.int x22.1, .ref 100] (pc3 := 177) (st3 := [.int v25, .int x22.1, .ref 100]) (by decide +kernel) mk_Ref_sumOf (by decide) ?_
              obtain ⟨g26, e22⟩ := og_some e22
              refine RM.iast (q := 100) (n := 9) (by decide +kernel) rfl (vin_of g26) ?_
              refine RM.blk [(2, 0, 0, .null), (3, 12, 35, .null), (1, 3, 0, .null), (2, 0, 0, .null), (2, 0, 0, .null), (3, 12, 30, .null), (1, 3, 0, .null)] (pc' := 189) (L' := [some (.ref 76), none, some (.int (y20)), some (.int x22.1), none, none, none]) (st' := [.int x22.1, .ref 98, .ref 76, .int x22.1, .ref 101]) (σ1 := (up x22.2 100 (ix x22.1) v25)) (by decide +kernel) rfl ?_
              obtain ⟨g27, e22⟩ := og_some e22
              refine RM.iald (q := 98) (n := 9) (by decide +kernel) rfl (vin_of g27) ?_
              obtain ⟨v28, hv28, e22⟩ := ob_some e22
              refine RN.callV [.int ((up x22.2 100 (ix x22.1) v25) 98 (ix x22.1))] (s_Ref_hasFace (up x22.2 100 (ix x22.1) v25) ((up x22.2 100 (ix x22.1) v25) 98 (ix x22.1)) v28 hv28) [.int x22.1, .ref 101] (pc3 := 193) (st3 := [.int (bI v28), .int x22.1, .ref 101]) (by decide +kernel) mk_Ref_hasFace (by decide) ?_
              obtain ⟨g29, e22⟩ := og_some e22
              refine RM.zast (q := 101) (n := 9) (by decide +kernel) rfl (vin_of g29) (bI_nar2 _) ?_
              generalize ns30 : (up (up x22.2 100 (ix x22.1) v25) 101 (ix x22.1) (bI v28)) = s30 at e22 ⊢
              replace e22 := nm_h e22
              refine RM.blk [(10, 3, 0, .int 1), (23, 0, 0, .null)] (pc' := 153) (L' := [some (.ref 76), none, some (.int (y20)), some (.int (x22.1 + 1)), none, none, none]) (st' := []) (σ1 := s30) (by decide +kernel) rfl ?_
              obtain rfl := Option.some.inj e22
              refine RN.dropB [true, false, true, true, false, false, false] rfl ?_
              exact ih22 ((x22.1 + 1), s30) _ hy22 hK22
        obtain ⟨y22, hl22, h⟩ := ob_some h
        refine RN.dropB [true, false, true, true, false, false, false] rfl ?_
        refine hL22 FU (0, y6) y22 hl22 ?_
        refine RM.blk [(2, 0, 0, .null), (0, 0, 0, .int (-1)), (15, 12, 33, .null), (0, 0, 0, .int 0), (4, 3, 0, .null)] (pc' := 207) (L' := [some (.ref 76), none, some (.int y20), some (.int 0), none, none, none]) (st' := []) (σ1 := (up y22 76 33 (-1))) (by decide +kernel) rfl ?_
        have hL31 : ∀ (n : Nat) (x31 : Int32 × SG) (y31 : SG), lpW (L_Ref_deal_207 y20) n x31 = some y31 → RN 2 M_Ref_deal (some (.int (bI rr))) so 301 [none, none, none, none, none, none, none] [] y31 → RN 2 M_Ref_deal (some (.int (bI rr))) so 207 [some (.ref 76), none, some (.int y20), some (.int x31.1), none, none, none] [] x31.2 := by
          intro n
          induction n with
          | zero => intro x31 y31 hy31; cases hy31
          | succ n ih31 =>
            intro x31 y31 hy31 hK31
            obtain ⟨z31, e31, hy31⟩ := ob_some hy31
            unfold L_Ref_deal_207 at e31
            refine RM.blk [(1, 3, 0, .null), (1, 2, 0, .null)] (pc' := 209) (L' := [some (.ref 76), none, some (.int (y20)), some (.int x31.1), none, none, none]) (st' := [.int (y20), .int x31.1]) (σ1 := x31.2) (by decide +kernel) rfl ?_
            refine RM.icmp_ge (tgt := 301) (by decide +kernel) (fun c32 => ?_) (fun c32 => ?_)
            · rw [if_pos c32] at e31
              obtain rfl := Option.some.inj e31
              obtain rfl := Option.some.inj (show some (x31.2 : SG) = some y31 from hy31)
              refine RN.dropB [false, false, false, false, false, false, false] rfl ?_
              exact hK31
            · rw [if_neg c32] at e31
              refine RM.blk [(2, 0, 0, .null), (1, 3, 0, .null), (1, 2, 0, .null)] (pc' := 215) (L' := [some (.ref 76), none, some (.int (y20)), some (.int x31.1), none, none, none]) (st' := [.int (y20), .int x31.1, .ref 76]) (σ1 := x31.2) (by decide +kernel) rfl ?_
              obtain ⟨v33, hv33, e31⟩ := ob_some e31
              refine RN.callV [.int x31.1, .int (y20)] (s_Ref_greatestOf x31.2 x31.1 (y20) v33.1 v33.2 hv33) [] (pc3 := 218) (st3 := [.int v33.1]) (by decide +kernel) mk_Ref_greatestOf (by decide) ?_
              refine RM.blk [(4, 4, 0, .null), (1, 4, 0, .null), (0, 0, 0, .int (-1))] (pc' := 223) (L' := [some (.ref 76), none, some (.int (y20)), some (.int x31.1), some (.int v33.1), none, none]) (st' := [.int (-1), .int v33.1]) (σ1 := v33.2) (by decide +kernel) rfl ?_
              refine RM.icmp_eq (tgt := 295) (by decide +kernel) (fun c34 => ?_) (fun c34 => ?_)
              · rw [if_pos c34] at e31
                refine RM.blk [(10, 3, 0, .int 1), (23, 0, 0, .null)] (pc' := 207) (L' := [some (.ref 76), none, some (.int (y20)), some (.int (x31.1 + 1)), some (.int v33.1), none, none]) (st' := []) (σ1 := v33.2) (by decide +kernel) rfl ?_
                obtain rfl := Option.some.inj e31
                refine RN.dropB [true, false, true, true, false, false, false] rfl ?_
                exact ih31 ((x31.1 + 1), v33.2) _ hy31 hK31
              · rw [if_neg c34] at e31
                refine RM.blk [(2, 0, 0, .null), (3, 12, 33, .null), (0, 0, 0, .int (-1))] (pc' := 231) (L' := [some (.ref 76), none, some (.int (y20)), some (.int x31.1), some (.int v33.1), none, none]) (st' := [.int (-1), .int (v33.2 76 33)]) (σ1 := v33.2) (by decide +kernel) rfl ?_
                refine RM.icmp_eq (tgt := 243) (by decide +kernel) (fun c35 => ?_) (fun c35 => ?_)
                · rw [if_pos c35] at e31
                  refine RM.blk [(2, 0, 0, .null), (1, 4, 0, .null), (15, 12, 33, .null), (1, 2, 0, .null), (4, 5, 0, .null), (0, 0, 0, .int 0), (4, 6, 0, .null)] (pc' := 255) (L' := [some (.ref 76), none, some (.int (y20)), some (.int x31.1), some (.int v33.1), some (.int (y20)), some (.int 0)]) (st' := []) (σ1 := (up v33.2 76 33 v33.1)) (by decide +kernel) rfl ?_
                  have hL36 : ∀ (n : Nat) (x36 : Int32 × Int32 × SG) (y36 : SG), lpW (L_Ref_deal_255 x31.1) n x36 = some y36 → RN 2 M_Ref_deal (some (.int (bI rr))) so 295 [some (.ref 76), none, some (.int (y20)), some (.int x31.1), none, none, none] [] y36 → RN 2 M_Ref_deal (some (.int (bI rr))) so 255 [some (.ref 76), none, some (.int (y20)), some (.int x31.1), none, some (.int x36.1), some (.int x36.2.1)] [] x36.2.2 := by
                    intro n
                    induction n with
                    | zero => intro x36 y36 hy36; cases hy36
                    | succ n ih36 =>
                      intro x36 y36 hy36 hK36
                      obtain ⟨z36, e36, hy36⟩ := ob_some hy36
                      unfold L_Ref_deal_255 at e36
                      refine RM.blk [(1, 6, 0, .null), (2, 0, 0, .null), (3, 12, 31, .null)] (pc' := 261) (L' := [some (.ref 76), none, some (.int (y20)), some (.int (x31.1)), none, some (.int x36.1), some (.int x36.2.1)]) (st' := [.int (x36.2.2 76 31), .int x36.2.1]) (σ1 := x36.2.2) (by decide +kernel) rfl ?_
                      refine RM.icmp_ge (tgt := 295) (by decide +kernel) (fun c37 => ?_) (fun c37 => ?_)
                      · rw [if_pos c37] at e36
                        obtain rfl := Option.some.inj e36
                        obtain rfl := Option.some.inj (show some (x36.2.2 : SG) = some y36 from hy36)
                        refine RN.dropB [true, false, true, true, false, false, false] rfl ?_
                        exact hK36
                      · rw [if_neg c37] at e36
                        refine RM.blk [(1, 5, 0, .null), (2, 0, 0, .null), (3, 12, 21, .null)] (pc' := 270) (L' := [some (.ref 76), none, some (.int (y20)), some (.int (x31.1)), none, some (.int x36.1), some (.int x36.2.1)]) (st' := [.int (x36.2.2 76 21), .int x36.1]) (σ1 := x36.2.2) (by decide +kernel) rfl ?_
                        obtain ⟨g38, e36⟩ := og_some e36
                        refine RM.idiv (by decide +kernel) (nz_of g38) ?_
                        refine RM.blk [(4, 5, 0, .null), (2, 0, 0, .null), (3, 12, 32, .null), (1, 6, 0, .null), (1, 3, 0, .null), (1, 5, 0, .null)] (pc' := 282) (L' := [some (.ref 76), none, some (.int (y20)), some (.int (x31.1)), none, some (.int (x36.1 / (x36.2.2 76 21))), some (.int x36.2.1)]) (st' := [.int (x36.1 / (x36.2.2 76 21)), .int (x31.1), .int x36.2.1, .ref 99]) (σ1 := x36.2.2) (by decide +kernel) rfl ?_
                        obtain ⟨g39, e36⟩ := og_some e36
                        refine RM.idiv (by decide +kernel) (nz_of g39) ?_
                        refine RM.blk [(2, 0, 0, .null), (3, 12, 21, .null)] (pc' := 287) (L' := [some (.ref 76), none, some (.int (y20)), some (.int (x31.1)), none, some (.int (x36.1 / (x36.2.2 76 21))), some (.int x36.2.1)]) (st' := [.int (x36.2.2 76 21), .int (x31.1 / (x36.1 / (x36.2.2 76 21))), .int x36.2.1, .ref 99]) (σ1 := x36.2.2) (by decide +kernel) rfl ?_
                        obtain ⟨g40, e36⟩ := og_some e36
                        refine RM.irem (by decide +kernel) (nz_of g40) ?_
                        obtain ⟨g41, e36⟩ := og_some e36
                        refine RM.iast (q := 99) (n := 9) (by decide +kernel) rfl (vin_of g41) ?_
                        generalize ns42 : (up x36.2.2 99 (ix x36.2.1) ((x31.1 / (x36.1 / (x36.2.2 76 21))) - (x31.1 / (x36.1 / (x36.2.2 76 21))) / (x36.2.2 76 21) * (x36.2.2 76 21))) = s42 at e36 ⊢
                        replace e36 := nm_h e36
                        refine RM.blk [(10, 6, 0, .int 1), (23, 0, 0, .null)] (pc' := 255) (L' := [some (.ref 76), none, some (.int (y20)), some (.int (x31.1)), none, some (.int (x36.1 / (x36.2.2 76 21))), some (.int (x36.2.1 + 1))]) (st' := []) (σ1 := s42) (by decide +kernel) rfl ?_
                        obtain rfl := Option.some.inj e36
                        refine RN.dropB [true, false, true, true, false, true, true] rfl ?_
                        exact ih36 ((x36.1 / (x36.2.2 76 21)), (x36.2.1 + 1), s42) _ hy36 hK36
                  obtain ⟨y36, hl36, e31⟩ := ob_some e31
                  refine RN.dropB [true, false, true, true, false, true, true] rfl ?_
                  refine hL36 FU (y20, 0, (up v33.2 76 33 v33.1)) y36 hl36 ?_
                  refine RM.blk [(10, 3, 0, .int 1), (23, 0, 0, .null)] (pc' := 207) (L' := [some (.ref 76), none, some (.int (y20)), some (.int (x31.1 + 1)), none, none, none]) (st' := []) (σ1 := y36) (by decide +kernel) rfl ?_
                  obtain rfl := Option.some.inj e31
                  refine RN.dropB [true, false, true, true, false, false, false] rfl ?_
                  exact ih31 ((x31.1 + 1), y36) _ hy31 hK31
                · rw [if_neg c35] at e31
                  refine RM.blk [(1, 4, 0, .null), (2, 0, 0, .null), (3, 12, 33, .null)] (pc' := 240) (L' := [some (.ref 76), none, some (.int (y20)), some (.int x31.1), some (.int v33.1), none, none]) (st' := [.int (v33.2 76 33), .int v33.1]) (σ1 := v33.2) (by decide +kernel) rfl ?_
                  refine RM.icmp_ge (tgt := 295) (by decide +kernel) (fun c43 => ?_) (fun c43 => ?_)
                  · rw [if_pos c43] at e31
                    refine RM.blk [(10, 3, 0, .int 1), (23, 0, 0, .null)] (pc' := 207) (L' := [some (.ref 76), none, some (.int (y20)), some (.int (x31.1 + 1)), some (.int v33.1), none, none]) (st' := []) (σ1 := v33.2) (by decide +kernel) rfl ?_
                    obtain rfl := Option.some.inj e31
                    refine RN.dropB [true, false, true, true, false, false, false] rfl ?_
                    exact ih31 ((x31.1 + 1), v33.2) _ hy31 hK31
                  · rw [if_neg c43] at e31
                    refine RM.blk [(2, 0, 0, .null), (1, 4, 0, .null), (15, 12, 33, .null), (1, 2, 0, .null), (4, 5, 0, .null), (0, 0, 0, .int 0), (4, 6, 0, .null)] (pc' := 255) (L' := [some (.ref 76), none, some (.int (y20)), some (.int x31.1), some (.int v33.1), some (.int (y20)), some (.int 0)]) (st' := []) (σ1 := (up v33.2 76 33 v33.1)) (by decide +kernel) rfl ?_
                    have hL44 : ∀ (n : Nat) (x44 : Int32 × Int32 × SG) (y44 : SG), lpW (L_Ref_deal_255 x31.1) n x44 = some y44 → RN 2 M_Ref_deal (some (.int (bI rr))) so 295 [some (.ref 76), none, some (.int (y20)), some (.int x31.1), none, none, none] [] y44 → RN 2 M_Ref_deal (some (.int (bI rr))) so 255 [some (.ref 76), none, some (.int (y20)), some (.int x31.1), none, some (.int x44.1), some (.int x44.2.1)] [] x44.2.2 := by
                      intro n
                      induction n with
                      | zero => intro x44 y44 hy44; cases hy44
                      | succ n ih44 =>
                        intro x44 y44 hy44 hK44
                        obtain ⟨z44, e44, hy44⟩ := ob_some hy44
                        unfold L_Ref_deal_255 at e44
                        refine RM.blk [(1, 6, 0, .null), (2, 0, 0, .null), (3, 12, 31, .null)] (pc' := 261) (L' := [some (.ref 76), none, some (.int (y20)), some (.int (x31.1)), none, some (.int x44.1), some (.int x44.2.1)]) (st' := [.int (x44.2.2 76 31), .int x44.2.1]) (σ1 := x44.2.2) (by decide +kernel) rfl ?_
                        refine RM.icmp_ge (tgt := 295) (by decide +kernel) (fun c45 => ?_) (fun c45 => ?_)
                        · rw [if_pos c45] at e44
                          obtain rfl := Option.some.inj e44
                          obtain rfl := Option.some.inj (show some (x44.2.2 : SG) = some y44 from hy44)
                          refine RN.dropB [true, false, true, true, false, false, false] rfl ?_
                          exact hK44
                        · rw [if_neg c45] at e44
                          refine RM.blk [(1, 5, 0, .null), (2, 0, 0, .null), (3, 12, 21, .null)] (pc' := 270) (L' := [some (.ref 76), none, some (.int (y20)), some (.int (x31.1)), none, some (.int x44.1), some (.int x44.2.1)]) (st' := [.int (x44.2.2 76 21), .int x44.1]) (σ1 := x44.2.2) (by decide +kernel) rfl ?_
                          obtain ⟨g46, e44⟩ := og_some e44
                          refine RM.idiv (by decide +kernel) (nz_of g46) ?_
                          refine RM.blk [(4, 5, 0, .null), (2, 0, 0, .null), (3, 12, 32, .null), (1, 6, 0, .null), (1, 3, 0, .null), (1, 5, 0, .null)] (pc' := 282) (L' := [some (.ref 76), none, some (.int (y20)), some (.int (x31.1)), none, some (.int (x44.1 / (x44.2.2 76 21))), some (.int x44.2.1)]) (st' := [.int (x44.1 / (x44.2.2 76 21)), .int (x31.1), .int x44.2.1, .ref 99]) (σ1 := x44.2.2) (by decide +kernel) rfl ?_
                          obtain ⟨g47, e44⟩ := og_some e44
                          refine RM.idiv (by decide +kernel) (nz_of g47) ?_
                          refine RM.blk [(2, 0, 0, .null), (3, 12, 21, .null)] (pc' := 287) (L' := [some (.ref 76), none, some (.int (y20)), some (.int (x31.1)), none, some (.int (x44.1 / (x44.2.2 76 21))), some (.int x44.2.1)]) (st' := [.int (x44.2.2 76 21), .int (x31.1 / (x44.1 / (x44.2.2 76 21))), .int x44.2.1, .ref 99]) (σ1 := x44.2.2) (by decide +kernel) rfl ?_
                          obtain ⟨g48, e44⟩ := og_some e44
                          refine RM.irem (by decide +kernel) (nz_of g48) ?_
                          obtain ⟨g49, e44⟩ := og_some e44
                          refine RM.iast (q := 99) (n := 9) (by decide +kernel) rfl (vin_of g49) ?_
                          generalize ns50 : (up x44.2.2 99 (ix x44.2.1) ((x31.1 / (x44.1 / (x44.2.2 76 21))) - (x31.1 / (x44.1 / (x44.2.2 76 21))) / (x44.2.2 76 21) * (x44.2.2 76 21))) = s50 at e44 ⊢
                          replace e44 := nm_h e44
                          refine RM.blk [(10, 6, 0, .int 1), (23, 0, 0, .null)] (pc' := 255) (L' := [some (.ref 76), none, some (.int (y20)), some (.int (x31.1)), none, some (.int (x44.1 / (x44.2.2 76 21))), some (.int (x44.2.1 + 1))]) (st' := []) (σ1 := s50) (by decide +kernel) rfl ?_
                          obtain rfl := Option.some.inj e44
                          refine RN.dropB [true, false, true, true, false, true, true] rfl ?_
                          exact ih44 ((x44.1 / (x44.2.2 76 21)), (x44.2.1 + 1), s50) _ hy44 hK44
                    obtain ⟨y44, hl44, e31⟩ := ob_some e31
                    refine RN.dropB [true, false, true, true, false, true, true] rfl ?_
                    refine hL44 FU (y20, 0, (up v33.2 76 33 v33.1)) y44 hl44 ?_
                    refine RM.blk [(10, 3, 0, .int 1), (23, 0, 0, .null)] (pc' := 207) (L' := [some (.ref 76), none, some (.int (y20)), some (.int (x31.1 + 1)), none, none, none]) (st' := []) (σ1 := y44) (by decide +kernel) rfl ?_
                    obtain rfl := Option.some.inj e31
                    refine RN.dropB [true, false, true, true, false, false, false] rfl ?_
                    exact ih31 ((x31.1 + 1), y44) _ hy31 hK31
        obtain ⟨y31, hl31, h⟩ := ob_some h
        refine RN.dropB [true, false, true, true, false, false, false] rfl ?_
        refine hL31 FU (0, (up y22 76 33 (-1))) y31 hl31 ?_
        refine RM.blk [(0, 0, 0, .int 1)] (pc' := 302) (L' := [none, none, none, none, none, none, none]) (st' := [.int 1]) (σ1 := y31) (by decide +kernel) rfl ?_
        obtain ⟨rfl, rfl⟩ := Prod.mk.inj (Option.some.inj h)
        exact RM.retz (z := true) (by decide +kernel) rfl
      · rw [if_pos c19] at h
        refine RM.blk [(0, 0, 0, .int 0)] (pc' := 125) (L' := [some (.ref 76), none, none, none, none, none, none]) (st' := [.int 0]) (σ1 := y6) (by decide +kernel) rfl ?_
        obtain ⟨rfl, rfl⟩ := Prod.mk.inj (Option.some.inj h)
        exact RM.retz (z := false) (by decide +kernel) rfl
  · simp only [Sum.elim_inr] at h ⊢
    exact Option.some.inj h
def M_Ref_days : MI := (yX12_days, cX12_days, 1, some .int, 12)
theorem mk_Ref_days : mOK M_Ref_days 0 = true := by decide +kernel
def F_Ref_days (σ : SG) : Option (Int32 × SG) := (ob (F_Ref_deal σ) (fun v1 => (if v1.1 = true then some ((v1.2 76 33), v1.2) else some ((-3), v1.2))))
set_option maxRecDepth 100000 in
set_option maxHeartbeats 4000000 in
theorem s_Ref_days (σ : SG) (rr : Int32) (so : SG) (h : F_Ref_days σ = some (rr, so)) : SpN 3 M_Ref_days [.ref 76] σ (some (.int rr)) so := by
  unfold F_Ref_days at h
  refine Sp.of mk_Ref_days rfl (Nat.le_of_ble_eq_true rfl) ?_
  refine RM.blk [(2, 0, 0, .null)] (pc' := 1) (L' := [some (.ref 76)]) (st' := [.ref 76]) (σ1 := σ) (by decide +kernel) rfl ?_
  obtain ⟨v1, hv1, h⟩ := ob_some h
  refine RN.callV [] (s_Ref_deal σ v1.1 v1.2 hv1) [] (pc3 := 4) (st3 := [.int (bI v1.1)]) (by decide +kernel) mk_Ref_deal (by decide) ?_
  refine RM.zeq (tgt := 14) (by decide +kernel) (fun c2 => ?_) (fun c2 => ?_)
  · rw [if_neg (bf c2)] at h
    refine RM.blk [(0, 0, 0, .int (-3))] (pc' := 16) (L' := [some (.ref 76)]) (st' := [.int (-3)]) (σ1 := v1.2) (by decide +kernel) rfl ?_
    obtain ⟨rfl, rfl⟩ := Prod.mk.inj (Option.some.inj h)
    exact RM.reti (by decide +kernel) rfl
  · rw [if_pos c2] at h
    refine RM.blk [(2, 0, 0, .null), (3, 12, 33, .null), (23, 0, 0, .null)] (pc' := 16) (L' := [some (.ref 76)]) (st' := [.int (v1.2 76 33)]) (σ1 := v1.2) (by decide +kernel) rfl ?_
    obtain ⟨rfl, rfl⟩ := Prod.mk.inj (Option.some.inj h)
    exact RM.reti (by decide +kernel) rfl
def M_Ref_dealt : MI := (yX12_dealt, cX12_dealt, 3, some .int, 12)
theorem mk_Ref_dealt : mOK M_Ref_dealt 1 = true := by decide +kernel
def L_Ref_dealt_25 (p0 : Int32) (v2 : Bool × SG) (x : Int32) : Option ((Int32) ⊕ ((Unit) ⊕ (Int32 × SG))) := (if (v2.2 76 31) ≤ x then some (.inr (.inl ())) else (og (vin x 9) ((if (v2.2 98 (ix x)) = p0 then (og (vin x 9) (some (.inr (.inr ((v2.2 99 (ix x)), v2.2))))) else some (.inl (x + 1))))))
def F_Ref_dealt (σ : SG) (p0 : Int32) : Option (Int32 × SG) := (if (F_Ref_noSheet σ p0) = (-2) then some ((-2), σ) else (ob (F_Ref_deal σ) (fun v2 => (if v2.1 = true then (ob (lpW (L_Ref_dealt_25 p0 v2) FU 0) (fun y4 => Sum.elim (fun y4 : Unit => some ((-1), v2.2)) (fun q4 : Int32 × SG => some q4) y4)) else some ((-3), v2.2)))))
set_option maxRecDepth 100000 in
set_option maxHeartbeats 4000000 in
theorem s_Ref_dealt (σ : SG) (p0 : Int32) (rr : Int32) (so : SG) (h : F_Ref_dealt σ p0 = some (rr, so)) : SpN 3 M_Ref_dealt [.ref 76, .int p0] σ (some (.int rr)) so := by
  unfold F_Ref_dealt at h
  refine Sp.of mk_Ref_dealt rfl (Nat.le_of_ble_eq_true rfl) ?_
  refine RM.blk [(2, 0, 0, .null), (1, 1, 0, .null)] (pc' := 2) (L' := [some (.ref 76), some (.int p0), none]) (st' := [.int p0, .ref 76]) (σ1 := σ) (by decide +kernel) rfl ?_
  refine RN.callV [.int p0] (s_Ref_noSheet σ p0) [] (pc3 := 5) (st3 := [.int (F_Ref_noSheet σ p0)]) (by decide +kernel) mk_Ref_noSheet (by decide) ?_
  refine RM.blk [(0, 0, 0, .int (-2))] (pc' := 7) (L' := [some (.ref 76), some (.int p0), none]) (st' := [.int (-2), .int (F_Ref_noSheet σ p0)]) (σ1 := σ) (by decide +kernel) rfl ?_
  refine RM.icmp_ne (tgt := 13) (by decide +kernel) (fun c1 => ?_) (fun c1 => ?_)
  · rw [if_neg c1] at h
    refine RM.blk [(2, 0, 0, .null)] (pc' := 14) (L' := [some (.ref 76), some (.int p0), none]) (st' := [.ref 76]) (σ1 := σ) (by decide +kernel) rfl ?_
    obtain ⟨v2, hv2, h⟩ := ob_some h
    refine RN.callV [] (s_Ref_deal σ v2.1 v2.2 hv2) [] (pc3 := 17) (st3 := [.int (bI v2.1)]) (by decide +kernel) mk_Ref_deal (by decide) ?_
    refine RM.zne (tgt := 23) (by decide +kernel) (fun c3 => ?_) (fun c3 => ?_)
    · rw [if_pos c3] at h
      refine RM.blk [(0, 0, 0, .int 0), (4, 2, 0, .null)] (pc' := 25) (L' := [some (.ref 76), some (.int p0), some (.int 0)]) (st' := []) (σ1 := v2.2) (by decide +kernel) rfl ?_
      have hL4 : ∀ (n : Nat) (x4 : Int32) (y4 : (Unit) ⊕ (Int32 × SG)), lpW (L_Ref_dealt_25 p0 v2) n x4 = some y4 → Sum.elim (fun y4 : Unit => RN 3 M_Ref_dealt (some (.int rr)) so 56 [none, none, none] [] v2.2) (fun q : Int32 × SG => q = (rr, so)) y4 → RN 3 M_Ref_dealt (some (.int rr)) so 25 [some (.ref 76), some (.int p0), some (.int x4)] [] v2.2 := by
        intro n
        induction n with
        | zero => intro x4 y4 hy4; cases hy4
        | succ n ih4 =>
          intro x4 y4 hy4 hK4
          obtain ⟨z4, e4, hy4⟩ := ob_some hy4
          unfold L_Ref_dealt_25 at e4
          refine RM.blk [(1, 2, 0, .null), (2, 0, 0, .null), (3, 12, 31, .null)] (pc' := 30) (L' := [some (.ref 76), some (.int p0), some (.int x4)]) (st' := [.int (v2.2 76 31), .int x4]) (σ1 := v2.2) (by decide +kernel) rfl ?_
          refine RM.icmp_ge (tgt := 56) (by decide +kernel) (fun c5 => ?_) (fun c5 => ?_)
          · rw [if_pos c5] at e4
            obtain rfl := Option.some.inj e4
            obtain rfl := Option.some.inj (show some ((.inl ()) : (Unit) ⊕ (Int32 × SG)) = some y4 from hy4)
            refine RN.dropB [false, false, false] rfl ?_
            exact hK4
          · rw [if_neg c5] at e4
            refine RM.blk [(2, 0, 0, .null), (3, 12, 30, .null), (1, 2, 0, .null)] (pc' := 38) (L' := [some (.ref 76), some (.int p0), some (.int x4)]) (st' := [.int x4, .ref 98]) (σ1 := v2.2) (by decide +kernel) rfl ?_
            obtain ⟨g6, e4⟩ := og_some e4
            refine RM.iald (q := 98) (n := 9) (by decide +kernel) rfl (vin_of g6) ?_
            refine RM.blk [(1, 1, 0, .null)] (pc' := 40) (L' := [some (.ref 76), some (.int p0), some (.int x4)]) (st' := [.int p0, .int (v2.2 98 (ix x4))]) (σ1 := v2.2) (by decide +kernel) rfl ?_
            refine RM.icmp_ne (tgt := 50) (by decide +kernel) (fun c7 => ?_) (fun c7 => ?_)
            · rw [if_neg c7] at e4
              refine RM.blk [(10, 2, 0, .int 1), (23, 0, 0, .null)] (pc' := 25) (L' := [some (.ref 76), some (.int p0), some (.int (x4 + 1))]) (st' := []) (σ1 := v2.2) (by decide +kernel) rfl ?_
              obtain rfl := Option.some.inj e4
              refine RN.dropB [true, true, true] rfl ?_
              exact ih4 (x4 + 1) _ hy4 hK4
            · rw [if_pos c7] at e4
              refine RM.blk [(2, 0, 0, .null), (3, 12, 32, .null), (1, 2, 0, .null)] (pc' := 48) (L' := [some (.ref 76), some (.int p0), some (.int x4)]) (st' := [.int x4, .ref 99]) (σ1 := v2.2) (by decide +kernel) rfl ?_
              obtain ⟨g8, e4⟩ := og_some e4
              refine RM.iald (q := 99) (n := 9) (by decide +kernel) rfl (vin_of g8) ?_
              obtain rfl := Option.some.inj e4
              obtain rfl := Option.some.inj (show some (.inr ((v2.2 99 (ix x4)), v2.2) : (Unit) ⊕ (Int32 × SG)) = some y4 from hy4)
              obtain ⟨rfl, rfl⟩ := Prod.mk.inj (show (((v2.2 99 (ix x4)), v2.2) : Int32 × SG) = (rr, so) from hK4)
              exact RM.reti (by decide +kernel) rfl
      obtain ⟨y4, hl4, h⟩ := ob_some h
      refine RN.dropB [true, true, true] rfl ?_
      refine hL4 FU 0 y4 hl4 ?_
      rcases y4 with y4 | q4
      · simp only [Sum.elim_inl] at h ⊢
        refine RM.blk [(0, 0, 0, .int (-1))] (pc' := 57) (L' := [none, none, none]) (st' := [.int (-1)]) (σ1 := v2.2) (by decide +kernel) rfl ?_
        obtain ⟨rfl, rfl⟩ := Prod.mk.inj (Option.some.inj h)
        exact RM.reti (by decide +kernel) rfl
      · simp only [Sum.elim_inr] at h ⊢
        exact Option.some.inj h
    · rw [if_neg (bf c3)] at h
      refine RM.blk [(0, 0, 0, .int (-3))] (pc' := 22) (L' := [some (.ref 76), some (.int p0), none]) (st' := [.int (-3)]) (σ1 := v2.2) (by decide +kernel) rfl ?_
      obtain ⟨rfl, rfl⟩ := Prod.mk.inj (Option.some.inj h)
      exact RM.reti (by decide +kernel) rfl
  · rw [if_pos c1] at h
    refine RM.blk [(0, 0, 0, .int (-2))] (pc' := 12) (L' := [some (.ref 76), some (.int p0), none]) (st' := [.int (-2)]) (σ1 := σ) (by decide +kernel) rfl ?_
    obtain ⟨rfl, rfl⟩ := Prod.mk.inj (Option.some.inj h)
    exact RM.reti (by decide +kernel) rfl
def M_Ref_count : MI := (yX12_count, cX12_count, 4, some .int, 12)
theorem mk_Ref_count : mOK M_Ref_count 1 = true := by decide +kernel
def L_Ref_count_101 (σ : SG) (x : Int32 × Int32) : Option ((Int32 × Int32) ⊕ (Int32)) := (if (σ 76 18) ≤ x.2 then some (.inr x.1) else (og (vin x.2 10) (some (.inl ((x.1 + (σ 89 (ix x.2))), (x.2 + 1))))))
def L_Ref_count_128 (σ : SG) (x : Int32 × Int32) : Option ((Int32 × Int32) ⊕ (Int32)) := (if (σ 76 10) ≤ x.2 then some (.inr x.1) else (og (vin x.2 240) ((og (vin (σ 85 (ix x.2)) 8) ((if (σ 80 (ix (σ 85 (ix x.2)))) = 0 then some (.inl ((x.1 + 0), (x.2 + 1))) else (og (vin x.2 240) (some (.inl ((x.1 + (σ 84 (ix x.2))), (x.2 + 1)))))))))))
def F_Ref_count (σ : SG) (p0 : Int32) : Option (Int32) := (tsS p0 0 [some (σ 76 0), some (σ 76 1), some (σ 76 10), (if (σ 76 8) = 0 then some (-3) else (ob (F_Ref_bare σ) (fun v3 => some v3))), some (σ 76 18), some (σ 76 17), some (σ 76 21), (ob (lpW (L_Ref_count_101 σ) FU (0, 0)) (fun y4 => some y4)), (ob (lpW (L_Ref_count_128 σ) FU (0, 0)) (fun y7 => (if (σ 76 7) = 0 then some (-3) else some y7)))] (some (-2)))
set_option maxRecDepth 100000 in
set_option maxHeartbeats 4000000 in
theorem s_Ref_count (σ : SG) (p0 : Int32) (rr : Int32) (h : F_Ref_count σ p0 = some rr) : SpN 2 M_Ref_count [.ref 76, .int p0] σ (some (.int rr)) σ := by
  unfold F_Ref_count at h
  refine Sp.of mk_Ref_count rfl (Nat.le_of_ble_eq_true rfl) ?_
  refine RM.blk [(0, 0, 0, .int 0), (4, 2, 0, .null), (1, 1, 0, .null)] (pc' := 3) (L' := [some (.ref 76), some (.int p0), some (.int 0), none]) (st' := [.int p0]) (σ1 := σ) (by decide +kernel) rfl ?_
  refine RM.tsw (ts := [52, 57, 62, 67, 84, 89, 94, 99, 126]) (df := 183) (by decide +kernel) (by decide) ⟨fun c1 => ?_, fun c1 => ?_, fun c1 => ?_, fun c1 => ?_, fun c1 => ?_, fun c1 => ?_, fun c1 => ?_, fun c1 => ?_, fun c1 => ?_, trivial⟩ (fun c1 => ?_)
  · rw [tsS_at (j := 0) c1 rfl rfl] at h
    refine RM.blk [(2, 0, 0, .null), (3, 12, 0, .null)] (pc' := 56) (L' := [some (.ref 76), some (.int p0), some (.int 0), none]) (st' := [.int (σ 76 0)]) (σ1 := σ) (by decide +kernel) rfl ?_
    obtain rfl := (Option.some.inj h)
    exact RM.reti (by decide +kernel) rfl
  · rw [tsS_at (j := 1) c1 rfl rfl] at h
    refine RM.blk [(2, 0, 0, .null), (3, 12, 1, .null)] (pc' := 61) (L' := [some (.ref 76), some (.int p0), some (.int 0), none]) (st' := [.int (σ 76 1)]) (σ1 := σ) (by decide +kernel) rfl ?_
    obtain rfl := (Option.some.inj h)
    exact RM.reti (by decide +kernel) rfl
  · rw [tsS_at (j := 2) c1 rfl rfl] at h
    refine RM.blk [(2, 0, 0, .null), (3, 12, 10, .null)] (pc' := 66) (L' := [some (.ref 76), some (.int p0), some (.int 0), none]) (st' := [.int (σ 76 10)]) (σ1 := σ) (by decide +kernel) rfl ?_
    obtain rfl := (Option.some.inj h)
    exact RM.reti (by decide +kernel) rfl
  · rw [tsS_at (j := 3) c1 rfl rfl] at h
    refine RM.blk [(2, 0, 0, .null), (3, 12, 8, .null)] (pc' := 71) (L' := [some (.ref 76), some (.int p0), some (.int 0), none]) (st' := [.int (σ 76 8)]) (σ1 := σ) (by decide +kernel) rfl ?_
    refine RM.if_eq (tgt := 81) (by decide +kernel) (fun c2 => ?_) (fun c2 => ?_)
    · rw [if_pos c2] at h
      refine RM.blk [(0, 0, 0, .int (-3))] (pc' := 83) (L' := [some (.ref 76), some (.int p0), some (.int 0), none]) (st' := [.int (-3)]) (σ1 := σ) (by decide +kernel) rfl ?_
      obtain rfl := (Option.some.inj h)
      exact RM.reti (by decide +kernel) rfl
    · rw [if_neg c2] at h
      refine RM.blk [(2, 0, 0, .null)] (pc' := 75) (L' := [some (.ref 76), some (.int p0), some (.int 0), none]) (st' := [.ref 76]) (σ1 := σ) (by decide +kernel) rfl ?_
      obtain ⟨v3, hv3, h⟩ := ob_some h
      refine RN.callV [] (s_Ref_bare σ v3 hv3) [] (pc3 := 78) (st3 := [.int v3]) (by decide +kernel) mk_Ref_bare (by decide) ?_
      refine RM.blk [(23, 0, 0, .null)] (pc' := 83) (L' := [some (.ref 76), some (.int p0), some (.int 0), none]) (st' := [.int v3]) (σ1 := σ) (by decide +kernel) rfl ?_
      obtain rfl := (Option.some.inj h)
      exact RM.reti (by decide +kernel) rfl
  · rw [tsS_at (j := 4) c1 rfl rfl] at h
    refine RM.blk [(2, 0, 0, .null), (3, 12, 18, .null)] (pc' := 88) (L' := [some (.ref 76), some (.int p0), some (.int 0), none]) (st' := [.int (σ 76 18)]) (σ1 := σ) (by decide +kernel) rfl ?_
    obtain rfl := (Option.some.inj h)
    exact RM.reti (by decide +kernel) rfl
  · rw [tsS_at (j := 5) c1 rfl rfl] at h
    refine RM.blk [(2, 0, 0, .null), (3, 12, 17, .null)] (pc' := 93) (L' := [some (.ref 76), some (.int p0), some (.int 0), none]) (st' := [.int (σ 76 17)]) (σ1 := σ) (by decide +kernel) rfl ?_
    obtain rfl := (Option.some.inj h)
    exact RM.reti (by decide +kernel) rfl
  · rw [tsS_at (j := 6) c1 rfl rfl] at h
    refine RM.blk [(2, 0, 0, .null), (3, 12, 21, .null)] (pc' := 98) (L' := [some (.ref 76), some (.int p0), some (.int 0), none]) (st' := [.int (σ 76 21)]) (σ1 := σ) (by decide +kernel) rfl ?_
    obtain rfl := (Option.some.inj h)
    exact RM.reti (by decide +kernel) rfl
  · rw [tsS_at (j := 7) c1 rfl rfl] at h
    refine RM.blk [(0, 0, 0, .int 0), (4, 3, 0, .null)] (pc' := 101) (L' := [some (.ref 76), some (.int p0), some (.int 0), some (.int 0)]) (st' := []) (σ1 := σ) (by decide +kernel) rfl ?_
    have hL4 : ∀ (n : Nat) (x4 : Int32 × Int32) (y4 : Int32), lpW (L_Ref_count_101 σ) n x4 = some y4 → RN 2 M_Ref_count (some (.int rr)) σ 124 [none, none, some (.int y4), none] [] σ → RN 2 M_Ref_count (some (.int rr)) σ 101 [some (.ref 76), none, some (.int x4.1), some (.int x4.2)] [] σ := by
      intro n
      induction n with
      | zero => intro x4 y4 hy4; cases hy4
      | succ n ih4 =>
        intro x4 y4 hy4 hK4
        obtain ⟨z4, e4, hy4⟩ := ob_some hy4
        unfold L_Ref_count_101 at e4
        refine RM.blk [(1, 3, 0, .null), (2, 0, 0, .null), (3, 12, 18, .null)] (pc' := 106) (L' := [some (.ref 76), none, some (.int x4.1), some (.int x4.2)]) (st' := [.int (σ 76 18), .int x4.2]) (σ1 := σ) (by decide +kernel) rfl ?_
        refine RM.icmp_ge (tgt := 124) (by decide +kernel) (fun c5 => ?_) (fun c5 => ?_)
        · rw [if_pos c5] at e4
          obtain rfl := Option.some.inj e4
          obtain rfl := Option.some.inj (show some (x4.1 : Int32) = some y4 from hy4)
          refine RN.dropB [false, false, true, false] rfl ?_
          exact hK4
        · rw [if_neg c5] at e4
          refine RM.blk [(1, 2, 0, .null), (2, 0, 0, .null), (3, 12, 20, .null), (1, 3, 0, .null)] (pc' := 115) (L' := [some (.ref 76), none, some (.int x4.1), some (.int x4.2)]) (st' := [.int x4.2, .ref 89, .int x4.1]) (σ1 := σ) (by decide +kernel) rfl ?_
          obtain ⟨g6, e4⟩ := og_some e4
          refine RM.iald (q := 89) (n := 10) (by decide +kernel) rfl (vin_of g6) ?_
          refine RM.blk [(5, 0, 0, .null), (4, 2, 0, .null), (10, 3, 0, .int 1), (23, 0, 0, .null)] (pc' := 101) (L' := [some (.ref 76), none, some (.int (x4.1 + (σ 89 (ix x4.2)))), some (.int (x4.2 + 1))]) (st' := []) (σ1 := σ) (by decide +kernel) rfl ?_
          obtain rfl := Option.some.inj e4
          refine RN.dropB [true, false, true, true] rfl ?_
          exact ih4 ((x4.1 + (σ 89 (ix x4.2))), (x4.2 + 1)) _ hy4 hK4
    obtain ⟨y4, hl4, h⟩ := ob_some h
    refine RN.dropB [true, false, true, true] rfl ?_
    refine hL4 FU (0, 0) y4 hl4 ?_
    refine RM.blk [(1, 2, 0, .null)] (pc' := 125) (L' := [none, none, some (.int y4), none]) (st' := [.int y4]) (σ1 := σ) (by decide +kernel) rfl ?_
    obtain rfl := (Option.some.inj h)
    exact RM.reti (by decide +kernel) rfl
  · rw [tsS_at (j := 8) c1 rfl rfl] at h
    refine RM.blk [(0, 0, 0, .int 0), (4, 3, 0, .null)] (pc' := 128) (L' := [some (.ref 76), some (.int p0), some (.int 0), some (.int 0)]) (st' := []) (σ1 := σ) (by decide +kernel) rfl ?_
    have hL7 : ∀ (n : Nat) (x7 : Int32 × Int32) (y7 : Int32), lpW (L_Ref_count_128 σ) n x7 = some y7 → RN 2 M_Ref_count (some (.int rr)) σ 169 [some (.ref 76), none, some (.int y7), none] [] σ → RN 2 M_Ref_count (some (.int rr)) σ 128 [some (.ref 76), none, some (.int x7.1), some (.int x7.2)] [] σ := by
      intro n
      induction n with
      | zero => intro x7 y7 hy7; cases hy7
      | succ n ih7 =>
        intro x7 y7 hy7 hK7
        obtain ⟨z7, e7, hy7⟩ := ob_some hy7
        unfold L_Ref_count_128 at e7
        refine RM.blk [(1, 3, 0, .null), (2, 0, 0, .null), (3, 12, 10, .null)] (pc' := 133) (L' := [some (.ref 76), none, some (.int x7.1), some (.int x7.2)]) (st' := [.int (σ 76 10), .int x7.2]) (σ1 := σ) (by decide +kernel) rfl ?_
        refine RM.icmp_ge (tgt := 169) (by decide +kernel) (fun c8 => ?_) (fun c8 => ?_)
        · rw [if_pos c8] at e7
          obtain rfl := Option.some.inj e7
          obtain rfl := Option.some.inj (show some (x7.1 : Int32) = some y7 from hy7)
          refine RN.dropB [true, false, true, false] rfl ?_
          exact hK7
        · rw [if_neg c8] at e7
          refine RM.blk [(1, 2, 0, .null), (2, 0, 0, .null), (3, 12, 5, .null), (2, 0, 0, .null), (3, 12, 14, .null), (1, 3, 0, .null)] (pc' := 146) (L' := [some (.ref 76), none, some (.int x7.1), some (.int x7.2)]) (st' := [.int x7.2, .ref 85, .ref 80, .int x7.1]) (σ1 := σ) (by decide +kernel) rfl ?_
          obtain ⟨g9, e7⟩ := og_some e7
          refine RM.iald (q := 85) (n := 240) (by decide +kernel) rfl (vin_of g9) ?_
          obtain ⟨g10, e7⟩ := og_some e7
          refine RM.zald (q := 80) (n := 8) (by decide +kernel) rfl (vin_of g10) ?_
          refine RM.if_eq (tgt := 160) (by decide +kernel) (fun c11 => ?_) (fun c11 => ?_)
          · rw [if_pos c11] at e7
            refine RM.blk [(0, 0, 0, .int 0), (5, 0, 0, .null), (4, 2, 0, .null), (10, 3, 0, .int 1), (23, 0, 0, .null)] (pc' := 128) (L' := [some (.ref 76), none, some (.int (x7.1 + 0)), some (.int (x7.2 + 1))]) (st' := []) (σ1 := σ) (by decide +kernel) rfl ?_
            obtain rfl := Option.some.inj e7
            refine RN.dropB [true, false, true, true] rfl ?_
            exact ih7 ((x7.1 + 0), (x7.2 + 1)) _ hy7 hK7
          · rw [if_neg c11] at e7
            refine RM.blk [(2, 0, 0, .null), (3, 12, 13, .null), (1, 3, 0, .null)] (pc' := 156) (L' := [some (.ref 76), none, some (.int x7.1), some (.int x7.2)]) (st' := [.int x7.2, .ref 84, .int x7.1]) (σ1 := σ) (by decide +kernel) rfl ?_
            obtain ⟨g12, e7⟩ := og_some e7
            refine RM.iald (q := 84) (n := 240) (by decide +kernel) rfl (vin_of g12) ?_
            refine RM.blk [(23, 0, 0, .null), (5, 0, 0, .null), (4, 2, 0, .null), (10, 3, 0, .int 1), (23, 0, 0, .null)] (pc' := 128) (L' := [some (.ref 76), none, some (.int (x7.1 + (σ 84 (ix x7.2)))), some (.int (x7.2 + 1))]) (st' := []) (σ1 := σ) (by decide +kernel) rfl ?_
            obtain rfl := Option.some.inj e7
            refine RN.dropB [true, false, true, true] rfl ?_
            exact ih7 ((x7.1 + (σ 84 (ix x7.2))), (x7.2 + 1)) _ hy7 hK7
    obtain ⟨y7, hl7, h⟩ := ob_some h
    refine RN.dropB [true, false, true, true] rfl ?_
    refine hL7 FU (0, 0) y7 hl7 ?_
    refine RM.blk [(2, 0, 0, .null), (3, 12, 7, .null)] (pc' := 173) (L' := [some (.ref 76), none, some (.int y7), none]) (st' := [.int (σ 76 7)]) (σ1 := σ) (by decide +kernel) rfl ?_
    refine RM.if_eq (tgt := 180) (by decide +kernel) (fun c13 => ?_) (fun c13 => ?_)
    · rw [if_pos c13] at h
      refine RM.blk [(0, 0, 0, .int (-3))] (pc' := 182) (L' := [some (.ref 76), none, some (.int y7), none]) (st' := [.int (-3)]) (σ1 := σ) (by decide +kernel) rfl ?_
      obtain rfl := (Option.some.inj h)
      exact RM.reti (by decide +kernel) rfl
    · rw [if_neg c13] at h
      refine RM.blk [(1, 2, 0, .null), (23, 0, 0, .null)] (pc' := 182) (L' := [some (.ref 76), none, some (.int y7), none]) (st' := [.int y7]) (σ1 := σ) (by decide +kernel) rfl ?_
      obtain rfl := (Option.some.inj h)
      exact RM.reti (by decide +kernel) rfl
  · rw [tsS_out c1 rfl] at h
    refine RM.blk [(0, 0, 0, .int (-2))] (pc' := 185) (L' := [some (.ref 76), some (.int p0), some (.int 0), none]) (st' := [.int (-2)]) (σ1 := σ) (by decide +kernel) rfl ?_
    obtain rfl := (Option.some.inj h)
    exact RM.reti (by decide +kernel) rfl
def M_Ref_digest : MI := (yX12_digest, cX12_digest, 5, some .long, 12)
theorem mk_Ref_digest : mOK M_Ref_digest 0 = true := by decide +kernel
def L_Ref_digest_6 (σ : SG) (x : Int64 × Int32) : Option ((Int64 × Int32) ⊕ (Int64)) := (if 9 ≤ x.2 then some (.inr x.1) else (ob (F_Ref_count σ x.2) (fun v3 => some (.inl (((31 * x.1) + v3.toInt64), (x.2 + 1))))))
def L_Ref_digest_44 (σ : SG) (k3 : Int32) (x : Int64 × Int32) : Option ((Int64 × Int32) ⊕ (Int64)) := (if (σ 76 0) ≤ x.2 then some (.inr x.1) else (og (vin ((24 * k3) + x.2) 240) (some (.inl (((31 * x.1) + (σ 77 (ix ((24 * k3) + x.2))).toInt64), (x.2 + 1))))))
def L_Ref_digest_33 (σ : SG) (x : Int64 × Int32) : Option ((Int64 × Int32) ⊕ (Int64)) := (if (σ 76 1) ≤ x.2 then some (.inr x.1) else (ob (lpW (L_Ref_digest_44 σ x.2) FU (x.1, 0)) (fun y6 => some (.inl (y6, (x.2 + 1))))))
def L_Ref_digest_98 (σ : SG) (k3 : Int32) (x : Int64 × Int32) : Option ((Int64 × Int32) ⊕ (Int64)) := (if 7 ≤ x.2 then some (.inr x.1) else (ob (F_Ref_cube σ (k3) x.2) (fun v13 => some (.inl (((31 * x.1) + v13.toInt64), (x.2 + 1))))))
def L_Ref_digest_87 (σ : SG) (x : Int64 × Int32) : Option ((Int64 × Int32) ⊕ (Int64)) := (if (σ 76 10) ≤ x.2 then some (.inr x.1) else (ob (lpW (L_Ref_digest_98 σ x.2) FU (x.1, 0)) (fun y11 => some (.inl (y11, (x.2 + 1))))))
def L_Ref_digest_134 (σ : SG) (x : Int64 × Int32) : Option ((Int64 × Int32) ⊕ (Int64)) := (if (σ 76 18) ≤ x.2 then some (.inr x.1) else (og (vin x.2 10) (some (.inl (((31 * x.1) + (σ 89 (ix x.2)).toInt64), (x.2 + 1))))))
def F_Ref_digest (σ : SG) : Option (Int64) := (ob (lpW (L_Ref_digest_6 σ) FU (149, 0)) (fun y1 => (ob (lpW (L_Ref_digest_33 σ) FU (y1, 0)) (fun y4 => (ob (lpW (L_Ref_digest_87 σ) FU (y4, 0)) (fun y9 => (ob (lpW (L_Ref_digest_134 σ) FU (y9, 0)) (fun y14 => some y14))))))))
set_option maxRecDepth 100000 in
set_option maxHeartbeats 4000000 in
theorem s_Ref_digest (σ : SG) (rr : Int64) (h : F_Ref_digest σ = some rr) : SpN 3 M_Ref_digest [.ref 76] σ (some (.long rr)) σ := by
  unfold F_Ref_digest at h
  refine Sp.of mk_Ref_digest rfl (Nat.le_of_ble_eq_true rfl) ?_
  refine RM.blk [(0, 0, 0, .long 149), (21, 1, 0, .null), (0, 0, 0, .int 0), (4, 3, 0, .null)] (pc' := 6) (L' := [some (.ref 76), some (.long 149), none, some (.int 0), none]) (st' := []) (σ1 := σ) (by decide +kernel) rfl ?_
  have hL1 : ∀ (n : Nat) (x1 : Int64 × Int32) (y1 : Int64), lpW (L_Ref_digest_6 σ) n x1 = some y1 → RN 3 M_Ref_digest (some (.long rr)) σ 31 [some (.ref 76), some (.long y1), none, none, none] [] σ → RN 3 M_Ref_digest (some (.long rr)) σ 6 [some (.ref 76), some (.long x1.1), none, some (.int x1.2), none] [] σ := by
    intro n
    induction n with
    | zero => intro x1 y1 hy1; cases hy1
    | succ n ih1 =>
      intro x1 y1 hy1 hK1
      obtain ⟨z1, e1, hy1⟩ := ob_some hy1
      unfold L_Ref_digest_6 at e1
      refine RM.blk [(1, 3, 0, .null), (0, 0, 0, .int 9)] (pc' := 9) (L' := [some (.ref 76), some (.long x1.1), none, some (.int x1.2), none]) (st' := [.int 9, .int x1.2]) (σ1 := σ) (by decide +kernel) rfl ?_
      refine RM.icmp_ge (tgt := 31) (by decide +kernel) (fun c2 => ?_) (fun c2 => ?_)
      · rw [if_pos c2] at e1
        obtain rfl := Option.some.inj e1
        obtain rfl := Option.some.inj (show some (x1.1 : Int64) = some y1 from hy1)
        refine RN.dropB [true, true, false, false, false] rfl ?_
        exact hK1
      · rw [if_neg c2] at e1
        refine RM.blk [(0, 0, 0, .long 31), (20, 1, 0, .null), (19, 0, 0, .null), (2, 0, 0, .null), (1, 3, 0, .null)] (pc' := 19) (L' := [some (.ref 76), some (.long x1.1), none, some (.int x1.2), none]) (st' := [.int x1.2, .ref 76, .long (31 * x1.1)]) (σ1 := σ) (by decide +kernel) rfl ?_
        obtain ⟨v3, hv3, e1⟩ := ob_some e1
        refine RN.callV [.int x1.2] (s_Ref_count σ x1.2 v3 hv3) [.long (31 * x1.1)] (pc3 := 22) (st3 := [.int v3, .long (31 * x1.1)]) (by decide +kernel) mk_Ref_count (by decide) ?_
        refine RM.blk [(17, 0, 0, .null), (18, 0, 0, .null), (21, 1, 0, .null), (10, 3, 0, .int 1), (23, 0, 0, .null)] (pc' := 6) (L' := [some (.ref 76), some (.long ((31 * x1.1) + v3.toInt64)), none, some (.int (x1.2 + 1)), none]) (st' := []) (σ1 := σ) (by decide +kernel) rfl ?_
        obtain rfl := Option.some.inj e1
        refine RN.dropB [true, true, false, true, false] rfl ?_
        exact ih1 (((31 * x1.1) + v3.toInt64), (x1.2 + 1)) _ hy1 hK1
  obtain ⟨y1, hl1, h⟩ := ob_some h
  refine RN.dropB [true, true, false, true, false] rfl ?_
  refine hL1 FU (149, 0) y1 hl1 ?_
  refine RM.blk [(0, 0, 0, .int 0), (4, 3, 0, .null)] (pc' := 33) (L' := [some (.ref 76), some (.long y1), none, some (.int 0), none]) (st' := []) (σ1 := σ) (by decide +kernel) rfl ?_
  have hL4 : ∀ (n : Nat) (x4 : Int64 × Int32) (y4 : Int64), lpW (L_Ref_digest_33 σ) n x4 = some y4 → RN 3 M_Ref_digest (some (.long rr)) σ 85 [some (.ref 76), some (.long y4), none, none, none] [] σ → RN 3 M_Ref_digest (some (.long rr)) σ 33 [some (.ref 76), some (.long x4.1), none, some (.int x4.2), none] [] σ := by
    intro n
    induction n with
    | zero => intro x4 y4 hy4; cases hy4
    | succ n ih4 =>
      intro x4 y4 hy4 hK4
      obtain ⟨z4, e4, hy4⟩ := ob_some hy4
      unfold L_Ref_digest_33 at e4
      refine RM.blk [(1, 3, 0, .null), (2, 0, 0, .null), (3, 12, 1, .null)] (pc' := 38) (L' := [some (.ref 76), some (.long x4.1), none, some (.int x4.2), none]) (st' := [.int (σ 76 1), .int x4.2]) (σ1 := σ) (by decide +kernel) rfl ?_
      refine RM.icmp_ge (tgt := 85) (by decide +kernel) (fun c5 => ?_) (fun c5 => ?_)
      · rw [if_pos c5] at e4
        obtain rfl := Option.some.inj e4
        obtain rfl := Option.some.inj (show some (x4.1 : Int64) = some y4 from hy4)
        refine RN.dropB [true, true, false, false, false] rfl ?_
        exact hK4
      · rw [if_neg c5] at e4
        refine RM.blk [(0, 0, 0, .int 0), (4, 4, 0, .null)] (pc' := 44) (L' := [some (.ref 76), some (.long x4.1), none, some (.int x4.2), some (.int 0)]) (st' := []) (σ1 := σ) (by decide +kernel) rfl ?_
        have hL6 : ∀ (n : Nat) (x6 : Int64 × Int32) (y6 : Int64), lpW (L_Ref_digest_44 σ x4.2) n x6 = some y6 → RN 3 M_Ref_digest (some (.long rr)) σ 79 [some (.ref 76), some (.long y6), none, some (.int x4.2), none] [] σ → RN 3 M_Ref_digest (some (.long rr)) σ 44 [some (.ref 76), some (.long x6.1), none, some (.int x4.2), some (.int x6.2)] [] σ := by
          intro n
          induction n with
          | zero => intro x6 y6 hy6; cases hy6
          | succ n ih6 =>
            intro x6 y6 hy6 hK6
            obtain ⟨z6, e6, hy6⟩ := ob_some hy6
            unfold L_Ref_digest_44 at e6
            refine RM.blk [(1, 4, 0, .null), (2, 0, 0, .null), (3, 12, 0, .null)] (pc' := 50) (L' := [some (.ref 76), some (.long x6.1), none, some (.int (x4.2)), some (.int x6.2)]) (st' := [.int (σ 76 0), .int x6.2]) (σ1 := σ) (by decide +kernel) rfl ?_
            refine RM.icmp_ge (tgt := 79) (by decide +kernel) (fun c7 => ?_) (fun c7 => ?_)
            · rw [if_pos c7] at e6
              obtain rfl := Option.some.inj e6
              obtain rfl := Option.some.inj (show some (x6.1 : Int64) = some y6 from hy6)
              refine RN.dropB [true, true, false, true, false] rfl ?_
              exact hK6
            · rw [if_neg c7] at e6
              refine RM.blk [(0, 0, 0, .long 31), (20, 1, 0, .null), (19, 0, 0, .null), (2, 0, 0, .null), (3, 12, 2, .null), (0, 0, 0, .int 24), (1, 3, 0, .null), (7, 0, 0, .null), (1, 4, 0, .null), (5, 0, 0, .null)] (pc' := 69) (L' := [some (.ref 76), some (.long x6.1), none, some (.int (x4.2)), some (.int x6.2)]) (st' := [.int ((24 * x4.2) + x6.2), .ref 77, .long (31 * x6.1)]) (σ1 := σ) (by decide +kernel) rfl ?_
              obtain ⟨g8, e6⟩ := og_some e6
              refine RM.iald (q := 77) (n := 240) (by decide +kernel) rfl (vin_of g8) ?_
              refine RM.blk [(17, 0, 0, .null), (18, 0, 0, .null), (21, 1, 0, .null), (10, 4, 0, .int 1), (23, 0, 0, .null)] (pc' := 44) (L' := [some (.ref 76), some (.long ((31 * x6.1) + (σ 77 (ix ((24 * x4.2) + x6.2))).toInt64)), none, some (.int (x4.2)), some (.int (x6.2 + 1))]) (st' := []) (σ1 := σ) (by decide +kernel) rfl ?_
              obtain rfl := Option.some.inj e6
              refine RN.dropB [true, true, false, true, true] rfl ?_
              exact ih6 (((31 * x6.1) + (σ 77 (ix ((24 * x4.2) + x6.2))).toInt64), (x6.2 + 1)) _ hy6 hK6
        obtain ⟨y6, hl6, e4⟩ := ob_some e4
        refine RN.dropB [true, true, false, true, true] rfl ?_
        refine hL6 FU (x4.1, 0) y6 hl6 ?_
        refine RM.blk [(10, 3, 0, .int 1), (23, 0, 0, .null)] (pc' := 33) (L' := [some (.ref 76), some (.long y6), none, some (.int (x4.2 + 1)), none]) (st' := []) (σ1 := σ) (by decide +kernel) rfl ?_
        obtain rfl := Option.some.inj e4
        refine RN.dropB [true, true, false, true, false] rfl ?_
        exact ih4 (y6, (x4.2 + 1)) _ hy4 hK4
  obtain ⟨y4, hl4, h⟩ := ob_some h
  refine RN.dropB [true, true, false, true, false] rfl ?_
  refine hL4 FU (y1, 0) y4 hl4 ?_
  refine RM.blk [(0, 0, 0, .int 0), (4, 3, 0, .null)] (pc' := 87) (L' := [some (.ref 76), some (.long y4), none, some (.int 0), none]) (st' := []) (σ1 := σ) (by decide +kernel) rfl ?_
  have hL9 : ∀ (n : Nat) (x9 : Int64 × Int32) (y9 : Int64), lpW (L_Ref_digest_87 σ) n x9 = some y9 → RN 3 M_Ref_digest (some (.long rr)) σ 132 [some (.ref 76), some (.long y9), none, none, none] [] σ → RN 3 M_Ref_digest (some (.long rr)) σ 87 [some (.ref 76), some (.long x9.1), none, some (.int x9.2), none] [] σ := by
    intro n
    induction n with
    | zero => intro x9 y9 hy9; cases hy9
    | succ n ih9 =>
      intro x9 y9 hy9 hK9
      obtain ⟨z9, e9, hy9⟩ := ob_some hy9
      unfold L_Ref_digest_87 at e9
      refine RM.blk [(1, 3, 0, .null), (2, 0, 0, .null), (3, 12, 10, .null)] (pc' := 92) (L' := [some (.ref 76), some (.long x9.1), none, some (.int x9.2), none]) (st' := [.int (σ 76 10), .int x9.2]) (σ1 := σ) (by decide +kernel) rfl ?_
      refine RM.icmp_ge (tgt := 132) (by decide +kernel) (fun c10 => ?_) (fun c10 => ?_)
      · rw [if_pos c10] at e9
        obtain rfl := Option.some.inj e9
        obtain rfl := Option.some.inj (show some (x9.1 : Int64) = some y9 from hy9)
        refine RN.dropB [true, true, false, false, false] rfl ?_
        exact hK9
      · rw [if_neg c10] at e9
        refine RM.blk [(0, 0, 0, .int 0), (4, 4, 0, .null)] (pc' := 98) (L' := [some (.ref 76), some (.long x9.1), none, some (.int x9.2), some (.int 0)]) (st' := []) (σ1 := σ) (by decide +kernel) rfl ?_
        have hL11 : ∀ (n : Nat) (x11 : Int64 × Int32) (y11 : Int64), lpW (L_Ref_digest_98 σ x9.2) n x11 = some y11 → RN 3 M_Ref_digest (some (.long rr)) σ 126 [some (.ref 76), some (.long y11), none, some (.int x9.2), none] [] σ → RN 3 M_Ref_digest (some (.long rr)) σ 98 [some (.ref 76), some (.long x11.1), none, some (.int x9.2), some (.int x11.2)] [] σ := by
          intro n
          induction n with
          | zero => intro x11 y11 hy11; cases hy11
          | succ n ih11 =>
            intro x11 y11 hy11 hK11
            obtain ⟨z11, e11, hy11⟩ := ob_some hy11
            unfold L_Ref_digest_98 at e11
            refine RM.blk [(1, 4, 0, .null), (0, 0, 0, .int 7)] (pc' := 102) (L' := [some (.ref 76), some (.long x11.1), none, some (.int (x9.2)), some (.int x11.2)]) (st' := [.int 7, .int x11.2]) (σ1 := σ) (by decide +kernel) rfl ?_
            refine RM.icmp_ge (tgt := 126) (by decide +kernel) (fun c12 => ?_) (fun c12 => ?_)
            · rw [if_pos c12] at e11
              obtain rfl := Option.some.inj e11
              obtain rfl := Option.some.inj (show some (x11.1 : Int64) = some y11 from hy11)
              refine RN.dropB [true, true, false, true, false] rfl ?_
              exact hK11
            · rw [if_neg c12] at e11
              refine RM.blk [(0, 0, 0, .long 31), (20, 1, 0, .null), (19, 0, 0, .null), (2, 0, 0, .null), (1, 3, 0, .null), (1, 4, 0, .null)] (pc' := 114) (L' := [some (.ref 76), some (.long x11.1), none, some (.int (x9.2)), some (.int x11.2)]) (st' := [.int x11.2, .int (x9.2), .ref 76, .long (31 * x11.1)]) (σ1 := σ) (by decide +kernel) rfl ?_
              obtain ⟨v13, hv13, e11⟩ := ob_some e11
              refine RN.callV [.int (x9.2), .int x11.2] (s_Ref_cube σ (x9.2) x11.2 v13 hv13) [.long (31 * x11.1)] (pc3 := 117) (st3 := [.int v13, .long (31 * x11.1)]) (by decide +kernel) mk_Ref_cube (by decide) ?_
              refine RM.blk [(17, 0, 0, .null), (18, 0, 0, .null), (21, 1, 0, .null), (10, 4, 0, .int 1), (23, 0, 0, .null)] (pc' := 98) (L' := [some (.ref 76), some (.long ((31 * x11.1) + v13.toInt64)), none, some (.int (x9.2)), some (.int (x11.2 + 1))]) (st' := []) (σ1 := σ) (by decide +kernel) rfl ?_
              obtain rfl := Option.some.inj e11
              refine RN.dropB [true, true, false, true, true] rfl ?_
              exact ih11 (((31 * x11.1) + v13.toInt64), (x11.2 + 1)) _ hy11 hK11
        obtain ⟨y11, hl11, e9⟩ := ob_some e9
        refine RN.dropB [true, true, false, true, true] rfl ?_
        refine hL11 FU (x9.1, 0) y11 hl11 ?_
        refine RM.blk [(10, 3, 0, .int 1), (23, 0, 0, .null)] (pc' := 87) (L' := [some (.ref 76), some (.long y11), none, some (.int (x9.2 + 1)), none]) (st' := []) (σ1 := σ) (by decide +kernel) rfl ?_
        obtain rfl := Option.some.inj e9
        refine RN.dropB [true, true, false, true, false] rfl ?_
        exact ih9 (y11, (x9.2 + 1)) _ hy9 hK9
  obtain ⟨y9, hl9, h⟩ := ob_some h
  refine RN.dropB [true, true, false, true, false] rfl ?_
  refine hL9 FU (y4, 0) y9 hl9 ?_
  refine RM.blk [(0, 0, 0, .int 0), (4, 3, 0, .null)] (pc' := 134) (L' := [some (.ref 76), some (.long y9), none, some (.int 0), none]) (st' := []) (σ1 := σ) (by decide +kernel) rfl ?_
  have hL14 : ∀ (n : Nat) (x14 : Int64 × Int32) (y14 : Int64), lpW (L_Ref_digest_134 σ) n x14 = some y14 → RN 3 M_Ref_digest (some (.long rr)) σ 162 [none, some (.long y14), none, none, none] [] σ → RN 3 M_Ref_digest (some (.long rr)) σ 134 [some (.ref 76), some (.long x14.1), none, some (.int x14.2), none] [] σ := by
    intro n
    induction n with
    | zero => intro x14 y14 hy14; cases hy14
    | succ n ih14 =>
      intro x14 y14 hy14 hK14
      obtain ⟨z14, e14, hy14⟩ := ob_some hy14
      unfold L_Ref_digest_134 at e14
      refine RM.blk [(1, 3, 0, .null), (2, 0, 0, .null), (3, 12, 18, .null)] (pc' := 139) (L' := [some (.ref 76), some (.long x14.1), none, some (.int x14.2), none]) (st' := [.int (σ 76 18), .int x14.2]) (σ1 := σ) (by decide +kernel) rfl ?_
      refine RM.icmp_ge (tgt := 162) (by decide +kernel) (fun c15 => ?_) (fun c15 => ?_)
      · rw [if_pos c15] at e14
        obtain rfl := Option.some.inj e14
        obtain rfl := Option.some.inj (show some (x14.1 : Int64) = some y14 from hy14)
        refine RN.dropB [false, true, false, false, false] rfl ?_
        exact hK14
      · rw [if_neg c15] at e14
        refine RM.blk [(0, 0, 0, .long 31), (20, 1, 0, .null), (19, 0, 0, .null), (2, 0, 0, .null), (3, 12, 20, .null), (1, 3, 0, .null)] (pc' := 152) (L' := [some (.ref 76), some (.long x14.1), none, some (.int x14.2), none]) (st' := [.int x14.2, .ref 89, .long (31 * x14.1)]) (σ1 := σ) (by decide +kernel) rfl ?_
        obtain ⟨g16, e14⟩ := og_some e14
        refine RM.iald (q := 89) (n := 10) (by decide +kernel) rfl (vin_of g16) ?_
        refine RM.blk [(17, 0, 0, .null), (18, 0, 0, .null), (21, 1, 0, .null), (10, 3, 0, .int 1), (23, 0, 0, .null)] (pc' := 134) (L' := [some (.ref 76), some (.long ((31 * x14.1) + (σ 89 (ix x14.2)).toInt64)), none, some (.int (x14.2 + 1)), none]) (st' := []) (σ1 := σ) (by decide +kernel) rfl ?_
        obtain rfl := Option.some.inj e14
        refine RN.dropB [true, true, false, true, false] rfl ?_
        exact ih14 (((31 * x14.1) + (σ 89 (ix x14.2)).toInt64), (x14.2 + 1)) _ hy14 hK14
  obtain ⟨y14, hl14, h⟩ := ob_some h
  refine RN.dropB [true, true, false, true, false] rfl ?_
  refine hL14 FU (y9, 0) y14 hl14 ?_
  refine RM.blk [(20, 1, 0, .null)] (pc' := 163) (L' := [none, some (.long y14), none, none, none]) (st' := [.long y14]) (σ1 := σ) (by decide +kernel) rfl ?_
  obtain rfl := (Option.some.inj h)
  exact RM.retl (by decide +kernel) rfl
