/-! simple: field, draw, colour, mark, lot, left, more, hand -/
theorem wi_0w {σw : Int32} {w : Nat} {a : Int32} (hw : σw = nI w) (h1 : 1 ≤ w) (h2 : w < 2 ^ 31) (h : F_Shop_within a 0 (σw - 1) = true) : ∃ x, x < w ∧ a = nI x := by
  rw [hw, nI_sub1 h1] at h
  obtain ⟨x, hx1, hx2, rfl⟩ := wi_nI (a := 0) (by decide) (by omega) h
  exact ⟨x, by omega, rfl⟩
theorem wi_0 {k b : Nat} (h : k ≤ b) (hb : b < 2 ^ 31) : F_Shop_within (nI k) 0 (nI b) = true := wi_of (a := 0) (Nat.zero_le _) h hb
theorem has_nI {σ : SG} {w h : Nat} (hD : RD σ w h) {a b : Int32} (hh : F_Drawing_has σ a b = true) : ∃ x y, x < w ∧ y < h ∧ a = nI x ∧ b = nI y := by
  unfold F_Drawing_has at hh
  by_cases h1 : F_Shop_within a 0 (σ 1 0 - 1) = true
  · rw [if_pos h1] at hh
    by_cases h2 : F_Shop_within b 0 (σ 1 1 - 1) = true
    · obtain ⟨x, hx, rfl⟩ := wi_0w hD.1 hD.2.2.2.2.1 (by have := hD.2.2.2.2.2.1; omega) h1
      obtain ⟨y, hy, rfl⟩ := wi_0w hD.2.1 hD.2.2.2.2.2.2.1 (by have := hD.2.2.2.2.2.2.2.1; omega) h2
      exact ⟨x, y, hx, hy, rfl, rfl⟩
    · rw [if_neg h2] at hh; cases hh
  · rw [if_neg h1] at hh; cases hh
theorem has_of {σ : SG} {w h x y : Nat} (hD : RD σ w h) (hx : x < w) (hy : y < h) : F_Drawing_has σ (nI x) (nI y) = true := by
  unfold F_Drawing_has
  obtain ⟨e1, e2, -, -, g1, g2, g3, g4, -⟩ := hD
  rw [e1, e2, nI_sub1 g1, nI_sub1 g3, if_pos (wi_0 (by omega) (by omega)), if_pos (wi_0 (by omega) (by omega))]
theorem isPl {σ : SG} {w h : Nat} (hD : RD σ w h) (a b : Int32) : F_Ref_isPlace σ a b = F_Drawing_has σ a b := by
  unfold F_Ref_isPlace F_Drawing_has
  rw [hD.2.2.1, hD.2.2.2.1, hD.1, hD.2.1]
  rfl
theorem pl_nI (x y : Nat) : F_Drawing_place (nI x) (nI y) = nI (24 * y + x) := by
  unfold F_Drawing_place
  rw [l24, nI_mul, nI_add, Nat.mul_comm]
theorem pl_nI' (x y : Nat) : 24 * nI y + nI x = nI (24 * y + x) := by
  rw [l24, nI_mul, nI_add]
theorem fAt {σ : SG} {x y : Nat} (h : 24 * y + x < 240) : F_Drawing_fieldAt σ (nI x) (nI y) = σ 3 (24 * y + x) := by
  unfold F_Drawing_fieldAt
  rw [pl_nI, rg_nI h (by decide)]
theorem pl_lt {σ : SG} {w h : Nat} (hD : RD σ w h) {x y : Nat} (hx : x < w) (hy : y < h) : 24 * y + x < 240 := by
  obtain ⟨-, -, -, -, g1, g2, g3, g4, -⟩ := hD
  omega
theorem op_field {σ : SG} (hR : R σ) (a b : Int32) : F_Ref_field σ a b = some (F_Shop_field σ a b) := by
  obtain ⟨w, h, m, q, n, S, pt, hD, hF, hL, hH, hC⟩ := hR
  unfold F_Ref_field F_Shop_field
  rw [isPl hD]
  by_cases hh : F_Drawing_has σ a b = true
  · rw [if_pos hh, if_pos hh]
    obtain ⟨x, y, hx, hy, rfl, rfl⟩ := has_nI hD hh
    have hlt := pl_lt hD hx hy
    rw [pl_nI', vin_nI hlt (by decide), og_t, ix_nI (by omega), fAt hlt, hD.2.2.2.2.2.2.2.2.1]
  · rw [if_neg hh, if_neg hh]
theorem isF_nI {p : Int32} (h : F_Shop_within p 0 7 = true) : ∃ f, f < 8 ∧ p = nI f := by
  obtain ⟨k, -, h2, rfl⟩ := wi_nI (a := 0) (b := 7) (by decide) (by decide) h
  exact ⟨k, by omega, rfl⟩
theorem isC_nI {a b c : Int32} (h : F_Shop_isColour a b c = true) : ∃ x y z, x ≤ 255 ∧ y ≤ 255 ∧ z ≤ 255 ∧ a = nI x ∧ b = nI y ∧ c = nI z := by
  unfold F_Shop_isColour at h
  by_cases h1 : F_Shop_within a 0 255 = true
  rotate_left
  · rw [if_neg h1] at h; cases h
  rw [if_pos h1] at h
  by_cases h2 : F_Shop_within b 0 255 = true
  rotate_left
  · rw [if_neg h2] at h; cases h
  rw [if_pos h2] at h
  by_cases h3 : F_Shop_within c 0 255 = true
  rotate_left
  · rw [if_neg h3] at h; cases h
  obtain ⟨x, -, hx, rfl⟩ := wi_nI (a := 0) (b := 255) (by decide) (by decide) h1
  obtain ⟨y, -, hy, rfl⟩ := wi_nI (a := 0) (b := 255) (by decide) (by decide) h2
  obtain ⟨z, -, hz, rfl⟩ := wi_nI (a := 0) (b := 255) (by decide) (by decide) h3
  exact ⟨x, y, z, hx, hy, hz, rfl, rfl, rfl⟩
theorem isC_same (a b c : Int32) : F_Ref_isColour a b c = F_Shop_isColour a b c := rfl
theorem op_colour {σ : SG} (hR : R σ) (a b c d : Int32) : ∃ r σ1 σ2, F_Shop_colour σ a b c d = (r, σ1) ∧ F_Ref_colour σ1 a b c d = some (r, σ2) ∧ R σ2 := by
  by_cases ha : F_Shop_within a 0 7 = true
  rotate_left
  · refine ⟨-2, σ, σ, ?_, ?_, hR⟩
    · unfold F_Shop_colour F_Shop_isField; rw [if_neg ha]
    · unfold F_Ref_colour; rw [in_wi, if_neg ha]
  by_cases hb : F_Shop_isColour b c d = true
  rotate_left
  · refine ⟨-2, σ, σ, ?_, ?_, hR⟩
    · unfold F_Shop_colour F_Shop_isField; rw [if_pos ha, if_neg hb]
    · unfold F_Ref_colour; rw [in_wi, if_pos ha, isC_same, if_neg hb]
  obtain ⟨f, hf, rfl⟩ := isF_nI ha
  obtain ⟨x, y, z, hx, hy, hz, rfl, rfl, rfl⟩ := isC_nI hb
  obtain ⟨w, h, m, q, n, S, pt, hD, hF, hL, hH, hC⟩ := hR
  refine ⟨1, up (up (up σ 7 f (nI x)) 9 f (nI y)) 11 f (nI z), up (up (up (up (up (up σ 7 f (nI x)) 9 f (nI y)) 11 f (nI z)) 78 (3 * f) (nI x)) 78 (3 * f + 1) (nI y)) 78 (3 * f + 2) (nI z), ?_, ?_, w, h, m, q, n, S, pt, ?_, ?_, ?_, ?_, ?_⟩
  · unfold F_Shop_colour F_Shop_isField F_Colours_put_5 nm
    rw [if_pos ha, if_pos hb, rs_nI hf (by decide), rs_nI hf (by decide), rs_nI hf (by decide)]
  · unfold F_Ref_colour nm
    rw [in_wi, if_pos ha, isC_same, if_pos hb, l3, nI_mul, l1, l2, nI_add, nI_add, vin_nI (by omega) (by decide), og_t, vin_nI (by omega) (by decide), og_t, vin_nI (by omega) (by decide)]
    dsimp only
    rw [og_t, ix_nI (by omega), ix_nI (by omega), ix_nI (by omega)]
  · exact RD_c (fun p hp => by rcases hp with rfl | rfl | rfl <;> rfl) rfl rfl hD
  · refine ⟨hF.1, hF.2.1, fun g hg => ?_⟩
    obtain ⟨⟨a0, b0, c0, k1, k2, k3, e1, e2, e3, e4, e5, e6⟩, rest⟩ := hF.2.2 g hg
    refine ⟨?_, rest⟩
    by_cases hgf : g = f
    · subst hgf
      refine ⟨x, y, z, hx, hy, hz, upd_at _ _ _, ?_, upd_at _ _ _, ?_, upd_at _ _ _, upd_at _ _ _⟩
      · show upd (upd (upd (σ 78) (3 * g) (nI x)) (3 * g + 1) (nI y)) (3 * g + 2) (nI z) (3 * g) = nI x
        rw [upd_ne _ _ (by omega), upd_ne _ _ (by omega), upd_at]
      · show upd (upd (upd (σ 78) (3 * g) (nI x)) (3 * g + 1) (nI y)) (3 * g + 2) (nI z) (3 * g + 1) = nI y
        rw [upd_ne _ _ (by omega), upd_at]
    · refine ⟨a0, b0, c0, k1, k2, k3, (upd_ne _ _ hgf).trans e1, ?_, (upd_ne _ _ hgf).trans e3, ?_, (upd_ne _ _ hgf).trans e5, ?_⟩
      · show upd (upd (upd (σ 78) (3 * f) (nI x)) (3 * f + 1) (nI y)) (3 * f + 2) (nI z) (3 * g) = nI a0
        rw [upd_ne _ _ (by omega), upd_ne _ _ (by omega), upd_ne _ _ (by omega), e2]
      · show upd (upd (upd (σ 78) (3 * f) (nI x)) (3 * f + 1) (nI y)) (3 * f + 2) (nI z) (3 * g + 1) = nI b0
        rw [upd_ne _ _ (by omega), upd_ne _ _ (by omega), upd_ne _ _ (by omega), e4]
      · show upd (upd (upd (σ 78) (3 * f) (nI x)) (3 * f + 1) (nI y)) (3 * f + 2) (nI z) (3 * g + 2) = nI c0
        rw [upd_ne _ _ (by omega), upd_ne _ _ (by omega), upd_ne _ _ (by omega), e6]
  · exact RLo_c (fun p hp => by rcases hp with rfl | rfl | rfl | rfl | rfl | rfl | rfl <;> rfl) rfl hL
  · exact RH_c (fun p hp => by rcases hp with rfl | rfl | rfl | rfl | rfl <;> rfl) rfl hH
  · exact RC_c (fun p hp => by rcases hp with rfl | rfl | rfl | rfl | rfl | rfl | rfl | rfl | rfl | rfl | rfl | rfl | rfl | rfl | rfl | rfl | rfl | rfl | rfl <;> rfl) (fun k hk => rfl) hC
theorem bI_z (z : Bool) : (if z = true then (1 : Int32) else 0) = bI z := by cases z <;> rfl
theorem op_mark {σ : SG} (hR : R σ) (a b : Int32) (c d : Bool) : ∃ r σ1 σ2, F_Shop_mark σ a b c d = (r, σ1) ∧ F_Ref_mark σ1 a b c d = some (r, σ2) ∧ R σ2 := by
  by_cases ha : F_Shop_within a 0 7 = true
  rotate_left
  · refine ⟨-2, σ, σ, ?_, ?_, hR⟩
    · unfold F_Shop_mark F_Shop_isField; rw [if_neg ha]
    · unfold F_Ref_mark; rw [in_wi, if_neg ha]
  by_cases hb : F_Shop_within b 1 3 = true
  rotate_left
  · refine ⟨-2, σ, σ, ?_, ?_, hR⟩
    · unfold F_Shop_mark F_Shop_isField; rw [if_pos ha, if_neg hb]
    · unfold F_Ref_mark; rw [in_wi, if_pos ha, in_wi, if_neg hb]
  obtain ⟨f, hf, rfl⟩ := isF_nI ha
  obtain ⟨g, hg1, hg2, rfl⟩ := wi_nI (a := 1) (b := 3) (by decide) (by decide) hb
  obtain ⟨w, h, m, q, n, S, pt, hD, hF, hL, hH, hC⟩ := hR
  refine ⟨1, up (up (up σ 13 f (nI g)) 15 f (bI c)) 17 f (bI d), up (up (up (up (up (up σ 13 f (nI g)) 15 f (bI c)) 17 f (bI d)) 79 f (nI (3 - g))) 80 f (bI c)) 81 f (bI d), ?_, ?_, w, h, m, q, n, S, pt, ?_, ?_, ?_, ?_, ?_⟩
  · unfold F_Shop_mark F_Shop_isField nm
    rw [if_pos ha, if_pos hb]
    cases c <;> cases d <;> simp only [Bool.false_eq_true, if_false, if_true] <;> rw [rs_nI hf (by decide), rs_nI hf (by decide), rs_nI hf (by decide)] <;> rfl
  · unfold F_Ref_mark nm
    rw [in_wi, if_pos ha, in_wi, if_pos hb, vin_nI hf (by decide), og_t, og_t]
    dsimp only
    rw [og_t, ix_nI (by omega), l3, pk_sub hg2]
  · exact RD_c (fun p hp => by rcases hp with rfl | rfl | rfl <;> rfl) rfl rfl hD
  · refine ⟨?_, ?_, fun k hk => ?_⟩
    · show upd (σ 80) f (bI c) = upd (σ 15) f (bI c)
      rw [hF.1]
    · show upd (σ 81) f (bI d) = upd (σ 17) f (bI d)
      rw [hF.2.1]
    · obtain ⟨e1, ⟨g0, k1, k2, e2, e3⟩, ⟨z1, e4⟩, ⟨z2, e5⟩⟩ := hF.2.2 k hk
      refine ⟨e1, ?_, ?_, ?_⟩
      · by_cases hkf : k = f
        · subst hkf
          exact ⟨g, hg1, hg2, upd_at _ _ _, upd_at _ _ _⟩
        · exact ⟨g0, k1, k2, (upd_ne _ _ hkf).trans e2, (upd_ne _ _ hkf).trans e3⟩
      · by_cases hkf : k = f
        · subst hkf
          exact ⟨c, upd_at _ _ _⟩
        · exact ⟨z1, (upd_ne _ _ hkf).trans e4⟩
      · by_cases hkf : k = f
        · subst hkf
          exact ⟨d, upd_at _ _ _⟩
        · exact ⟨z2, (upd_ne _ _ hkf).trans e5⟩
  · exact RLo_c (fun p hp => by rcases hp with rfl | rfl | rfl | rfl | rfl | rfl | rfl <;> rfl) rfl hL
  · exact RH_c (fun p hp => by rcases hp with rfl | rfl | rfl | rfl | rfl <;> rfl) rfl hH
  · exact RC_c (fun p hp => by rcases hp with rfl | rfl | rfl | rfl | rfl | rfl | rfl | rfl | rfl | rfl | rfl | rfl | rfl | rfl | rfl | rfl | rfl | rfl | rfl <;> rfl) (fun k hk => rfl) hC
theorem op_lot {σ : SG} (hR : R σ) (a b c d : Int32) : ∃ r σ1 σ2, F_Shop_lot σ a b c d = (r, σ1) ∧ F_Ref_lot σ1 a b c d = some (r, σ2) ∧ R σ2 := by
  by_cases ha : F_Shop_isColour a b c = true
  rotate_left
  · refine ⟨-2, σ, σ, ?_, ?_, hR⟩
    · unfold F_Shop_lot; rw [if_neg ha]
    · unfold F_Ref_lot; rw [isC_same, if_neg ha]
  by_cases hb : F_Shop_within d 0 1000 = true
  rotate_left
  · refine ⟨-2, σ, σ, ?_, ?_, hR⟩
    · unfold F_Shop_lot; rw [if_pos ha, if_neg hb]
    · unfold F_Ref_lot; rw [isC_same, if_pos ha, in_wi, if_neg hb]
  obtain ⟨w, h, m, q, n, S, pt, hD, hF, hL, hH, hC⟩ := id hR
  obtain ⟨e1, e2, e3, e4, e5⟩ := hL
  by_cases hm : m = 10
  · refine ⟨-4, σ, σ, ?_, ?_, hR⟩
    · unfold F_Shop_lot; rw [if_pos ha, if_pos hb, e1, if_pos (show (10 : Int32) ≤ nI m by rw [hm]; exact nI_le (Nat.le_refl 10) (by decide))]
    · unfold F_Ref_lot; rw [isC_same, if_pos ha, in_wi, if_pos hb, e2, if_pos (by rw [hm]; rfl)]
  have hm2 : m < 10 := by omega
  obtain ⟨x, y, z, hx, hy, hz, rfl, rfl, rfl⟩ := isC_nI ha
  refine ⟨nI m, up (up (up (up (up σ 47 m (nI x)) 49 m (nI y)) 51 m (nI z)) 44 m d) 42 0 (nI (m + 1)), up (up (up (up (up (up (up (up (up (up σ 47 m (nI x)) 49 m (nI y)) 51 m (nI z)) 44 m d) 42 0 (nI (m + 1))) 88 (3 * m) (nI x)) 88 (3 * m + 1) (nI y)) 88 (3 * m + 2) (nI z)) 89 m d) 76 18 (nI (m + 1)), ?_, ?_, w, h, m + 1, q, n, S, pt, ?_, ?_, ?_, ?_, ?_⟩
  · unfold F_Shop_lot
    rw [if_pos ha, if_pos hb, e1, if_neg (show ¬ (10 : Int32) ≤ nI m from nI_ge hm2 (by decide))]
    unfold F_Lots_bring F_Colours_put_45 nm
    dsimp only
    rw [e1, rs_nI hm2 (by decide), rs_nI hm2 (by decide), rs_nI hm2 (by decide)]
    rw [show (up (up (up σ 47 m (nI x)) 49 m (nI y)) 51 m (nI z)) 42 0 = nI m from e1, rs_nI hm2 (by decide)]
    rw [show (up (up (up (up σ 47 m (nI x)) 49 m (nI y)) 51 m (nI z)) 44 m d) 42 0 = nI m from e1, nI_1]
    rw [show ∀ τ : SG, (up τ 42 0 (nI (m + 1))) 42 0 = nI (m + 1) from fun _ => rfl, nI_sub1 (by omega)]
    rfl
  · unfold F_Ref_lot
    rw [isC_same, if_pos ha, in_wi, if_pos hb]
    generalize hσ1 : up (up (up (up (up σ 47 m (nI x)) 49 m (nI y)) 51 m (nI z)) 44 m d) 42 0 (nI (m + 1)) = σ1
    have f2 : σ1 76 18 = nI m := by rw [← hσ1]; exact e2
    have f3 : ∀ (i j k : Nat) (u v t : Int32), up (up (up σ1 88 i u) 88 j v) 88 k t 76 18 = nI m := fun i j k u v t => f2
    have f4 : ∀ (i j : Nat) (u v : Int32), up (up σ1 88 i u) 88 j v 76 18 = nI m := fun i j u v => f2
    have f5 : ∀ (i : Nat) (u : Int32), up σ1 88 i u 76 18 = nI m := fun i u => f2
    have f6 : ∀ (i j k p : Nat) (u v t s : Int32), up (up (up (up σ1 88 i u) 88 j v) 88 k t) 89 p s 76 18 = nI m := fun i j k p u v t s => f2
    rw [f2, if_neg (show ¬ nI m = (10 : Int32) from fun e => hm ((nI_eq (by omega) (by decide)).mp e)), l3, nI_mul, ix_nI (by omega), f5, l1, l2, nI_mul, nI_add, vin_nI (by omega) (by decide), og_t, vin_nI (by omega) (by decide), og_t, ix_nI (by omega)]
    unfold nm
    dsimp only
    rw [f4, nI_mul, nI_add, vin_nI (by omega) (by decide), og_t, ix_nI (by omega), f3, vin_nI (by omega) (by decide), og_t, ix_nI (by omega), f6, nI_add]
    rw [show ∀ τ : SG, (up τ 76 18 (nI (m + 1))) 76 18 = nI (m + 1) from fun _ => rfl, show nI (m + 1) - nI 1 = nI m from nI_pred m]
  · exact RD_c (fun p hp => by rcases hp with rfl | rfl | rfl <;> rfl) rfl rfl hD
  · exact RF_c (fun p hp => by rcases hp with rfl | rfl | rfl | rfl | rfl | rfl | rfl | rfl | rfl | rfl <;> rfl) hF
  · refine ⟨rfl, rfl, by omega, ?_, fun l hl => ?_⟩
    · show upd (σ 89) m d = upd (σ 44) m d
      rw [e4]
    · obtain ⟨a0, b0, c0, k1, k2, k3, g1, g2, g3, g4, g5, g6⟩ := e5 l hl
      by_cases hlm : l = m
      · subst hlm
        refine ⟨x, y, z, hx, hy, hz, upd_at _ _ _, ?_, upd_at _ _ _, ?_, upd_at _ _ _, upd_at _ _ _⟩
        · show upd (upd (upd (σ 88) (3 * l) (nI x)) (3 * l + 1) (nI y)) (3 * l + 2) (nI z) (3 * l) = nI x
          rw [upd_ne _ _ (by omega), upd_ne _ _ (by omega), upd_at]
        · show upd (upd (upd (σ 88) (3 * l) (nI x)) (3 * l + 1) (nI y)) (3 * l + 2) (nI z) (3 * l + 1) = nI y
          rw [upd_ne _ _ (by omega), upd_at]
      · refine ⟨a0, b0, c0, k1, k2, k3, (upd_ne _ _ hlm).trans g1, ?_, (upd_ne _ _ hlm).trans g3, ?_, (upd_ne _ _ hlm).trans g5, ?_⟩
        · show upd (upd (upd (σ 88) (3 * m) (nI x)) (3 * m + 1) (nI y)) (3 * m + 2) (nI z) (3 * l) = nI a0
          rw [upd_ne _ _ (by omega), upd_ne _ _ (by omega), upd_ne _ _ (by omega), g2]
        · show upd (upd (upd (σ 88) (3 * m) (nI x)) (3 * m + 1) (nI y)) (3 * m + 2) (nI z) (3 * l + 1) = nI b0
          rw [upd_ne _ _ (by omega), upd_ne _ _ (by omega), upd_ne _ _ (by omega), g4]
        · show upd (upd (upd (σ 88) (3 * m) (nI x)) (3 * m + 1) (nI y)) (3 * m + 2) (nI z) (3 * l + 2) = nI c0
          rw [upd_ne _ _ (by omega), upd_ne _ _ (by omega), upd_ne _ _ (by omega), g6]
  · exact RH_c (fun p hp => by rcases hp with rfl | rfl | rfl | rfl | rfl <;> rfl) rfl hH
  · exact RC_m (Nat.le_succ m) (RC_c (fun p hp => by rcases hp with rfl | rfl | rfl | rfl | rfl | rfl | rfl | rfl | rfl | rfl | rfl | rfl | rfl | rfl | rfl | rfl | rfl | rfl | rfl <;> rfl) (fun k hk => by rcases hk with rfl | rfl | rfl | rfl | rfl <;> rfl) hC)
theorem lots_has {σ : SG} {m : Nat} (hL : RLo σ m) (a : Int32) : (F_Lots_has σ a = true ∧ F_Shop_within a 0 (σ 76 18 - 1) = true ∧ ∃ k, k < m ∧ a = nI k) ∨ (¬ F_Lots_has σ a = true ∧ ¬ F_Shop_within a 0 (σ 76 18 - 1) = true) := by
  obtain ⟨e1, e2, e3, -⟩ := hL
  unfold F_Lots_has
  rw [e1, e2]
  have hT : (nI m - 1).toInt = (m : Int) - 1 := by
    by_cases h0 : 1 ≤ m
    · rw [nI_sub1 h0, nI_toInt (by omega)]; omega
    · have : m = 0 := by omega
      subst this
      rfl
  by_cases h1 : a < 0
  · right
    rw [if_pos h1]
    refine ⟨fun h => (by cases h), fun h => ?_⟩
    have := (wi_iff.mp h).1
    exact k2_nlt this h1
  · obtain ⟨k, hk, rfl⟩ := nI_of h1
    rw [if_neg h1]
    by_cases h2 : k < m
    · left
      rw [if_neg (nI_ge h2 (by omega))]
      refine ⟨rfl, wi_iff.mpr ⟨nI_pos' hk, ?_⟩, k, h2, rfl⟩
      rw [le_T, hT, nI_toInt hk]
      omega
    · right
      rw [if_pos (nI_le (by omega) hk)]
      refine ⟨fun h => (by cases h), fun h => ?_⟩
      have := (wi_iff.mp h).2
      rw [le_T, hT, nI_toInt hk] at this
      omega
theorem op_left {σ : SG} (hR : R σ) (a : Int32) : F_Ref_left σ a = some (F_Shop_left σ a) := by
  obtain ⟨w, h, m, q, n, S, pt, hD, hF, hL, hH, hC⟩ := hR
  unfold F_Ref_left F_Shop_left
  rw [in_wi]
  rcases lots_has hL a with ⟨h1, h2, k, hk, rfl⟩ | ⟨h1, h2⟩
  · have := hL.2.2.1
    rw [if_pos h1, if_pos h2, vin_nI (by omega) (by decide), og_t, rg_nI (by omega) (by decide), ix_nI (by omega), hL.2.2.2.1]
  · rw [if_neg h1, if_neg h2]
theorem op_more {σ : SG} (hR : R σ) (a b : Int32) : ∃ r σ1 σ2, F_Shop_more σ a b = (r, σ1) ∧ F_Ref_more σ1 a b = some (r, σ2) ∧ R σ2 := by
  obtain ⟨w, h, m, q, n, S, pt, hD, hF, hL, hH, hC⟩ := id hR
  rcases lots_has hL a with ⟨h1, h2, k, hk, rfl⟩ | ⟨h1, h2⟩
  rotate_left
  · refine ⟨-2, σ, σ, ?_, ?_, hR⟩
    · unfold F_Shop_more; rw [if_neg h1]
    · unfold F_Ref_more; rw [in_wi, if_neg h2]
  by_cases hb : F_Shop_within b 0 1000 = true
  rotate_left
  · refine ⟨-2, σ, σ, ?_, ?_, hR⟩
    · unfold F_Shop_more; rw [if_pos h1, if_neg hb]
    · unfold F_Ref_more; rw [in_wi, if_pos h2, in_wi, if_neg hb]
  obtain ⟨e1, e2, e3, e4, e5⟩ := hL
  have hk10 : k < 10 := by omega
  by_cases hs : σ 44 k + b ≤ 1000
  rotate_left
  · refine ⟨-3, σ, σ, ?_, ?_, hR⟩
    · unfold F_Shop_more; rw [if_pos h1, if_pos hb, rg_nI hk10 (by decide), if_neg hs]
    · unfold F_Ref_more; rw [in_wi, if_pos h2, in_wi, if_pos hb, vin_nI hk10 (by decide), og_t, ix_nI (by omega), e4, if_neg hs]
  refine ⟨σ 44 k + b, up σ 44 k (σ 44 k + b), up (up σ 44 k (σ 44 k + b)) 89 k (σ 44 k + b), ?_, ?_, w, h, m, q, n, S, pt, ?_, ?_, ?_, ?_, ?_⟩
  · unfold F_Shop_more
    rw [if_pos h1, if_pos hb, rg_nI hk10 (by decide), if_pos hs, ra_nI hk10 (by decide), rg_nI hk10 (by decide)]
    refine congrArg (fun t => (t, _)) ?_
    exact upd_at _ _ _
  · unfold F_Ref_more
    rw [in_wi, show (up σ 44 k (σ 44 k + b)) 76 18 = σ 76 18 from rfl, if_pos h2, in_wi, if_pos hb, vin_nI hk10 (by decide), og_t, ix_nI (by omega), show (up σ 44 k (σ 44 k + b)) 89 = σ 44 from e4, if_pos hs, og_t, og_t, og_t]
    refine congrArg (fun t => some (t, _)) ?_
    exact upd_at _ _ _
  · exact RD_c (fun p hp => by rcases hp with rfl | rfl | rfl <;> rfl) rfl rfl hD
  · exact RF_c (fun p hp => by rcases hp with rfl | rfl | rfl | rfl | rfl | rfl | rfl | rfl | rfl | rfl <;> rfl) hF
  · refine ⟨e1, e2, e3, ?_, e5⟩
    show upd (σ 89) k (σ 44 k + b) = upd (σ 44) k (σ 44 k + b)
    rw [e4]
  · exact RH_c (fun p hp => by rcases hp with rfl | rfl | rfl | rfl | rfl <;> rfl) rfl hH
  · exact RC_c (fun p hp => by rcases hp with rfl | rfl | rfl | rfl | rfl | rfl | rfl | rfl | rfl | rfl | rfl | rfl | rfl | rfl | rfl | rfl | rfl | rfl | rfl <;> rfl) (fun k hk => by rcases hk with rfl | rfl | rfl | rfl | rfl <;> rfl) hC
theorem op_hand {σ : SG} (hR : R σ) (a : Int32) (b : Bool) : ∃ r σ1 σ2, F_Shop_hand σ a b = (r, σ1) ∧ F_Ref_hand σ1 a b = some (r, σ2) ∧ R σ2 := by
  by_cases ha : F_Shop_within a 1 20 = true
  rotate_left
  · refine ⟨-2, σ, σ, ?_, ?_, hR⟩
    · unfold F_Shop_hand; rw [if_neg ha]
    · unfold F_Ref_hand; rw [in_wi, if_neg ha]
  obtain ⟨w, h, m, q, n, S, pt, hD, hF, hL, hH, hC⟩ := id hR
  obtain ⟨e1, e2, e3, e4, e5, e6⟩ := hH
  by_cases hq : q = 4
  · refine ⟨-4, σ, σ, ?_, ?_, hR⟩
    · unfold F_Shop_hand; rw [if_pos ha, e1, if_pos (show (4 : Int32) ≤ nI q by rw [hq]; exact nI_le (Nat.le_refl 4) (by decide))]
    · unfold F_Ref_hand; rw [in_wi, if_pos ha, e2, if_pos (by rw [hq]; rfl)]
  have hq2 : q < 4 := by omega
  obtain ⟨k, hk1, hk2, rfl⟩ := wi_nI (a := 1) (b := 20) (by decide) (by decide) ha
  refine ⟨nI q, up (up (up σ 62 q (nI k)) 64 q (bI b)) 60 0 (nI (q + 1)), up (up (up (up (up (up σ 62 q (nI k)) 64 q (bI b)) 60 0 (nI (q + 1))) 90 q (nI k)) 91 q (bI b)) 76 21 (nI (q + 1)), ?_, ?_, w, h, m, q + 1, n, S, pt, ?_, ?_, ?_, ?_, ?_⟩
  · unfold F_Shop_hand
    rw [if_pos ha, e1, if_neg (show ¬ (4 : Int32) ≤ nI q from nI_ge hq2 (by decide))]
    unfold F_Hands_hire nm
    cases b <;> simp only [Bool.false_eq_true, if_false, if_true]
    all_goals rw [e1, rs_nI hq2 (by decide), show (up σ 62 q (nI k)) 60 0 = nI q from e1, rs_nI hq2 (by decide)]
    · rw [show (up (up σ 62 q (nI k)) 64 q 0) 60 0 = nI q from e1, nI_1, show ∀ τ : SG, (up τ 60 0 (nI (q + 1))) 60 0 = nI (q + 1) from fun _ => rfl, nI_sub1 (by omega)]
      rfl
    · rw [show (up (up σ 62 q (nI k)) 64 q 1) 60 0 = nI q from e1, nI_1, show ∀ τ : SG, (up τ 60 0 (nI (q + 1))) 60 0 = nI (q + 1) from fun _ => rfl, nI_sub1 (by omega)]
      rfl
  · unfold F_Ref_hand
    rw [in_wi, if_pos ha]
    generalize hσ1 : up (up (up σ 62 q (nI k)) 64 q (bI b)) 60 0 (nI (q + 1)) = σ1
    have f2 : σ1 76 21 = nI q := by rw [← hσ1]; exact e2
    have f5 : ∀ (i : Nat) (u : Int32), up σ1 90 i u 76 21 = nI q := fun i u => f2
    have f6 : ∀ (i j : Nat) (u v : Int32), up (up σ1 90 i u) 91 j v 76 21 = nI q := fun i j u v => f2
    rw [f2, if_neg (show ¬ nI q = (4 : Int32) from fun e => hq ((nI_eq (by omega) (by decide)).mp e)), ix_nI (by omega), f5, vin_nI hq2 (by decide), og_t, og_t]
    unfold nm
    dsimp only
    rw [ix_nI (by omega), f6, nI_1, show ∀ τ : SG, (up τ 76 21 (nI (q + 1))) 76 21 = nI (q + 1) from fun _ => rfl, nI_sub1 (by omega)]
    rfl
  · exact RD_c (fun p hp => by rcases hp with rfl | rfl | rfl <;> rfl) rfl rfl hD
  · exact RF_c (fun p hp => by rcases hp with rfl | rfl | rfl | rfl | rfl | rfl | rfl | rfl | rfl | rfl <;> rfl) hF
  · exact RLo_c (fun p hp => by rcases hp with rfl | rfl | rfl | rfl | rfl | rfl | rfl <;> rfl) rfl hL
  · refine ⟨rfl, rfl, by omega, ?_, ?_, fun j hj => ?_⟩
    · show upd (σ 90) q (nI k) = upd (σ 62) q (nI k)
      rw [e4]
    · show upd (σ 91) q (bI b) = upd (σ 64) q (bI b)
      rw [e5]
    · by_cases hjq : j = q
      · subst hjq
        exact ⟨⟨k, hk1, hk2, upd_at _ _ _⟩, ⟨b, upd_at _ _ _⟩⟩
      · obtain ⟨⟨s, g1, g2, g3⟩, ⟨z, g4⟩⟩ := e6 j (by omega)
        exact ⟨⟨s, g1, g2, (upd_ne _ _ hjq).trans g3⟩, ⟨z, (upd_ne _ _ hjq).trans g4⟩⟩
  · exact RC_c (fun p hp => by rcases hp with rfl | rfl | rfl | rfl | rfl | rfl | rfl | rfl | rfl | rfl | rfl | rfl | rfl | rfl | rfl | rfl | rfl | rfl | rfl <;> rfl) (fun k hk => by rcases hk with rfl | rfl | rfl | rfl | rfl <;> rfl) hC
/-! draw: both fill the same places, and count the same -/
def dst (f : Int32) (j : Nat) (p : Int32 × (Nat → Int32)) : Int32 × (Nat → Int32) := (if p.2 j = f then p.1 else p.1 + 1, upd p.2 j f)
def it {A : Type} (F : Nat → A → A) : Nat → A → A
  | 0, a => a
  | n + 1, a => F n (it F n a)
def dRow (f : Int32) (y a n : Nat) (p : Int32 × (Nat → Int32)) : Int32 × (Nat → Int32) := it (fun k p => dst f (24 * y + a + k) p) n p
def dAll (f : Int32) (y0 a m n : Nat) (p : Int32 × (Nat → Int32)) : Int32 × (Nat → Int32) := it (fun k p => dRow f (y0 + k) a n p) m p
theorem upd_eq {f : Nat → Int32} {k : Nat} {x : Int32} (h : f k = x) : upd f k x = f := by subst h; exact upd_self f k
theorem fillC {σ : SG} {f : Int32} {y a c : Nat} (hc : 24 * y + c < 240) (ha : a ≤ c) (p : Int32 × (Nat → Int32)) : lpW (L_Drawing_fill_16 (nI c) f (nI y)) FU (p.1, nI a, sR σ 3 p.2) = some ((dRow f y a (c + 1 - a) p).1, sR σ 3 (dRow f y a (c + 1 - a) p).2) := by
  refine lpW_at (s := fun k => ((dRow f y a k p).1, nI (a + k), sR σ 3 (dRow f y a k p).2)) (c + 1 - a) rfl ?_ ?_ (by omega)
  · intro k hk
    have hlt : 24 * y + (a + k) < 240 := by omega
    unfold L_Drawing_fill_16
    dsimp only
    rw [if_neg (nI_nlt (by omega) (by omega)), fAt hlt, sR_at, pl_nI, rs_nI hlt (by decide), nI_1]
    show _ = some (Sum.inl ((dst f (24 * y + a + k) (dRow f y a k p)).1, nI (a + k + 1), sR σ 3 (dst f (24 * y + a + k) (dRow f y a k p)).2))
    unfold dst nm
    rw [← Nat.add_assoc]
    dsimp only
    by_cases hg : (dRow f y a k p).2 (24 * y + a + k) = f
    · rw [if_pos hg, if_pos hg, upd_eq hg]
    · rw [if_neg hg, if_neg hg, up_sR, sR_at, sR_sR]
  · unfold L_Drawing_fill_16
    dsimp only
    rw [if_pos (nI_lt (by omega) (by omega))]
theorem fillR {σ : SG} {f : Int32} {y a c : Nat} (hc : 24 * y + c < 240) (ha : a ≤ c) (p : Int32 × (Nat → Int32)) : lpW (L_Ref_draw_87 (nI c) f (nI y)) FU (p.1, nI a, sR σ 77 p.2) = some ((dRow f y a (c + 1 - a) p).1, sR σ 77 (dRow f y a (c + 1 - a) p).2) := by
  refine lpW_at (s := fun k => ((dRow f y a k p).1, nI (a + k), sR σ 77 (dRow f y a k p).2)) (c + 1 - a) rfl ?_ ?_ (by omega)
  · intro k hk
    have hlt : 24 * y + (a + k) < 240 := by omega
    unfold L_Ref_draw_87
    dsimp only
    rw [if_neg (nI_nlt (by omega) (by omega)), pl_nI', vin_nI hlt (by decide), og_t, og_t, ix_nI (by omega), nI_1]
    simp only [sR_at]
    show _ = some (Sum.inl ((dst f (24 * y + a + k) (dRow f y a k p)).1, nI (a + k + 1), sR σ 77 (dst f (24 * y + a + k) (dRow f y a k p)).2))
    unfold dst nm
    rw [← Nat.add_assoc]
    dsimp only
    by_cases hg : (dRow f y a k p).2 (24 * y + a + k) = f
    · rw [if_pos hg, if_pos hg, up_sR, sR_at, sR_sR, Int32.add_zero]
    · rw [if_neg hg, if_neg hg, og_t, up_sR, sR_at, sR_sR]
  · unfold L_Ref_draw_87
    dsimp only
    rw [if_pos (nI_lt (by omega) (by omega))]
theorem fillAC {σ : SG} {f : Int32} {a b c d : Nat} (hc : 24 * d + c < 240) (ha : a ≤ c) (hb : b ≤ d) (p : Int32 × (Nat → Int32)) : lpW (L_Drawing_fill_6 (nI a) (nI c) (nI d) f) FU (p.1, nI b, sR σ 3 p.2) = some ((dAll f b a (d + 1 - b) (c + 1 - a) p).1, sR σ 3 (dAll f b a (d + 1 - b) (c + 1 - a) p).2) := by
  refine lpW_at (s := fun k => ((dAll f b a k (c + 1 - a) p).1, nI (b + k), sR σ 3 (dAll f b a k (c + 1 - a) p).2)) (d + 1 - b) rfl ?_ ?_ (by omega)
  · intro k hk
    unfold L_Drawing_fill_6
    dsimp only
    rw [if_neg (nI_nlt (by omega) (by omega)), ob_of (fillC (by omega) ha _), nI_1]
    rfl
  · unfold L_Drawing_fill_6
    dsimp only
    rw [if_pos (nI_lt (by omega) (by omega))]
theorem fillAR {σ : SG} {f : Int32} {a b c d : Nat} (hc : 24 * d + c < 240) (ha : a ≤ c) (hb : b ≤ d) (p : Int32 × (Nat → Int32)) : lpW (L_Ref_draw_77 (nI a) (nI c) (nI d) f) FU (p.1, nI b, sR σ 77 p.2) = some ((dAll f b a (d + 1 - b) (c + 1 - a) p).1, sR σ 77 (dAll f b a (d + 1 - b) (c + 1 - a) p).2) := by
  refine lpW_at (s := fun k => ((dAll f b a k (c + 1 - a) p).1, nI (b + k), sR σ 77 (dAll f b a k (c + 1 - a) p).2)) (d + 1 - b) rfl ?_ ?_ (by omega)
  · intro k hk
    unfold L_Ref_draw_77
    dsimp only
    rw [if_neg (nI_nlt (by omega) (by omega)), ob_of (fillR (by omega) ha _), nI_1]
    rfl
  · unfold L_Ref_draw_77
    dsimp only
    rw [if_pos (nI_lt (by omega) (by omega))]
