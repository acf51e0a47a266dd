/-! paint -/
abbrev RW2 : Type := (Nat → Int32) × (Nat → Int32)
/-- cube i is given lot u (or none) -/
def giv (P : RW2) (i : Nat) (u : Option Nat) (x : Int32) : RW2 := (upd P.1 i (oI u), match u with
  | none => P.2
  | some b => upd P.2 b (P.2 b - x))
def orE : Option Nat → Option Nat → Option Nat
  | none, u => u
  | some b, _ => some b
def pcS (g z : Nat → Int32) (d : Nat → Nat) (m : Nat) (F : Int32) (v : Option Nat) (P : RW2) : Nat → RW2
  | 0 => P
  | i + 1 => if g i = F then giv (pcS g z d m F v P i) i (orE v (nst (pcS g z d m F v P i).2 d (z i) m)) (z i) else pcS g z d m F v P i
theorem pcS_none {g z : Nat → Int32} {d : Nat → Nat} {m : Nat} {F : Int32} {v : Option Nat} {P : RW2} : ∀ {n : Nat}, (∀ i, i < n → ¬ g i = F) → pcS g z d m F v P n = P
  | 0, _ => rfl
  | n + 1, h => by
    rw [pcS, if_neg (h n (Nat.lt_succ_self n))]
    exact pcS_none (fun i hi => h i (Nat.lt_succ_of_lt hi))
theorem orE_lt {v : Option Nat} {st : Nat → Int32} {d : Nat → Nat} {x : Int32} {m : Nat} (hv : ∀ b, v = some b → b < m) {b : Nat} (h : orE v (nst st d x m) = some b) : b < m := by
  cases v with
  | none => exact nst_lt h
  | some c =>
    cases h
    exact hv _ rfl
def lotOk (m : Nat) (x : Int32) : Prop := x = -1 ∨ ∃ k, k < m ∧ x = nI k
theorem oI_ok {m : Nat} {u : Option Nat} (h : ∀ b, u = some b → b < m) : lotOk m (oI u) := by
  cases u with
  | none => exact Or.inl rfl
  | some b => exact Or.inr ⟨b, h b rfl, rfl⟩
theorem pcS_ok {g z : Nat → Int32} {d : Nat → Nat} {m : Nat} {F : Int32} {v : Option Nat} {P : RW2} {j : Nat} (hv : ∀ b, v = some b → b < m) (hP : lotOk m (P.1 j)) : ∀ n, lotOk m ((pcS g z d m F v P n).1 j)
  | 0 => hP
  | n + 1 => by
    rw [pcS]
    by_cases h : g n = F
    · rw [if_pos h]
      unfold giv
      dsimp only
      by_cases hj : j = n
      · rw [hj, upd_at]
        exact oI_ok (fun b hb => orE_lt hv hb)
      · rw [upd_ne _ _ hj]
        exact pcS_ok hv hP n
    · rw [if_neg h]
      exact pcS_ok hv hP n
theorem oI_none {u : Option Nat} {m : Nat} (hm : m ≤ 10) (h : ∀ b, u = some b → b < m) : oI u = -1 ↔ u = none := by
  cases u with
  | none => exact ⟨fun _ => rfl, fun _ => rfl⟩
  | some b => exact ⟨fun e => absurd e (nm1_ne (show b < 2 ^ 31 by have := h b rfl; omega)), fun e => by cases e⟩
theorem giveC {σ : SG} {P : RW2} {i m : Nat} {u : Option Nat} (hm : m ≤ 10) (hu : ∀ b, u = some b → b < m) (hi : i < 240) : F_Painter_give (w2 σ 28 44 P.1 P.2) (oI u) (nI i) = w2 σ 28 44 (giv P i u (σ 24 i)).1 (giv P i u (σ 24 i)).2 := by
  unfold F_Painter_give giv
  cases u with
  | none =>
    rw [if_pos (show oI none = -1 from rfl), rs_nI hi (by decide), up_w2p _ _ _ (by decide)]
  | some b =>
    have hb := hu b rfl
    rw [if_neg (show ¬ oI (some b) = -1 from nm1_ne (by omega)), rs_nI hi (by decide), up_w2p _ _ _ (by decide)]
    unfold nm
    rw [show oI (some b) = nI b from rfl, ra_nI (by omega) (by decide), rg_nI hi (by decide), w2_q, up_w2q, show (w2 σ 28 44 (upd P.1 i (nI b)) P.2) 24 i = σ 24 i from rfl, ← Int32.sub_eq_add_neg]
theorem pcC {σ : SG} {m n f : Nat} {v : Option Nat} (P : RW2) (hF : RF σ) (hL : LO σ m) (hf : f < 8) (hn : σ 18 0 = nI n) (h240 : n ≤ 240) (hv : ∀ b, v = some b → b < m) : lpW (L_Painter_paintField_20 (nI f) (oI v)) FU (0, w2 σ 28 44 P.1 P.2) = some (w2 σ 28 44 (pcS (σ 26) (σ 24) (dC σ f) m (nI f) v P n).1 (pcS (σ 26) (σ 24) (dC σ f) m (nI f) v P n).2) := by
  have hm := hL.2.2.1
  refine lpW_at (s := fun i => (nI i, w2 σ 28 44 (pcS (σ 26) (σ 24) (dC σ f) m (nI f) v P i).1 (pcS (σ 26) (σ 24) (dC σ f) m (nI f) v P i).2)) n rfl ?_ ?_ (by omega)
  · intro i hi
    have hi2 : i < 240 := by omega
    unfold L_Painter_paintField_20
    dsimp only
    rw [nI_1, pcS]
    generalize pcS (σ 26) (σ 24) (dC σ f) m (nI f) v P i = Q
    have hF' : RF (w2 σ 28 44 Q.1 Q.2) := RF_c (fun p hp => by rcases hp with rfl | rfl | rfl | rfl | rfl | rfl | rfl | rfl | rfl | rfl <;> rfl) hF
    have hL' : LO (w2 σ 28 44 Q.1 Q.2) m := LO_c (fun p hp => by rcases hp with rfl | rfl | rfl | rfl | rfl <;> rfl) rfl hL
    have hd : dC (w2 σ 28 44 Q.1 Q.2) f = dC σ f := funext fun l => rfl
    rw [if_neg (show ¬ (w2 σ 28 44 Q.1 Q.2) 18 0 ≤ nI i by rw [show (w2 σ 28 44 Q.1 Q.2) 18 0 = nI n from hn]; exact nI_ge hi (by omega))]
    have hg : rg (w2 σ 28 44 Q.1 Q.2) 26 240 (nI i) = σ 26 i := by rw [rg_nI hi2 (by decide)]; rfl
    have hz : rg (w2 σ 28 44 Q.1 Q.2) 24 240 (nI i) = σ 24 i := by rw [rg_nI hi2 (by decide)]; rfl
    by_cases h1 : σ 26 i = nI f
    · rw [if_pos (show rg (w2 σ 28 44 Q.1 Q.2) 26 240 (nI i) = nI f by rw [hg]; exact h1), if_pos h1]
      cases v with
      | none =>
        have hk : F_Painter_nearestFor (w2 σ 28 44 Q.1 Q.2) (nI i) = some (oI (nst Q.2 (dC σ f) (σ 24 i) m)) := by
          unfold F_Painter_nearestFor
          rw [hg, hz, h1, ob_of (nearC hF' hL' hf _), hd, w2_q]
        rw [if_pos (show oI none = -1 from rfl), ob_of hk, giveC hm (fun b hb => nst_lt hb) hi2]
        rfl
      | some b =>
        have hb := hv b rfl
        rw [if_neg (show ¬ oI (some b) = -1 from nm1_ne (by omega)), giveC hm hv hi2]
        rfl
    · rw [if_neg (show ¬ rg (w2 σ 28 44 Q.1 Q.2) 26 240 (nI i) = nI f by rw [hg]; exact h1), if_neg h1]
  · unfold L_Painter_paintField_20
    dsimp only
    rw [if_pos (show (w2 σ 28 44 _ _) 18 0 ≤ nI n by rw [show ∀ A B, (w2 σ 28 44 A B) 18 0 = nI n from fun _ _ => hn]; exact nI_le (Nat.le_refl n) (by omega))]
theorem pcR {σ : SG} {m n f : Nat} {v : Option Nat} (P : RW2) (hF : RF σ) (hL : LO σ m) (hf : f < 8) (hn : σ 76 10 = nI n) (h240 : n ≤ 240) (hv : ∀ b, v = some b → b < m) : lpW (L_Ref_paint_88 (nI f) (oI v)) FU (0, w2 σ 86 89 P.1 P.2) = some (w2 σ 86 89 (pcS (σ 85) (σ 84) (dC σ f) m (nI f) v P n).1 (pcS (σ 85) (σ 84) (dC σ f) m (nI f) v P n).2) := by
  have hm := hL.2.2.1
  refine lpW_at (s := fun i => (nI i, w2 σ 86 89 (pcS (σ 85) (σ 84) (dC σ f) m (nI f) v P i).1 (pcS (σ 85) (σ 84) (dC σ f) m (nI f) v P i).2)) n rfl ?_ ?_ (by omega)
  · intro i hi
    have hi2 : i < 240 := by omega
    have hii : ix (nI i) = i := ix_nI (by omega)
    unfold L_Ref_paint_88
    dsimp only
    rw [nI_1, pcS]
    generalize pcS (σ 85) (σ 84) (dC σ f) m (nI f) v P i = Q
    have hF' : RF (w2 σ 86 89 Q.1 Q.2) := RF_c (fun p hp => by rcases hp with rfl | rfl | rfl | rfl | rfl | rfl | rfl | rfl | rfl | rfl <;> rfl) hF
    have hL' : LO (w2 σ 86 89 Q.1 Q.2) m := LO_c (fun p hp => by rcases hp with rfl | rfl | rfl | rfl | rfl <;> rfl) rfl hL
    have hd : dC (w2 σ 86 89 Q.1 Q.2) f = dC σ f := funext fun l => rfl
    rw [if_neg (show ¬ (w2 σ 86 89 Q.1 Q.2) 76 10 ≤ nI i by rw [show (w2 σ 86 89 Q.1 Q.2) 76 10 = nI n from hn]; exact nI_ge hi (by omega)), vin_nI hi2 (by decide)]
    simp only [og_t]
    have hg : (w2 σ 86 89 Q.1 Q.2) 85 (ix (nI i)) = σ 85 i := by rw [hii]; rfl
    have hz : (w2 σ 86 89 Q.1 Q.2) 84 (ix (nI i)) = σ 84 i := by rw [hii]; rfl
    by_cases h1 : σ 85 i = nI f
    · rw [if_pos (show (w2 σ 86 89 Q.1 Q.2) 85 (ix (nI i)) = nI f by rw [hg]; exact h1), if_pos h1]
      cases v with
      | none =>
        have hk : F_Ref_nearest_89 (w2 σ 86 89 Q.1 Q.2) (nI f) ((w2 σ 86 89 Q.1 Q.2) 84 (ix (nI i))) = some (oI (nst Q.2 (dC σ f) (σ 84 i) m)) := by
          rw [hz, nearR89 hF' hL' hf, hd, w2_q]
        rw [if_pos (show oI none = -1 from rfl), ob_of hk]
        rw [show orE none (nst Q.2 (dC σ f) (σ 84 i) m) = nst Q.2 (dC σ f) (σ 84 i) m from rfl]
        cases hq : nst Q.2 (dC σ f) (σ 84 i) m with
        | none =>
          rw [if_pos (show oI none = -1 from rfl), hii, up_w2p _ _ _ (by decide)]
          rfl
        | some b =>
          have hb := nst_lt hq
          rw [if_neg (show ¬ oI (some b) = -1 from nm1_ne (by omega)), show oI (some b) = nI b from rfl, vin_nI (show b < 10 by omega) (by decide), hii, ix_nI (show b < 2 ^ 31 by omega), up_w2p _ _ _ (by decide), w2_q, up_w2q]
          rfl
      | some b =>
        have hb := hv b rfl
        rw [if_neg (show ¬ oI (some b) = -1 from nm1_ne (by omega)), if_neg (show ¬ oI (some b) = -1 from nm1_ne (by omega)), show oI (some b) = nI b from rfl, vin_nI (show b < 10 by omega) (by decide), hii, ix_nI (show b < 2 ^ 31 by omega), up_w2p _ _ _ (by decide), w2_q, up_w2q]
        rfl
    · rw [if_neg (show ¬ (w2 σ 86 89 Q.1 Q.2) 85 (ix (nI i)) = nI f by rw [hg]; exact h1), if_neg h1]
  · unfold L_Ref_paint_88
    dsimp only
    rw [if_pos (show (w2 σ 86 89 _ _) 76 10 ≤ nI n by rw [show ∀ A B, (w2 σ 86 89 A B) 76 10 = nI n from fun _ _ => hn]; exact nI_le (Nat.le_refl n) (by omega))]
/-- all fields -/
def pfS (g z : Nat → Int32) (d : Nat → Nat → Nat) (W : Nat → Int32) (m n : Nat) (P : RW2) : Nat → RW2
  | 0 => P
  | f + 1 => pcS g z (d f) m (nI f) (nst (pfS g z d W m n P f).2 (d f) (W f) m) (pfS g z d W m n P f) n
theorem pfC {σ : SG} {w h m n : Nat} {r l z f : Nat → Nat} (P : RW2) (hD : RD σ w h) (hF : RF σ) (hL : LO σ m) (hn : σ 18 0 = nI n) (h240 : n ≤ 240) (h0 : 0 < n) (hv : Cov σ w h n r l z f) : lpW L_Painter_paintFields_2 FU (0, w2 σ 28 44 P.1 P.2) = some (w2 σ 28 44 (pfS (σ 26) (σ 24) (dC σ) (fun F => nI (sm (fun i => decide (f i = F)) z n)) m n P 8).1 (pfS (σ 26) (σ 24) (dC σ) (fun F => nI (sm (fun i => decide (f i = F)) z n)) m n P 8).2) := by
  refine lpW_at (s := fun i => (nI i, w2 σ 28 44 (pfS (σ 26) (σ 24) (dC σ) (fun F => nI (sm (fun i => decide (f i = F)) z n)) m n P i).1 (pfS (σ 26) (σ 24) (dC σ) (fun F => nI (sm (fun i => decide (f i = F)) z n)) m n P i).2)) 8 rfl ?_ ?_ (by omega)
  · intro F hF8
    unfold L_Painter_paintFields_2
    dsimp only
    rw [nI_1, pfS]
    generalize pfS (σ 26) (σ 24) (dC σ) (fun F => nI (sm (fun i => decide (f i = F)) z n)) m n P F = Q
    have hF' : RF (w2 σ 28 44 Q.1 Q.2) := RF_c (fun p hp => by rcases hp with rfl | rfl | rfl | rfl | rfl | rfl | rfl | rfl | rfl | rfl <;> rfl) hF
    have hL' : LO (w2 σ 28 44 Q.1 Q.2) m := LO_c (fun p hp => by rcases hp with rfl | rfl | rfl | rfl | rfl <;> rfl) rfl hL
    have hD' : RD (w2 σ 28 44 Q.1 Q.2) w h := RD_c (fun p hp => by rcases hp with rfl | rfl | rfl <;> rfl) rfl rfl hD
    have hv' : Cov (w2 σ 28 44 Q.1 Q.2) w h n r l z f := Cov_c (fun p hp => by rcases hp with rfl | rfl | rfl | rfl | rfl | rfl <;> rfl) hv
    have hd : dC (w2 σ 28 44 Q.1 Q.2) F = dC σ F := funext fun l => rfl
    have hp := placesOf_eq hD' h0 hv' (F := F) (by omega)
    have hk := nearC hF' hL' hF8 (nI (sm (fun i => decide (f i = F)) z n))
    rw [hd, w2_q] at hk
    rw [if_neg (show ¬ (8 : Int32) ≤ nI F from nI_ge (b := 8) hF8 (by decide)), ob_of hp]
    unfold F_Painter_paintField
    rw [ob_of hk, ob_of (pcC Q hF hL hF8 hn h240 (fun b hb => nst_lt hb))]
    rfl
  · unfold L_Painter_paintFields_2
    dsimp only
    rw [if_pos (show (8 : Int32) ≤ nI 8 from nI_le (Nat.le_refl 8) (by decide))]
theorem wholeR {σ : SG} {n : Nat} (hn : σ 76 10 = nI n) (h240 : n ≤ 240) {x : Int32} (F : Int32) : lpW (L_Ref_paint_29 (x, σ) F) FU (0, 0) = some (sI (fun i => decide (σ 85 i = F)) (σ 84) n) := by
  refine lpW_at (s := fun i => (sI (fun i => decide (σ 85 i = F)) (σ 84) i, nI i)) n rfl ?_ ?_ (by omega)
  · intro i hi
    have hii : ix (nI i) = i := ix_nI (by omega)
    unfold L_Ref_paint_29
    dsimp only
    rw [nI_1, sI, if_neg (show ¬ σ 76 10 ≤ nI i by rw [hn]; exact nI_ge hi (by omega)), vin_nI (show i < 240 by omega) (by decide)]
    simp only [og_t]
    by_cases h1 : σ 85 i = F
    · rw [if_pos (show σ 85 (ix (nI i)) = F by rw [hii]; exact h1), if_pos (decide_eq_true h1), hii]
    · rw [if_neg (show ¬ σ 85 (ix (nI i)) = F by rw [hii]; exact h1), if_neg (by rw [decide_eq_false h1]; decide), Int32.add_zero]
  · unfold L_Ref_paint_29
    dsimp only
    rw [if_pos (show σ 76 10 ≤ nI n by rw [hn]; exact nI_le (Nat.le_refl n) (by omega))]
theorem pfR {σ : SG} {w h m n : Nat} {r l z f : Nat → Nat} (P : RW2) (hF : RF σ) (hL : LO σ m) (hn : σ 76 10 = nI n) (h240 : n ≤ 240) (h85 : σ 85 = σ 26) (h84 : σ 84 = σ 24) (hv : Cov σ w h n r l z f) : lpW L_Ref_paint_19 FU (0, w2 σ 86 89 P.1 P.2) = some (w2 σ 86 89 (pfS (σ 26) (σ 24) (dC σ) (fun F => nI (sm (fun i => decide (f i = F)) z n)) m n P 8).1 (pfS (σ 26) (σ 24) (dC σ) (fun F => nI (sm (fun i => decide (f i = F)) z n)) m n P 8).2) := by
  refine lpW_at (s := fun i => (nI i, w2 σ 86 89 (pfS (σ 26) (σ 24) (dC σ) (fun F => nI (sm (fun i => decide (f i = F)) z n)) m n P i).1 (pfS (σ 26) (σ 24) (dC σ) (fun F => nI (sm (fun i => decide (f i = F)) z n)) m n P i).2)) 8 rfl ?_ ?_ (by omega)
  · intro F hF8
    unfold L_Ref_paint_19
    dsimp only
    rw [nI_1, pfS]
    generalize pfS (σ 26) (σ 24) (dC σ) (fun F => nI (sm (fun i => decide (f i = F)) z n)) m n P F = Q
    have hF' : RF (w2 σ 86 89 Q.1 Q.2) := RF_c (fun p hp => by rcases hp with rfl | rfl | rfl | rfl | rfl | rfl | rfl | rfl | rfl | rfl <;> rfl) hF
    have hL' : LO (w2 σ 86 89 Q.1 Q.2) m := LO_c (fun p hp => by rcases hp with rfl | rfl | rfl | rfl | rfl <;> rfl) rfl hL
    have hd : dC (w2 σ 86 89 Q.1 Q.2) F = dC σ F := funext fun l => rfl
    have hs : sI (fun i => decide (σ 85 i = nI F)) (σ 84) n = nI (sm (fun i => decide (f i = F)) z n) := by
      rw [h85, h84, sI_sm (z := z) (fun i hi => (hv.1 i hi).2.2.1)]
      congr 1
      refine sm_cong fun i hi => ?_
      have h8 := (hv.1 i hi).2.2.2
      rw [h8.1, decide_eq_decide, nI_eq (by omega) (by omega)]
    have hw := wholeR (σ := w2 σ 86 89 Q.1 Q.2) (n := n) hn h240 (x := nI F) (nI F)
    rw [show (w2 σ 86 89 Q.1 Q.2) 85 = σ 85 from rfl, show (w2 σ 86 89 Q.1 Q.2) 84 = σ 84 from rfl, hs] at hw
    rw [if_neg (show ¬ (8 : Int32) ≤ nI F from nI_ge (b := 8) hF8 (by decide)), ob_of hw]
    by_cases h0 : sm (fun i => decide (f i = F)) z n = 0
    · have hz : ∀ i, i < n → ¬ σ 26 i = nI F := by
        intro i hi e
        have h8 := (hv.1 i hi).2.2.2
        rw [h8.1, nI_eq (by omega) (by omega)] at e
        have := (sm_pos (p := fun i => decide (f i = F)) (z := z) (n := n) (fun i hi => (hv.1 i hi).2.2.2.2.2.1)).mpr ⟨i, hi, decide_eq_true e⟩
        omega
      rw [h0, if_pos (show nI 0 = 0 from rfl), pcS_none hz]
      have hp := pcR (v := none) Q hF hL hF8 hn h240 (fun b hb => by cases hb)
      rw [h85, pcS_none hz] at hp
      rw [show (-1 : Int32) = oI none from rfl, ob_of hp]
    · have hk := nearR89 hF' hL' hF8 (nI (sm (fun i => decide (f i = F)) z n))
      rw [hd, w2_q] at hk
      have hle := sm_le (p := fun i => decide (f i = F)) (z := z) (c := 3) (n := n) (fun i hi => (hv.1 i hi).2.2.2.2.2.2.1)
      rw [if_neg (show ¬ nI (sm (fun i => decide (f i = F)) z n) = 0 from fun e => h0 ((nI_eq (b := 0) (by omega) (by omega)).mp e)), ob_of hk]
      have hp := pcR (v := nst Q.2 (dC σ F) (nI (sm (fun i => decide (f i = F)) z n)) m) Q hF hL hF8 hn h240 (fun b hb => nst_lt hb)
      rw [h85, h84] at hp
      rw [ob_of hp]
  · unfold L_Ref_paint_19
    dsimp only
    rw [if_pos (show (8 : Int32) ≤ nI 8 from nI_le (Nat.le_refl 8) (by decide))]
theorem pfS_ok {g z : Nat → Int32} {d : Nat → Nat → Nat} {W : Nat → Int32} {m n : Nat} {P : RW2} {j : Nat} (hP : lotOk m (P.1 j)) : ∀ k, lotOk m ((pfS g z d W m n P k).1 j)
  | 0 => hP
  | k + 1 => by
    rw [pfS]
    exact pcS_ok (fun b hb => nst_lt hb) (pfS_ok hP k) n
theorem op_paint {σ : SG} (hR : R σ) : ∃ r σ1 σ2, F_Shop_paint σ = some (r, σ1) ∧ F_Ref_paint σ1 = some (r, σ2) ∧ R σ2 := by
  obtain ⟨w, h, m, q, n, S, pt, hD, hF, hL, hH, hC⟩ := id hR
  obtain ⟨⟨c1, c2, hn240, c4⟩, ⟨p1, p2, p3⟩, hS, ⟨k1, k2, k3, k4, k5, k6⟩, hcov, hlot, h0⟩ := hC
  by_cases hn : 0 < n
  rotate_left
  · refine ⟨-3, σ, σ, ?_, ?_, hR⟩
    · unfold F_Shop_paint; rw [isLaid_iff c1 hn240, decide_eq_false hn, if_neg (by decide)]
    · unfold F_Ref_paint; rw [c4, decide_eq_false hn, if_pos (by rfl)]
  cases pt with
  | true =>
    refine ⟨-3, σ, σ, ?_, ?_, hR⟩
    · unfold F_Shop_paint; rw [isLaid_iff c1 hn240, decide_eq_true hn, if_pos rfl, if_neg (by rw [p1]; decide)]
    · unfold F_Ref_paint; rw [if_neg (by rw [c4, decide_eq_true hn]; decide), if_neg (by rw [p2]; decide)]
  | false =>
    obtain ⟨r, l, z, f, hv, hcut⟩ := hcov hn
    have hLO := RLo_LO hL
    have hc := pfC (σ 28, σ 44) hD hF hLO c1 hn240 hn hv
    rw [w2_self] at hc
    have hok : ∀ i, i < n → lotOk m ((pfS (σ 26) (σ 24) (dC σ) (fun F => nI (sm (fun i => decide (f i = F)) z n)) m n (σ 28, σ 44) 8).1 i) := by
      intro i hi
      refine pfS_ok ?_ 8
      rcases hlot i hi with h1 | ⟨h1, -⟩
      · exact Or.inl h1
      · cases h1
    generalize hA : (pfS (σ 26) (σ 24) (dC σ) (fun F => nI (sm (fun i => decide (f i = F)) z n)) m n (σ 28, σ 44) 8).1 = A at hc hok
    generalize hB : (pfS (σ 26) (σ 24) (dC σ) (fun F => nI (sm (fun i => decide (f i = F)) z n)) m n (σ 28, σ 44) 8).2 = B at hc
    generalize hτ : up (w2 σ 28 44 A B) 52 0 1 = τ
    have hr : lpW L_Ref_paint_19 FU (0, τ) = some (w2 τ 86 89 A B) := by
      have hF' : RF τ := by rw [← hτ]; exact RF_c (fun p hp => by rcases hp with rfl | rfl | rfl | rfl | rfl | rfl | rfl | rfl | rfl | rfl <;> rfl) hF
      have hL' : LO τ m := by rw [← hτ]; exact LO_c (fun p hp => by rcases hp with rfl | rfl | rfl | rfl | rfl <;> rfl) rfl hLO
      have hv' : Cov τ w h n r l z f := by rw [← hτ]; exact Cov_c (fun p hp => by rcases hp with rfl | rfl | rfl | rfl | rfl | rfl <;> rfl) hv
      have hp := pfR (m := m) (τ 86, τ 89) hF' hL' (by rw [← hτ]; exact c2) hn240 (by rw [← hτ]; exact k4) (by rw [← hτ]; exact k3) hv'
      rw [w2_self] at hp
      have e1 : τ 26 = σ 26 := by rw [← hτ]; rfl
      have e2 : τ 24 = σ 24 := by rw [← hτ]; rfl
      have e3 : dC τ = dC σ := by rw [← hτ]; rfl
      have e4 : τ 86 = σ 28 := by rw [← hτ]; exact k5
      have e5 : τ 89 = σ 44 := by rw [← hτ]; exact hL.2.2.2.1
      rw [hp, e1, e2, e3, e4, e5, hA, hB]
    have hbC := bareC_eq (σ := τ) (n := n) (by rw [← hτ]; exact c1) hn240
    have hbR := bare_eq (σ := up (w2 τ 86 89 A B) 76 8 1) (n := n) (by rw [← hτ]; exact c2) hn240
    have hrow : (up (w2 τ 86 89 A B) 76 8 1) 86 = τ 28 := by rw [← hτ]; rfl
    rw [hrow] at hbR
    refine ⟨sI (fun i => decide (τ 28 i = -1)) (fun _ => 1) n, τ, up (w2 τ 86 89 A B) 76 8 1, ?_, ?_, w, h, m, q, n, S, true, ?_, ?_, ?_, ?_, ?_⟩
    rotate_left
    · unfold F_Ref_paint
      rw [if_neg (show ¬ τ 76 7 = 0 by rw [← hτ, show (up (w2 σ 28 44 A B) 52 0 1) 76 7 = σ 76 7 from rfl, c4, decide_eq_true hn]; decide), if_pos (show τ 76 8 = 0 by rw [← hτ]; exact p2), ob_of hr, ob_of hbR]
    · rw [← hτ]; exact RD_c (fun p hp => by rcases hp with rfl | rfl | rfl <;> rfl) rfl rfl hD
    · rw [← hτ]; exact RF_c (fun p hp => by rcases hp with rfl | rfl | rfl | rfl | rfl | rfl | rfl | rfl | rfl | rfl <;> rfl) hF
    · rw [← hτ]; exact ⟨hL.1, hL.2.1, hL.2.2.1, rfl, hL.2.2.2.2⟩
    · rw [← hτ]; exact RH_c (fun p hp => by rcases hp with rfl | rfl | rfl | rfl | rfl <;> rfl) rfl hH
    · rw [← hτ]
      refine ⟨⟨c1, c2, hn240, c4⟩, ⟨rfl, rfl, fun _ => hn⟩, hS, ⟨k1, k2, k3, k4, rfl, k6⟩, fun _ => ⟨r, l, z, f, hv, hcut⟩, fun i hi => ?_, h0⟩
      rcases hok i hi with h1 | h1
      · exact Or.inl h1
      · exact Or.inr ⟨rfl, h1⟩
    · unfold F_Shop_paint F_Painter_paintFields
      rw [isLaid_iff c1 hn240, decide_eq_true hn, if_pos rfl, if_pos (by rw [p1]; rfl), ob_of hc]
      dsimp only [ob]
      rw [hτ, hbC]
