/-! crates, crate, changes -/
/-- crates so far, and what is in the latest -/
def cr (m : Int32) (w : Nat → Int32) : Nat → Nat × Int32
  | 0 => (0, 0)
  | s + 1 => if w s ≤ 0 then cr m w s else if (cr m w s).1 = 0 then (1, w s) else if (cr m w s).2 + w s ≤ m then ((cr m w s).1, (cr m w s).2 + w s) else ((cr m w s).1 + 1, w s)
theorem cr_le (m : Int32) (w : Nat → Int32) : ∀ s, (cr m w s).1 ≤ s
  | 0 => Nat.le_refl 0
  | s + 1 => by
    have ih := cr_le m w s
    rw [cr]
    by_cases h1 : w s ≤ 0
    · rw [if_pos h1]; omega
    · rw [if_neg h1]
      by_cases h2 : (cr m w s).1 = 0
      · rw [if_pos h2]; show 1 ≤ s + 1; omega
      · rw [if_neg h2]
        by_cases h3 : (cr m w s).2 + w s ≤ m
        · rw [if_pos h3]; show (cr m w s).1 ≤ s + 1; omega
        · rw [if_neg h3]; show (cr m w s).1 + 1 ≤ s + 1; omega
theorem m1_iff {k : Nat} (h : k < 2 ^ 31) : nI k - 1 = -1 ↔ k = 0 := by
  constructor
  · intro e
    by_cases h0 : 1 ≤ k
    · rw [nI_sub1 h0] at e
      exact absurd e (nm1_ne (by omega))
    · omega
  · intro e; subst e; rfl
theorem m1_p (k : Nat) : nI k - 1 + 1 = nI (k + 1) - 1 := by
  rw [nI_pred, Int32.sub_add_cancel]
theorem crC {σ : SG} {S t : Nat} (hS : σ 57 0 = nI S) (h240 : S ≤ 240) (ht : t < S) (hw : ∀ s, s < S → ∃ k, k < 1000 ∧ σ 59 s = nI k) (m : Int32) : F_Sheets_latestCrate σ m (nI t) = some (nI (cr m (σ 59) (t + 1)).1 - 1) := by
  have hl : lpW (L_Sheets_latestCrate_8 σ m (nI t)) FU (-1, 0, 0) = some (nI (cr m (σ 59) (t + 1)).1 - 1) := by
    refine lpW_at (s := fun i => (nI (cr m (σ 59) i).1 - 1, (cr m (σ 59) i).2, nI i)) (t + 1) rfl ?_ ?_ (by omega)
    · intro i hi
      have hk := cr_le m (σ 59) i
      unfold L_Sheets_latestCrate_8
      dsimp only
      rw [hS, if_neg (nI_nlt (by omega) (by omega)), if_neg (nI_ge (by omega) (by omega)), rg_nI (show i < 240 by omega) (by decide), nI_1, cr]
      by_cases h1 : σ 59 i ≤ 0
      · rw [if_pos h1, if_pos h1]
        obtain ⟨k, hk2, hk3⟩ := hw i (by omega)
        have hk0 : k = 0 := by
          rcases Nat.eq_zero_or_pos k with q | q
          · exact q
          · exact absurd (hk3 ▸ h1) (nI_nle q (by omega))
        rw [hk3, hk0, ← l0, Int32.add_zero]
      · rw [if_neg h1, if_neg h1]
        by_cases h2 : (cr m (σ 59) i).1 = 0
        · rw [if_pos ((m1_iff (by omega)).mpr h2), if_pos h2, m1_p, h2, Int32.zero_add]
        · rw [if_neg (fun e => h2 ((m1_iff (by omega)).mp e)), if_neg h2]
          by_cases h3 : (cr m (σ 59) i).2 + σ 59 i ≤ m
          · rw [if_pos h3, if_pos h3]
          · rw [if_neg h3, if_neg h3, m1_p, Int32.zero_add]
    · unfold L_Sheets_latestCrate_8
      dsimp only
      rw [if_pos (nI_lt (by omega) (by omega))]
  unfold F_Sheets_latestCrate
  rw [ob_of hl]
theorem crR {σ : SG} {S t : Nat} (h240 : S ≤ 240) (ht : t < S) (hs : ∀ i, i < S → F_Ref_sumOf σ (nI i) false = some (σ 59 i)) (m : Int32) : F_Ref_cratesTo σ m (nI t) = some (nI (cr m (σ 59) (t + 1)).1) := by
  have hl : lpW (L_Ref_cratesTo_8 σ m (nI t)) FU (0, 0, 0) = some (nI (cr m (σ 59) (t + 1)).1) := by
    refine lpW_at (s := fun i => (nI (cr m (σ 59) i).1, (cr m (σ 59) i).2, nI i)) (t + 1) rfl ?_ ?_ (by omega)
    · intro i hi
      have hk := cr_le m (σ 59) i
      unfold L_Ref_cratesTo_8
      dsimp only
      rw [if_neg (nI_nlt (by omega) (by omega)), ob_of (hs i (by omega)), nI_1, cr]
      simp only [Bool.false_eq_true, if_false, if_true]
      by_cases h1 : σ 59 i ≤ 0
      · rw [if_pos h1, if_pos h1]
      · rw [if_neg h1, if_neg h1]
        by_cases h2 : (cr m (σ 59) i).1 = 0
        · rw [if_pos (by rw [h2]; decide), if_pos h2, h2, nI_1]
        · rw [if_neg (nI_nle (by omega) (by omega)), if_neg h2]
          by_cases h3 : (cr m (σ 59) i).2 + σ 59 i ≤ m
          · rw [if_neg (k2_nlt h3), if_pos h3, Int32.add_zero]
          · rw [if_pos (k2_lt h3), if_neg h3, nI_1]
    · unfold L_Ref_cratesTo_8
      dsimp only
      rw [if_pos (nI_lt (by omega) (by omega))]
  unfold F_Ref_cratesTo
  rw [ob_of hl]
theorem weights {σ : SG} {w h m n S : Nat} {pt : Bool} (hD : RD σ w h) (hF : RF σ) (hC : RC σ w h m n S pt) : (∀ s, s < S → ∃ k, k < 1000 ∧ σ 59 s = nI k) ∧ ∀ i, i < S → F_Ref_sumOf σ (nI i) false = some (σ 59 i) := by
  obtain ⟨z, f, hz, hf, hf26, hf85, e1, e2, e3⟩ := sheet_facts hD hF hC
  obtain ⟨⟨c1, c2, hn240, -⟩, -, ⟨-, -, hS240, -, hSn⟩, -, hcov, -⟩ := hC
  constructor
  · intro s hs
    obtain ⟨r, l, z, f, hcv, hcut⟩ := hcov (hSn (by omega))
    obtain ⟨t, -, ht2⟩ := hcut (by omega)
    refine ⟨_, ?_, ht2 s hs⟩
    have := sm_le (p := fun k => decide (t k = s)) (z := z) (c := 3) (n := n) (fun i hi => (hcv.1 i hi).2.2.2.2.2.2.1)
    omega
  · intro i hi
    rw [sumOf_eq c2 hn240 hf85 (nI i) false, e3 (by omega) i hi]
theorem op_crates {σ : SG} (hR : R σ) (a : Int32) : ∃ r, F_Shop_crates σ a = some r ∧ F_Ref_crates σ a = some r := by
  obtain ⟨w, h, m, q, n, S, pt, hD, hF, hL, hH, hC⟩ := hR
  obtain ⟨hw1, hw2⟩ := weights hD hF hC
  obtain ⟨-, -, ⟨e1, e2, e3, e4, -⟩, -⟩ := hC
  have hc := isCut_iff e1 e3
  unfold F_Shop_crates F_Ref_crates
  rw [in_wi]
  by_cases ha : F_Shop_within a 1 240 = true
  rotate_left
  · exact ⟨-2, by rw [if_neg ha], by rw [if_neg ha]⟩
  rw [if_pos ha, if_pos ha, hc, e4]
  by_cases h0 : 0 < S
  rotate_left
  · exact ⟨-3, by rw [if_neg (by simp [h0])], by rw [if_pos (by simp [h0, bI])]⟩
  rw [if_pos (by simp [h0]), if_neg (by simp [h0, bI]), e1, e2, nI_sub1 h0, ob_of (crC e1 e3 (by omega) hw1 a), ob_of (crR e3 (by omega) hw2 a)]
  exact ⟨_, by rw [Int32.sub_add_cancel], rfl⟩
theorem op_crate {σ : SG} (hR : R σ) (a b : Int32) : ∃ r, F_Shop_crate σ a b = some r ∧ F_Ref_crate σ a b = some r := by
  obtain ⟨w, h, m, q, n, S, pt, hD, hF, hL, hH, hC⟩ := hR
  obtain ⟨hw1, hw2⟩ := weights hD hF hC
  have hsc := sheet_cases hC b
  obtain ⟨-, -, ⟨e1, e2, e3, e4, -⟩, -⟩ := hC
  unfold F_Shop_crate F_Ref_crate
  rw [in_wi]
  by_cases ha : F_Shop_within a 1 240 = true
  rotate_left
  · exact ⟨-2, by rw [if_neg ha], by rw [if_neg ha]⟩
  rw [if_pos ha, if_pos ha]
  rcases hsc with ⟨h1, h2⟩ | ⟨h0, h1, h2, h3⟩ | ⟨s, hs, rfl, h1, h2, h3⟩
  · exact ⟨-2, by rw [if_neg h1], by rw [h2, if_pos rfl]⟩
  · exact ⟨-3, by rw [if_pos h1, if_neg (bf h2)], by rw [h3, if_neg (show ¬ (-3 : Int32) = -2 by decide), if_neg (show ¬ (0 : Int32) ≤ -3 by decide)]⟩
  rw [if_pos h1, if_pos h2, h3, if_neg (show ¬ (0 : Int32) = -2 by decide), if_pos (show (0 : Int32) ≤ 0 by decide), ob_of (hw2 s hs), rg_nI (show s < 240 by omega) (by decide)]
  obtain ⟨k, hk1, hk2⟩ := hw1 s hs
  rw [hk2]
  by_cases hk0 : k = 0
  · subst hk0
    exact ⟨-1, by rw [if_pos (by decide)], by rw [if_pos (by decide)]⟩
  · rw [if_neg (nI_nle (by omega) (by omega)), if_neg (nI_ne0 (by omega) (by omega)), ob_of (crC e1 e3 hs hw1 a), ob_of (crR e3 hs hw2 a)]
    exact ⟨_, rfl, rfl⟩
/-- changes: how many, the lot ahead, whether none was ahead -/
def chS (p : Nat → Bool) (g : Nat → Int32) : Nat → Int32 × Int32 × Bool
  | 0 => (0, -1, true)
  | n + 1 => if p n = true then ((if (chS p g n).2.2 = true ∨ g n = (chS p g n).2.1 then (chS p g n).1 else (chS p g n).1 + 1), g n, false) else chS p g n
theorem chS_a {p : Nat → Bool} {g : Nat → Int32} : ∀ {n : Nat}, (∀ i, i < n → ¬ g i = -9) → (chS p g n).2.2 = false → ¬ (chS p g n).2.1 = -9
  | 0, _, h => by cases h
  | n + 1, hg, h => by
    rw [chS] at h ⊢
    by_cases hp : p n = true
    · rw [if_pos hp]
      exact hg n (by omega)
    · rw [if_neg hp] at h ⊢
      exact chS_a (fun i hi => hg i (by omega)) h
theorem chC {σ : SG} {n : Nat} (hn : σ 18 0 = nI n) (h240 : n ≤ 240) (t : Int32) : F_Painter_changesOf σ t = some (chS (fun i => decide (σ 26 i = t)) (σ 28) n).1 := by
  have hl : lpW (L_Painter_changesOf_10 σ t) FU (0, -1, true, 0) = some (chS (fun i => decide (σ 26 i = t)) (σ 28) n).1 := by
    refine lpW_at (s := fun i => ((chS (fun i => decide (σ 26 i = t)) (σ 28) i).1, (chS (fun i => decide (σ 26 i = t)) (σ 28) i).2.1, (chS (fun i => decide (σ 26 i = t)) (σ 28) i).2.2, nI i)) n rfl ?_ ?_ (by omega)
    · intro i hi
      have hi2 : i < 240 := by omega
      unfold L_Painter_changesOf_10
      dsimp only
      rw [hn, if_neg (nI_ge hi (by omega)), rg_nI hi2 (by decide), rg_nI hi2 (by decide), nI_1, chS]
      generalize chS (fun i => decide (σ 26 i = t)) (σ 28) i = A
      obtain ⟨A1, A2, A3⟩ := A
      dsimp only
      by_cases h1 : σ 26 i = t
      · by_cases h2 : A3 = true
        · simp [h1, h2]
        · by_cases h3 : σ 28 i = A2 <;> simp [h1, h2, h3]
      · simp [h1]
    · unfold L_Painter_changesOf_10
      dsimp only
      rw [hn, if_pos (nI_le (Nat.le_refl n) (by omega))]
  unfold F_Painter_changesOf
  rw [ob_of hl]
theorem chR {σ : SG} {n : Nat} (hn : σ 76 10 = nI n) (h240 : n ≤ 240) (hg : ∀ i, i < n → ¬ σ 86 i = -9) (t : Int32) : lpW (L_Ref_changes_31 σ t) FU (0, -9, 0) = some (chS (fun i => decide (σ 85 i = t)) (σ 86) n).1 := by
  refine lpW_at (s := fun i => ((chS (fun i => decide (σ 85 i = t)) (σ 86) i).1, (if (chS (fun i => decide (σ 85 i = t)) (σ 86) i).2.2 = true then -9 else (chS (fun i => decide (σ 85 i = t)) (σ 86) i).2.1), nI i)) n rfl ?_ ?_ (by omega)
  · intro i hi
    have hi2 : i < 240 := by omega
    have ha := chS_a (p := fun i => decide (σ 85 i = t)) (fun j hj => hg j (by omega) : ∀ j, j < i → ¬ σ 86 j = -9)
    unfold L_Ref_changes_31
    dsimp only
    rw [hn, if_neg (nI_ge hi (by omega)), vin_nI hi2 (by decide)]
    simp only [og_t]
    rw [ix_nI (by omega), nI_1, chS]
    generalize chS (fun i => decide (σ 85 i = t)) (σ 86) i = A at ha
    obtain ⟨A1, A2, A3⟩ := A
    dsimp only at ha ⊢
    by_cases h1 : σ 85 i = t
    · cases A3
      · have h9 := ha rfl
        by_cases h3 : A2 = σ 86 i
        · simp [h1, h9, h3]
        · have h3' : ¬ σ 86 i = A2 := fun e => h3 e.symm
          simp [h1, h9, h3, h3']
      · simp [h1]
    · simp [h1]
  · unfold L_Ref_changes_31
    dsimp only
    rw [hn, if_pos (nI_le (Nat.le_refl n) (by omega))]
theorem lot_ne {σ : SG} {w h m n S : Nat} {pt : Bool} (hm : m ≤ 10) (hC : RC σ w h m n S pt) : ∀ i, i < n → ¬ σ 28 i = -9 := by
  intro i hi e
  rcases hC.2.2.2.2.2.1 i hi with h1 | ⟨-, k, hk, h1⟩
  · rw [h1] at e; exact absurd e (by decide)
  · rw [h1] at e
    have := nI_pos (n := k) (by omega)
    rw [e] at this
    exact this (by decide)
theorem op_changes {σ : SG} (hR : R σ) (a : Int32) : ∃ r, F_Shop_changes σ a = some r ∧ F_Ref_changes σ a = some r := by
  obtain ⟨w, h, m, q, n, S, pt, hD, hF, hL, hH, hC⟩ := hR
  have hne := lot_ne hL.2.2.1 hC
  obtain ⟨⟨c1, c2, hn240, -⟩, ⟨p1, p2, -⟩, -, ⟨k1, k2, k3, k4, k5, k6⟩, -⟩ := hC
  unfold F_Shop_changes F_Ref_changes F_Shop_isField
  rw [in_wi]
  by_cases ha : F_Shop_within a 0 7 = true
  rotate_left
  · exact ⟨-2, by rw [if_neg ha], by rw [if_neg ha]⟩
  rw [if_pos ha, if_pos ha, p1, p2]
  by_cases hp : bI pt = 0
  · exact ⟨-3, by rw [if_pos hp], by rw [if_pos hp]⟩
  rw [if_neg hp, if_neg hp, ob_of (chC c1 hn240 a), ob_of (chR c2 hn240 (by rw [k5]; exact hne) a), k4, k5]
  exact ⟨_, rfl, rfl⟩
