/-! sheet -/
theorem isLaid_iff {σ : SG} {n : Nat} (hn : σ 18 0 = nI n) (h : n ≤ 240) : F_Shop_isLaid σ = decide (0 < n) := by
  unfold F_Shop_isLaid
  rw [hn]
  by_cases h0 : 0 < n
  · rw [if_neg (nI_nle h0 (by omega))]; simp [h0]
  · have : n = 0 := by omega
    subst this
    rfl
theorem isCut_iff {σ : SG} {S : Nat} (hS : σ 57 0 = nI S) (h : S ≤ 240) : F_Shop_isCut σ = decide (0 < S) := by
  unfold F_Shop_isCut
  rw [hS]
  by_cases h0 : 0 < S
  · rw [if_neg (nI_nle h0 (by omega))]; simp [h0]
  · have : S = 0 := by omega
    subst this
    rfl
/-- a sheet's number: too small or too great; not cut; a sheet -/
theorem sheet_cases {σ : SG} {w h m n S : Nat} {pt : Bool} (hC : RC σ w h m n S pt) (a : Int32) :
    (¬ F_Shop_maySheet σ a = true ∧ F_Ref_noSheet σ a = -2) ∨ (S = 0 ∧ F_Shop_maySheet σ a = true ∧ F_Shop_isCut σ = false ∧ F_Ref_noSheet σ a = -3) ∨ (∃ s, s < S ∧ a = nI s ∧ F_Shop_maySheet σ a = true ∧ F_Shop_isCut σ = true ∧ F_Ref_noSheet σ a = 0) := by
  obtain ⟨-, -, ⟨e1, e2, e3, e4, -⟩, -⟩ := hC
  have hc := isCut_iff e1 e3
  unfold F_Shop_maySheet F_Ref_noSheet
  rw [e4, e2, e1]
  by_cases h1 : a < 0
  · left
    rw [if_pos h1, if_pos h1]
    exact ⟨Bool.false_ne_true, rfl⟩
  · obtain ⟨k, hk, rfl⟩ := nI_of h1
    rw [if_neg h1, if_neg h1, hc]
    by_cases h0 : 0 < S
    · by_cases hks : k < S
      · right; right
        refine ⟨k, hks, rfl, ?_, by simp [h0], ?_⟩
        · rw [if_pos (by simp [h0]), if_neg (nI_ge hks (by omega))]
        · rw [if_neg (by simp [h0, bI]), if_pos (nI_lt hks (by omega)), if_neg (by simp [h0, bI])]
      · left
        refine ⟨?_, ?_⟩
        · rw [if_pos (by simp [h0]), if_pos (nI_le (by omega) hk)]
          exact Bool.false_ne_true
        · rw [if_neg (by simp [h0, bI]), if_neg (nI_nlt (by omega) hk)]
    · right; left
      refine ⟨by omega, ?_, by simp [h0], ?_⟩
      · rw [if_neg (by simp [h0])]
      · rw [if_pos (by simp [h0, bI]), if_pos (by simp [h0, bI])]
def eL (p : Nat → Bool) (l : Nat → Int32) : Nat → Int32
  | 0 => -1
  | n + 1 => if p n = true then (if eL p l n = -1 then l n else if eL p l n ≤ l n then eL p l n else l n) else eL p l n
def eR (p : Nat → Bool) (u : Nat → Int32) : Nat → Int32
  | 0 => -1
  | n + 1 => if p n = true then (if u n ≤ eR p u n then eR p u n else u n) else eR p u n
theorem leftEdge_eq {σ : SG} {n : Nat} (hn : σ 18 0 = nI n) (h240 : n ≤ 240) (t : Int32) : F_Sheets_leftEdge σ t = some (eL (fun i => decide (σ 30 i = t)) (σ 22) n) := by
  have hl : lpW (L_Sheets_leftEdge_4 σ t) FU (-1, 0) = some (eL (fun i => decide (σ 30 i = t)) (σ 22) n) := by
    refine lpW_at (s := fun i => (eL (fun i => decide (σ 30 i = t)) (σ 22) i, nI i)) n rfl ?_ ?_ (by omega)
    · intro i hi
      have hi2 : i < 240 := by omega
      unfold L_Sheets_leftEdge_4
      dsimp only
      rw [hn, if_neg (nI_ge hi (by omega)), rg_nI hi2 (by decide), rg_nI hi2 (by decide), nI_1, eL]
      generalize eL (fun i => decide (σ 30 i = t)) (σ 22) i = A
      by_cases h1 : σ 30 i = t
      · by_cases h2 : A = -1
        · simp [h1, h2]
        · by_cases h3 : A ≤ σ 22 i <;> simp [h1, h2, h3]
      · simp [h1]
    · unfold L_Sheets_leftEdge_4
      dsimp only
      rw [hn, if_pos (nI_le (Nat.le_refl n) (by omega))]
  unfold F_Sheets_leftEdge
  rw [ob_of hl]
theorem mxI_le (x y : Int32) : mxI x y = if y ≤ x then x else y := by
  unfold mxI
  by_cases h : x < y
  · rw [if_pos h, if_neg (k2_nle h)]
  · rw [if_neg h, if_pos (k2_le h)]
theorem rightEdge_eq {σ : SG} {n : Nat} (hn : σ 18 0 = nI n) (h240 : n ≤ 240) (t : Int32) : F_Sheets_rightEdge σ t = some (eR (fun i => decide (σ 30 i = t)) (fun i => σ 22 i + σ 24 i) n) := by
  have hl : lpW (L_Sheets_rightEdge_4 σ t) FU (-1, 0) = some (eR (fun i => decide (σ 30 i = t)) (fun i => σ 22 i + σ 24 i) n) := by
    refine lpW_at (s := fun i => (eR (fun i => decide (σ 30 i = t)) (fun i => σ 22 i + σ 24 i) i, nI i)) n rfl ?_ ?_ (by omega)
    · intro i hi
      have hi2 : i < 240 := by omega
      unfold L_Sheets_rightEdge_4 F_Cubes_rightOf
      dsimp only
      rw [hn, if_neg (nI_ge hi (by omega)), rg_nI hi2 (by decide), rg_nI hi2 (by decide), rg_nI hi2 (by decide), nI_1, eR, mxI_le]
      by_cases h1 : σ 30 i = t <;> simp [h1]
    · unfold L_Sheets_rightEdge_4
      dsimp only
      rw [hn, if_pos (nI_le (Nat.le_refl n) (by omega))]
  unfold F_Sheets_rightEdge
  rw [ob_of hl]
theorem sheetLoop {σ : SG} {n : Nat} (hn : σ 76 10 = nI n) (h240 : n ≤ 240) (t : Int32) : lpW (L_Ref_sheet_42 σ t) FU (0, -1, -1, 0) = some (sI (fun i => decide (σ 87 i = t)) (fun _ => 1) n, eL (fun i => decide (σ 87 i = t)) (σ 83) n, eR (fun i => decide (σ 87 i = t)) (fun i => σ 83 i + σ 84 i) n) := by
  refine lpW_at (s := fun i => (sI (fun i => decide (σ 87 i = t)) (fun _ => 1) i, eL (fun i => decide (σ 87 i = t)) (σ 83) i, eR (fun i => decide (σ 87 i = t)) (fun i => σ 83 i + σ 84 i) i, nI i)) n rfl ?_ ?_ (by omega)
  · intro i hi
    have hi2 : i < 240 := by omega
    unfold L_Ref_sheet_42
    dsimp only
    rw [hn, if_neg (nI_ge hi (by omega)), vin_nI hi2 (by decide)]
    simp only [og_t]
    rw [ix_nI (by omega), nI_1, sI, eL, eR]
    generalize eL (fun i => decide (σ 87 i = t)) (σ 83) i = A
    generalize eR (fun i => decide (σ 87 i = t)) (fun i => σ 83 i + σ 84 i) i = B
    by_cases h1 : σ 87 i = t
    · by_cases h2 : A = -1
      · by_cases h3 : σ 83 i + σ 84 i ≤ B <;> simp [h1, h2, h3]
      · by_cases h4 : A ≤ σ 83 i
        · by_cases h3 : σ 83 i + σ 84 i ≤ B <;> simp [h1, h2, h3, h4]
        · by_cases h3 : σ 83 i + σ 84 i ≤ B <;> simp [h1, h2, h3, h4]
    · simp [h1]
  · unfold L_Ref_sheet_42
    dsimp only
    rw [hn, if_pos (nI_le (Nat.le_refl n) (by omega))]
theorem bI_eq1 {z : Bool} : decide (bI z = 1) = z := by cases z <;> decide
theorem bI_ne0 {z : Bool} : decide (¬ bI z = 0) = z := by cases z <;> decide
theorem tsS_map {A B : Type} (g : A → B) (x : Int32) : ∀ (k : Nat) (r : List A) (d : A), g (tsS x k r d) = tsS x k (r.map g) (g d)
  | k, [], d => rfl
  | k, a :: r, d => by
    rw [List.map_cons, tsS, tsS]
    by_cases h : x = nI k
    · rw [if_pos h, if_pos h]
    · rw [if_neg h, if_neg h, tsS_map g x (k + 1) r d]
/-- the two pictures of a sheet's facts -/
theorem sheet_facts {σ : SG} {w h m n S : Nat} {pt : Bool} (hD : RD σ w h) (hF : RF σ) (hC : RC σ w h m n S pt) : ∃ z f : Nat → Nat, (∀ i, i < n → σ 24 i = nI (z i) ∧ 1 ≤ z i ∧ z i ≤ 3) ∧ (∀ i, i < n → f i < 8 ∧ σ 26 i = nI (f i)) ∧ (∀ i, i < n → ∃ f, f < 8 ∧ σ 26 i = nI f) ∧ (∀ i, i < n → ∃ f, f < 8 ∧ σ 85 i = nI f) ∧
    (∀ t, sI (fun i => decide (σ 87 i = t) && (!true || decide (¬ σ 80 (ix (σ 85 i)) = 0))) (σ 84) n = sI (fun i => decide (σ 30 i = t) && decide (σ 15 (ix (σ 26 i)) = 1)) (σ 24) n) ∧
    (∀ t, anyB (fun i => decide (σ 87 i = t) && decide (¬ σ 81 (ix (σ 85 i)) = 0)) n = decide (0 < sm (fun i => decide (σ 30 i = t) && decide (σ 17 (ix (σ 26 i)) = 1)) z n)) ∧
    (0 < S → ∀ t, t < S → sI (fun i => decide (σ 87 i = nI t) && (!false || decide (¬ σ 80 (ix (σ 85 i)) = 0))) (σ 84) n = σ 59 t) := by
  obtain ⟨r, l, z, f, hB, hcov⟩ := RC_CB hD hC
  obtain ⟨⟨-, -, hn240, -⟩, -, ⟨-, -, hS, -, hSn⟩, ⟨k1, k2, k3, k4, k5, k6⟩, -⟩ := hC
  have hf26 : ∀ i, i < n → ∃ f, f < 8 ∧ σ 26 i = nI f := fun i hi => ⟨f i, (hB i hi).2.2.2.2.2.2.2.2, (hB i hi).2.2.2.1⟩
  refine ⟨z, f, fun i hi => ⟨(hB i hi).2.2.1, (hB i hi).2.2.2.2.2.1, (hB i hi).2.2.2.2.2.2.1⟩, fun i hi => ⟨(hB i hi).2.2.2.2.2.2.2.2, (hB i hi).2.2.2.1⟩, hf26, by rw [k4]; exact hf26, fun t => ?_, fun t => ?_, fun h0 t ht => ?_⟩
  · rw [k3, k4, k6, hF.1]
    refine sI_cong (fun i hi => ?_) (fun _ _ _ => rfl)
    obtain ⟨g, hg, e⟩ := hf26 i hi
    obtain ⟨-, -, ⟨zz, hz⟩, -⟩ := hF.2.2 g hg
    rw [e, ix_nI (by omega), hz, bI_eq1, bI_ne0]
    rfl
  · rw [k4, k6, hF.2.1]
    rw [Bool.eq_iff_iff, anyB_iff, decide_eq_true_eq, sm_pos (fun i hi => (hB i hi).2.2.2.2.2.1)]
    constructor
    · rintro ⟨i, hi, h1⟩
      refine ⟨i, hi, ?_⟩
      obtain ⟨g, hg, e⟩ := hf26 i hi
      obtain ⟨-, -, -, ⟨zz, hz⟩⟩ := hF.2.2 g hg
      rw [e, ix_nI (by omega), hz, bI_ne0] at h1
      rw [e, ix_nI (by omega), hz, bI_eq1]
      exact h1
    · rintro ⟨i, hi, h1⟩
      refine ⟨i, hi, ?_⟩
      obtain ⟨g, hg, e⟩ := hf26 i hi
      obtain ⟨-, -, -, ⟨zz, hz⟩⟩ := hF.2.2 g hg
      rw [e, ix_nI (by omega), hz, bI_eq1] at h1
      rw [e, ix_nI (by omega), hz, bI_ne0]
      exact h1
  · obtain ⟨hcv, hcut⟩ := hcov (hSn h0)
    obtain ⟨s, hs1, hs2⟩ := hcut h0
    rw [k3, k6, hs2 t ht, ← sI_sm (g := σ 24) (fun i hi => (hB i hi).2.2.1)]
    refine sI_cong (fun i hi => ?_) (fun _ _ _ => rfl)
    obtain ⟨g1, g2, -⟩ := hs1 i hi
    simp only [Bool.not_false, Bool.true_or, Bool.and_true]
    rw [g2]
    exact decide_eq_decide.mpr (nI_eq (by omega) (by omega))
theorem op_sheet {σ : SG} (hR : R σ) (a b : Int32) : ∃ r, F_Shop_sheet σ a b = some r ∧ F_Ref_sheet σ a b = some r := by
  obtain ⟨w, h, m, q, n, S, pt, hD, hF, hL, hH, hC⟩ := hR
  unfold F_Shop_sheet F_Ref_sheet
  rw [in_wi]
  rcases sheet_cases hC a with ⟨h1, h2⟩ | ⟨h0, h1, h2, h3⟩ | ⟨s, hs, rfl, h1, h2, h3⟩
  · exact ⟨-2, by rw [if_neg h1], by rw [h2, if_pos rfl]⟩
  · by_cases hb : F_Shop_within b 0 5 = true
    · exact ⟨-3, by rw [if_pos h1, if_pos hb, if_neg (bf h2)], by rw [h3, if_neg (show ¬ (-3 : Int32) = -2 by decide), if_pos hb, if_neg (show ¬ (0 : Int32) ≤ -3 by decide)]⟩
    · exact ⟨-2, by rw [if_pos h1, if_neg hb], by rw [h3, if_neg (show ¬ (-3 : Int32) = -2 by decide), if_neg hb]⟩
  rw [if_pos h1, h3, if_neg (show ¬ (0 : Int32) = -2 by decide), if_pos h2]
  by_cases hb : F_Shop_within b 0 5 = true
  rotate_left
  · exact ⟨-2, by rw [if_neg hb], by rw [if_neg hb]⟩
  rw [if_pos hb, if_pos hb, if_pos (show (0 : Int32) ≤ 0 by decide)]
  obtain ⟨z, f, hz, hf, hf26, hf85, e1, e2, e3⟩ := sheet_facts hD hF hC
  obtain ⟨⟨c1, c2, hn240, -⟩, -, ⟨-, -, hS240, -, -⟩, ⟨k1, k2, k3, k4, k5, k6⟩, -⟩ := hC
  rw [ob_of (sheetLoop c2 hn240 (nI s))]
  unfold F_Sheets_tell F_Sheets_hasHead
  rw [ob_of (cubesOn_eq c1 hn240 _), ob_of (marked14_eq c1 hn240 hf26 _), ob_of (marked16_eq c1 hn240 hf26 _), ob_of (leftEdge_eq c1 hn240 _), ob_of (rightEdge_eq c1 hn240 _), rg_nI (show s < 240 by omega) (by decide)]
  rw [ob_of (sumOf_eq c2 hn240 hf85 (nI s) false), ob_of (sumOf_eq c2 hn240 hf85 (nI s) true), ob_of (hasFace_eq c2 hn240 hf85 (nI s)), e1, e2, e3 (by omega) s hs]
  rw [sI_sm (p := fun i => decide (σ 30 i = nI s) && decide (σ 17 (ix (σ 26 i)) = 1)) (fun i hi => (hz i hi).1)]
  have hb720 : sm (fun i => decide (σ 30 i = nI s) && decide (σ 17 (ix (σ 26 i)) = 1)) z n ≤ n * 3 := sm_le (fun i hi => (hz i hi).2.2)
  generalize sm (fun i => decide (σ 30 i = nI s) && decide (σ 17 (ix (σ 26 i)) = 1)) z n = H at hb720
  rw [k2, k3, k6]
  have hH2 : ob (if nI H ≤ 0 then some false else some true) (fun v4 => if v4 = true then some (1 : Int32) else some 0) = (if decide (0 < H) = true then some 1 else some 0) := by
    by_cases h0 : 0 < H
    · rw [if_neg (nI_nle h0 (by omega))]; simp [h0, ob]
    · have : H = 0 := by omega
      subst this
      rfl
  rw [hH2]
  dsimp only
  have key : ∀ (x : Int32) (A B C D E G : Int32), ob (tsS x 0 [some A, some B, some C, some D, some E] (some G)) (fun v => some v) = some (tsS x 0 [A, B, C, D, E] G) := by
    intro x A B C D E G
    rw [show tsS x 0 [some A, some B, some C, some D, some E] (some G) = some (tsS x 0 [A, B, C, D, E] G) from (tsS_map some x 0 [A, B, C, D, E] G).symm]
    rfl
  have key2 : ∀ (x : Int32) (A B C D E G : Int32), tsS x 0 [some A, some B, some C, some D, some E] (some G) = some (tsS x 0 [A, B, C, D, E] G) := fun x A B C D E G => (tsS_map some x 0 [A, B, C, D, E] G).symm
  by_cases hHd : decide (0 < H) = true
  · rw [if_pos hHd]
    exact ⟨_, key _ _ _ _ _ _ _, key2 _ _ _ _ _ _ _⟩
  · rw [if_neg hHd]
    exact ⟨_, key _ _ _ _ _ _ _, key2 _ _ _ _ _ _ _⟩
