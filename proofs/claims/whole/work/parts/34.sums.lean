/-! sums: what is summed and counted over the cubes -/
def CB (σ : SG) (n : Nat) (r l z f : Nat → Nat) : Prop := ∀ i, i < n → σ 20 i = nI (r i) ∧ σ 22 i = nI (l i) ∧ σ 24 i = nI (z i) ∧ σ 26 i = nI (f i) ∧ r i < 10 ∧ 1 ≤ z i ∧ z i ≤ 3 ∧ l i + z i ≤ 24 ∧ f i < 8
theorem RC_CB {σ : SG} {w h m n S : Nat} {pt : Bool} (hD : RD σ w h) (hC : RC σ w h m n S pt) : ∃ r l z f, CB σ n r l z f ∧ (0 < n → Cov σ w h n r l z f ∧ (0 < S → CutI σ n S r z)) := by
  by_cases h0 : 0 < n
  · obtain ⟨r, l, z, f, h1, h2⟩ := hC.2.2.2.2.1 h0
    refine ⟨r, l, z, f, fun i hi => ?_, fun _ => ⟨h1, h2⟩⟩
    obtain ⟨e1, e2, e3, e4, e5, e6, e7, e8, e9, -⟩ := h1.1 i hi
    obtain ⟨-, -, -, -, -, g2, -, g4, -⟩ := hD
    exact ⟨e1, e2, e3, e4, by omega, e6, e7, by omega, e9⟩
  · exact ⟨fun _ => 0, fun _ => 0, fun _ => 0, fun _ => 0, fun i hi => absurd hi (by omega), fun h => absurd h h0⟩
def sI (p : Nat → Bool) (g : Nat → Int32) : Nat → Int32
  | 0 => 0
  | n + 1 => if p n = true then sI p g n + g n else sI p g n
theorem sI_cong {p q : Nat → Bool} {g k : Nat → Int32} : ∀ {n : Nat}, (∀ i, i < n → p i = q i) → (∀ i, i < n → p i = true → g i = k i) → sI p g n = sI q k n
  | 0, _, _ => rfl
  | n + 1, h1, h2 => by
    rw [sI, sI, sI_cong (fun i hi => h1 i (by omega)) (fun i hi => h2 i (by omega)), ← h1 n (by omega)]
    by_cases hp : p n = true
    · rw [if_pos hp, if_pos hp, h2 n (by omega) hp]
    · rw [if_neg hp, if_neg hp]
theorem sI_sm {p : Nat → Bool} {g : Nat → Int32} {z : Nat → Nat} : ∀ {n : Nat}, (∀ i, i < n → g i = nI (z i)) → sI p g n = nI (sm p z n)
  | 0, _ => rfl
  | n + 1, h => by
    rw [sI, sm, sI_sm (fun i hi => h i (by omega))]
    by_cases hp : p n = true
    · rw [if_pos hp, if_pos hp, h n (by omega), nI_add]
    · rw [if_neg hp, if_neg hp, Nat.add_zero]
theorem sm_le {p : Nat → Bool} {z : Nat → Nat} {c : Nat} : ∀ {n : Nat}, (∀ i, i < n → z i ≤ c) → sm p z n ≤ n * c
  | 0, _ => by rw [sm]; omega
  | n + 1, h => by
    have h1 := sm_le (p := p) (fun i hi => h i (by omega) : ∀ i, i < n → z i ≤ c)
    have h2 := h n (by omega)
    rw [sm, Nat.succ_mul]
    by_cases hp : p n = true
    · rw [if_pos hp]; omega
    · rw [if_neg hp]; omega
theorem sm_pos {p : Nat → Bool} {z : Nat → Nat} : ∀ {n : Nat}, (∀ i, i < n → 1 ≤ z i) → (0 < sm p z n ↔ ∃ i, i < n ∧ p i = true)
  | 0, _ => by
    rw [sm]
    exact ⟨fun h => absurd h (by omega), fun ⟨i, hi, _⟩ => absurd hi (by omega)⟩
  | n + 1, h => by
    have ih := sm_pos (p := p) (fun i hi => h i (by omega) : ∀ i, i < n → 1 ≤ z i)
    have h2 := h n (by omega)
    rw [sm]
    by_cases hp : p n = true
    · rw [if_pos hp]
      exact ⟨fun _ => ⟨n, by omega, hp⟩, fun _ => by omega⟩
    · rw [if_neg hp, Nat.add_zero, ih]
      constructor
      · rintro ⟨i, hi, hpi⟩; exact ⟨i, by omega, hpi⟩
      · rintro ⟨i, hi, hpi⟩
        refine ⟨i, ?_, hpi⟩
        rcases Nat.lt_or_ge i n with q | q
        · exact q
        · have : i = n := by omega
          subst this
          exact absurd hpi hp
theorem sm_cong {p q : Nat → Bool} {z : Nat → Nat} : ∀ {n : Nat}, (∀ i, i < n → p i = q i) → sm p z n = sm q z n
  | 0, _ => rfl
  | n + 1, h => by rw [sm, sm, sm_cong (fun i hi => h i (by omega)), h n (by omega)]
/-- the reference's sum over a sheet -/
theorem sumOf_eq {σ : SG} {n : Nat} (hn : σ 76 10 = nI n) (h240 : n ≤ 240) (hf : ∀ i, i < n → ∃ f, f < 8 ∧ σ 85 i = nI f) (t : Int32) (leaf : Bool) :
    F_Ref_sumOf σ t leaf = some (sI (fun i => decide (σ 87 i = t) && (!leaf || decide (¬ σ 80 (ix (σ 85 i)) = 0))) (σ 84) n) := by
  have hl : lpW (L_Ref_sumOf_5 σ t leaf) FU (0, 0) = some (sI (fun i => decide (σ 87 i = t) && (!leaf || decide (¬ σ 80 (ix (σ 85 i)) = 0))) (σ 84) n) := by
    refine lpW_at (s := fun i => (sI (fun i => decide (σ 87 i = t) && (!leaf || decide (¬ σ 80 (ix (σ 85 i)) = 0))) (σ 84) i, nI i)) n rfl ?_ ?_ (by omega)
    · intro i hi
      obtain ⟨f, hf1, hf2⟩ := hf i hi
      unfold L_Ref_sumOf_5
      dsimp only
      rw [hn, if_neg (nI_ge hi (by omega)), vin_nI (show i < 240 by omega) (by decide), og_t, ix_nI (by omega), nI_1, sI]
      by_cases h1 : σ 87 i = t
      · rw [if_pos h1, hf2, vin_nI hf1 (by decide)]
        cases leaf
        · simp [h1, og_t]
        · simp only [if_true, og_t]
          by_cases h2 : σ 80 (ix (nI f)) = 0
          · simp [h2, h1]
          · simp [h2, h1]
      · rw [if_neg h1]
        simp [h1]
    · unfold L_Ref_sumOf_5
      dsimp only
      rw [hn, if_pos (nI_le (Nat.le_refl n) (by omega))]
  unfold F_Ref_sumOf
  rw [ob_of hl]
def anyB (p : Nat → Bool) : Nat → Bool
  | 0 => false
  | n + 1 => anyB p n || p n
theorem anyB_iff {p : Nat → Bool} : ∀ {n : Nat}, anyB p n = true ↔ ∃ i, i < n ∧ p i = true
  | 0 => ⟨fun h => (by cases h), fun ⟨i, hi, _⟩ => absurd hi (by omega)⟩
  | n + 1 => by
    rw [anyB, Bool.or_eq_true, anyB_iff]
    constructor
    · rintro (⟨i, hi, h⟩ | h)
      · exact ⟨i, by omega, h⟩
      · exact ⟨n, by omega, h⟩
    · rintro ⟨i, hi, h⟩
      rcases Nat.lt_or_ge i n with q | q
      · exact Or.inl ⟨i, q, h⟩
      · have : i = n := by omega
        subst this
        exact Or.inr h
theorem hasFace_eq {σ : SG} {n : Nat} (hn : σ 76 10 = nI n) (h240 : n ≤ 240) (hf : ∀ i, i < n → ∃ f, f < 8 ∧ σ 85 i = nI f) (t : Int32) :
    F_Ref_hasFace σ t = some (anyB (fun i => decide (σ 87 i = t) && decide (¬ σ 81 (ix (σ 85 i)) = 0)) n) := by
  have hl : lpW (L_Ref_hasFace_4 σ t) FU (false, 0) = some (anyB (fun i => decide (σ 87 i = t) && decide (¬ σ 81 (ix (σ 85 i)) = 0)) n) := by
    refine lpW_at (s := fun i => (anyB (fun i => decide (σ 87 i = t) && decide (¬ σ 81 (ix (σ 85 i)) = 0)) i, nI i)) n rfl ?_ ?_ (by omega)
    · intro i hi
      obtain ⟨f, hf1, hf2⟩ := hf i hi
      unfold L_Ref_hasFace_4
      dsimp only
      rw [hn, if_neg (nI_ge hi (by omega)), vin_nI (show i < 240 by omega) (by decide), og_t, og_t, ix_nI (by omega), nI_1, anyB, hf2, vin_nI hf1 (by decide), og_t]
      generalize anyB _ i = b0
      cases b0
      · simp only [Bool.false_eq_true, if_false, Bool.false_or]
        by_cases h1 : σ 87 i = t
        · by_cases h2 : σ 81 (ix (nI f)) = 0
          · simp [h1, h2, hf2]
          · simp [h1, h2, hf2]
        · simp [h1]
      · simp
    · unfold L_Ref_hasFace_4
      dsimp only
      rw [hn, if_pos (nI_le (Nat.le_refl n) (by omega))]
  unfold F_Ref_hasFace
  rw [ob_of hl]
theorem bare_eq {σ : SG} {n : Nat} (hn : σ 76 10 = nI n) (h240 : n ≤ 240) : F_Ref_bare σ = some (sI (fun i => decide (σ 86 i = -1)) (fun _ => 1) n) := by
  have hl : lpW (L_Ref_bare_4 σ) FU (0, 0) = some (sI (fun i => decide (σ 86 i = -1)) (fun _ => 1) n) := by
    refine lpW_at (s := fun i => (sI (fun i => decide (σ 86 i = -1)) (fun _ => 1) i, nI i)) n rfl ?_ ?_ (by omega)
    · intro i hi
      unfold L_Ref_bare_4
      dsimp only
      rw [hn, if_neg (nI_ge hi (by omega)), vin_nI (show i < 240 by omega) (by decide), og_t, ix_nI (by omega), nI_1, sI]
      by_cases h1 : σ 86 i = -1 <;> simp [h1]
    · unfold L_Ref_bare_4
      dsimp only
      rw [hn, if_pos (nI_le (Nat.le_refl n) (by omega))]
  unfold F_Ref_bare
  rw [ob_of hl]
theorem bareC_eq {σ : SG} {n : Nat} (hn : σ 18 0 = nI n) (h240 : n ≤ 240) : F_Painter_bareCubes σ = some (sI (fun i => decide (σ 28 i = -1)) (fun _ => 1) n) := by
  have hl : lpW (L_Painter_bareCubes_4 σ) FU (0, 0) = some (sI (fun i => decide (σ 28 i = -1)) (fun _ => 1) n) := by
    refine lpW_at (s := fun i => (sI (fun i => decide (σ 28 i = -1)) (fun _ => 1) i, nI i)) n rfl ?_ ?_ (by omega)
    · intro i hi
      unfold L_Painter_bareCubes_4
      dsimp only
      rw [hn, if_neg (nI_ge hi (by omega)), rg_nI (show i < 240 by omega) (by decide), nI_1, sI]
      by_cases h1 : σ 28 i = -1 <;> simp [h1]
    · unfold L_Painter_bareCubes_4
      dsimp only
      rw [hn, if_pos (nI_le (Nat.le_refl n) (by omega))]
  unfold F_Painter_bareCubes
  rw [ob_of hl]
theorem cubesOn_eq {σ : SG} {n : Nat} (hn : σ 18 0 = nI n) (h240 : n ≤ 240) (t : Int32) : F_Sheets_cubesOn σ t = some (sI (fun i => decide (σ 30 i = t)) (fun _ => 1) n) := by
  have hl : lpW (L_Sheets_cubesOn_4 σ t) FU (0, 0) = some (sI (fun i => decide (σ 30 i = t)) (fun _ => 1) n) := by
    refine lpW_at (s := fun i => (sI (fun i => decide (σ 30 i = t)) (fun _ => 1) i, nI i)) n rfl ?_ ?_ (by omega)
    · intro i hi
      unfold L_Sheets_cubesOn_4
      dsimp only
      rw [hn, if_neg (nI_ge hi (by omega)), rg_nI (show i < 240 by omega) (by decide), nI_1, sI]
      by_cases h1 : σ 30 i = t <;> simp [h1]
    · unfold L_Sheets_cubesOn_4
      dsimp only
      rw [hn, if_pos (nI_le (Nat.le_refl n) (by omega))]
  unfold F_Sheets_cubesOn
  rw [ob_of hl]
theorem marked14_eq {σ : SG} {n : Nat} (hn : σ 18 0 = nI n) (h240 : n ≤ 240) (hf : ∀ i, i < n → ∃ f, f < 8 ∧ σ 26 i = nI f) (t : Int32) :
    F_Sheets_placesMarked_14 σ t = some (sI (fun i => decide (σ 30 i = t) && decide (σ 15 (ix (σ 26 i)) = 1)) (σ 24) n) := by
  have hl : lpW (L_Sheets_placesMarked_14_5 σ t) FU (0, 0) = some (sI (fun i => decide (σ 30 i = t) && decide (σ 15 (ix (σ 26 i)) = 1)) (σ 24) n) := by
    refine lpW_at (s := fun i => (sI (fun i => decide (σ 30 i = t) && decide (σ 15 (ix (σ 26 i)) = 1)) (σ 24) i, nI i)) n rfl ?_ ?_ (by omega)
    · intro i hi
      obtain ⟨f, hf1, hf2⟩ := hf i hi
      have hi2 : i < 240 := by omega
      unfold L_Sheets_placesMarked_14_5
      dsimp only
      rw [hn, if_neg (nI_ge hi (by omega)), rg_nI hi2 (by decide), rg_nI hi2 (by decide), rg_nI hi2 (by decide), hf2, rg_nI hf1 (by decide), nI_1, sI, hf2, ix_nI (by omega)]
      by_cases h1 : σ 30 i = t
      · by_cases h2 : σ 15 f = 1 <;> simp [h1, h2]
      · simp [h1]
    · unfold L_Sheets_placesMarked_14_5
      dsimp only
      rw [hn, if_pos (nI_le (Nat.le_refl n) (by omega))]
  unfold F_Sheets_placesMarked_14
  rw [ob_of hl]
theorem marked16_eq {σ : SG} {n : Nat} (hn : σ 18 0 = nI n) (h240 : n ≤ 240) (hf : ∀ i, i < n → ∃ f, f < 8 ∧ σ 26 i = nI f) (t : Int32) :
    F_Sheets_placesMarked_16 σ t = some (sI (fun i => decide (σ 30 i = t) && decide (σ 17 (ix (σ 26 i)) = 1)) (σ 24) n) := by
  have hl : lpW (L_Sheets_placesMarked_16_5 σ t) FU (0, 0) = some (sI (fun i => decide (σ 30 i = t) && decide (σ 17 (ix (σ 26 i)) = 1)) (σ 24) n) := by
    refine lpW_at (s := fun i => (sI (fun i => decide (σ 30 i = t) && decide (σ 17 (ix (σ 26 i)) = 1)) (σ 24) i, nI i)) n rfl ?_ ?_ (by omega)
    · intro i hi
      obtain ⟨f, hf1, hf2⟩ := hf i hi
      have hi2 : i < 240 := by omega
      unfold L_Sheets_placesMarked_16_5
      dsimp only
      rw [hn, if_neg (nI_ge hi (by omega)), rg_nI hi2 (by decide), rg_nI hi2 (by decide), rg_nI hi2 (by decide), hf2, rg_nI hf1 (by decide), nI_1, sI, hf2, ix_nI (by omega)]
      by_cases h1 : σ 30 i = t
      · by_cases h2 : σ 17 f = 1 <;> simp [h1, h2]
      · simp [h1]
    · unfold L_Sheets_placesMarked_16_5
      dsimp only
      rw [hn, if_pos (nI_le (Nat.le_refl n) (by omega))]
  unfold F_Sheets_placesMarked_16
  rw [ob_of hl]
