/-! lay: two loops side by side; rows set whole; the end of a strip -/
theorem lockS {X Y X' Y' : Type} {f : X → Option (X ⊕ Y)} {f' : X' → Option (X' ⊕ Y')} {Inv : Nat → X → X' → Prop} {Post : Y → Y' → Prop} (hs : ∀ k x x', Inv k x x' → (∃ a a' k', k' < k ∧ f x = some (.inl a) ∧ f' x' = some (.inl a') ∧ Inv k' a a') ∨ ∃ b b', f x = some (.inr b) ∧ f' x' = some (.inr b') ∧ Post b b') {k : Nat} {x : X} {x' : X'} (h : Inv k x x') (hk : k < 1000000) : ∃ b b', lpW f FU x = some b ∧ lpW f' FU x' = some b' ∧ Post b b' := by
  have key : ∀ m k, k < m → ∀ x x', Inv k x x' → ∃ b b', lpW f m x = some b ∧ lpW f' m x' = some b' ∧ Post b b' := by
    intro m
    induction m with
    | zero => intro k hk; omega
    | succ m ih =>
      intro k hk x x' hI
      rcases hs k x x' hI with ⟨a, a', k', h1, h2, h3, h4⟩ | ⟨b, b', h2, h3, h4⟩
      · obtain ⟨b, b', g1, g2, g3⟩ := ih k' (by omega) a a' h4
        refine ⟨b, b', ?_, ?_, g3⟩
        · rw [lpW, h2]; exact g1
        · rw [lpW, h3]; exact g2
      · refine ⟨b, b', ?_, ?_, h4⟩
        · rw [lpW, h2]; rfl
        · rw [lpW, h3]; rfl
  exact key FU k (FU_big hk) x x' h
theorem lay6 {τ : SG} : lpW L_Ref_lay_6 FU (0, τ) = some (sR τ 92 (rowF (fun _ => 0) (τ 92) 25)) := by
  refine lpW_at (s := fun i => (nI i, sR τ 92 (rowF (fun _ => 0) (τ 92) i))) 25 ?_ ?_ ?_ (by decide)
  · rw [rowF_0, sR_self]; rfl
  · intro i hi
    unfold L_Ref_lay_6
    dsimp only
    rw [if_neg (show ¬ (25 : Int32) ≤ nI i from nI_ge (b := 25) hi (by decide)), vin_nI hi (by decide)]
    simp only [og_t]
    rw [ix_nI (by omega), nI_1, up_sR, sR_at, sR_sR, ← rowF_s]
  · unfold L_Ref_lay_6
    dsimp only
    rw [if_pos (show (25 : Int32) ≤ nI 25 from nI_le (Nat.le_refl 25) (by decide))]
theorem lay37 {τ : SG} : lpW L_Ref_lay_37 FU (0, τ) = some (sR τ 93 (rowF (fun _ => 0) (τ 93) 25)) := by
  refine lpW_at (s := fun i => (nI i, sR τ 93 (rowF (fun _ => 0) (τ 93) i))) 25 ?_ ?_ ?_ (by decide)
  · rw [rowF_0, sR_self]; rfl
  · intro i hi
    unfold L_Ref_lay_37
    dsimp only
    rw [if_neg (show ¬ (25 : Int32) ≤ nI i from nI_ge (b := 25) hi (by decide)), vin_nI hi (by decide)]
    simp only [og_t]
    rw [ix_nI (by omega), nI_1, up_sR, sR_at, sR_sR, ← rowF_s]
  · unfold L_Ref_lay_37
    dsimp only
    rw [if_pos (show (25 : Int32) ≤ nI 25 from nI_le (Nat.le_refl 25) (by decide))]
theorem bI_nbz (b : Bool) : nbz (bI b) = true := decide_eq_true (bI_nar2 b)
theorem lay139 {τ : SG} (hb : ∀ k, k < 25 → ∃ b : Bool, τ 93 k = bI b) : lpW L_Ref_lay_139 FU (0, τ) = some (sR τ 92 (rowF (τ 93) (τ 92) 25)) := by
  refine lpW_at (s := fun i => (nI i, sR τ 92 (rowF (τ 93) (τ 92) i))) 25 ?_ ?_ ?_ (by decide)
  · rw [rowF_0, sR_self]; rfl
  · intro i hi
    obtain ⟨b, hb⟩ := hb i hi
    unfold L_Ref_lay_139 nm
    dsimp only
    rw [if_neg (show ¬ (25 : Int32) ≤ nI i from nI_ge (b := 25) hi (by decide)), vin_nI hi (by decide)]
    simp only [og_t]
    rw [ix_nI (by omega), show (sR τ 92 (rowF (τ 93) (τ 92) i)) 93 i = τ 93 i from rfl, show nbz (τ 93 i) = true by rw [hb]; exact bI_nbz b, nI_1, up_sR, sR_at, sR_sR, ← rowF_s]
    rfl
  · unfold L_Ref_lay_139
    dsimp only
    rw [if_pos (show (25 : Int32) ≤ nI 25 from nI_le (Nat.le_refl 25) (by decide))]
/-- what lay reads of both states -/
def LB (σ τ : SG) (w h : Nat) (F : Nat → Nat) : Prop := σ 1 0 = nI w ∧ σ 1 1 = nI h ∧ τ 76 0 = nI w ∧ τ 76 1 = nI h ∧ 1 ≤ w ∧ w ≤ 24 ∧ 1 ≤ h ∧ h ≤ 10 ∧ (∀ k, k < 240 → F k < 8 ∧ σ 3 k = nI (F k) ∧ τ 77 k = nI (F k)) ∧ ∀ f, f < 8 → ∃ g, 1 ≤ g ∧ g ≤ 3 ∧ σ 13 f = nI g ∧ τ 79 f = nI (3 - g)
theorem pl_lt2 {w h x y : Nat} (hw : w ≤ 24) (hh : h ≤ 10) (hx : x < w) (hy : y < h) : 24 * y + x < 240 := by omega
/-- e ends the strip that begins at x -/
def SE (F : Nat → Nat) (w y x e : Nat) : Prop := x < e ∧ e ≤ w ∧ (∀ k, x ≤ k → k < e → F (24 * y + k) = F (24 * y + x)) ∧ (e = w ∨ F (24 * y + e) ≠ F (24 * y + x))
theorem SE_ex (F : Nat → Nat) {w y x : Nat} (hx : x < w) : ∃ e, SE F w y x e := by
  obtain ⟨d, hd, hP, hmin⟩ := least_of (P := fun d => x + 1 + d = w ∨ F (24 * y + (x + 1 + d)) ≠ F (24 * y + x)) (N := w - x - 1) (Or.inl (by omega))
  refine ⟨x + 1 + d, by omega, by omega, fun k h1 h2 => ?_, hP⟩
  by_cases h3 : k = x
  · rw [h3]
  · have := hmin (k - x - 1) (by omega)
    rw [show x + 1 + (k - x - 1) = k by omega] at this
    exact Classical.not_not.mp (fun h => this (Or.inr h))
theorem seC {σ τ : SG} {w h : Nat} {F : Nat → Nat} (hB : LB σ τ w h F) {y x e : Nat} (hy : y < h) (hx : x < w) (he : SE F w y x e) : F_Drawing_stripEnd σ (nI x) (nI y) = some (nI e) := by
  obtain ⟨b1, b2, b3, b4, b5, b6, b7, b8, b9, b10⟩ := hB
  obtain ⟨e1, e2, e3, e4⟩ := he
  have hfl : ∀ k, k < w → F_Drawing_fieldAt σ (nI k) (nI y) = nI (F (24 * y + k)) := fun k hk => by rw [fAt (by omega)]; exact (b9 _ (by omega)).2.1
  have hF8 : ∀ k, k < w → F (24 * y + k) < 8 := fun k hk => (b9 _ (by omega)).1
  have hl : lpW (L_Drawing_stripEnd_4 σ (nI x) (nI y)) FU (nI x + 1) = some (nI e) := by
    refine lpW_at (s := fun j => nI (x + 1 + j)) (e - (x + 1)) ?_ ?_ ?_ (by omega)
    · show nI (x + 1) = _
      rw [nI_1]
    · intro j hj
      have h8 := hF8 x hx
      unfold L_Drawing_stripEnd_4
      rw [b1, if_neg (nI_ge (by omega) (by omega)), hfl _ (by omega), hfl _ (by omega), e3 (x + 1 + j) (by omega) (by omega), if_pos rfl, nI_1]
      rfl
    · rw [show x + 1 + (e - (x + 1)) = e by omega]
      unfold L_Drawing_stripEnd_4
      rw [b1]
      by_cases hew : e = w
      · rw [hew, if_pos (nI_le (Nat.le_refl w) (by omega))]
      · have h8 := hF8 x hx
        have h9 := hF8 e (by omega)
        rw [if_neg (nI_ge (by omega) (by omega)), hfl _ (by omega), hfl _ (by omega), if_neg ?_]
        rw [nI_eq (by omega) (by omega)]
        exact e4.resolve_left hew
  unfold F_Drawing_stripEnd
  rw [ob_of hl]
theorem seR {σ τ : SG} {w h : Nat} {F : Nat → Nat} (hB : LB σ τ w h F) {y x e : Nat} {x0 : Int32} (hy : y < h) (hx : x < w) (he : SE F w y x e) : lpW (L_Ref_lay_68 (x0, τ) (nI y) (nI x)) FU (nI x) = some (nI e) := by
  obtain ⟨b1, b2, b3, b4, b5, b6, b7, b8, b9, b10⟩ := hB
  obtain ⟨e1, e2, e3, e4⟩ := he
  have hfl : ∀ k, k < w → τ 77 (24 * y + k) = nI (F (24 * y + k)) := fun k hk => (b9 _ (by omega)).2.2
  have hF8 : ∀ k, k < w → F (24 * y + k) < 8 := fun k hk => (b9 _ (by omega)).1
  refine lpW_at (s := fun j => nI (x + j)) (e - x) ?_ ?_ ?_ (by omega)
  · rfl
  · intro j hj
    have h8 := hF8 x hx
    unfold L_Ref_lay_68
    rw [if_neg (show ¬ τ 76 0 ≤ nI (x + j) by rw [b3]; exact nI_ge (by omega) (by omega)), pl_nI', pl_nI', vin_nI (by omega) (by decide), vin_nI (by omega) (by decide), ix_nI (by omega), ix_nI (by omega)]
    simp only [og_t]
    rw [if_pos (show τ 77 (24 * y + (x + j)) = τ 77 (24 * y + x) by rw [hfl _ (by omega), hfl _ (by omega), e3 (x + j) (by omega) (by omega)]), nI_1]
    rfl
  · rw [show x + (e - x) = e by omega]
    unfold L_Ref_lay_68
    by_cases hew : e = w
    · rw [if_pos (show τ 76 0 ≤ nI e by rw [b3]; exact nI_le (by omega) (by omega))]
    · have h8 := hF8 x hx
      have h9 := hF8 e (by omega)
      rw [if_neg (show ¬ τ 76 0 ≤ nI e by rw [b3]; exact nI_ge (by omega) (by omega)), pl_nI', pl_nI', vin_nI (by omega) (by decide), vin_nI (by omega) (by decide), ix_nI (by omega), ix_nI (by omega)]
      simp only [og_t]
      rw [if_neg (show ¬ τ 77 (24 * y + e) = τ 77 (24 * y + x) by rw [hfl _ (by omega), hfl _ (by omega), nI_eq (by omega) (by omega)]; exact e4.resolve_left hew)]
