/-! the nearest lot with enough left -/
def sq (a b : Nat) : Nat := (a - b) * (a - b) + (b - a) * (b - a)
theorem sq_I (a b : Nat) : (nI a - nI b) * (nI a - nI b) = nI (sq a b) := by
  unfold sq
  rcases Nat.le_total a b with h | h
  · obtain ⟨k, rfl⟩ := Nat.le.dest h
    rw [show a - (a + k) = 0 by omega, show a + k - a = k by omega, Nat.zero_mul, Nat.zero_add, ← nI_mul, ← nI_add]
    generalize nI a = A
    generalize nI k = K
    grind
  · obtain ⟨k, rfl⟩ := Nat.le.dest h
    rw [show b - (b + k) = 0 by omega, show b + k - b = k by omega, Nat.zero_mul, Nat.add_zero, ← nI_mul, ← nI_add]
    generalize nI b = A
    generalize nI k = K
    grind
theorem sq_c (a b : Nat) : sq a b = sq b a := by
  unfold sq
  exact Nat.add_comm _ _
theorem sq_le {a b : Nat} (ha : a ≤ 255) (hb : b ≤ 255) : sq a b ≤ 65025 := by
  unfold sq
  rcases Nat.le_total a b with h | h
  · rw [show a - b = 0 by omega, Nat.zero_mul, Nat.zero_add]
    exact Nat.le_trans (Nat.mul_le_mul (show b - a ≤ 255 by omega) (show b - a ≤ 255 by omega)) (by decide)
  · rw [show b - a = 0 by omega, Nat.zero_mul, Nat.add_zero]
    exact Nat.le_trans (Nat.mul_le_mul (show a - b ≤ 255 by omega) (show a - b ≤ 255 by omega)) (by decide)
/-- lots, but for what is left of them -/
def LO (σ : SG) (m : Nat) : Prop := σ 42 0 = nI m ∧ σ 76 18 = nI m ∧ m ≤ 10 ∧ ∀ l, l < 10 → ∃ a b c, a ≤ 255 ∧ b ≤ 255 ∧ c ≤ 255 ∧ σ 47 l = nI a ∧ σ 88 (3 * l) = nI a ∧ σ 49 l = nI b ∧ σ 88 (3 * l + 1) = nI b ∧ σ 51 l = nI c ∧ σ 88 (3 * l + 2) = nI c
theorem RLo_LO {σ : SG} {m : Nat} (h : RLo σ m) : LO σ m := ⟨h.1, h.2.1, h.2.2.1, h.2.2.2.2⟩
theorem LO_c {σ σ' : SG} {m : Nat} (hp : ∀ p, p = 42 ∨ p = 47 ∨ p = 49 ∨ p = 51 ∨ p = 88 → σ' p = σ p) (h0 : σ' 76 18 = σ 76 18) (H : LO σ m) : LO σ' m := by
  unfold LO at H ⊢
  rw [h0, hp 42 (by decide), hp 47 (by decide), hp 49 (by decide), hp 51 (by decide), hp 88 (by decide)]
  exact H
def dC (σ : SG) (f l : Nat) : Nat := sq (ix (σ 47 l)) (ix (σ 7 f)) + sq (ix (σ 49 l)) (ix (σ 9 f)) + sq (ix (σ 51 l)) (ix (σ 11 f))
theorem dC_c {σ σ' : SG} (hp : ∀ p, p = 7 ∨ p = 9 ∨ p = 11 ∨ p = 47 ∨ p = 49 ∨ p = 51 → σ' p = σ p) (f : Nat) : dC σ' f = dC σ f := by
  unfold dC
  rw [hp 7 (by decide), hp 9 (by decide), hp 11 (by decide), hp 47 (by decide), hp 49 (by decide), hp 51 (by decide)]
theorem apartC {σ : SG} {m f l : Nat} (hF : RF σ) (hL : LO σ m) (hf : f < 8) (hl : l < 10) : F_Colours_apart σ (nI l) (nI f) = nI (dC σ f l) ∧ dC σ f l < 1000000 := by
  obtain ⟨⟨a, b, c, ha, hb, hc, e1, -, e2, -, e3, -⟩, -⟩ := hF.2.2 f hf
  obtain ⟨a', b', c', ha', hb', hc', g1, -, g2, -, g3, -⟩ := hL.2.2.2 l hl
  have hd : dC σ f l = sq a' a + sq b' b + sq c' c := by
    unfold dC
    rw [e1, e2, e3, g1, g2, g3, ix_nI (by omega), ix_nI (by omega), ix_nI (by omega), ix_nI (by omega), ix_nI (by omega), ix_nI (by omega)]
  refine ⟨?_, ?_⟩
  · unfold F_Colours_apart
    rw [rg_nI hl (by decide), rg_nI hl (by decide), rg_nI hl (by decide), rg_nI hf (by decide), rg_nI hf (by decide), rg_nI hf (by decide), e1, e2, e3, g1, g2, g3, sq_I, sq_I, sq_I, nI_add, nI_add, hd]
  · rw [hd]
    have := sq_le ha' ha
    have := sq_le hb' hb
    have := sq_le hc' hc
    omega
theorem apartR {σ : SG} {m f l : Nat} (hF : RF σ) (hL : LO σ m) (hf : f < 8) (hl : l < 10) : lpW (L_Ref_nearest_89_24 σ (nI f) (nI l)) FU (0, 0) = some (nI (dC σ f l)) := by
  obtain ⟨⟨a, b, c, ha, hb, hc, i1, e1, i2, e2, i3, e3⟩, -⟩ := hF.2.2 f hf
  obtain ⟨a', b', c', ha', hb', hc', j1, g1, j2, g2, j3, g3⟩ := hL.2.2.2 l hl
  have hd : dC σ f l = sq a' a + sq b' b + sq c' c := by
    unfold dC
    rw [i1, i2, i3, j1, j2, j3, ix_nI (by omega), ix_nI (by omega), ix_nI (by omega), ix_nI (by omega), ix_nI (by omega), ix_nI (by omega)]
  rw [hd]
  have hx : ∀ x, x < 3 → 3 * nI f + nI x = nI (3 * f + x) ∧ 3 * nI l + nI x = nI (3 * l + x) := fun x hx => by
    rw [l3, nI_mul, nI_mul, nI_add, nI_add]
    exact ⟨rfl, rfl⟩
  refine lpW_at (s := fun i => (match i with | 0 => nI 0 | 1 => nI (sq a' a) | 2 => nI (sq a' a + sq b' b) | _ => nI (sq a' a + sq b' b + sq c' c), nI i)) 3 rfl ?_ ?_ (by decide)
  · intro i hi
    unfold L_Ref_nearest_89_24
    dsimp only
    rw [if_neg (show ¬ (3 : Int32) ≤ nI i from nI_ge (b := 3) hi (by decide)), (hx i hi).1, (hx i hi).2, vin_nI (by omega) (by decide), vin_nI (by omega) (by decide), og_t, og_t, ix_nI (by omega), ix_nI (by omega), nI_1]
    obtain rfl | rfl | rfl : i = 0 ∨ i = 1 ∨ i = 2 := by omega
    · rw [Nat.add_zero, Nat.add_zero, e1, g1, sq_I, sq_c a a']
      show some (Sum.inl (nI 0 + nI _, nI 1)) = _
      rw [nI_add, Nat.zero_add]
      rfl
    · rw [e2, g2, sq_I, sq_c b b']
      show some (Sum.inl (nI _ + nI _, nI 2)) = _
      rw [nI_add]
      rfl
    · rw [e3, g3, sq_I, sq_c c c']
      show some (Sum.inl (nI _ + nI _, nI 3)) = _
      rw [nI_add]
      rfl
  · unfold L_Ref_nearest_89_24
    dsimp only
    rw [if_pos (show (3 : Int32) ≤ nI 3 from nI_le (Nat.le_refl 3) (by decide))]
    rfl
def oI : Option Nat → Int32
  | none => -1
  | some b => nI b
def oD (e : Int32) (d : Nat → Nat) : Option Nat → Int32
  | none => e
  | some b => nI (d b)
/-- the first of the nearest of the first k -/
def nst (st : Nat → Int32) (d : Nat → Nat) (need : Int32) : Nat → Option Nat
  | 0 => none
  | k + 1 => if st k < need then nst st d need k else match nst st d need k with
    | none => some k
    | some b => if d b ≤ d k then some b else some k
theorem nst_lt {st : Nat → Int32} {d : Nat → Nat} {need : Int32} : ∀ {k b : Nat}, nst st d need k = some b → b < k
  | 0, _, h => by cases h
  | k + 1, b, h => by
    rw [nst] at h
    by_cases hs : st k < need
    · rw [if_pos hs] at h
      exact Nat.lt_succ_of_lt (nst_lt h)
    · rw [if_neg hs] at h
      cases hq : nst st d need k with
      | none =>
        rw [hq] at h
        cases h
        exact Nat.lt_succ_self _
      | some c =>
        rw [hq] at h
        dsimp only at h
        by_cases hc : d c ≤ d k
        · rw [if_pos hc] at h
          cases h
          exact Nat.lt_succ_of_lt (nst_lt hq)
        · rw [if_neg hc] at h
          cases h
          exact Nat.lt_succ_self _
theorem nearC {σ : SG} {m f : Nat} (hF : RF σ) (hL : LO σ m) (hf : f < 8) (need : Int32) : F_Lots_nearest σ (nI f) need = some (oI (nst (σ 44) (dC σ f) need m)) := by
  obtain ⟨h1, h2, h3, -⟩ := id hL
  have hl : lpW (L_Lots_nearest_10 σ (nI f) need) FU ((-1), 1000000, 0) = some (oI (nst (σ 44) (dC σ f) need m)) := by
    refine lpW_at (s := fun k => (oI (nst (σ 44) (dC σ f) need k), oD 1000000 (dC σ f) (nst (σ 44) (dC σ f) need k), nI k)) m rfl ?_ ?_ (by omega)
    · intro k hk
      obtain ⟨ha, hd⟩ := apartC (l := k) hF hL hf (by omega)
      have hg : rg σ 44 10 (nI k) = σ 44 k := rg_nI (by omega) (by decide)
      unfold L_Lots_nearest_10
      dsimp only
      rw [if_neg (show ¬ σ 42 0 ≤ nI k by rw [h1]; exact nI_ge hk (by omega)), nI_1, nst]
      by_cases hs : σ 44 k < need
      · rw [if_pos (show rg σ 44 10 (nI k) < need by rw [hg]; exact hs), if_pos hs]
      · rw [if_neg (show ¬ rg σ 44 10 (nI k) < need by rw [hg]; exact hs), if_neg hs]
        cases hq : nst (σ 44) (dC σ f) need k with
        | none =>
          rw [if_neg (show ¬ oD 1000000 (dC σ f) none ≤ F_Colours_apart σ (nI k) (nI f) by rw [ha]; exact nI_ge (b := 1000000) hd (by decide)), ha]
          rfl
        | some b =>
          dsimp only
          have hb := nst_lt hq
          have hdb := (apartC (l := b) hF hL hf (by omega)).2
          by_cases hc : dC σ f b ≤ dC σ f k
          · rw [if_pos (show oD 1000000 (dC σ f) (some b) ≤ F_Colours_apart σ (nI k) (nI f) by rw [ha]; exact nI_le hc (by omega)), if_pos hc]
          · rw [if_neg (show ¬ oD 1000000 (dC σ f) (some b) ≤ F_Colours_apart σ (nI k) (nI f) by rw [ha]; exact nI_ge (by omega) (by omega)), if_neg hc, ha]
            rfl
    · unfold L_Lots_nearest_10
      dsimp only
      rw [if_pos (show σ 42 0 ≤ nI m by rw [h1]; exact nI_le (Nat.le_refl m) (by omega))]
  unfold F_Lots_nearest
  rw [ob_of hl]
theorem nearR89 {σ : SG} {m f : Nat} (hF : RF σ) (hL : LO σ m) (hf : f < 8) (need : Int32) : F_Ref_nearest_89 σ (nI f) need = some (oI (nst (σ 89) (dC σ f) need m)) := by
  obtain ⟨h1, h2, h3, -⟩ := id hL
  have hl : lpW (L_Ref_nearest_89_9 σ (nI f) need) FU ((-1), 0, 0) = some (oI (nst (σ 89) (dC σ f) need m)) := by
    refine lpW_at (s := fun k => (oI (nst (σ 89) (dC σ f) need k), oD 0 (dC σ f) (nst (σ 89) (dC σ f) need k), nI k)) m rfl ?_ ?_ (by omega)
    · intro k hk
      have ha := (apartC (l := k) hF hL hf (by omega)).2
      have hr : lpW (L_Ref_nearest_89_24 σ (nI f) (nI k)) FU (0, 0) = some (nI (dC σ f k)) := apartR (l := k) hF hL hf (by omega)
      have hii : ix (nI k) = k := ix_nI (by omega)
      unfold L_Ref_nearest_89_9
      dsimp only
      rw [if_neg (show ¬ σ 76 18 ≤ nI k by rw [h2]; exact nI_ge hk (by omega)), ob_of hr, vin_nI (show k < 10 by omega) (by decide), og_t, nI_1, nst]
      by_cases hs : σ 89 k < need
      · rw [if_pos (show σ 89 (ix (nI k)) < need by rw [hii]; exact hs), if_pos hs]
      · rw [if_neg (show ¬ σ 89 (ix (nI k)) < need by rw [hii]; exact hs), if_neg hs]
        cases hq : nst (σ 89) (dC σ f) need k with
        | none => rfl
        | some b =>
          dsimp only
          have hb := nst_lt hq
          have hdb := (apartC (l := b) hF hL hf (by omega)).2
          rw [if_neg (show ¬ oI (some b) = -1 from nm1_ne (by omega))]
          by_cases hc : dC σ f b ≤ dC σ f k
          · rw [if_pos (show oD 0 (dC σ f) (some b) ≤ nI (dC σ f k) from nI_le hc (by omega)), if_pos hc]
          · rw [if_neg (show ¬ oD 0 (dC σ f) (some b) ≤ nI (dC σ f k) from nI_ge (by omega) (by omega)), if_neg hc]
            rfl
    · unfold L_Ref_nearest_89_9
      dsimp only
      rw [if_pos (show σ 76 18 ≤ nI m by rw [h2]; exact nI_le (Nat.le_refl m) (by omega))]
  unfold F_Ref_nearest_89
  rw [ob_of hl]
theorem nearR96 {σ : SG} {m f : Nat} (hF : RF σ) (hL : LO σ m) (hf : f < 8) (need : Int32) : F_Ref_nearest_96 σ (nI f) need = some (oI (nst (σ 96) (dC σ f) need m)) := by
  obtain ⟨h1, h2, h3, -⟩ := id hL
  have hl : lpW (L_Ref_nearest_96_9 σ (nI f) need) FU ((-1), 0, 0) = some (oI (nst (σ 96) (dC σ f) need m)) := by
    refine lpW_at (s := fun k => (oI (nst (σ 96) (dC σ f) need k), oD 0 (dC σ f) (nst (σ 96) (dC σ f) need k), nI k)) m rfl ?_ ?_ (by omega)
    · intro k hk
      have ha := (apartC (l := k) hF hL hf (by omega)).2
      have hr : lpW (L_Ref_nearest_96_24 σ (nI f) (nI k)) FU (0, 0) = some (nI (dC σ f k)) := apartR (l := k) hF hL hf (by omega)
      have hii : ix (nI k) = k := ix_nI (by omega)
      unfold L_Ref_nearest_96_9
      dsimp only
      rw [if_neg (show ¬ σ 76 18 ≤ nI k by rw [h2]; exact nI_ge hk (by omega)), ob_of hr, vin_nI (show k < 10 by omega) (by decide), og_t, nI_1, nst]
      by_cases hs : σ 96 k < need
      · rw [if_pos (show σ 96 (ix (nI k)) < need by rw [hii]; exact hs), if_pos hs]
      · rw [if_neg (show ¬ σ 96 (ix (nI k)) < need by rw [hii]; exact hs), if_neg hs]
        cases hq : nst (σ 96) (dC σ f) need k with
        | none => rfl
        | some b =>
          dsimp only
          have hb := nst_lt hq
          have hdb := (apartC (l := b) hF hL hf (by omega)).2
          rw [if_neg (show ¬ oI (some b) = -1 from nm1_ne (by omega))]
          by_cases hc : dC σ f b ≤ dC σ f k
          · rw [if_pos (show oD 0 (dC σ f) (some b) ≤ nI (dC σ f k) from nI_le hc (by omega)), if_pos hc]
          · rw [if_neg (show ¬ oD 0 (dC σ f) (some b) ≤ nI (dC σ f k) from nI_ge (by omega) (by omega)), if_neg hc]
            rfl
    · unfold L_Ref_nearest_96_9
      dsimp only
      rw [if_pos (show σ 76 18 ≤ nI m by rw [h2]; exact nI_le (Nat.le_refl m) (by omega))]
  unfold F_Ref_nearest_96
  rw [ob_of hl]
