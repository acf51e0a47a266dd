/-! lay: the widest of the fewest; a cube is put -/
theorem widC {σ : SG} {ja : Nat → Bool} {V : Nat → Option Nat} {to x L v : Nat} {B C : Nat → Int32} (hto : to ≤ 24) (hL : L ≤ 3) (hx : x < to) (hj : ∀ k, k < 25 → σ 37 k = bI (ja k)) (hfr : FR (σ 41) B C V ja L to x) (hv : V x = some v) : ∃ t u, 1 ≤ t ∧ t ≤ 3 ∧ x + t ≤ to ∧ C x = nI t ∧ V (x + t) = some u ∧ F_Layer_widestOfFewest σ (nI x) (nI to) (nI L) = some (nI t) := by
  obtain ⟨f1, f2, f3, f4⟩ := hfr.2 x (Nat.le_refl x) (by omega)
  obtain ⟨f5, f6⟩ := f4 hx
  have hv24 := f3 v hv
  rcases bs_spec (cand V ja to x) L L (Nat.le_refl L) with ⟨e, -⟩ | ⟨v', t, e, t1, t2, t3, t4⟩
  · rw [e, hv] at f5; cases f5
  · rw [e, hv] at f5
    cases f5
    rw [e] at f6
    have hcond : x + t ≤ to ∧ (x + t = to ∨ ja (x + t) = false) := by
      by_cases hc : x + t ≤ to ∧ (x + t = to ∨ ja (x + t) = false)
      · exact hc
      · unfold cand at t3; rw [if_neg hc] at t3; cases t3
    have h41x : rg σ 41 25 (nI x) = nI v := by rw [rg_nI (by omega) (by decide), f1, hv]; rfl
    unfold cand at t3
    rw [if_pos hcond, Option.map_eq_some_iff] at t3
    obtain ⟨u, hu, huv⟩ := t3
    subst huv
    refine ⟨t, u, by omega, by omega, hcond.1, f6, hu, ?_⟩
    have hsmall : ∀ s, 1 ≤ s → s ≤ L → mayE ja to (x + s) → (rg σ 41 25 (nI x + nI s) = rg σ 41 25 (nI x) - 1 ↔ cand V ja to x s = some (u + 1)) := by
      intro s hs1 hs2 hm
      rw [h41x, nI_pred, nI_add, rg_nI (by have := hm.1; omega) (by decide), (hfr.2 (x + s) (by omega) hm.1).1, show cand V ja to x s = (V (x + s)).map (· + 1) from if_pos hm]
      cases hV : V (x + s) with
      | none =>
        exact ⟨fun h => absurd h (by show ¬ nI 1000000 = nI u; rw [nI_eq (by decide) (by omega)]; omega), fun h => by cases h⟩
      | some c =>
        have := (hfr.2 (x + s) (by omega) hm.1).2.2.1 c hV
        show nI c = nI u ↔ some (c + 1) = some (u + 1)
        rw [nI_eq (by omega) (by omega), Option.some.injEq]
        omega
    by_cases ht1 : t = 1
    · have hl : lpW (L_Layer_widestOfFewest_3 σ (nI x) (nI to)) FU (nI L) = some (.inl ()) := by
        refine lpW_at (s := fun j => nI (L - j)) (L - 1) rfl ?_ ?_ (by omega)
        · intro j hj2
          obtain ⟨s, hs⟩ : ∃ s, s = L - j := ⟨_, rfl⟩
          rw [← hs, show L - (j + 1) = s - 1 by omega]
          unfold L_Layer_widestOfFewest_3
          rw [if_neg (show ¬ nI s ≤ 1 from nI_ge (a := 1) (by omega) (by omega)), ← Int32.sub_eq_add_neg, nI_sub1 (by omega)]
          by_cases hm : mayE ja to (x + s)
          · rw [if_pos (by rw [nI_add]; exact (mayC hto (by omega) hj).mpr hm), if_neg]
            rw [hsmall s (by omega) (by omega) hm]
            intro h
            have := (t4 s (u + 1) (by omega) (by omega) h).2 (by omega)
            omega
          · rw [if_neg (by rw [nI_add]; exact fun h => hm ((mayC hto (by omega) hj).mp h))]
        · rw [show L - (L - 1) = 1 by omega]
          unfold L_Layer_widestOfFewest_3
          rw [if_pos (by decide)]
      unfold F_Layer_widestOfFewest
      rw [ob_of hl, ht1]
      rfl
    · have hl : lpW (L_Layer_widestOfFewest_3 σ (nI x) (nI to)) FU (nI L) = some (.inr (nI t)) := by
        refine lpW_at (s := fun j => nI (L - j)) (L - t) rfl ?_ ?_ (by omega)
        · intro j hj2
          obtain ⟨s, hs⟩ : ∃ s, s = L - j := ⟨_, rfl⟩
          rw [← hs, show L - (j + 1) = s - 1 by omega]
          unfold L_Layer_widestOfFewest_3
          rw [if_neg (show ¬ nI s ≤ 1 from nI_ge (a := 1) (by omega) (by omega)), ← Int32.sub_eq_add_neg, nI_sub1 (by omega)]
          by_cases hm : mayE ja to (x + s)
          · rw [if_pos (by rw [nI_add]; exact (mayC hto (by omega) hj).mpr hm), if_neg]
            rw [hsmall s (by omega) (by omega) hm]
            intro h
            have := (t4 s (u + 1) (by omega) (by omega) h).2 (by omega)
            omega
          · rw [if_neg (by rw [nI_add]; exact fun h => hm ((mayC hto (by omega) hj).mp h))]
        · rw [show L - (L - t) = t by omega]
          unfold L_Layer_widestOfFewest_3
          rw [if_neg (show ¬ nI t ≤ 1 from nI_ge (a := 1) (by omega) (by omega)), if_pos (by rw [nI_add]; exact (mayC hto (by omega) hj).mpr hcond), if_pos]
          rw [hsmall t (by omega) (by omega) hcond]
          unfold cand
          rw [if_pos hcond, hu]
          rfl
      unfold F_Layer_widestOfFewest
      rw [ob_of hl]
      rfl
abbrev nC (p : Nat) : Prop := p ≠ 18 ∧ p ≠ 20 ∧ p ≠ 22 ∧ p ≠ 24 ∧ p ≠ 26 ∧ p ≠ 28 ∧ p ≠ 30 ∧ p ≠ 32 ∧ p ≠ 34
abbrev nR (p : Nat) : Prop := p ≠ 76 ∧ p ≠ 82 ∧ p ≠ 83 ∧ p ≠ 84 ∧ p ≠ 85 ∧ p ≠ 86 ∧ p ≠ 87
theorem up_ne (σ : SG) {q p : Nat} (k : Nat) (v : Int32) (h : p ≠ q) : up σ q k v p = σ p := if_neg h
theorem putC {σ : SG} {n y x s : Nat} {fl : Int32} (hn : σ 18 0 = nI n) (hn2 : n < 240) (hp : 24 * y + x + s ≤ 240) : ∃ σ', F_Cubes_put σ (nI y) (nI x) (nI s) fl = some σ' ∧ σ' 18 0 = nI (n + 1) ∧ σ' 20 = upd (σ 20) n (nI y) ∧ σ' 22 = upd (σ 22) n (nI x) ∧ σ' 24 = upd (σ 24) n (nI s) ∧ σ' 26 = upd (σ 26) n fl ∧ σ' 28 = upd (σ 28) n (-1) ∧ σ' 30 = upd (σ 30) n (-1) ∧ σ' 32 = upd (σ 32) n (-1) ∧ σ' 34 = (fun k => if 24 * y + x ≤ k ∧ k < 24 * y + x + s then nI n else σ 34 k) ∧ ∀ p, nC p → σ' p = σ p := by
  have step : ∀ (τ : SG) (p : Nat) (v : Int32), τ 18 0 = nI n → rs τ p 240 (τ 18 0) v = up τ p n v := fun τ p v h => by rw [h, rs_nI hn2 (by decide)]
  have keep : ∀ (τ : SG) (p : Nat) (v : Int32), τ 18 0 = nI n → p ≠ 18 → (up τ p n v) 18 0 = nI n := fun τ p v h hp => by rw [up_ne _ _ _ (Ne.symm hp)]; exact h
  have k1 := keep σ 20 (nI y) hn (by decide)
  have k2 := keep _ 22 (nI x) k1 (by decide)
  have k3 := keep _ 24 (nI s) k2 (by decide)
  have k4 := keep _ 26 fl k3 (by decide)
  have k5 := keep _ 28 (-1) k4 (by decide)
  have k6 := keep _ 30 (-1) k5 (by decide)
  have k7 := keep _ 32 (-1) k6 (by decide)
  unfold F_Cubes_put nm
  rw [step σ 20 (nI y) hn, step _ 22 (nI x) k1]
  try dsimp only
  rw [step _ 24 (nI s) k2, step _ 26 fl k3]
  try dsimp only
  rw [step _ 28 (-1) k4, step _ 30 (-1) k5]
  try dsimp only
  rw [step _ 32 (-1) k6]
  generalize hτ : up (up (up (up (up (up (up σ 20 n (nI y)) 22 n (nI x)) 24 n (nI s)) 26 n fl) 28 n (-1)) 30 n (-1)) 32 n (-1) = τ
  rw [hτ] at k7
  have hl : lpW (L_Cubes_put_88 (nI y) (nI x) (nI s)) FU (nI x, τ) = some (sR τ 34 (fun k => if 24 * y + x ≤ k ∧ k < 24 * y + x + s then nI n else τ 34 k)) := by
    refine lpW_at (s := fun j => (nI (x + j), sR τ 34 (fun k => if 24 * y + x ≤ k ∧ k < 24 * y + x + j then nI n else τ 34 k))) s ?_ ?_ ?_ (by omega)
    · rw [show (fun k => if 24 * y + x ≤ k ∧ k < 24 * y + x + 0 then nI n else τ 34 k) = τ 34 from funext fun k => if_neg (by omega), sR_self]
      rfl
    · intro j hj
      unfold L_Cubes_put_88 nm
      dsimp only
      rw [nI_add, if_neg (nI_ge (by omega) (by omega)), pl_nI, nI_1, rs_nI (show 24 * y + (x + j) < 240 by omega) (by decide), up_sR, sR_at, sR_sR, show (sR τ 34 (fun k => if 24 * y + x ≤ k ∧ k < 24 * y + x + j then nI n else τ 34 k)) 18 0 = nI n from k7]
      congr 3
      refine congrArg (sR τ 34) (funext fun k => ?_)
      unfold upd
      by_cases h1 : k = 24 * y + (x + j)
      · rw [if_pos h1, if_pos (by omega)]
      · rw [if_neg h1]
        dsimp only
        by_cases h2 : 24 * y + x ≤ k ∧ k < 24 * y + x + j
        · rw [if_pos h2, if_pos (by omega)]
        · rw [if_neg h2, if_neg (by omega)]
    · unfold L_Cubes_put_88
      dsimp only
      rw [nI_add, if_pos (nI_le (Nat.le_refl _) (by omega))]
  rw [ob_of hl]
  refine ⟨_, rfl, ?_, ?_, ?_, ?_, ?_, ?_, ?_, ?_, ?_, ?_⟩
  · show (sR τ 34 _) 18 0 + 1 = _
    rw [show ∀ g, (sR τ 34 g) 18 0 = nI n from fun _ => k7, nI_1]
  · rw [← hτ]; rfl
  · rw [← hτ]; rfl
  · rw [← hτ]; rfl
  · rw [← hτ]; rfl
  · rw [← hτ]; rfl
  · rw [← hτ]; rfl
  · rw [← hτ]; rfl
  · rw [← hτ]; rfl
  · rintro p ⟨h1, h2, h3, h4, h5, h6, h7, h8, h9⟩
    rw [up_ne _ _ _ h1, sR_ne _ _ h9, ← hτ, up_ne _ _ _ h8, up_ne _ _ _ h7, up_ne _ _ _ h6, up_ne _ _ _ h5, up_ne _ _ _ h4, up_ne _ _ _ h3, up_ne _ _ _ h2]
theorem putR {τ : SG} {n y x t to : Nat} {fl : Int32} (hn : τ 76 10 = nI n) (hn2 : n < 240) (hx : x < to) (hto : to ≤ 24) (hxt : x + t ≤ to) (hpl : 24 * y + x < 240) (h95 : τ 95 x = nI t) (h77 : τ 77 (24 * y + x) = fl) : ∃ τ', L_Ref_strip_163 (nI y) (nI to) (nI x, τ) = some (.inl (nI (x + t), if to ≤ x + t then τ' else up τ' 93 (x + t) 1)) ∧ τ' 76 = upd (τ 76) 10 (nI (n + 1)) ∧ τ' 82 = upd (τ 82) n (nI y) ∧ τ' 83 = upd (τ 83) n (nI x) ∧ τ' 84 = upd (τ 84) n (nI t) ∧ τ' 85 = upd (τ 85) n fl ∧ τ' 86 = upd (τ 86) n (-1) ∧ τ' 87 = upd (τ 87) n (-1) ∧ ∀ p, nR p → τ' p = τ p := by
  have hnn : ix (nI n) = n := ix_nI (by omega)
  have hxx : ix (nI x) = x := ix_nI (by omega)
  have hpp : ix (nI (24 * y + x)) = 24 * y + x := ix_nI (by omega)
  refine ⟨up (up (up (up (up (up (up τ 82 n (nI y)) 83 n (nI x)) 84 n (nI t)) 85 n fl) 86 n (-1)) 87 n (-1)) 76 10 (nI (n + 1)), ?_, rfl, rfl, rfl, rfl, rfl, rfl, rfl, ?_⟩
  · unfold L_Ref_strip_163 nm
    dsimp only
    rw [if_neg (nI_ge hx (by omega)), pl_nI']
    simp (disch := decide) only [up_ne, hn, hnn, hxx, hpp, h95, h77, vin_nI hn2 (by decide), vin_nI (show x < 25 by omega) (show 25 < 2 ^ 31 by decide), vin_nI hpl (by decide), og_t, nI_add, nI_1]
    by_cases h1 : to ≤ x + t
    · rw [if_pos (nI_le h1 (by omega)), if_pos h1]
    · rw [if_neg (nI_ge (by omega) (by omega)), if_neg h1, vin_nI (show x + t < 25 by omega) (by decide), og_t, ix_nI (show x + t < 2 ^ 31 by omega)]
  · rintro p ⟨h1, h2, h3, h4, h5, h6, h7⟩
    rw [up_ne _ _ _ h1, up_ne _ _ _ h7, up_ne _ _ _ h6, up_ne _ _ _ h5, up_ne _ _ _ h4, up_ne _ _ _ h3, up_ne _ _ _ h2]
