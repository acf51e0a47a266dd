/-! the fewest cubes -/
def mn (c : Nat → Option Nat) : Nat → Option Nat
  | 0 => none
  | j + 1 => match c (j + 1) with
    | none => mn c j
    | some u => match mn c j with
      | none => some u
      | some v => if v ≤ u then some v else some u
/-- from the widest on: the least, and the first width that gives it -/
def bs (c : Nat → Option Nat) (L : Nat) : Nat → Option Nat × Nat
  | 0 => (none, 0)
  | j + 1 => match c (L - j) with
    | none => bs c L j
    | some u => match (bs c L j).1 with
      | none => (some u, L - j)
      | some v => if v ≤ u then bs c L j else (some u, L - j)
theorem mn_spec (c : Nat → Option Nat) : ∀ j, (mn c j = none ∧ ∀ s, 1 ≤ s → s ≤ j → c s = none) ∨ ∃ v, mn c j = some v ∧ (∃ s, 1 ≤ s ∧ s ≤ j ∧ c s = some v) ∧ ∀ s u, 1 ≤ s → s ≤ j → c s = some u → v ≤ u := by
  intro j
  induction j with
  | zero => exact Or.inl ⟨rfl, fun s h1 h2 => by omega⟩
  | succ j ih =>
    rw [mn]
    cases hc : c (j + 1) with
    | none =>
      dsimp only
      rcases ih with ⟨i1, i2⟩ | ⟨v, i1, ⟨s, a, b, e⟩, i3⟩
      · refine Or.inl ⟨i1, fun s h1 h2 => ?_⟩
        by_cases h : s = j + 1
        · rw [h, hc]
        · exact i2 s h1 (by omega)
      · refine Or.inr ⟨v, i1, ⟨s, a, by omega, e⟩, fun t u h1 h2 h3 => ?_⟩
        by_cases h : t = j + 1
        · rw [h, hc] at h3; cases h3
        · exact i3 t u h1 (by omega) h3
    | some u =>
      dsimp only
      rcases ih with ⟨i1, i2⟩ | ⟨v, i1, ⟨s, a, b, e⟩, i3⟩
      · rw [i1]
        refine Or.inr ⟨u, rfl, ⟨j + 1, by omega, by omega, hc⟩, fun t u' h1 h2 h3 => ?_⟩
        by_cases h : t = j + 1
        · rw [h, hc] at h3; cases h3; omega
        · rw [i2 t h1 (by omega)] at h3; cases h3
      · rw [i1]
        dsimp only
        by_cases hle : v ≤ u
        · rw [if_pos hle]
          refine Or.inr ⟨v, rfl, ⟨s, a, by omega, e⟩, fun t u' h1 h2 h3 => ?_⟩
          by_cases h : t = j + 1
          · rw [h, hc] at h3; cases h3; omega
          · exact i3 t u' h1 (by omega) h3
        · rw [if_neg hle]
          refine Or.inr ⟨u, rfl, ⟨j + 1, by omega, by omega, hc⟩, fun t u' h1 h2 h3 => ?_⟩
          by_cases h : t = j + 1
          · rw [h, hc] at h3; cases h3; omega
          · have := i3 t u' h1 (by omega) h3
            omega
theorem bs_spec (c : Nat → Option Nat) (L : Nat) : ∀ j, j ≤ L → (bs c L j = (none, 0) ∧ ∀ s, L - j < s → s ≤ L → c s = none) ∨ ∃ v t, bs c L j = (some v, t) ∧ L - j < t ∧ t ≤ L ∧ c t = some v ∧ ∀ s u, L - j < s → s ≤ L → c s = some u → v ≤ u ∧ (t < s → v < u) := by
  intro j
  induction j with
  | zero => intro _; exact Or.inl ⟨rfl, fun s h1 h2 => by omega⟩
  | succ j ih =>
    intro hj
    rw [bs]
    cases hc : c (L - j) with
    | none =>
      dsimp only
      rcases ih (by omega) with ⟨i1, i2⟩ | ⟨v, t, i1, a, b, e, i3⟩
      · refine Or.inl ⟨i1, fun s h1 h2 => ?_⟩
        by_cases h : s = L - j
        · rw [h, hc]
        · exact i2 s (by omega) h2
      · refine Or.inr ⟨v, t, i1, by omega, b, e, fun s u h1 h2 h3 => ?_⟩
        by_cases h : s = L - j
        · rw [h, hc] at h3; cases h3
        · exact i3 s u (by omega) h2 h3
    | some u =>
      dsimp only
      rcases ih (by omega) with ⟨i1, i2⟩ | ⟨v, t, i1, a, b, e, i3⟩
      · rw [i1]
        refine Or.inr ⟨u, L - j, rfl, by omega, by omega, hc, fun s u' h1 h2 h3 => ?_⟩
        by_cases h : s = L - j
        · rw [h, hc] at h3; cases h3; omega
        · rw [i2 s (by omega) h2] at h3; cases h3
      · rw [i1]
        dsimp only
        by_cases hle : v ≤ u
        · rw [if_pos hle]
          refine Or.inr ⟨v, t, rfl, by omega, b, e, fun s u' h1 h2 h3 => ?_⟩
          by_cases h : s = L - j
          · rw [h, hc] at h3; cases h3; omega
          · exact i3 s u' (by omega) h2 h3
        · rw [if_neg hle]
          refine Or.inr ⟨u, L - j, rfl, by omega, by omega, hc, fun s u' h1 h2 h3 => ?_⟩
          by_cases h : s = L - j
          · rw [h, hc] at h3; cases h3; omega
          · have := i3 s u' (by omega) h2 h3
            omega
theorem bs_mn (c : Nat → Option Nat) (L : Nat) : (bs c L L).1 = mn c L := by
  rcases bs_spec c L L (Nat.le_refl L) with ⟨h1, h2⟩ | ⟨v, t, h1, a, b, e, h2⟩
  · rw [h1]
    rcases mn_spec c L with ⟨g1, -⟩ | ⟨u, g1, ⟨s, x, y, e⟩, -⟩
    · exact g1.symm
    · rw [h2 s (by omega) y] at e; cases e
  · rw [h1]
    rcases mn_spec c L with ⟨g1, g2⟩ | ⟨u, g1, ⟨s, x, y, e'⟩, g3⟩
    · rw [g2 t (by omega) b] at e; cases e
    · have h3 := (h2 s u (by omega) y e').1
      have h4 := g3 t v (by omega) b e
      rw [g1, show v = u by omega]
theorem bs_cong {c c' : Nat → Option Nat} {L : Nat} (h : ∀ s, 1 ≤ s → s ≤ L → c s = c' s) : ∀ j, j ≤ L → bs c L j = bs c' L j
  | 0, _ => rfl
  | j + 1, hj => by
    rw [bs, bs, h (L - j) (by omega) (by omega), bs_cong h j (by omega)]
def encC : Option Nat → Int32
  | none => 1000000
  | some v => nI v
def encR : Option Nat → Int32
  | none => 999
  | some v => nI v
def cand (V : Nat → Option Nat) (ja : Nat → Bool) (to x s : Nat) : Option Nat := if x + s ≤ to ∧ (x + s = to ∨ ja (x + s) = false) then (V (x + s)).map (· + 1) else none
def mayE (ja : Nat → Bool) (to b : Nat) : Prop := b ≤ to ∧ (b = to ∨ ja b = false)
theorem mayC {σ : SG} {ja : Nat → Bool} {to b : Nat} (hto : to ≤ 24) (hb : b < 100) (hj : ∀ k, k < 25 → σ 37 k = bI (ja k)) : F_Layer_mayEnd σ (nI b) (nI to) = true ↔ mayE ja to b := by
  unfold F_Layer_mayEnd mayE
  by_cases h1 : b = to
  · rw [if_pos (by rw [h1])]
    exact ⟨fun _ => ⟨by omega, Or.inl h1⟩, fun _ => rfl⟩
  · rw [if_neg (show ¬ nI b = nI to by rw [nI_eq (by omega) (by omega)]; exact h1)]
    by_cases h2 : to ≤ b
    · rw [if_pos (nI_le h2 (by omega))]
      exact ⟨fun h => (by cases h), fun h => by omega⟩
    · rw [if_neg (nI_ge (by omega) (by omega)), rg_nI (by omega) (by decide), hj b (by omega)]
      cases hb : ja b with
      | true =>
        rw [if_neg (by decide)]
        exact ⟨fun h => (by cases h), fun h => by rcases h.2 with h | h; · omega
                                                  · cases h⟩
      | false =>
        rw [if_pos (show bI false = 0 from rfl)]
        exact ⟨fun _ => ⟨by omega, Or.inr rfl⟩, fun _ => rfl⟩
/-- the rows of the fewest from x on -/
def FR (A B C : Nat → Int32) (V : Nat → Option Nat) (ja : Nat → Bool) (L to x : Nat) : Prop := V to = some 0 ∧ ∀ k, x ≤ k → k ≤ to → A k = encC (V k) ∧ B k = encR (V k) ∧ (∀ v, V k = some v → v ≤ to - k) ∧ (k < to → V k = (bs (cand V ja to k) L L).1 ∧ C k = nI (bs (cand V ja to k) L L).2)
theorem cnC {σ : SG} {ja : Nat → Bool} {V : Nat → Option Nat} {to x L : Nat} {x0 : Int32} (hto : to ≤ 24) (hL : L ≤ 3) (hx : x < to) (hj : ∀ k, k < 25 → σ 37 k = bI (ja k)) (hV : ∀ k, x + 1 ≤ k → k ≤ to → σ 41 k = encC (V k) ∧ ∀ v, V k = some v → v ≤ to - k) : lpW (L_Layer_countFewest_27 (nI to) (nI L) (x0, σ) (nI x)) FU (1000000, 1) = some (encC (mn (cand V ja to x) L)) := by
  refine lpW_at (s := fun j => (encC (mn (cand V ja to x) j), nI (j + 1))) L rfl ?_ ?_ (by omega)
  · intro j hj2
    have hsp := mn_spec (cand V ja to x) j
    unfold L_Layer_countFewest_27
    dsimp only
    rw [if_neg (nI_nlt (by omega) (by omega)), nI_add, nI_1, mn]
    have hmay := mayC hto (show x + (j + 1) < 100 by omega) hj
    by_cases hm : mayE ja to (x + (j + 1))
    · rw [if_pos (hmay.mpr hm)]
      have hc : cand V ja to x (j + 1) = (V (x + (j + 1))).map (· + 1) := if_pos hm
      obtain ⟨v1, v2⟩ := hV (x + (j + 1)) (by omega) hm.1
      have hbound : ∀ v, mn (cand V ja to x) j = some v → v ≤ 24 := by
        intro v hv
        rcases hsp with ⟨e, -⟩ | ⟨v', e, ⟨s, s1, s2, s3⟩, -⟩
        · rw [hv] at e; cases e
        · rw [hv] at e; cases e
          unfold cand at s3
          by_cases hc : x + s ≤ to ∧ (x + s = to ∨ ja (x + s) = false)
          · rw [if_pos hc, Option.map_eq_some_iff] at s3
            obtain ⟨u, hu, rfl⟩ := s3
            have := (hV (x + s) (by omega) hc.1).2 u hu
            omega
          · rw [if_neg hc] at s3; cases s3
      rw [hc, rg_nI (by have := hm.1; omega) (by decide), v1]
      cases hV2 : V (x + (j + 1)) with
      | none =>
        dsimp only [Option.map]
        cases hm2 : mn (cand V ja to x) j with
        | none => rfl
        | some v =>
          have := hbound v hm2
          unfold mnI
          rw [if_neg (show ¬ encC none + 1 < encC (some v) from nI_nlt (a := 1000001) (by omega) (by decide))]
      | some u =>
        have := v2 u hV2
        dsimp only [Option.map]
        cases hm2 : mn (cand V ja to x) j with
        | none =>
          unfold mnI
          rw [if_pos (show encC (some u) + 1 < encC none by show nI u + 1 < nI 1000000; rw [nI_1]; exact nI_lt (by omega) (by omega))]
          show some (Sum.inl (nI u + 1, _)) = _
          rw [nI_1]
          rfl
        | some v =>
          have := hbound v hm2
          dsimp only
          unfold mnI
          by_cases hle : v ≤ u + 1
          · rw [if_neg (show ¬ encC (some u) + 1 < encC (some v) by show ¬ nI u + 1 < nI v; rw [nI_1]; exact nI_nlt hle (by omega)), if_pos hle]
          · rw [if_pos (show encC (some u) + 1 < encC (some v) by show nI u + 1 < nI v; rw [nI_1]; exact nI_lt (by omega) (by omega)), if_neg hle]
            show some (Sum.inl (nI u + 1, _)) = _
            rw [nI_1]
            rfl
    · rw [if_neg (fun h => hm (hmay.mp h))]
      have hc : cand V ja to x (j + 1) = none := if_neg hm
      rw [hc]
  · unfold L_Layer_countFewest_27
    dsimp only
    rw [if_pos (nI_lt (by omega) (by omega))]
theorem cnR {τ : SG} {ja : Nat → Bool} {V : Nat → Option Nat} {to x L : Nat} (hto : to ≤ 24) (hL : L ≤ 3) (hx : x < to) (hj : ∀ k, k < 25 → τ 92 k = bI (ja k)) (hV : ∀ k, x + 1 ≤ k → k ≤ to → τ 94 k = encR (V k) ∧ ∀ v, V k = some v → v ≤ to - k) : lpW (L_Ref_strip_56 (nI to) (nI x)) FU (nI L, up (up τ 94 x 999) 95 x 0) = some (w2 τ 94 95 (upd (τ 94) x (encR (bs (cand V ja to x) L L).1)) (upd (τ 95) x (nI (bs (cand V ja to x) L L).2))) := by
  refine lpW_at (s := fun j => (nI (L - j), w2 τ 94 95 (upd (τ 94) x (encR (bs (cand V ja to x) L j).1)) (upd (τ 95) x (nI (bs (cand V ja to x) L j).2)))) L ?_ ?_ ?_ (by omega)
  · rfl
  · intro j hj2
    have hsp := bs_spec (cand V ja to x) L j (by omega)
    obtain ⟨s, hs⟩ : ∃ s, s = L - j := ⟨_, rfl⟩
    have hs1 : 1 ≤ s := by omega
    have hbound : ∀ v, (bs (cand V ja to x) L j).1 = some v → v ≤ 24 := by
      intro v hv
      rcases hsp with ⟨e, -⟩ | ⟨v', t, e, t1, t2, t3, -⟩
      · rw [e] at hv; cases hv
      · rw [e] at hv; cases hv
        unfold cand at t3
        by_cases hc : x + t ≤ to ∧ (x + t = to ∨ ja (x + t) = false)
        · rw [if_pos hc, Option.map_eq_some_iff] at t3
          obtain ⟨u, hu, rfl⟩ := t3
          have := (hV (x + t) (by omega) hc.1).2 u hu
          omega
        · rw [if_neg hc] at t3; cases t3
    rw [bs, ← hs, show L - (j + 1) = s - 1 by omega]
    generalize bs (cand V ja to x) L j = P at hbound
    unfold L_Ref_strip_56 nm
    dsimp only
    rw [if_neg (show ¬ nI s ≤ 0 from nI_nle hs1 (by omega)), nI_add, ← Int32.sub_eq_add_neg, nI_sub1 hs1]
    generalize hτ : w2 τ 94 95 (upd (τ 94) x (encR P.1)) (upd (τ 95) x (nI P.2)) = σ
    have x94 : σ 94 x = encR P.1 := by rw [← hτ, w2_p _ _ _ (by decide), upd_at]
    have y94 : ∀ k, k ≠ x → σ 94 k = τ 94 k := fun k hk => by rw [← hτ, w2_p _ _ _ (by decide), upd_ne _ _ hk]
    have e92 : σ 92 = τ 92 := by rw [← hτ]; rfl
    have hxx : ix (nI x) = x := ix_nI (by omega)
    have hset : ∀ u, up (up σ 94 x (nI (u + 1))) 95 x (nI s) = w2 τ 94 95 (upd (τ 94) x (encR (some (u + 1)))) (upd (τ 95) x (nI s)) := by
      intro u
      rw [← hτ, up_w2p _ _ _ (by decide), up_w2q]
      congr 1
      · funext k; unfold upd; by_cases h : k = x
        · rw [if_pos h, if_pos h]; rfl
        · rw [if_neg h, if_neg h, if_neg h]
      · funext k; unfold upd; by_cases h : k = x
        · rw [if_pos h, if_pos h]
        · rw [if_neg h, if_neg h, if_neg h]
    by_cases h1 : to < x + s
    · have hc : cand V ja to x s = none := if_neg (fun h => by omega)
      rw [if_pos (nI_lt h1 (by omega)), hc]
      dsimp only
      rw [hτ]
    rw [if_neg (nI_nlt (by omega) (by omega))]
    have hvs : vin (nI (x + s)) 25 = true := vin_nI (by omega) (by decide)
    have hvx : vin (nI x) 25 = true := vin_nI (by omega) (by decide)
    have hss : ix (nI (x + s)) = x + s := ix_nI (by omega)
    obtain ⟨v1, v2⟩ := hV (x + s) (by omega) (by omega)
    have key : mayE ja to (x + s) → (if σ 94 x ≤ σ 94 (x + s) + 1 then some (Sum.inl (nI (s - 1), σ)) else some (Sum.inl (nI (s - 1), up (up σ 94 x (σ 94 (x + s) + 1)) 95 x (nI s)))) = (some (Sum.inl (nI (s - 1), w2 τ 94 95 (upd (τ 94) x (encR (match cand V ja to x s with
            | none => P
            | some u => match P.1 with
              | none => (some u, s)
              | some v => if v ≤ u then P else (some u, s)).1)) (upd (τ 95) x (nI (match cand V ja to x s with
            | none => P
            | some u => match P.1 with
              | none => (some u, s)
              | some v => if v ≤ u then P else (some u, s)).2)))) : Option ((Int32 × SG) ⊕ SG)) := by
      intro hm
      have hc : cand V ja to x s = (V (x + s)).map (· + 1) := if_pos hm
      rw [hc]
      have y1 : σ 94 (x + s) = encR (V (x + s)) := by rw [y94 _ (by omega), v1]
      cases hV2 : V (x + s) with
      | none =>
        dsimp only [Option.map]
        rw [if_pos ?_, hτ]
        rw [x94, y1, hV2]
        cases hP : P.1 with
        | none => decide
        | some v =>
          have := hbound v hP
          show nI v ≤ nI 1000
          exact nI_le (by omega) (by decide)
      | some u =>
        have hu := v2 u hV2
        have y2 : σ 94 (x + s) + 1 = nI (u + 1) := by rw [y1, hV2]; show nI u + 1 = _; rw [nI_1]
        rw [y2]
        dsimp only [Option.map]
        cases hP : P.1 with
        | none =>
          dsimp only
          rw [if_neg ?_, hset]
          rw [x94, hP]
          exact nI_ge (b := 999) (by omega) (by decide)
        | some v =>
          have := hbound v hP
          dsimp only
          by_cases hle : v ≤ u + 1
          · rw [if_pos (show σ 94 x ≤ nI (u + 1) by rw [x94, hP]; exact nI_le hle (by omega)), if_pos hle, hτ]
          · rw [if_neg (show ¬ σ 94 x ≤ nI (u + 1) by rw [x94, hP]; exact nI_ge (by omega) (by omega)), if_neg hle, hset]
    by_cases h2 : x + s = to
    · rw [if_pos (by rw [h2]), hvs, hvx]
      simp only [og_t]
      rw [hss, hxx]
      exact key ⟨by omega, Or.inl h2⟩
    · rw [if_neg (show ¬ nI (x + s) = nI to by rw [nI_eq (by omega) (by omega)]; exact h2), hvs, hvx]
      simp only [og_t]
      rw [hss, hxx]
      cases hjb : ja (x + s) with
      | false =>
        rw [if_pos (show σ 92 (x + s) = 0 by rw [e92, hj _ (by omega), hjb]; rfl)]
        exact key ⟨by omega, Or.inr hjb⟩
      | true =>
        have hc : cand V ja to x s = none := if_neg (fun h => by rcases h.2 with h | h; · omega
                                                                 · rw [hjb] at h; cases h)
        rw [if_neg (show ¬ σ 92 (x + s) = 0 by rw [e92, hj _ (by omega), hjb]; decide), hc]
        dsimp only
        rw [hτ]
  · unfold L_Ref_strip_56
    dsimp only
    rw [Nat.sub_self, if_pos (by decide)]
def updO (V : Nat → Option Nat) (x : Nat) (v : Option Nat) : Nat → Option Nat := fun k => if k = x then v else V k
theorem cand_updO {V : Nat → Option Nat} {ja : Nat → Bool} {to x k s : Nat} {v : Option Nat} (hs : 1 ≤ s) (hk : x ≤ k) : cand (updO V x v) ja to k s = cand V ja to k s := by
  unfold cand updO
  rw [if_neg (show ¬ k + s = x by omega)]
theorem m1_lt {x f : Nat} (hx : x < 1000) (hf : f < 1000) : nI x - 1 < nI f ↔ x ≤ f := by
  rw [lt_T, l1, pk_sub_toInt (by omega) (by decide), nI_toInt (by omega)]
  omega
theorem FR_step {A B C : Nat → Int32} {V : Nat → Option Nat} {ja : Nat → Bool} {L to x : Nat} (hx : x < to) (hL : L ≤ 3) (h : FR A B C V ja L to (x + 1)) : FR (upd A x (encC (mn (cand V ja to x) L))) (upd B x (encR (bs (cand V ja to x) L L).1)) (upd C x (nI (bs (cand V ja to x) L L).2)) (updO V x (mn (cand V ja to x) L)) ja L to x := by
  obtain ⟨h0, hk⟩ := h
  have hcg : ∀ k, x ≤ k → bs (cand (updO V x (mn (cand V ja to x) L)) ja to k) L L = bs (cand V ja to k) L L := fun k hk => bs_cong (fun s h1 _ => cand_updO h1 hk) L (Nat.le_refl L)
  refine ⟨by unfold updO; rw [if_neg (by omega)]; exact h0, fun k h1 h2 => ?_⟩
  rw [hcg k h1]
  by_cases hkx : k = x
  · subst hkx
    have hsp := mn_spec (cand V ja to k) L
    rw [upd_at, upd_at, upd_at, bs_mn]
    unfold updO
    rw [if_pos rfl]
    refine ⟨rfl, rfl, fun v hv => ?_, fun _ => ⟨rfl, rfl⟩⟩
    rcases hsp with ⟨e, -⟩ | ⟨v', e, ⟨s, s1, s2, s3⟩, -⟩
    · rw [hv] at e; cases e
    · rw [hv] at e; cases e
      unfold cand at s3
      by_cases hc : k + s ≤ to ∧ (k + s = to ∨ ja (k + s) = false)
      · rw [if_pos hc, Option.map_eq_some_iff] at s3
        obtain ⟨u, hu, rfl⟩ := s3
        have := (hk (k + s) (by omega) hc.1).2.2.1 u hu
        omega
      · rw [if_neg hc] at s3; cases s3
  · rw [upd_ne _ _ hkx, upd_ne _ _ hkx, upd_ne _ _ hkx]
    unfold updO
    rw [if_neg hkx]
    exact hk k (by omega) h2
theorem fewest2 {σ τ : SG} {w h y from_ to L : Nat} {F : Nat → Nat} {ja : Nat → Bool} (hB : LB σ τ w h F) (hy : y < h) (hft : from_ < to) (hto : to ≤ w) (hL : σ 13 (F (24 * y + from_)) = nI L ∧ τ 79 (F (24 * y + from_)) = nI (3 - L) ∧ 1 ≤ L ∧ L ≤ 3) (hj : ∀ k, k < 25 → σ 37 k = bI (ja k) ∧ τ 92 k = bI (ja k)) :
    ∃ A B C V, F_Layer_countFewest σ (nI from_) (nI to) (nI L) = some (sR σ 41 A) ∧ lpW (L_Ref_strip_12 (nI y) (nI from_) (nI to)) FU (nI to - 1, up τ 94 (ix (nI to)) 0) = some (w2 τ 94 95 B C) ∧ FR A B C V ja L to from_ := by
  obtain ⟨b1, b2, b3, b4, b5, b6, b7, b8, b9, b10⟩ := id hB
  have hto24 : to ≤ 24 := by omega
  have hll := lockS (f := L_Layer_countFewest_14 (nI from_) (nI to) (nI L)) (f' := L_Ref_strip_12 (nI y) (nI from_) (nI to))
    (Inv := fun k X X' => ∃ x A B C V, from_ ≤ x ∧ x ≤ to ∧ k = x - from_ ∧ X = (nI x - 1, sR σ 41 A) ∧ X' = (nI x - 1, w2 τ 94 95 B C) ∧ FR A B C V ja L to x)
    (Post := fun Y Y' => ∃ A B C V, Y = sR σ 41 A ∧ Y' = w2 τ 94 95 B C ∧ FR A B C V ja L to from_)
    (fun k X X' hI => by
      obtain ⟨x, A, B, C, V, h1, h2, h3, rfl, rfl, hfr⟩ := hI
      by_cases hx : x = from_
      · right
        subst hx
        refine ⟨_, _, ?_, ?_, A, B, C, V, rfl, rfl, hfr⟩
        · unfold L_Layer_countFewest_14
          dsimp only
          rw [if_pos ((m1_lt (by omega) (by omega)).mpr (Nat.le_refl x))]
        · unfold L_Ref_strip_12
          dsimp only
          rw [if_pos ((m1_lt (by omega) (by omega)).mpr (Nat.le_refl x))]
      · left
        obtain ⟨x, rfl⟩ : ∃ x', x = x' + 1 := ⟨x - 1, by omega⟩
        refine ⟨_, _, x - from_, by omega, ?_, ?_, x, _, _, _, _, by omega, by omega, rfl, rfl, rfl, FR_step (by omega) hL.2.2.2 hfr⟩
        · have hc := cnC (σ := sR σ 41 A) (x0 := nI x) hto24 hL.2.2.2 (show x < to by omega) (fun k hk => (hj k hk).1) (V := V) (fun k h1 h2 => by
            rw [sR_at]
            exact ⟨(hfr.2 k h1 h2).1, (hfr.2 k h1 h2).2.2.1⟩)
          unfold L_Layer_countFewest_14
          dsimp only
          rw [if_neg (fun h => by have := (m1_lt (by omega) (by omega)).mp h; omega), nI_pred, ob_of hc, ← Int32.sub_eq_add_neg, rs_nI (by omega) (by decide), up_sR, sR_at, sR_sR]
        · have hc := cnR (τ := w2 τ 94 95 B C) hto24 hL.2.2.2 (show x < to by omega) (fun k hk => (hj k hk).2) (V := V) (fun k h1 h2 => by
            rw [w2_p _ _ _ (by decide)]
            exact ⟨(hfr.2 k h1 h2).2.1, (hfr.2 k h1 h2).2.2.1⟩)
          have h77 : τ 77 (24 * y + from_) = nI (F (24 * y + from_)) := (b9 _ (by omega)).2.2
          have hF8 := (b9 (24 * y + from_) (by omega)).1
          unfold L_Ref_strip_12 nm
          dsimp only
          rw [if_neg (fun h => by have := (m1_lt (by omega) (by omega)).mp h; omega), nI_pred, vin_nI (show x < 25 by omega) (by decide), pl_nI', vin_nI (show 24 * y + from_ < 240 by omega) (by decide)]
          simp only [og_t]
          rw [ix_nI (show x < 2 ^ 31 by omega), ix_nI (show 24 * y + from_ < 2 ^ 31 by omega)]
          rw [show (up (up (w2 τ 94 95 B C) 94 x 999) 95 x 0) 77 (24 * y + from_) = nI (F (24 * y + from_)) from h77, vin_nI hF8 (by decide), ix_nI (by omega), show (up (up (w2 τ 94 95 B C) 94 x 999) 95 x 0) 79 (F (24 * y + from_)) = nI (3 - L) from hL.2.1, show (3 : Int32) - nI (3 - L) = nI L by rw [l3, pk_sub (by omega), show 3 - (3 - L) = L by omega]]
          simp only [og_t]
          rw [ob_of hc, ← Int32.sub_eq_add_neg, w2_p _ _ _ (by decide), w2_q]
          unfold w2
          rw [sR_comm (sR τ 94 B) C _ (by decide), sR_sR, sR_sR])
    (k := to - from_) (x := (nI to - 1, rs σ 41 25 (nI to) 0)) (x' := (nI to - 1, up τ 94 (ix (nI to)) 0))
    ⟨to, upd (σ 41) to 0, upd (τ 94) to 0, τ 95, fun k => if k = to then some 0 else none, by omega, Nat.le_refl _, rfl, by rw [rs_nI (by omega) (by decide)]; rfl, by
      rw [ix_nI (by omega)]
      unfold w2
      rw [show (τ 95) = (sR τ 94 (upd (τ 94) to 0)) 95 from rfl, sR_self]
      rfl, if_pos rfl, fun k h1 h2 => by
      have : k = to := by omega
      subst this
      rw [upd_at, upd_at]
      dsimp only
      rw [if_pos rfl]
      exact ⟨rfl, rfl, fun v hv => by cases hv; omega, fun h => by omega⟩⟩ (by omega)
  obtain ⟨Y, Y', g1, g2, A, B, C, V, rfl, rfl, hfr⟩ := hll
  refine ⟨A, B, C, V, ?_, g2, hfr⟩
  unfold F_Layer_countFewest
  rw [ob_of g1]
