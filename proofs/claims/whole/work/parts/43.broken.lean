/-! broken -/
theorem opt_back {X : Type} {s : Nat → Option X} (hn : ∀ i, s i = none → s (i + 1) = none) : ∀ {j : Nat} {x : X}, s j = some x → ∀ i, i ≤ j → ∃ y, s i = some y := by
  intro j
  induction j with
  | zero =>
    intro x h i hi
    have : i = 0 := by omega
    subst this
    exact ⟨x, h⟩
  | succ j ih =>
    intro x h i hi
    by_cases h1 : i = j + 1
    · subst h1; exact ⟨x, h⟩
    · cases hq : s j with
      | none => rw [hn j hq] at h; cases h
      | some y => exact ih hq i (by omega)
theorem lpW_opt {X Y : Type} {f : X → Option (X ⊕ Y)} {s : Nat → Option X} {x0 x : X} {y : Y} (N : Nat) (h0 : s 0 = some x0) (hn : ∀ i, s i = none → s (i + 1) = none) (hs : ∀ i x x', i < N → s i = some x → s (i + 1) = some x' → f x = some (.inl x')) (hx : s N = some x) (he : f x = some (.inr y)) (hF : N < 1000000) : lpW f FU x0 = some y := by
  refine lpW_at (s := fun i => (s i).getD x0) N (by show (s 0).getD x0 = x0; rw [h0]; rfl) ?_ (by show f ((s N).getD x0) = _; rw [hx]; exact he) hF
  intro i hi
  obtain ⟨a, ha⟩ := opt_back hn hx i (by omega)
  obtain ⟨b, hb⟩ := opt_back hn hx (i + 1) (by omega)
  show f ((s i).getD x0) = some (.inl ((s (i + 1)).getD x0))
  rw [ha, hb]
  exact hs i a b hi ha hb
theorem lpW_opt2 {X Y : Type} {f : X → Option (X ⊕ Y)} {s : Nat → Option X} {x0 : X} {P : Y → Prop} (N : Nat) (h0 : s 0 = some x0) (hn : ∀ i, s i = none → s (i + 1) = none) (hs : ∀ i x x', i < N → s i = some x → s (i + 1) = some x' → f x = some (.inl x')) (hx : s N = none) (he : ∀ i x, i < N → s i = some x → s (i + 1) = none → ∃ y, f x = some (.inr y) ∧ P y) (hF : N < 1000000) : ∃ y, lpW f FU x0 = some y ∧ P y := by
  have key : ∀ k, s k = none → ∃ j x, j < k ∧ s j = some x ∧ s (j + 1) = none := by
    intro k
    induction k with
    | zero => intro h; rw [h0] at h; cases h
    | succ k ih =>
      intro h
      cases hq : s k with
      | none =>
        obtain ⟨j, x, a, b, c⟩ := ih hq
        exact ⟨j, x, by omega, b, c⟩
      | some x => exact ⟨k, x, Nat.lt_succ_self k, hq, h⟩
  obtain ⟨j, x, hj, h1, h2⟩ := key N hx
  obtain ⟨y, hy, hP⟩ := he j x hj h1 h2
  exact ⟨y, lpW_opt j h0 hn (fun i a b hi => hs i a b (by omega)) h1 hy (by omega), hP⟩
/-- sheet t is made anew: how many changed, and the rows; none if a cube finds no lot -/
def bkU (A z : Nat → Int32) (d : Nat → Nat → Nat) (g : Nat → Nat) (m : Nat) (B : Nat → Int32) (i : Nat) : Option Nat :=
  if B (ix (A i)) < z i then nst B (d (g i)) (z i) m else some (ix (A i))
def bkS (A z sh : Nat → Int32) (d : Nat → Nat → Nat) (g : Nat → Nat) (m : Nat) (t : Int32) (P : RW2) : Nat → Option (Int32 × RW2)
  | 0 => some (0, P)
  | i + 1 => match bkS A z sh d g m t P i with
    | none => none
    | some c => if sh i = t then (if A i = -1 then some c else match bkU A z d g m c.2.2 i with
      | none => none
      | some b => some (if nI b = A i then c.1 + 0 else c.1 + 1, giv c.2 i (some b) (z i))) else some c
theorem bkS_n {A z sh : Nat → Int32} {d : Nat → Nat → Nat} {g : Nat → Nat} {m : Nat} {t : Int32} {P : RW2} (i : Nat) (h : bkS A z sh d g m t P i = none) : bkS A z sh d g m t P (i + 1) = none := by
  rw [bkS, h]
theorem bkU_lt {A z : Nat → Int32} {d : Nat → Nat → Nat} {g : Nat → Nat} {m : Nat} {B : Nat → Int32} {i b : Nat} (hA : ∃ k, k < m ∧ A i = nI k) (hm : m ≤ 10) (h : bkU A z d g m B i = some b) : b < m := by
  obtain ⟨k, hk, e⟩ := hA
  unfold bkU at h
  by_cases hc : B (ix (A i)) < z i
  · rw [if_pos hc] at h
    exact nst_lt h
  · rw [if_neg hc] at h
    cases h
    rw [e, ix_nI (by omega)]
    exact hk
/-- what holds of the rows on the way -/
theorem bkS_inv {A z sh : Nat → Int32} {d : Nat → Nat → Nat} {g : Nat → Nat} {m : Nat} {t : Int32} {P : RW2} (hm : m ≤ 10) : ∀ {i : Nat} {c : Int32 × RW2}, (∀ k, k < i → lotOk m (A k)) → bkS A z sh d g m t P i = some c → (∀ j, i ≤ j → c.2.1 j = P.1 j) ∧ (∀ j, lotOk m (P.1 j) → lotOk m (c.2.1 j)) ∧ ∀ j, 10 ≤ j → c.2.2 j = P.2 j := by
  intro i
  induction i with
  | zero =>
    intro c _ h
    cases h
    exact ⟨fun _ _ => rfl, fun _ h => h, fun _ _ => rfl⟩
  | succ i ih =>
    intro c hA h
    rw [bkS] at h
    cases hq : bkS A z sh d g m t P i with
    | none => rw [hq] at h; cases h
    | some e =>
      rw [hq] at h
      dsimp only at h
      obtain ⟨i1, i2, i3⟩ := ih (fun k hk => hA k (by omega)) hq
      by_cases h1 : sh i = t
      · rw [if_pos h1] at h
        by_cases h2 : A i = -1
        · rw [if_pos h2] at h
          cases h
          exact ⟨fun j hj => i1 j (by omega), i2, i3⟩
        · rw [if_neg h2] at h
          have hk : ∃ k, k < m ∧ A i = nI k := (hA i (by omega)).resolve_left h2
          cases hu : bkU A z d g m e.2.2 i with
          | none => rw [hu] at h; cases h
          | some b =>
            rw [hu] at h
            have hb := bkU_lt hk hm hu
            cases h
            refine ⟨fun j hj => ?_, fun j hj => ?_, fun j hj => ?_⟩
            · show upd e.2.1 i _ j = _
              rw [upd_ne _ _ (by omega)]
              exact i1 j (by omega)
            · show lotOk m (upd e.2.1 i _ j)
              by_cases hji : j = i
              · rw [hji, upd_at]; exact Or.inr ⟨b, hb, rfl⟩
              · rw [upd_ne _ _ hji]; exact i2 j hj
            · show upd e.2.2 b _ j = _
              rw [upd_ne _ _ (by omega)]
              exact i3 j hj
      · rw [if_neg h1] at h
        cases h
        exact ⟨fun j hj => i1 j (by omega), i2, i3⟩
theorem rcback {σ : SG} {Q : RW2} (h1 : ∀ k, 240 ≤ k → Q.1 k = σ 28 k) (h2 : ∀ k, 10 ≤ k → Q.2 k = σ 44 k) : rc (rc (w2 (rc (rc σ 54 10 44 10) 56 240 28 240) 28 44 Q.1 Q.2) 44 10 54 10) 28 240 56 240 = rc (rc σ 54 10 44 10) 56 240 28 240 := by
  funext p j
  by_cases h28 : p = 28
  · subst h28
    show (if j < 240 then rg _ 56 240 (nI j) else Q.1 j) = σ 28 j
    by_cases hj : j < 240
    · rw [if_pos hj, rg_nI hj (by decide)]
      show (if j < 240 then rg _ 28 240 (nI j) else _) = σ 28 j
      rw [if_pos hj, rg_nI hj (by decide)]
      rfl
    · rw [if_neg hj, h1 j (by omega)]
  · by_cases h44 : p = 44
    · subst h44
      show (if j < 10 then rg _ 54 10 (nI j) else Q.2 j) = σ 44 j
      by_cases hj : j < 10
      · rw [if_pos hj, rg_nI hj (by decide)]
        show (if j < 10 then rg _ 44 10 (nI j) else _) = σ 44 j
        rw [if_pos hj, rg_nI hj (by decide)]
      · rw [if_neg hj, h2 j (by omega)]
    · rw [rc_sR, sR_ne _ _ h28, rc_sR, sR_ne _ _ h44, w2_o _ _ _ h28 h44]
theorem nst_or {st : Nat → Int32} {d : Nat → Nat} {x : Int32} {m : Nat} (hm : m ≤ 10) : ∀ {u : Option Nat}, u = nst st d x m → (oI u = -1 ↔ u = none) := fun h => oI_none hm (fun b hb => nst_lt (h ▸ hb))
/-- one step of the class -/
theorem bkCs {τ : SG} {m n i s : Nat} {g : Nat → Nat} {c : Int32 × RW2} (hF : RF τ) (hL : LO τ m) (hn : τ 18 0 = nI n) (h240 : n ≤ 240) (hg : ∀ i, i < n → g i < 8 ∧ τ 26 i = nI (g i)) (hA : ∀ i, i < n → lotOk m (τ 28 i)) (hi : i < n) (hc : bkS (τ 28) (τ 24) (τ 30) (dC τ) g m (nI s) (τ 28, τ 44) i = some c) :
    (∀ c', bkS (τ 28) (τ 24) (τ 30) (dC τ) g m (nI s) (τ 28, τ 44) (i + 1) = some c' → L_Painter_makeAnew_32 (nI s) (c.1, nI i, w2 τ 28 44 c.2.1 c.2.2) = some (.inl (c'.1, nI (i + 1), w2 τ 28 44 c'.2.1 c'.2.2))) ∧
    (bkS (τ 28) (τ 24) (τ 30) (dC τ) g m (nI s) (τ 28, τ 44) (i + 1) = none → L_Painter_makeAnew_32 (nI s) (c.1, nI i, w2 τ 28 44 c.2.1 c.2.2) = some (.inr (.inr (-3, rc (rc (w2 τ 28 44 c.2.1 c.2.2) 44 10 54 10) 28 240 56 240)))) := by
  have hm := hL.2.2.1
  have hi2 : i < 240 := by omega
  have hrow : c.2.1 i = τ 28 i := (bkS_inv hm (fun k hk => hA k (by omega)) hc).1 i (Nat.le_refl i)
  obtain ⟨hgf, hg26⟩ := hg i hi
  have e18 : (w2 τ 28 44 c.2.1 c.2.2) 18 0 = nI n := hn
  have e30 : rg (w2 τ 28 44 c.2.1 c.2.2) 30 240 (nI i) = τ 30 i := by rw [rg_nI hi2 (by decide)]; rfl
  have e26 : rg (w2 τ 28 44 c.2.1 c.2.2) 26 240 (nI i) = nI (g i) := by rw [rg_nI hi2 (by decide)]; exact hg26
  have e24 : rg (w2 τ 28 44 c.2.1 c.2.2) 24 240 (nI i) = τ 24 i := by rw [rg_nI hi2 (by decide)]; rfl
  have e28 : rg (w2 τ 28 44 c.2.1 c.2.2) 28 240 (nI i) = τ 28 i := by rw [rg_nI hi2 (by decide), w2_p _ _ _ (by decide)]; exact hrow
  have hF' : RF (w2 τ 28 44 c.2.1 c.2.2) := RF_c (fun p hp => by rcases hp with rfl | rfl | rfl | rfl | rfl | rfl | rfl | rfl | rfl | rfl <;> rfl) hF
  have hL' : LO (w2 τ 28 44 c.2.1 c.2.2) m := LO_c (fun p hp => by rcases hp with rfl | rfl | rfl | rfl | rfl <;> rfl) rfl hL
  have hnr : F_Painter_nearestFor (w2 τ 28 44 c.2.1 c.2.2) (nI i) = some (oI (nst c.2.2 (dC τ (g i)) (τ 24 i) m)) := by
    unfold F_Painter_nearestFor
    rw [e26, e24, ob_of (nearC hF' hL' hgf _), w2_q]
    rfl
  have hgv : ∀ u : Option Nat, (∀ b, u = some b → b < m) → F_Painter_give (w2 τ 28 44 c.2.1 c.2.2) (oI u) (nI i) = w2 τ 28 44 (giv c.2 i u (τ 24 i)).1 (giv c.2 i u (τ 24 i)).2 := fun u hu => giveC hm hu hi2
  rw [bkS, hc]
  unfold L_Painter_makeAnew_32
  dsimp only
  rw [if_neg (show ¬ (w2 τ 28 44 c.2.1 c.2.2) 18 0 ≤ nI i by rw [e18]; exact nI_ge hi (by omega)), e30, e28, e24, nI_1]
  by_cases h1 : τ 30 i = nI s
  rotate_left
  · rw [if_neg h1, if_neg h1]
    exact ⟨fun c' h => by cases h; rfl, fun h => by cases h⟩
  rw [if_pos h1, if_pos h1]
  by_cases h2 : τ 28 i = -1
  · rw [if_pos h2, if_pos h2]
    exact ⟨fun c' h => by cases h; rfl, fun h => by cases h⟩
  rw [if_neg h2, if_neg h2]
  obtain ⟨k, hk, hk2⟩ := (hA i hi).resolve_left h2
  have hkk : ix (τ 28 i) = k := by rw [hk2, ix_nI (by omega)]
  have e44 : rg (w2 τ 28 44 c.2.1 c.2.2) 44 10 (τ 28 i) = c.2.2 (ix (τ 28 i)) := by rw [hkk, hk2, rg_nI (show k < 10 by omega) (by decide), w2_q]
  rw [e44]
  unfold bkU
  by_cases h3 : c.2.2 (ix (τ 28 i)) < τ 24 i
  · rw [if_pos h3, if_pos h3, ob_of hnr]
    cases hq : nst c.2.2 (dC τ (g i)) (τ 24 i) m with
    | none => exact ⟨fun c' h => (by cases h), fun _ => (by rw [if_pos (show oI none = -1 from rfl)])⟩
    | some b =>
      have hb := nst_lt hq
      dsimp only
      rw [if_neg (show ¬ oI (some b) = -1 from nm1_ne (by omega)), hgv (some b) (fun b' h => by cases h; exact hb)]
      refine ⟨fun c' h => ?_, fun h => by cases h⟩
      cases h
      by_cases h4 : nI b = τ 28 i
      · rw [if_pos (show oI (some b) = τ 28 i from h4), if_pos h4]
      · rw [if_neg (show ¬ oI (some b) = τ 28 i from h4), if_neg h4]
  · rw [if_neg h3, if_neg h3]
    dsimp only
    refine ⟨fun c' h => ?_, fun h => by cases h⟩
    cases h
    have ho : oI (some k) = τ 28 i := hk2.symm
    have hgk := hgv (some k) (fun b' h => by cases h; exact hk)
    rw [ho] at hgk
    unfold nm
    rw [if_neg h2]
    dsimp only
    rw [if_pos rfl, hgk, hkk, if_pos (show nI k = τ 28 i from hk2.symm)]
theorem bkC {τ : SG} {m n s : Nat} {g : Nat → Nat} (hF : RF τ) (hL : LO τ m) (hn : τ 18 0 = nI n) (h240 : n ≤ 240) (hg : ∀ i, i < n → g i < 8 ∧ τ 26 i = nI (g i)) (hA : ∀ i, i < n → lotOk m (τ 28 i)) :
    (∀ c, bkS (τ 28) (τ 24) (τ 30) (dC τ) g m (nI s) (τ 28, τ 44) n = some c → lpW (L_Painter_makeAnew_32 (nI s)) FU (0, 0, τ) = some (.inl (c.1, w2 τ 28 44 c.2.1 c.2.2))) ∧
    (bkS (τ 28) (τ 24) (τ 30) (dC τ) g m (nI s) (τ 28, τ 44) n = none → ∃ y, lpW (L_Painter_makeAnew_32 (nI s)) FU (0, 0, τ) = some y ∧ ∃ Q : RW2, (∀ k, 240 ≤ k → Q.1 k = τ 28 k) ∧ (∀ k, 10 ≤ k → Q.2 k = τ 44 k) ∧ y = .inr (-3, rc (rc (w2 τ 28 44 Q.1 Q.2) 44 10 54 10) 28 240 56 240)) := by
  have hm := hL.2.2.1
  have h0 : (bkS (τ 28) (τ 24) (τ 30) (dC τ) g m (nI s) (τ 28, τ 44) 0).map (fun c => (c.1, nI 0, w2 τ 28 44 c.2.1 c.2.2)) = some (0, 0, τ) := by
    show some ((0 : Int32), nI 0, w2 τ 28 44 (τ 28) (τ 44)) = _
    rw [w2_self]; rfl
  have hnn : ∀ i, (bkS (τ 28) (τ 24) (τ 30) (dC τ) g m (nI s) (τ 28, τ 44) i).map (fun c => (c.1, nI i, w2 τ 28 44 c.2.1 c.2.2)) = none → (bkS (τ 28) (τ 24) (τ 30) (dC τ) g m (nI s) (τ 28, τ 44) (i + 1)).map (fun c => (c.1, nI (i + 1), w2 τ 28 44 c.2.1 c.2.2)) = none := by
    intro i h
    rw [Option.map_eq_none_iff] at h ⊢
    exact bkS_n i h
  have hss : ∀ i x x', i < n → (bkS (τ 28) (τ 24) (τ 30) (dC τ) g m (nI s) (τ 28, τ 44) i).map (fun c => (c.1, nI i, w2 τ 28 44 c.2.1 c.2.2)) = some x → (bkS (τ 28) (τ 24) (τ 30) (dC τ) g m (nI s) (τ 28, τ 44) (i + 1)).map (fun c => (c.1, nI (i + 1), w2 τ 28 44 c.2.1 c.2.2)) = some x' → L_Painter_makeAnew_32 (nI s) x = some (.inl x') := by
    intro i x x' hi h1 h2
    rw [Option.map_eq_some_iff] at h1 h2
    obtain ⟨c, hc, rfl⟩ := h1
    obtain ⟨c', hc', rfl⟩ := h2
    exact (bkCs hF hL hn h240 hg hA hi hc).1 c' hc'
  refine ⟨fun c hc => ?_, fun hc => ?_⟩
  · refine lpW_opt n h0 hnn hss (x := (c.1, nI n, w2 τ 28 44 c.2.1 c.2.2)) (by rw [hc]; rfl) ?_ (by omega)
    unfold L_Painter_makeAnew_32
    dsimp only
    rw [if_pos (show (w2 τ 28 44 _ _) 18 0 ≤ nI n by rw [show ∀ A B, (w2 τ 28 44 A B) 18 0 = nI n from fun _ _ => hn]; exact nI_le (Nat.le_refl n) (by omega))]
  · refine lpW_opt2 n h0 hnn hss (by rw [hc]; rfl) ?_ (by omega)
    intro i x hi h1 h2
    rw [Option.map_eq_some_iff] at h1
    rw [Option.map_eq_none_iff] at h2
    obtain ⟨c, hc, rfl⟩ := h1
    obtain ⟨i1, -, i3⟩ := bkS_inv hm (fun k hk => hA k (by omega)) hc
    exact ⟨_, (bkCs hF hL hn h240 hg hA hi hc).2 h2, c.2, fun k hk => i1 k (by omega), i3, rfl⟩
theorem nst_cong {st st' : Nat → Int32} {d : Nat → Nat} {x : Int32} : ∀ {k : Nat}, (∀ l, l < k → st l = st' l) → nst st d x k = nst st' d x k
  | 0, _ => rfl
  | k + 1, h => by
    rw [nst, nst, h k (Nat.lt_succ_self k), nst_cong (fun l hl => h l (Nat.lt_succ_of_lt hl))]
theorem rowF_upd {g f : Nat → Int32} {i : Nat} {x : Int32} : upd (rowF g f i) i x = rowF (upd g i x) f (i + 1) := by
  funext j
  unfold upd rowF
  dsimp only
  by_cases h : j = i
  · rw [if_pos h, if_pos (by omega), if_pos h]
  · rw [if_neg h, if_neg h]
    by_cases h2 : j < i
    · rw [if_pos h2, if_pos (by omega)]
    · rw [if_neg h2, if_neg (by omega)]
theorem rowF_updl {g f : Nat → Int32} {N i : Nat} {x : Int32} (hi : i < N) : upd (rowF g f N) i x = rowF (upd g i x) f N := by
  funext j
  unfold upd rowF
  dsimp only
  by_cases h : j = i
  · rw [if_pos h, if_pos (by omega), if_pos h]
  · rw [if_neg h, if_neg h]
/-- one step of the reference -/
theorem bkRs {τ : SG} {m n i s : Nat} {g : Nat → Nat} {B0 : Nat → Int32} {c : Int32 × RW2} (hF : RF τ) (hL : LO τ m) (hn : τ 76 10 = nI n) (h240 : n ≤ 240) (hg : ∀ i, i < n → g i < 8 ∧ τ 85 i = nI (g i)) (hA : ∀ i, i < n → lotOk m (τ 86 i)) (hi : i < n) (hc : bkS (τ 86) (τ 84) (τ 87) (dC τ) g m (nI s) (τ 86, B0) i = some c) :
    (∀ c', bkS (τ 86) (τ 84) (τ 87) (dC τ) g m (nI s) (τ 86, B0) (i + 1) = some c' → L_Ref_broken_53 (nI s) (c.1, nI i, w2 τ 97 96 (rowF c.2.1 (τ 97) i) (rowF c.2.2 (τ 96) 10)) = some (.inl (c'.1, nI (i + 1), w2 τ 97 96 (rowF c'.2.1 (τ 97) (i + 1)) (rowF c'.2.2 (τ 96) 10)))) ∧
    (bkS (τ 86) (τ 84) (τ 87) (dC τ) g m (nI s) (τ 86, B0) (i + 1) = none → ∃ A B, L_Ref_broken_53 (nI s) (c.1, nI i, w2 τ 97 96 (rowF c.2.1 (τ 97) i) (rowF c.2.2 (τ 96) 10)) = some (.inr (.inr (-3, w2 τ 97 96 A B)))) := by
  have hm := hL.2.2.1
  have hi2 : i < 240 := by omega
  have hii : ix (nI i) = i := ix_nI (by omega)
  have hrow : c.2.1 i = τ 86 i := (bkS_inv hm (fun k hk => hA k (by omega)) hc).1 i (Nat.le_refl i)
  obtain ⟨hgf, hg26⟩ := hg i hi
  have hup : rowF c.2.1 (τ 97) (i + 1) = upd (rowF c.2.1 (τ 97) i) i (τ 86 i) := by rw [← hrow, rowF_s]
  rw [bkS, hc]
  unfold L_Ref_broken_53 nm
  dsimp only
  rw [if_neg (show ¬ (w2 τ 97 96 (rowF c.2.1 (τ 97) i) (rowF c.2.2 (τ 96) 10)) 76 10 ≤ nI i by rw [show ∀ A B, (w2 τ 97 96 A B) 76 10 = nI n from fun _ _ => hn]; exact nI_ge hi (by omega)), vin_nI hi2 (by decide), nI_1]
  simp only [og_t]
  rw [hii, show (w2 τ 97 96 (rowF c.2.1 (τ 97) i) (rowF c.2.2 (τ 96) 10)) 86 i = τ 86 i from rfl, up_w2p _ _ _ (by decide), ← hup]
  generalize hσ : w2 τ 97 96 (rowF c.2.1 (τ 97) (i + 1)) (rowF c.2.2 (τ 96) 10) = σ
  have e87 : σ 87 i = τ 87 i := by rw [← hσ]; rfl
  have e86 : σ 86 = τ 86 := by rw [← hσ]; rfl
  have e85 : σ 85 i = nI (g i) := by rw [← hσ]; exact hg26
  have e84 : σ 84 i = τ 84 i := by rw [← hσ]; rfl
  have e96 : σ 96 = rowF c.2.2 (τ 96) 10 := by rw [← hσ, w2_q]
  have hF' : RF σ := by rw [← hσ]; exact RF_c (fun p hp => by rcases hp with rfl | rfl | rfl | rfl | rfl | rfl | rfl | rfl | rfl | rfl <;> rfl) hF
  have hL' : LO σ m := by rw [← hσ]; exact LO_c (fun p hp => by rcases hp with rfl | rfl | rfl | rfl | rfl <;> rfl) rfl hL
  have hnr : F_Ref_nearest_96 σ (σ 85 i) (σ 84 i) = some (oI (nst c.2.2 (dC τ (g i)) (τ 84 i) m)) := by
    rw [e85, e84, nearR96 hF' hL' hgf, e96, show dC σ = dC τ by rw [← hσ]; rfl]
    congr 2
    exact nst_cong (fun l hl => rowF_lt (by omega))
  have hgv : ∀ b, b < m → up (up σ 96 b (σ 96 b - τ 84 i)) 97 i (nI b) = w2 τ 97 96 (rowF (upd c.2.1 i (nI b)) (τ 97) (i + 1)) (rowF (upd c.2.2 b (c.2.2 b - τ 84 i)) (τ 96) 10) := by
    intro b hb
    rw [e96, rowF_lt (by omega), ← hσ, up_w2q, up_w2p _ _ _ (by decide), rowF_updl (show b < 10 by omega), rowF_updl (Nat.lt_succ_self i)]
  have x86 : ∀ b v, (up (up σ 96 b v) 97 i (nI b)) 86 i = τ 86 i := by
    intro b v; rw [← e86]; rfl
  by_cases h1 : τ 87 i = nI s
  rotate_left
  · rw [if_neg (show ¬ σ 87 i = nI s by rw [e87]; exact h1), if_neg h1]
    exact ⟨fun c' h => (by cases h; rw [hσ]), fun h => (by cases h)⟩
  rw [if_pos (show σ 87 i = nI s by rw [e87]; exact h1), if_pos h1]
  by_cases h2 : τ 86 i = -1
  · rw [if_pos (show σ 86 i = -1 by rw [e86]; exact h2), if_pos h2]
    exact ⟨fun c' h => (by cases h; rw [hσ]), fun h => (by cases h)⟩
  rw [if_neg (show ¬ σ 86 i = -1 by rw [e86]; exact h2), if_neg h2]
  obtain ⟨k, hk, hk2⟩ := (hA i hi).resolve_left h2
  have hkk : ix (τ 86 i) = k := by rw [hk2, ix_nI (by omega)]
  have hk2' : σ 86 i = nI k := by rw [e86]; exact hk2
  have hkk' : ix (σ 86 i) = k := by rw [e86]; exact hkk
  have e44 : σ 96 (ix (σ 86 i)) = c.2.2 (ix (τ 86 i)) := by rw [hkk', hkk, e96, rowF_lt (by omega)]
  rw [show vin (σ 86 i) 10 = true by rw [hk2']; exact vin_nI (by omega) (by decide)]
  simp only [og_t]
  unfold bkU
  by_cases h3 : c.2.2 (ix (τ 86 i)) < τ 84 i
  · rw [if_pos (show σ 96 (ix (σ 86 i)) < σ 84 i by rw [e44, e84]; exact h3), if_pos h3, ob_of hnr]
    cases hq : nst c.2.2 (dC τ (g i)) (τ 84 i) m with
    | none => exact ⟨fun c' h => (by cases h), fun _ => ⟨_, _, by rw [if_pos (show oI none = -1 from rfl), ← hσ]⟩⟩
    | some b =>
      have hb := nst_lt hq
      dsimp only
      rw [if_neg (show ¬ oI (some b) = -1 from nm1_ne (by omega)), show oI (some b) = nI b from rfl, vin_nI (show b < 10 by omega) (by decide), ix_nI (show b < 2 ^ 31 by omega), e84]
      simp only [og_t]
      refine ⟨fun c' h => ?_, fun h => by cases h⟩
      cases h
      by_cases h4 : nI b = τ 86 i
      · rw [if_pos (show nI b = (up (up σ 96 b (σ 96 b - τ 84 i)) 97 i (nI b)) 86 i by rw [x86]; exact h4), if_pos h4, hgv b hb]
        rfl
      · rw [if_neg (show ¬ nI b = (up (up σ 96 b (σ 96 b - τ 84 i)) 97 i (nI b)) 86 i by rw [x86]; exact h4), if_neg h4, hgv b hb]
        rfl
  · rw [if_neg (show ¬ σ 96 (ix (σ 86 i)) < σ 84 i by rw [e44, e84]; exact h3), if_neg h3]
    rw [if_neg (show ¬ σ 86 i = -1 by rw [e86]; exact h2), hk2', ix_nI (show k < 2 ^ 31 by omega), e84, hkk]
    refine ⟨fun c' h => ?_, fun h => by cases h⟩
    cases h
    rw [if_pos (show nI k = (up (up σ 96 k (σ 96 k - τ 84 i)) 97 i (nI k)) 86 i by rw [x86]; exact hk2.symm), if_pos hk2.symm, hgv k hk]
    rfl
theorem bkR {τ : SG} {m n s : Nat} {g : Nat → Nat} {B0 : Nat → Int32} (hF : RF τ) (hL : LO τ m) (hn : τ 76 10 = nI n) (h240 : n ≤ 240) (hg : ∀ i, i < n → g i < 8 ∧ τ 85 i = nI (g i)) (hA : ∀ i, i < n → lotOk m (τ 86 i)) (h96 : rowF B0 (τ 96) 10 = τ 96) :
    (∀ c, bkS (τ 86) (τ 84) (τ 87) (dC τ) g m (nI s) (τ 86, B0) n = some c → lpW (L_Ref_broken_53 (nI s)) FU (0, 0, τ) = some (.inl (c.1, w2 τ 97 96 (rowF c.2.1 (τ 97) n) (rowF c.2.2 (τ 96) 10)))) ∧
    (bkS (τ 86) (τ 84) (τ 87) (dC τ) g m (nI s) (τ 86, B0) n = none → ∃ y, lpW (L_Ref_broken_53 (nI s)) FU (0, 0, τ) = some y ∧ ∃ A B, y = .inr (-3, w2 τ 97 96 A B)) := by
  have hm := hL.2.2.1
  have h0 : (bkS (τ 86) (τ 84) (τ 87) (dC τ) g m (nI s) (τ 86, B0) 0).map (fun c => (c.1, nI 0, w2 τ 97 96 (rowF c.2.1 (τ 97) 0) (rowF c.2.2 (τ 96) 10))) = some (0, 0, τ) := by
    show some ((0 : Int32), nI 0, w2 τ 97 96 (rowF (τ 86) (τ 97) 0) (rowF B0 (τ 96) 10)) = _
    rw [h96, rowF_0, w2_self]; rfl
  have hnn : ∀ i, (bkS (τ 86) (τ 84) (τ 87) (dC τ) g m (nI s) (τ 86, B0) i).map (fun c => (c.1, nI i, w2 τ 97 96 (rowF c.2.1 (τ 97) i) (rowF c.2.2 (τ 96) 10))) = none → (bkS (τ 86) (τ 84) (τ 87) (dC τ) g m (nI s) (τ 86, B0) (i + 1)).map (fun c => (c.1, nI (i + 1), w2 τ 97 96 (rowF c.2.1 (τ 97) (i + 1)) (rowF c.2.2 (τ 96) 10))) = none := by
    intro i h
    rw [Option.map_eq_none_iff] at h ⊢
    exact bkS_n i h
  have hss : ∀ i x x', i < n → (bkS (τ 86) (τ 84) (τ 87) (dC τ) g m (nI s) (τ 86, B0) i).map (fun c => (c.1, nI i, w2 τ 97 96 (rowF c.2.1 (τ 97) i) (rowF c.2.2 (τ 96) 10))) = some x → (bkS (τ 86) (τ 84) (τ 87) (dC τ) g m (nI s) (τ 86, B0) (i + 1)).map (fun c => (c.1, nI (i + 1), w2 τ 97 96 (rowF c.2.1 (τ 97) (i + 1)) (rowF c.2.2 (τ 96) 10))) = some x' → L_Ref_broken_53 (nI s) x = some (.inl x') := by
    intro i x x' hi h1 h2
    rw [Option.map_eq_some_iff] at h1 h2
    obtain ⟨c, hc, rfl⟩ := h1
    obtain ⟨c', hc', rfl⟩ := h2
    exact (bkRs hF hL hn h240 hg hA hi hc).1 c' hc'
  refine ⟨fun c hc => ?_, fun hc => ?_⟩
  · refine lpW_opt n h0 hnn hss (x := (c.1, nI n, w2 τ 97 96 (rowF c.2.1 (τ 97) n) (rowF c.2.2 (τ 96) 10))) (by rw [hc]; rfl) ?_ (by omega)
    unfold L_Ref_broken_53
    dsimp only
    rw [if_pos (show (w2 τ 97 96 _ _) 76 10 ≤ nI n by rw [show ∀ A B, (w2 τ 97 96 A B) 76 10 = nI n from fun _ _ => hn]; exact nI_le (Nat.le_refl n) (by omega))]
  · refine lpW_opt2 n h0 hnn hss (by rw [hc]; rfl) ?_ (by omega)
    intro i x hi h1 h2
    rw [Option.map_eq_some_iff] at h1
    rw [Option.map_eq_none_iff] at h2
    obtain ⟨c, hc, rfl⟩ := h1
    obtain ⟨A, B, e⟩ := (bkRs hF hL hn h240 hg hA hi hc).2 h2
    exact ⟨_, e, A, B, rfl⟩
theorem bk24 {σ : SG} : lpW L_Ref_broken_24 FU (0, σ) = some (sR σ 96 (rowF (σ 89) (σ 96) 10)) := by
  refine lpW_at (s := fun i => (nI i, sR σ 96 (rowF (σ 89) (σ 96) i))) 10 ?_ ?_ ?_ (by decide)
  · rw [rowF_0, sR_self]; rfl
  · intro i hi
    unfold L_Ref_broken_24
    dsimp only
    rw [if_neg (show ¬ (10 : Int32) ≤ nI i from nI_ge (b := 10) hi (by decide)), vin_nI hi (by decide)]
    simp only [og_t]
    rw [ix_nI (by omega), nI_1, up_sR, sR_at, sR_sR, ← rowF_s]
    rfl
  · unfold L_Ref_broken_24
    dsimp only
    rw [if_pos (show (10 : Int32) ≤ nI 10 from nI_le (Nat.le_refl 10) (by decide))]
theorem bk218 {σ : SG} : lpW L_Ref_broken_218 FU (0, σ) = some (sR σ 89 (rowF (σ 96) (σ 89) 10)) := by
  refine lpW_at (s := fun i => (nI i, sR σ 89 (rowF (σ 96) (σ 89) i))) 10 ?_ ?_ ?_ (by decide)
  · rw [rowF_0, sR_self]; rfl
  · intro i hi
    unfold L_Ref_broken_218 nm
    dsimp only
    rw [if_neg (show ¬ (10 : Int32) ≤ nI i from nI_ge (b := 10) hi (by decide)), vin_nI hi (by decide)]
    simp only [og_t]
    rw [ix_nI (by omega), nI_1, up_sR, sR_at, sR_sR, ← rowF_s]
    rfl
  · unfold L_Ref_broken_218
    dsimp only
    rw [if_pos (show (10 : Int32) ≤ nI 10 from nI_le (Nat.le_refl 10) (by decide))]
theorem bk248 {σ : SG} {n : Nat} (hn : σ 76 10 = nI n) (h240 : n ≤ 240) : lpW L_Ref_broken_248 FU (0, σ) = some (sR σ 86 (rowF (σ 97) (σ 86) n)) := by
  refine lpW_at (s := fun i => (nI i, sR σ 86 (rowF (σ 97) (σ 86) i))) n ?_ ?_ ?_ (by omega)
  · rw [rowF_0, sR_self]; rfl
  · intro i hi
    unfold L_Ref_broken_248 nm
    dsimp only
    rw [if_neg (show ¬ (sR σ 86 (rowF (σ 97) (σ 86) i)) 76 10 ≤ nI i by rw [show (sR σ 86 (rowF (σ 97) (σ 86) i)) 76 10 = nI n from hn]; exact nI_ge hi (by omega)), vin_nI (show i < 240 by omega) (by decide)]
    simp only [og_t]
    rw [ix_nI (by omega), nI_1, up_sR, sR_at, sR_sR, ← rowF_s]
    rfl
  · unfold L_Ref_broken_248
    dsimp only
    rw [if_pos (show (sR σ 86 (rowF (σ 97) (σ 86) n)) 76 10 ≤ nI n by rw [show (sR σ 86 (rowF (σ 97) (σ 86) n)) 76 10 = nI n from hn]; exact nI_le (Nat.le_refl n) (by omega))]
theorem rowF_rowF {g g' f : Nat → Int32} {n : Nat} (h : ∀ j, j < n → g j = g' j) : rowF g (rowF g' f n) n = rowF g' f n := by
  funext j
  unfold rowF
  by_cases hj : j < n
  · rw [if_pos hj, if_pos hj, h j hj]
  · rw [if_neg hj, if_neg hj]
theorem rowF_back {g f f' : Nat → Int32} {n : Nat} (h : ∀ j, n ≤ j → g j = f' j) : rowF (rowF g f n) f' n = g := by
  funext j
  unfold rowF
  by_cases hj : j < n
  · rw [if_pos hj, if_pos hj]
  · rw [if_neg hj, h j (by omega)]
theorem op_broken {σ : SG} (hR : R σ) (a : Int32) : ∃ r σ1 σ2, F_Shop_broken σ a = some (r, σ1) ∧ F_Ref_broken σ1 a = some (r, σ2) ∧ R σ2 := by
  obtain ⟨w, h, m, q, n, S, pt, hD, hF, hL, hH, hC⟩ := id hR
  rcases sheet_cases hC a with ⟨h1, h2⟩ | ⟨h0, h1, h2, h3⟩ | ⟨s, hs, rfl, h1, h2, h3⟩
  · exact ⟨-2, σ, σ, by unfold F_Shop_broken; rw [if_neg h1], by unfold F_Ref_broken; rw [h2, if_neg (show ¬ (0 : Int32) ≤ -2 by decide)], hR⟩
  · exact ⟨-3, σ, σ, by unfold F_Shop_broken; rw [if_pos h1, if_neg (bf h2)], by unfold F_Ref_broken; rw [h3, if_neg (show ¬ (0 : Int32) ≤ -3 by decide)], hR⟩
  obtain ⟨r, l, z, f, hB, hcov⟩ := RC_CB hD hC
  obtain ⟨⟨c1, c2, hn240, c4⟩, ⟨p1, p2, p3⟩, hS, ⟨k1, k2, k3, k4, k5, k6⟩, hcv, hlot, h0⟩ := id hC
  by_cases hpt : bI pt = 0
  · refine ⟨-3, σ, σ, ?_, ?_, hR⟩
    · unfold F_Shop_broken; rw [if_pos h1, if_pos h2, if_pos (show σ 52 0 = 0 by rw [p1]; exact hpt)]
    · unfold F_Ref_broken; rw [h3, if_pos (show (0 : Int32) ≤ 0 by decide), if_pos (show σ 76 8 = 0 by rw [p2]; exact hpt)]
  have hm := hL.2.2.1
  have hg : ∀ i, i < n → f i < 8 ∧ σ 26 i = nI (f i) := fun i hi => ⟨(hB i hi).2.2.2.2.2.2.2.2, (hB i hi).2.2.2.1⟩
  have hA : ∀ i, i < n → lotOk m (σ 28 i) := by
    intro i hi
    rcases hlot i hi with h1 | ⟨-, k, h2, h3⟩
    · exact Or.inl h1
    · exact Or.inr ⟨k, h2, h3⟩
  generalize hτ : rc (rc σ 54 10 44 10) 56 240 28 240 = τ
  have t : ∀ p, p ≠ 54 → p ≠ 56 → τ p = σ p := by
    intro p h1 h2
    rw [← hτ, rc_sR, sR_ne _ _ h2, rc_sR, sR_ne _ _ h1]
  have tD : dC τ = dC σ := by rw [← hτ]; rfl
  have hF' : RF τ := RF_c (fun p hp => by rcases hp with rfl | rfl | rfl | rfl | rfl | rfl | rfl | rfl | rfl | rfl <;> exact t _ (by decide) (by decide)) hF
  have hLO := RLo_LO hL
  have hL' : LO τ m := LO_c (fun p hp => by rcases hp with rfl | rfl | rfl | rfl | rfl <;> exact t _ (by decide) (by decide)) (by rw [t 76 (by decide) (by decide)]) hLO
  have hbc := bkC (s := s) hF' hL' (by rw [t 18 (by decide) (by decide)]; exact c1) hn240 (by rw [t 26 (by decide) (by decide)]; exact hg) (by rw [t 28 (by decide) (by decide)]; exact hA)
  rw [t 28 (by decide) (by decide), t 24 (by decide) (by decide), t 30 (by decide) (by decide), t 44 (by decide) (by decide), tD] at hbc
  -- the reference, from any state that differs in 28, 44, 54, 56
  have ref : ∀ σ1 : SG, (∀ p, p ≠ 28 → p ≠ 44 → p ≠ 54 → p ≠ 56 → σ1 p = σ p) → ∃ τ2 : SG, (∀ p, p ≠ 96 → τ2 p = σ1 p) ∧ lpW L_Ref_broken_24 FU (0, σ1) = some τ2 ∧
      (∀ c, bkS (σ 28) (σ 24) (σ 30) (dC σ) f m (nI s) (σ 28, σ 44) n = some c → lpW (L_Ref_broken_53 (nI s)) FU (0, 0, τ2) = some (.inl (c.1, w2 τ2 97 96 (rowF c.2.1 (τ2 97) n) (rowF c.2.2 (τ2 96) 10)))) ∧
      (bkS (σ 28) (σ 24) (σ 30) (dC σ) f m (nI s) (σ 28, σ 44) n = none → ∃ y, lpW (L_Ref_broken_53 (nI s)) FU (0, 0, τ2) = some y ∧ ∃ A B, y = .inr (-3, w2 τ2 97 96 A B)) := by
    intro σ1 u
    have v : ∀ p, p ≠ 28 → p ≠ 44 → p ≠ 54 → p ≠ 56 → p ≠ 96 → (sR σ1 96 (rowF (σ1 89) (σ1 96) 10)) p = σ p := fun p a b c d e => by rw [sR_ne _ _ e, u p a b c d]
    refine ⟨sR σ1 96 (rowF (σ1 89) (σ1 96) 10), fun p hp => sR_ne _ _ hp, bk24, ?_⟩
    have hb := bkR (τ := sR σ1 96 (rowF (σ1 89) (σ1 96) 10)) (s := s) (m := m) (n := n) (g := f) (B0 := σ 44)
      (RF_c (fun p hp => by rcases hp with rfl | rfl | rfl | rfl | rfl | rfl | rfl | rfl | rfl | rfl <;> exact v _ (by decide) (by decide) (by decide) (by decide) (by decide)) hF)
      (LO_c (fun p hp => by rcases hp with rfl | rfl | rfl | rfl | rfl <;> exact v _ (by decide) (by decide) (by decide) (by decide) (by decide)) (by rw [v 76 (by decide) (by decide) (by decide) (by decide) (by decide)]) hLO)
      (by rw [v 76 (by decide) (by decide) (by decide) (by decide) (by decide)]; exact c2) hn240
      (by rw [v 85 (by decide) (by decide) (by decide) (by decide) (by decide), k4]; exact hg)
      (by rw [v 86 (by decide) (by decide) (by decide) (by decide) (by decide), k5]; exact hA)
      (by rw [sR_at]; refine rowF_rowF (fun j _ => ?_); rw [u 89 (by decide) (by decide) (by decide) (by decide), hL.2.2.2.1])
    rw [v 86 (by decide) (by decide) (by decide) (by decide) (by decide), v 84 (by decide) (by decide) (by decide) (by decide) (by decide), v 87 (by decide) (by decide) (by decide) (by decide) (by decide), k5, k3, k6] at hb
    rw [show dC (sR σ1 96 (rowF (σ1 89) (σ1 96) 10)) = dC σ from funext fun F => dC_c (fun p hp => by rcases hp with rfl | rfl | rfl | rfl | rfl | rfl <;> exact v _ (by decide) (by decide) (by decide) (by decide) (by decide)) F] at hb
    exact hb
  cases hq : bkS (σ 28) (σ 24) (σ 30) (dC σ) f m (nI s) (σ 28, σ 44) n with
  | none =>
    obtain ⟨y, hy, Q, hQ1, hQ2, rfl⟩ := hbc.2 hq
    have hbk : rc (rc (w2 τ 28 44 Q.1 Q.2) 44 10 54 10) 28 240 56 240 = τ := by
      rw [← hτ]
      exact rcback hQ1 hQ2
    rw [hbk] at hy
    obtain ⟨τ2, u2, e24, -, e53⟩ := ref τ (fun p a b c d => t p c d)
    obtain ⟨y2, hy2, A, B, rfl⟩ := e53 hq
    have v : ∀ p, p ≠ 54 → p ≠ 56 → p ≠ 96 → p ≠ 97 → (w2 τ2 97 96 A B) p = σ p := fun p a b c d => by rw [w2_o _ _ _ d c, u2 p c, t p a b]
    refine ⟨-3, τ, w2 τ2 97 96 A B, ?_, ?_, w, h, m, q, n, S, pt, ?_, ?_, ?_, ?_, ?_⟩
    · unfold F_Shop_broken F_Painter_makeAnew
      rw [if_pos h1, if_pos h2, if_neg (show ¬ σ 52 0 = 0 by rw [p1]; exact hpt), hτ, ob_of hy]
      rfl
    · unfold F_Ref_broken
      have e0 : F_Ref_noSheet τ (nI s) = 0 := by rw [← h3]; unfold F_Ref_noSheet; rw [t 76 (by decide) (by decide)]
      rw [e0, if_pos (show (0 : Int32) ≤ 0 by decide), if_neg (show ¬ τ 76 8 = 0 by rw [t 76 (by decide) (by decide), p2]; exact hpt), ob_of e24, ob_of hy2]
      rfl
    · exact RD_c (fun p hp => by rcases hp with rfl | rfl | rfl <;> exact v _ (by decide) (by decide) (by decide) (by decide)) (by rw [v _ (by decide) (by decide) (by decide) (by decide)]) (by rw [v _ (by decide) (by decide) (by decide) (by decide)]) hD
    · exact RF_c (fun p hp => by rcases hp with rfl | rfl | rfl | rfl | rfl | rfl | rfl | rfl | rfl | rfl <;> exact v _ (by decide) (by decide) (by decide) (by decide)) hF
    · exact RLo_c (fun p hp => by rcases hp with rfl | rfl | rfl | rfl | rfl | rfl | rfl <;> exact v _ (by decide) (by decide) (by decide) (by decide)) (by rw [v _ (by decide) (by decide) (by decide) (by decide)]) hL
    · exact RH_c (fun p hp => by rcases hp with rfl | rfl | rfl | rfl | rfl <;> exact v _ (by decide) (by decide) (by decide) (by decide)) (by rw [v _ (by decide) (by decide) (by decide) (by decide)]) hH
    · exact RC_c (fun p hp => by rcases hp with rfl | rfl | rfl | rfl | rfl | rfl | rfl | rfl | rfl | rfl | rfl | rfl | rfl | rfl | rfl | rfl | rfl | rfl | rfl <;> exact v _ (by decide) (by decide) (by decide) (by decide)) (fun k _ => by rw [v _ (by decide) (by decide) (by decide) (by decide)]) hC
  | some c =>
    have hy := hbc.1 c hq
    obtain ⟨i1, i2, i3⟩ := bkS_inv hm hA hq
    obtain ⟨τ2, u2, e24, e53, -⟩ := ref (w2 τ 28 44 c.2.1 c.2.2) (fun p a b c d => by rw [w2_o _ _ _ a b, t p c d])
    have hy2 := e53 c hq
    generalize hτ3 : w2 τ2 97 96 (rowF c.2.1 (τ2 97) n) (rowF c.2.2 (τ2 96) 10) = τ3 at hy2
    have v3 : ∀ p, p ≠ 54 → p ≠ 56 → p ≠ 96 → p ≠ 97 → p ≠ 28 → p ≠ 44 → τ3 p = σ p := fun p a b c d e f => by rw [← hτ3, w2_o _ _ _ d c, u2 p c, w2_o _ _ _ e f, t p a b]
    have h89 : rowF (τ3 96) (τ3 89) 10 = c.2.2 := by
      rw [v3 89 (by decide) (by decide) (by decide) (by decide) (by decide) (by decide), ← hτ3, w2_q]
      exact rowF_back (fun j hj => by rw [i3 j hj, hL.2.2.2.1])
    have h86 : rowF (τ3 97) (τ3 86) n = c.2.1 := by
      rw [v3 86 (by decide) (by decide) (by decide) (by decide) (by decide) (by decide), ← hτ3, w2_p _ _ _ (by decide)]
      exact rowF_back (fun j hj => by rw [i1 j hj, k5])
    have e218 := bk218 (σ := τ3)
    rw [h89] at e218
    have e248 := bk248 (σ := sR τ3 89 c.2.2) (n := n) (by rw [sR_ne _ _ (by decide), v3 76 (by decide) (by decide) (by decide) (by decide) (by decide) (by decide)]; exact c2) hn240
    rw [show (sR τ3 89 c.2.2) 97 = τ3 97 from rfl, show (sR τ3 89 c.2.2) 86 = τ3 86 from rfl, h86] at e248
    have e28 : τ3 28 = c.2.1 := by rw [← hτ3, w2_o _ _ _ (by decide) (by decide), u2 28 (by decide), w2_p _ _ _ (by decide)]
    have e44 : τ3 44 = c.2.2 := by rw [← hτ3, w2_o _ _ _ (by decide) (by decide), u2 44 (by decide), w2_q]
    generalize hτ4 : sR (sR τ3 89 c.2.2) 86 c.2.1 = τ4 at e248
    have v : ∀ p, p ≠ 54 → p ≠ 56 → p ≠ 96 → p ≠ 97 → p ≠ 28 → p ≠ 44 → p ≠ 86 → p ≠ 89 → τ4 p = σ p := fun p a b c d e f g h => by rw [← hτ4, sR_ne _ _ g, sR_ne _ _ h, v3 p a b c d e f]
    have x28 : τ4 28 = c.2.1 := by rw [← hτ4, sR_ne _ _ (by decide), sR_ne _ _ (by decide), e28]
    have x44 : τ4 44 = c.2.2 := by rw [← hτ4, sR_ne _ _ (by decide), sR_ne _ _ (by decide), e44]
    have x86 : τ4 86 = c.2.1 := by rw [← hτ4, sR_at]
    have x89 : τ4 89 = c.2.2 := by rw [← hτ4, sR_ne _ _ (by decide), sR_at]
    have v8 : ∀ p, p = 18 ∨ p = 20 ∨ p = 22 ∨ p = 24 ∨ p = 26 ∨ p = 30 ∨ p = 32 ∨ p = 34 ∨ p = 3 ∨ p = 42 ∨ p = 47 ∨ p = 49 ∨ p = 51 ∨ p = 52 ∨ p = 57 ∨ p = 59 ∨ p = 76 ∨ p = 82 ∨ p = 83 ∨ p = 84 ∨ p = 85 ∨ p = 87 ∨ p = 88 → τ4 p = σ p := fun p hp => by rcases hp with rfl | rfl | rfl | rfl | rfl | rfl | rfl | rfl | rfl | rfl | rfl | rfl | rfl | rfl | rfl | rfl | rfl | rfl | rfl | rfl | rfl | rfl | rfl <;> exact v _ (by decide) (by decide) (by decide) (by decide) (by decide) (by decide) (by decide) (by decide)
    refine ⟨c.1, w2 τ 28 44 c.2.1 c.2.2, τ4, ?_, ?_, w, h, m, q, n, S, pt, ?_, ?_, ?_, ?_, ?_⟩
    · unfold F_Shop_broken F_Painter_makeAnew
      rw [if_pos h1, if_pos h2, if_neg (show ¬ σ 52 0 = 0 by rw [p1]; exact hpt), hτ, ob_of hy]
      rfl
    · unfold F_Ref_broken
      have t76 : (w2 τ 28 44 c.2.1 c.2.2) 76 = σ 76 := by rw [w2_o _ _ _ (by decide) (by decide), t 76 (by decide) (by decide)]
      have e0 : F_Ref_noSheet (w2 τ 28 44 c.2.1 c.2.2) (nI s) = 0 := by rw [← h3]; unfold F_Ref_noSheet; rw [t76]
      rw [e0, if_pos (show (0 : Int32) ≤ 0 by decide), if_neg (show ¬ (w2 τ 28 44 c.2.1 c.2.2) 76 8 = 0 by rw [t76, p2]; exact hpt), ob_of e24, ob_of hy2]
      rw [Sum.elim_inl]
      dsimp only
      rw [ob_of e218, ob_of e248]
    · exact RD_c (fun p hp => by rcases hp with rfl | rfl | rfl <;> exact v _ (by decide) (by decide) (by decide) (by decide) (by decide) (by decide) (by decide) (by decide)) (by rw [v8 76 (by decide)]) (by rw [v8 76 (by decide)]) hD
    · exact RF_c (fun p hp => by rcases hp with rfl | rfl | rfl | rfl | rfl | rfl | rfl | rfl | rfl | rfl <;> exact v _ (by decide) (by decide) (by decide) (by decide) (by decide) (by decide) (by decide) (by decide)) hF
    · obtain ⟨g1, g2, g3, g4, g5⟩ := hL
      refine ⟨by rw [v8 42 (by decide)]; exact g1, by rw [v8 76 (by decide)]; exact g2, g3, by rw [x89, x44], ?_⟩
      rw [v8 47 (by decide), v8 49 (by decide), v8 51 (by decide), v8 88 (by decide)]
      exact g5
    · exact RH_c (fun p hp => by rcases hp with rfl | rfl | rfl | rfl | rfl <;> exact v _ (by decide) (by decide) (by decide) (by decide) (by decide) (by decide) (by decide) (by decide)) (by rw [v8 76 (by decide)]) hH
    · refine ⟨?_, ?_, ?_, ?_, ?_, ?_, ?_⟩
      · rw [v8 18 (by decide), v8 76 (by decide)]; exact ⟨c1, c2, hn240, c4⟩
      · rw [v8 52 (by decide), v8 76 (by decide)]; exact ⟨p1, p2, p3⟩
      · rw [v8 57 (by decide), v8 76 (by decide)]; exact hS
      · rw [v8 82 (by decide), v8 83 (by decide), v8 84 (by decide), v8 85 (by decide), v8 87 (by decide), v8 20 (by decide), v8 22 (by decide), v8 24 (by decide), v8 26 (by decide), v8 30 (by decide), x86, x28]
        exact ⟨k1, k2, k3, k4, rfl, k6⟩
      · intro hn
        obtain ⟨r, l, z, f, hv, hcut⟩ := hcv hn
        exact ⟨r, l, z, f, Cov_c (fun p hp => by rcases hp with rfl | rfl | rfl | rfl | rfl | rfl <;> exact v8 _ (by decide)) hv, fun hS => CutI_c (fun p hp => by rcases hp with rfl | rfl | rfl <;> exact v8 _ (by decide)) (hcut hS)⟩
      · intro i hi
        rw [x28]
        have hpt2 : pt = true := by cases pt with
          | true => rfl
          | false => exact absurd rfl hpt
        rcases i2 i (hA i hi) with h1 | h1
        · exact Or.inl h1
        · exact Or.inr ⟨hpt2, h1⟩
      · rw [v8 30 (by decide), v8 32 (by decide)]; exact h0
