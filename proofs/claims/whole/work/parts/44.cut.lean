/-! cut: borders, the nearest border -/
theorem Cov_ps {σ : SG} {w h n : Nat} {r l z f : Nat → Nat} (hv : Cov σ w h n r l z f) : ∀ {d i : Nat}, i + d + 1 < n → ps w r l i + z i ≤ ps w r l (i + d + 1) := by
  intro d
  induction d with
  | zero =>
    intro i hi
    rw [Nat.add_zero, Cov_step hv (by omega)]
    exact Nat.le_refl _
  | succ d ih =>
    intro i hi
    have h1 := ih (i := i) (by omega)
    have h2 := Cov_step hv (i := i + d + 1) (by omega)
    rw [show i + (d + 1) + 1 = i + d + 1 + 1 by omega, h2]
    omega
theorem Cov_mono {σ : SG} {w h n : Nat} {r l z f : Nat → Nat} (hv : Cov σ w h n r l z f) {k i : Nat} (hk : k < i) (hi : i < n) (hr : r k = r i) : l k + z k ≤ l i := by
  obtain ⟨d, rfl⟩ : ∃ d, i = k + d + 1 := ⟨i - k - 1, by omega⟩
  have h1 := Cov_ps hv hi
  unfold ps at h1
  rw [hr] at h1
  omega
theorem Cov_r {σ : SG} {w h n : Nat} {r l z f : Nat → Nat} (hv : Cov σ w h n r l z f) : ∀ {d i : Nat}, i + d < n → r i ≤ r (i + d) := by
  intro d
  induction d with
  | zero => intro i _; exact Nat.le_refl _
  | succ d ih =>
    intro i hi
    have h1 := ih (i := i) (by omega)
    rcases hv.2.2.2.1 (i + d) (by omega) with ⟨h2, -⟩ | ⟨h2, -⟩
    · rw [show i + (d + 1) = i + d + 1 by omega, h2]; exact h1
    · rw [show i + (d + 1) = i + d + 1 by omega, h2]; omega
/-- a border of row y -/
def bord (n : Nat) (r l z : Nat → Nat) (y b : Nat) : Prop := b = 0 ∨ ∃ i, i < n ∧ r i = y ∧ l i + z i = b
theorem Cov_w {σ : SG} {w h n : Nat} {r l z f : Nat → Nat} (hn : 0 < n) (hv : Cov σ w h n r l z f) (hw : 1 ≤ w) {y : Nat} (hy : y < h) : bord n r l z y w := by
  obtain ⟨i, hi, h1, h2, h3⟩ := Cov_at hn hv (x := w - 1) (by omega) hy
  have := (hv.1 i hi).2.2.2.2.2.2.2.1
  exact Or.inr ⟨i, hi, h1, by omega⟩
theorem isB_iff {σ : SG} {w h n : Nat} {r l z f : Nat → Nat} (hD : RD σ w h) (hn : 0 < n) (h240 : n ≤ 240) (hv : Cov σ w h n r l z f) {y : Nat} (hy : y < h) (x : Int32) : F_Sheets_isBorder σ x (nI y) = true ↔ ∃ b, x = nI b ∧ bord n r l z y b := by
  obtain ⟨d1, d2, -, -, hw1, hw2, hh1, hh2, -, -⟩ := id hD
  have hov : ∀ b i, b < w → i < n → r i = y → l i ≤ b → b < l i + z i → rg σ 22 240 (F_Cubes_over σ (nI b) (nI y)) = nI (l i) := by
    intro b i hb hi hr h1 h2
    have hc := (hv.1 i hi)
    have h34 := (hc.2.2.2.2.2.2.2.2.2 b h1 h2).2
    have hp := pl_lt hD hb hy
    unfold F_Cubes_over
    rw [pl_nI, rg_nI hp (by decide), ← hr, h34, rg_nI (by omega) (by decide), hc.2.1]
  unfold F_Sheets_isBorder
  rw [d1]
  by_cases hx : x = nI w
  · rw [if_pos hx]
    exact ⟨fun _ => ⟨w, hx, Cov_w hn hv hw1 hy⟩, fun _ => rfl⟩
  · rw [if_neg hx]
    constructor
    · intro h1
      by_cases hh : F_Drawing_has σ x (nI y) = true
      · rw [if_pos hh] at h1
        obtain ⟨b, y', hb, hy', rfl, e⟩ := has_nI hD hh
        obtain ⟨i, hi, h2, h3, h4⟩ := Cov_at hn hv hb hy
        rw [hov b i hb hi h2 h3 h4] at h1
        refine ⟨b, rfl, ?_⟩
        by_cases hl : nI (l i) = nI b
        · rw [nI_eq (by omega) (by omega)] at hl
          by_cases hb0 : b = 0
          · exact Or.inl hb0
          · obtain ⟨k, hk, g2, g3, g4⟩ := Cov_at hn hv (x := b - 1) (by omega) hy
            rcases Nat.lt_trichotomy k i with c | c | c
            · have := Cov_mono hv c hi (by omega)
              exact Or.inr ⟨k, hk, g2, by omega⟩
            · subst c; omega
            · have := Cov_mono hv c hk (by omega)
              omega
        · rw [if_neg hl] at h1
          cases h1
      · rw [if_neg hh] at h1
        cases h1
    · rintro ⟨b, rfl, hb⟩
      have hbw : b ≠ w := fun e => hx (by rw [e])
      have hbl : b < w := by
        rcases hb with rfl | ⟨i, hi, -, e⟩
        · omega
        · have := (hv.1 i hi).2.2.2.2.2.2.2.1
          omega
      rw [if_pos (has_of hD hbl hy)]
      obtain ⟨i, hi, h2, h3, h4⟩ := Cov_at hn hv hbl hy
      rw [hov b i hbl hi h2 h3 h4]
      have : l i = b := by
        rcases hb with rfl | ⟨k, hk, g2, g3⟩
        · omega
        · rcases Nat.lt_trichotomy k i with c | c | c
          · have := Cov_mono hv c hi (by omega)
            omega
          · subst c; omega
          · have := Cov_mono hv c hk (by omega)
            omega
      rw [this, if_pos rfl]
def dst2 (g x : Nat) : Nat := (g - x) + (x - g)
/-- v is the nearest border, the left of two -/
def NB (n : Nat) (r l z : Nat → Nat) (y g v : Nat) : Prop := bord n r l z y v ∧ ∀ x, bord n r l z y x → dst2 g v < dst2 g x ∨ (dst2 g v = dst2 g x ∧ v ≤ x)
theorem NB_u {n : Nat} {r l z : Nat → Nat} {y g v v' : Nat} (h : NB n r l z y g v) (h' : NB n r l z y g v') : v = v' := by
  rcases h.2 v' h'.1 with h1 | ⟨h1, h2⟩ <;> rcases h'.2 v h.1 with h3 | ⟨h3, h4⟩ <;> omega
/-- the reference's way -/
def nbS (r l z : Nat → Nat) (y g : Nat) : Nat → Nat
  | 0 => 0
  | i + 1 => if r i = y then (if dst2 g (nbS r l z y g i) ≤ dst2 g (l i + z i) then nbS r l z y g i else l i + z i) else nbS r l z y g i
theorem nbS_bord {n : Nat} {r l z : Nat → Nat} {y g : Nat} : ∀ {i : Nat}, i ≤ n → bord n r l z y (nbS r l z y g i)
  | 0, _ => Or.inl rfl
  | i + 1, h => by
    rw [nbS]
    by_cases h1 : r i = y
    · rw [if_pos h1]
      by_cases h2 : dst2 g (nbS r l z y g i) ≤ dst2 g (l i + z i)
      · rw [if_pos h2]; exact nbS_bord (by omega)
      · rw [if_neg h2]; exact Or.inr ⟨i, by omega, h1, rfl⟩
    · rw [if_neg h1]; exact nbS_bord (by omega)
theorem nbS_inv {σ : SG} {w h n : Nat} {r l z f : Nat → Nat} (hv : Cov σ w h n r l z f) {y g : Nat} : ∀ {i : Nat}, i ≤ n → (nbS r l z y g i = 0 ∨ ∃ k, k < i ∧ r k = y ∧ nbS r l z y g i = l k + z k) ∧ ∀ x, (x = 0 ∨ ∃ k, k < i ∧ r k = y ∧ l k + z k = x) → dst2 g (nbS r l z y g i) < dst2 g x ∨ (dst2 g (nbS r l z y g i) = dst2 g x ∧ nbS r l z y g i ≤ x) := by
  intro i
  induction i with
  | zero =>
    intro _
    refine ⟨Or.inl rfl, ?_⟩
    rintro x (rfl | ⟨k, hk, -⟩)
    · exact Or.inr ⟨rfl, Nat.le_refl _⟩
    · omega
  | succ i ih =>
    intro hi
    obtain ⟨i1, i2⟩ := ih (by omega)
    rw [nbS]
    by_cases h1 : r i = y
    · rw [if_pos h1]
      have hle : nbS r l z y g i ≤ l i + z i := by
        rcases i1 with e | ⟨k, hk, hr, e⟩
        · omega
        · have := Cov_mono hv hk (by omega) (by omega)
          omega
      by_cases h2 : dst2 g (nbS r l z y g i) ≤ dst2 g (l i + z i)
      · rw [if_pos h2]
        refine ⟨?_, ?_⟩
        · rcases i1 with e | ⟨k, hk, hr, e⟩
          · exact Or.inl e
          · exact Or.inr ⟨k, by omega, hr, e⟩
        · rintro x (rfl | ⟨k, hk, hr, e⟩)
          · exact i2 0 (Or.inl rfl)
          · by_cases hki : k = i
            · subst hki
              rw [← e]
              omega
            · exact i2 x (Or.inr ⟨k, by omega, hr, e⟩)
      · rw [if_neg h2]
        refine ⟨Or.inr ⟨i, by omega, h1, rfl⟩, ?_⟩
        rintro x (rfl | ⟨k, hk, hr, e⟩)
        · rcases i2 0 (Or.inl rfl) with c | ⟨c, -⟩ <;> omega
        · by_cases hki : k = i
          · subst hki
            rw [← e]
            exact Or.inr ⟨rfl, Nat.le_refl _⟩
          · rcases i2 x (Or.inr ⟨k, by omega, hr, e⟩) with c | ⟨c, -⟩ <;> omega
    · rw [if_neg h1]
      refine ⟨?_, ?_⟩
      · rcases i1 with e | ⟨k, hk, hr, e⟩
        · exact Or.inl e
        · exact Or.inr ⟨k, by omega, hr, e⟩
      · rintro x (rfl | ⟨k, hk, hr, e⟩)
        · exact i2 0 (Or.inl rfl)
        · have : k ≠ i := fun e => h1 (by rw [← e]; exact hr)
          exact i2 x (Or.inr ⟨k, by omega, hr, e⟩)
theorem nbS_NB {σ : SG} {w h n : Nat} {r l z f : Nat → Nat} (hv : Cov σ w h n r l z f) (y g : Nat) : NB n r l z y g (nbS r l z y g n) :=
  ⟨nbS_bord (Nat.le_refl n), fun x hx => (nbS_inv hv (Nat.le_refl n)).2 x hx⟩
theorem nbR {σ : SG} {w h n : Nat} {r l z f : Nat → Nat} (hw2 : w ≤ 24) (hh : h ≤ 10) (c2 : σ 76 10 = nI n) (h240 : n ≤ 240) (k1 : σ 82 = σ 20) (k2 : σ 83 = σ 22) (k3 : σ 84 = σ 24) (hv : Cov σ w h n r l z f) {y g : Nat} (hy : y < h) (hg : g ≤ w) : F_Ref_nearestBorder σ (nI y) (nI g) = some (nI (nbS r l z y g n)) := by
  have hl : lpW (L_Ref_nearestBorder_5 σ (nI y) (nI g)) FU (0, 0) = some (nI (nbS r l z y g n)) := by
    refine lpW_at (s := fun i => (nI (nbS r l z y g i), nI i)) n rfl ?_ ?_ (by omega)
    · intro i hi
      obtain ⟨g1, g2, g3, g4, g5, g6, g7, g8, -⟩ := hv.1 i hi
      have hii : ix (nI i) = i := ix_nI (by omega)
      have hb : nbS r l z y g i ≤ w := by
        rcases nbS_bord (n := n) (r := r) (l := l) (z := z) (y := y) (g := g) (i := i) (by omega) with e | ⟨k, hk, -, e⟩
        · omega
        · have := (hv.1 k hk).2.2.2.2.2.2.2.1
          omega
      unfold L_Ref_nearestBorder_5
      dsimp only
      rw [c2, if_neg (nI_ge hi (by omega)), vin_nI (show i < 240 by omega) (by decide), nI_1, nbS]
      simp only [og_t]
      rw [hii, k1, k2, k3, g1, g2, g3, nI_add]
      generalize nbS r l z y g i = B at hb
      by_cases h1 : r i = y
      rotate_left
      · rw [if_neg (show ¬ nI (r i) = nI y by rw [nI_eq (by omega) (by omega)]; exact h1), if_neg h1]
      rw [if_pos (show nI (r i) = nI y by rw [h1]), if_pos h1]
      unfold dst2
      by_cases h2 : l i + z i ≤ g
      · rw [if_pos (nI_le h2 (by omega))]
        by_cases h3 : B ≤ g
        · rw [if_pos (nI_le h3 (by omega)), pk_sub h3, pk_sub h2]
          by_cases h4 : g - B ≤ g - (l i + z i)
          · rw [if_pos (nI_le h4 (by omega)), if_pos (by omega)]
          · rw [if_neg (nI_ge (by omega) (by omega)), if_neg (by omega)]
        · rw [if_neg (nI_ge (by omega) (by omega)), pk_sub (show g ≤ B by omega), pk_sub h2]
          by_cases h4 : B - g ≤ g - (l i + z i)
          · rw [if_pos (nI_le h4 (by omega)), if_pos (by omega)]
          · rw [if_neg (nI_ge (by omega) (by omega)), if_neg (by omega)]
      · rw [if_neg (nI_ge (by omega) (by omega))]
        by_cases h3 : B ≤ g
        · rw [if_pos (nI_le h3 (by omega)), pk_sub h3, pk_sub (show g ≤ l i + z i by omega)]
          by_cases h4 : g - B ≤ l i + z i - g
          · rw [if_pos (nI_le h4 (by omega)), if_pos (by omega)]
          · rw [if_neg (nI_ge (by omega) (by omega)), if_neg (by omega)]
        · rw [if_neg (nI_ge (by omega) (by omega)), pk_sub (show g ≤ B by omega), pk_sub (show g ≤ l i + z i by omega)]
          by_cases h4 : B - g ≤ l i + z i - g
          · rw [if_pos (nI_le h4 (by omega)), if_pos (by omega)]
          · rw [if_neg (nI_ge (by omega) (by omega)), if_neg (by omega)]
    · unfold L_Ref_nearestBorder_5
      dsimp only
      rw [c2, if_pos (nI_le (Nat.le_refl n) (by omega))]
  unfold F_Ref_nearestBorder
  rw [ob_of hl]
theorem least_of {P : Nat → Prop} : ∀ {N : Nat}, P N → ∃ d, d ≤ N ∧ P d ∧ ∀ e, e < d → ¬ P e := by
  intro N
  induction N using Nat.strongRecOn with
  | _ N ih =>
    intro hN
    by_cases h : ∃ k, k < N ∧ P k
    · obtain ⟨k, hk, hP⟩ := h
      obtain ⟨d, a, b, c⟩ := ih k hk hP
      exact ⟨d, by omega, b, c⟩
    · exact ⟨N, Nat.le_refl _, hN, fun e he hP => h ⟨e, he, hP⟩⟩
theorem nbC {σ : SG} {w h n : Nat} {r l z f : Nat → Nat} (hD : RD σ w h) (hn : 0 < n) (h240 : n ≤ 240) (hv : Cov σ w h n r l z f) {y g : Nat} (hy : y < h) (hg : g ≤ w) : F_Sheets_cutNear σ (nI g) (nI y) = some (nI (nbS r l z y g n)) := by
  obtain ⟨d1, d2, -, -, hw1, hw2, hh1, hh2, -, -⟩ := id hD
  obtain ⟨d, hd, hP, hmin⟩ := least_of (P := fun d => bord n r l z y (g - d) ∨ bord n r l z y (g + d)) (N := g) (Or.inl (Or.inl (by omega)))
  have hbw : ∀ b, bord n r l z y b → b ≤ w := by
    rintro b (e | ⟨k, hk, -, e⟩)
    · omega
    · have := (hv.1 k hk).2.2.2.2.2.2.2.1
      omega
  have hfar : ∀ x, bord n r l z y x → d ≤ dst2 g x := by
    intro x hx
    have : ¬ dst2 g x < d := by
      intro hlt
      refine hmin _ hlt ?_
      unfold dst2 at hlt ⊢
      rcases Nat.le_total x g with c | c
      · left
        rw [show g - (g - x + (x - g)) = x by omega]; exact hx
      · right
        rw [show g + (g - x + (x - g)) = x by omega]; exact hx
    omega
  have hl : ∀ {v : Nat}, F_Sheets_isBorder σ (nI g - nI d) (nI y) = true ∧ v = g - d ∨ ¬ F_Sheets_isBorder σ (nI g - nI d) (nI y) = true ∧ F_Sheets_isBorder σ (nI g + nI d) (nI y) = true ∧ v = g + d → lpW (L_Sheets_cutNear_2 σ (nI g) (nI y)) FU 0 = some (.inr (nI v)) := by
    intro v hv2
    refine lpW_at (s := fun i => nI i) d rfl ?_ ?_ (by omega)
    · intro i hi
      have hno := hmin i hi
      unfold L_Sheets_cutNear_2
      rw [d1, if_neg (nI_nlt (by omega) (by omega)), if_neg ?_, if_neg ?_, nI_1]
      · intro hb
        rw [nI_add, isB_iff hD hn h240 hv hy] at hb
        obtain ⟨b, e, hb⟩ := hb
        have := hbw b hb
        rw [nI_eq (by omega) (by omega)] at e
        exact hno (Or.inr (e ▸ hb))
      · intro hb
        rw [pk_sub (by omega), isB_iff hD hn h240 hv hy] at hb
        obtain ⟨b, e, hb⟩ := hb
        have := hbw b hb
        rw [nI_eq (by omega) (by omega)] at e
        exact hno (Or.inl (e ▸ hb))
    · unfold L_Sheets_cutNear_2
      rw [d1, if_neg (nI_nlt (by omega) (by omega))]
      rcases hv2 with ⟨h1, rfl⟩ | ⟨h1, h2, rfl⟩
      · rw [if_pos h1, pk_sub hd]
      · rw [if_neg h1, if_pos h2, nI_add]
  have hfin : ∀ v, NB n r l z y g v → lpW (L_Sheets_cutNear_2 σ (nI g) (nI y)) FU 0 = some (.inr (nI v)) → F_Sheets_cutNear σ (nI g) (nI y) = some (nI (nbS r l z y g n)) := by
    intro v h1 h2
    unfold F_Sheets_cutNear
    rw [ob_of h2, NB_u h1 (nbS_NB hv y g)]
    rfl
  by_cases hb : bord n r l z y (g - d)
  · refine hfin (g - d) ⟨hb, fun x hx => ?_⟩ (hl (Or.inl ⟨?_, rfl⟩))
    · have := hfar x hx
      unfold dst2 at this ⊢
      omega
    · rw [pk_sub hd, isB_iff hD hn h240 hv hy]
      exact ⟨_, rfl, hb⟩
  · have hb2 := hP.resolve_left hb
    have := hbw _ hb2
    refine hfin (g + d) ⟨hb2, fun x hx => ?_⟩ (hl (Or.inr ⟨?_, ?_, rfl⟩))
    · have := hfar x hx
      have hne : x ≠ g - d := fun e => hb (e ▸ hx)
      unfold dst2 at this ⊢
      omega
    · rw [pk_sub hd, isB_iff hD hn h240 hv hy]
      rintro ⟨b, e, h2⟩
      have := hbw b h2
      rw [nI_eq (by omega) (by omega)] at e
      exact hb (e ▸ h2)
    · rw [nI_add, isB_iff hD hn h240 hv hy]
      exact ⟨_, rfl, hb2⟩
/-! how many cuts are not right of x -/
def cj (V : Nat → Nat) (x b : Nat) : Nat → Nat
  | 0 => 0
  | j + 1 => if V ((j + 1) * b) ≤ x then cj V x b j + 1 else cj V x b j
theorem cj_le {V : Nat → Nat} {x b : Nat} : ∀ j, cj V x b j ≤ j
  | 0 => Nat.le_refl 0
  | j + 1 => by
    have := cj_le (V := V) (x := x) (b := b) j
    rw [cj]
    by_cases h : V ((j + 1) * b) ≤ x
    · rw [if_pos h]; omega
    · rw [if_neg h]; omega
theorem cj_mono {V : Nat → Nat} {x x' b : Nat} (hx : x ≤ x') : ∀ j, cj V x b j ≤ cj V x' b j
  | 0 => Nat.le_refl 0
  | j + 1 => by
    have := cj_mono (V := V) (b := b) hx j
    rw [cj, cj]
    by_cases h : V ((j + 1) * b) ≤ x
    · rw [if_pos h, if_pos (by omega)]; omega
    · rw [if_neg h]
      by_cases h2 : V ((j + 1) * b) ≤ x'
      · rw [if_pos h2]; omega
      · rw [if_neg h2]; omega
theorem goal_lt {w b j : Nat} (hw : 1 ≤ w) (hb : 1 ≤ b) : j < (w - 1) / b ↔ (j + 1) * b < w := by
  rw [Nat.lt_iff_add_one_le, Nat.le_div_iff_mul_le (by omega)]
  omega
theorem clC {σ : SG} {w h n : Nat} {r l z f : Nat → Nat} (hD : RD σ w h) (hn : 0 < n) (h240 : n ≤ 240) (hv : Cov σ w h n r l z f) {i b : Nat} (hi : i < n) (hb1 : 1 ≤ b) (hb : b ≤ 24) : F_Sheets_cutsLeftOf σ (nI i) (nI b) = some (nI (cj (fun g => nbS r l z (r i) g n) (l i) b ((w - 1) / b))) := by
  obtain ⟨d1, d2, -, -, hw1, hw2, hh1, hh2, -, -⟩ := id hD
  obtain ⟨g1, g2, g3, g4, g5, g6, g7, g8, -⟩ := hv.1 i hi
  have hN : (w - 1) / b ≤ w := by have := Nat.div_le_self (w - 1) b; omega
  have hl : lpW (L_Sheets_cutsLeftOf_5 σ (nI i) (nI b)) FU (0, nI b) = some (nI (cj (fun g => nbS r l z (r i) g n) (l i) b ((w - 1) / b))) := by
    refine lpW_at (s := fun j => (nI (cj (fun g => nbS r l z (r i) g n) (l i) b j), nI ((j + 1) * b))) ((w - 1) / b) ?_ ?_ ?_ (by omega)
    · show (nI 0, nI ((0 + 1) * b)) = _
      rw [Nat.zero_add, Nat.one_mul]; rfl
    · intro j hj
      have hj2 := (goal_lt hw1 hb1).mp hj
      have hV : nbS r l z (r i) ((j + 1) * b) n ≤ w := by
        rcases nbS_bord (n := n) (r := r) (l := l) (z := z) (y := r i) (g := (j + 1) * b) (Nat.le_refl n) with e | ⟨k, hk, -, e⟩
        · omega
        · have := (hv.1 k hk).2.2.2.2.2.2.2.1
          omega
      unfold L_Sheets_cutsLeftOf_5
      dsimp only
      rw [d1, if_neg (nI_ge hj2 (by omega)), rg_nI (show i < 240 by omega) (by decide), rg_nI (show i < 240 by omega) (by decide), g1, g2, ob_of (nbC hD hn h240 hv g5 (by omega)), cj, show mxI (nI b) 1 = nI b from ?_]
      · rw [nI_add, show (j + 1) * b + b = (j + 1 + 1) * b by rw [Nat.succ_mul (j + 1) b]]
        by_cases h1 : nbS r l z (r i) ((j + 1) * b) n ≤ l i
        · rw [if_neg (nI_nlt h1 (by omega)), if_pos h1, nI_1]
        · rw [if_pos (nI_lt (by omega) (by omega)), if_neg h1]
      · unfold mxI
        rw [if_neg (show ¬ nI b < 1 from nI_nlt (b := 1) hb1 (by omega))]
    · have : ¬ ((w - 1) / b + 1) * b < w := fun h => absurd ((goal_lt hw1 hb1).mpr h) (Nat.lt_irrefl _)
      have h2 : ((w - 1) / b + 1) * b < 1000 := by
        have := Nat.div_mul_le_self (w - 1) b
        rw [Nat.succ_mul]
        omega
      unfold L_Sheets_cutsLeftOf_5
      dsimp only
      rw [d1, if_pos (nI_le (by omega) (by omega))]
  unfold F_Sheets_cutsLeftOf
  rw [ob_of hl]
theorem clR {σ : SG} {w h n : Nat} {r l z f : Nat → Nat} (hD : RD σ w h) (c2 : σ 76 10 = nI n) (h240 : n ≤ 240) (k1 : σ 82 = σ 20) (k2 : σ 83 = σ 22) (k3 : σ 84 = σ 24) (hv : Cov σ w h n r l z f) {i b : Nat} {x0 : Int32} (hi : i < n) (hb1 : 1 ≤ b) (hb : b ≤ 24) : lpW (L_Ref_cut_78 (nI b) (x0, σ) (nI i)) FU (0, nI b) = some (nI (cj (fun g => nbS r l z (r i) g n) (l i) b ((w - 1) / b))) := by
  obtain ⟨-, -, d1, d2, hw1, hw2, hh1, hh2, -, -⟩ := id hD
  obtain ⟨g1, g2, g3, g4, g5, g6, g7, g8, -⟩ := hv.1 i hi
  have hN : (w - 1) / b ≤ w := by have := Nat.div_le_self (w - 1) b; omega
  have hii : ix (nI i) = i := ix_nI (by omega)
  refine lpW_at (s := fun j => (nI (cj (fun g => nbS r l z (r i) g n) (l i) b j), nI ((j + 1) * b))) ((w - 1) / b) ?_ ?_ ?_ (by omega)
  · show (nI 0, nI ((0 + 1) * b)) = _
    rw [Nat.zero_add, Nat.one_mul]; rfl
  · intro j hj
    have hj2 := (goal_lt hw1 hb1).mp hj
    have hV : nbS r l z (r i) ((j + 1) * b) n ≤ w := by
      rcases nbS_bord (n := n) (r := r) (l := l) (z := z) (y := r i) (g := (j + 1) * b) (Nat.le_refl n) with e | ⟨k, hk, -, e⟩
      · omega
      · have := (hv.1 k hk).2.2.2.2.2.2.2.1
        omega
    unfold L_Ref_cut_78
    dsimp only
    rw [if_neg (show ¬ σ 76 0 ≤ nI ((j + 1) * b) by rw [d1]; exact nI_ge hj2 (by omega)), vin_nI (show i < 240 by omega) (by decide)]
    simp only [og_t]
    rw [hii, show σ 82 i = nI (r i) by rw [k1]; exact g1, ob_of (nbR hw2 hh2 c2 h240 k1 k2 k3 hv g5 (by omega)), cj, nI_add, show (j + 1) * b + b = (j + 1 + 1) * b by rw [Nat.succ_mul (j + 1) b]]
    have e83 : σ 83 i = nI (l i) := by rw [k2]; exact g2
    by_cases h1 : nbS r l z (r i) ((j + 1) * b) n ≤ l i
    · rw [if_neg (show ¬ σ 83 i < _ by rw [e83]; exact nI_nlt h1 (by omega)), if_pos h1, nI_1]
    · rw [if_pos (show σ 83 i < nI (nbS r l z (r i) ((j + 1) * b) n) by rw [e83]; exact nI_lt (by omega) (by omega)), if_neg h1, Int32.add_zero]
  · have : ¬ ((w - 1) / b + 1) * b < w := fun h => absurd ((goal_lt hw1 hb1).mpr h) (Nat.lt_irrefl _)
    have h2 : ((w - 1) / b + 1) * b < 1000 := by
      have := Nat.div_mul_le_self (w - 1) b
      rw [Nat.succ_mul]
      omega
    unfold L_Ref_cut_78
    dsimp only
    rw [if_pos (show σ 76 0 ≤ nI (((w - 1) / b + 1) * b) by rw [d1]; exact nI_le (by omega) (by omega))]
theorem rU {x b : Nat} (hx : x < 1000000) (hb1 : 1 ≤ b) (hb : b < 1000) : F_Shop_roundedUp (nI x) (nI b) = some (nI ((x + b - 1) / b)) := by
  unfold F_Shop_roundedUp
  rw [if_pos (show (1 : Int32) ≤ nI b from nI_le (a := 1) hb1 (by omega)), show nz (nI b) = true from decide_eq_true (nI_ne0 hb1 (by omega)), og_t, nI_add, nI_sub1 (by omega), pk_div (by omega) hb1 (by omega)]
/-! the sheet of a cube -/
def shN (n : Nat) (r l z : Nat → Nat) (w a b i : Nat) : Nat := r i / a * ((w + b - 1) / b) + cj (fun g => nbS r l z (r i) g n) (l i) b ((w - 1) / b)
theorem cols_eq {w b : Nat} (hw : 1 ≤ w) (hb : 1 ≤ b) : (w + b - 1) / b = (w - 1) / b + 1 := by
  rw [show w + b - 1 = (w - 1) + b by omega, Nat.add_div_right _ hb]
theorem shN_lt {n : Nat} {r l z : Nat → Nat} {w h a b i : Nat} (hw : 1 ≤ w) (hh : 1 ≤ h) (ha : 1 ≤ a) (hb : 1 ≤ b) (hr : r i < h) : shN n r l z w a b i < (h + a - 1) / a * ((w + b - 1) / b) := by
  unfold shN
  rw [cols_eq hw hb, cols_eq hh ha]
  have h1 := cj_le (V := fun g => nbS r l z (r i) g n) (x := l i) (b := b) ((w - 1) / b)
  have h2 : r i / a ≤ (h - 1) / a := Nat.div_le_div_right (by omega)
  have h3 := Nat.mul_le_mul_right ((w - 1) / b + 1) h2
  rw [Nat.succ_mul]
  omega
theorem band_le {h a m : Nat} (hh1 : 1 ≤ h) (hh : h ≤ m) (ha : 1 ≤ a) : (h + a - 1) / a ≤ m ∧ 1 ≤ (h + a - 1) / a := by
  rw [cols_eq hh1 ha]
  have := Nat.div_le_self (h - 1) a
  generalize (h - 1) / a = q at this ⊢
  omega
/-- the class's row of weights on the way -/
def wtS (s z : Nat → Nat) (g : Nat → Int32) (i : Nat) : Nat → Int32 := fun t => if t < 240 then nI (sm (fun k => decide (s k = t)) z i) else g t
theorem wtS_s {s z : Nat → Nat} {g : Nat → Int32} {i : Nat} (hs : s i < 240) : upd (wtS s z g i) (s i) (wtS s z g i (s i) + nI (z i)) = wtS s z g (i + 1) := by
  funext t
  unfold upd wtS
  by_cases h : t = s i
  · rw [if_pos h, if_pos hs, if_pos (by omega), sm, if_pos (by rw [h]; exact decide_eq_true rfl), nI_add, h]
  · rw [if_neg h, sm, if_neg (show ¬ decide (s i = t) = true from fun e => h (of_decide_eq_true e).symm), Nat.add_zero]
theorem cutC {σ : SG} {w h n : Nat} {r l z f : Nat → Nat} (hD : RD σ w h) (hn : 0 < n) (c1 : σ 18 0 = nI n) (h240 : n ≤ 240) (hv : Cov σ w h n r l z f) {a b : Nat} (ha1 : 1 ≤ a) (ha : a ≤ 10) (hb1 : 1 ≤ b) (hb : b ≤ 24) (hs : ∀ i, i < n → shN n r l z w a b i < 240) : lpW (L_Sheets_cutWall_40 (nI a) (nI b) (nI ((w + b - 1) / b))) FU (0, rf σ 59 240 0) = some (w2 σ 30 59 (rowF (fun k => nI (shN n r l z w a b k)) (σ 30) n) (wtS (shN n r l z w a b) z (σ 59) n)) := by
  obtain ⟨d1, d2, -, -, hw1, hw2, hh1, hh2, -, -⟩ := id hD
  refine lpW_at (s := fun i => (nI i, w2 σ 30 59 (rowF (fun k => nI (shN n r l z w a b k)) (σ 30) i) (wtS (shN n r l z w a b) z (σ 59) i))) n ?_ ?_ ?_ (by omega)
  · rw [rowF_0]
    unfold w2
    rw [sR_self, rf_sR]
    rfl
  · intro i hi
    obtain ⟨g1, g2, g3, g4, g5, g6, g7, g8, -⟩ := hv.1 i hi
    have hi2 : i < 240 := by omega
    unfold L_Sheets_cutWall_40
    dsimp only
    rw [nI_1, ← rowF_s, ← wtS_s (hs i hi)]
    generalize rowF (fun k => nI (shN n r l z w a b k)) (σ 30) i = A
    generalize wtS (shN n r l z w a b) z (σ 59) i = B
    have hD' : RD (w2 σ 30 59 A B) w h := RD_c (fun p hp => by rcases hp with rfl | rfl | rfl <;> rfl) rfl rfl hD
    have hv' : Cov (w2 σ 30 59 A B) w h n r l z f := Cov_c (fun p hp => by rcases hp with rfl | rfl | rfl | rfl | rfl | rfl <;> rfl) hv
    rw [if_neg (show ¬ (w2 σ 30 59 A B) 18 0 ≤ nI i by rw [show (w2 σ 30 59 A B) 18 0 = nI n from c1]; exact nI_ge hi (by omega))]
    have e20 : rg (w2 σ 30 59 A B) 20 240 (nI i) = nI (r i) := by rw [rg_nI hi2 (by decide)]; exact g1
    have hband : F_Shop_roundedUp (rg (w2 σ 30 59 A B) 20 240 (nI i) + 1) (nI a) = some (nI (r i / a + 1)) := by
      rw [e20, nI_1, rU (by omega) ha1 (by omega), cols_eq (by omega) ha1]
      rfl
    rw [ob_of hband, ob_of (clC hD' hn h240 hv' hi hb1 hb), nI_pred, nI_mul, nI_add]
    unfold nm
    rw [show r i / a * ((w + b - 1) / b) + cj (fun g => nbS r l z (r i) g n) (l i) b ((w - 1) / b) = shN n r l z w a b i from rfl, rs_nI hi2 (by decide), up_w2p _ _ _ (by decide)]
    dsimp only
    rw [ra_nI (hs i hi) (by decide), w2_q, up_w2q, rg_nI hi2 (by decide), show ∀ A', (w2 σ 30 59 A' B) 24 i = nI (z i) from fun _ => g3]
  · unfold L_Sheets_cutWall_40
    dsimp only
    rw [if_pos (show (w2 σ 30 59 _ _) 18 0 ≤ nI n by rw [show ∀ A B, (w2 σ 30 59 A B) 18 0 = nI n from fun _ _ => c1]; exact nI_le (Nat.le_refl n) (by omega))]
theorem cutR {σ : SG} {w h n : Nat} {r l z f : Nat → Nat} (hD : RD σ w h) (c2 : σ 76 10 = nI n) (h240 : n ≤ 240) (k1 : σ 82 = σ 20) (k2 : σ 83 = σ 22) (k3 : σ 84 = σ 24) (hv : Cov σ w h n r l z f) {a b : Nat} (ha1 : 1 ≤ a) (ha : a ≤ 10) (hb1 : 1 ≤ b) (hb : b ≤ 24) : lpW (L_Ref_cut_63 (nI a) (nI b) (nI ((w + b - 1) / b))) FU (0, σ) = some (sR σ 87 (rowF (fun k => nI (shN n r l z w a b k)) (σ 87) n)) := by
  obtain ⟨-, -, d1, d2, hw1, hw2, hh1, hh2, -, -⟩ := id hD
  refine lpW_at (s := fun i => (nI i, sR σ 87 (rowF (fun k => nI (shN n r l z w a b k)) (σ 87) i))) n ?_ ?_ ?_ (by omega)
  · rw [rowF_0, sR_self]; rfl
  · intro i hi
    obtain ⟨g1, g2, g3, g4, g5, g6, g7, g8, -⟩ := hv.1 i hi
    have hi2 : i < 240 := by omega
    have hii : ix (nI i) = i := ix_nI (by omega)
    unfold L_Ref_cut_63
    dsimp only
    rw [nI_1, ← rowF_s]
    generalize rowF (fun k => nI (shN n r l z w a b k)) (σ 87) i = A
    have hD' : RD (sR σ 87 A) w h := RD_c (fun p hp => by rcases hp with rfl | rfl | rfl <;> rfl) rfl rfl hD
    have hv' : Cov (sR σ 87 A) w h n r l z f := Cov_c (fun p hp => by rcases hp with rfl | rfl | rfl | rfl | rfl | rfl <;> rfl) hv
    have hcl := clR (x0 := nI i) hD' c2 h240 k1 k2 k3 hv' hi hb1 hb
    rw [if_neg (show ¬ (sR σ 87 A) 76 10 ≤ nI i by rw [show (sR σ 87 A) 76 10 = nI n from c2]; exact nI_ge hi (by omega)), ob_of hcl, vin_nI hi2 (by decide), show nz (nI a) = true from decide_eq_true (nI_ne0 ha1 (by omega))]
    simp only [og_t]
    unfold nm
    rw [hii, show (sR σ 87 A) 82 i = nI (r i) by rw [← g1, ← k1]; rfl, pk_div (by omega) ha1 (by omega), nI_mul, nI_add, up_sR, sR_at, sR_sR]
    rfl
  · unfold L_Ref_cut_63
    dsimp only
    rw [if_pos (show (sR σ 87 _) 76 10 ≤ nI n by rw [show ∀ A, (sR σ 87 A) 76 10 = nI n from fun _ => c2]; exact nI_le (Nat.le_refl n) (by omega))]
/-! turned over -/
theorem sm_one {z : Nat → Nat} {j : Nat} : ∀ {n : Nat}, sm (fun k => decide (k = j)) z n = if j < n then z j else 0
  | 0 => rfl
  | n + 1 => by
    rw [sm, sm_one]
    by_cases h : n = j
    · subst h
      rw [if_neg (Nat.lt_irrefl n), if_pos (decide_eq_true rfl), if_pos (Nat.lt_succ_self n), Nat.zero_add]
    · rw [if_neg (show ¬ decide (n = j) = true from fun e => h (of_decide_eq_true e)), Nat.add_zero]
      by_cases h2 : j < n
      · rw [if_pos h2, if_pos (by omega)]
      · rw [if_neg h2, if_neg (by omega)]
theorem sm_or {p q t : Nat → Bool} {z : Nat → Nat} : ∀ {n : Nat}, (∀ i, i < n → t i = (p i || q i) ∧ (p i = true → q i = false)) → sm t z n = sm p z n + sm q z n
  | 0, _ => rfl
  | n + 1, h => by
    obtain ⟨h1, h2⟩ := h n (Nat.lt_succ_self n)
    rw [sm, sm, sm, sm_or (fun i hi => h i (Nat.lt_succ_of_lt hi)), h1]
    cases hp : p n with
    | true => rw [h2 hp]; simp; omega
    | false => cases hq : q n <;> simp <;> omega
def toT (n : Nat) (r s z : Nat → Nat) (i : Nat) : Nat := sm (fun k => decide (i < k) && (decide (r k = r i) && decide (s k = s i))) z n
theorem sm_none {p : Nat → Bool} {z : Nat → Nat} : ∀ {n : Nat}, (∀ i, i < n → p i = false) → sm p z n = 0
  | 0, _ => rfl
  | n + 1, h => by
    rw [sm, sm_none (fun i hi => h i (Nat.lt_succ_of_lt hi)), h n (Nat.lt_succ_self n)]
    rfl
theorem toT_next {n : Nat} {r s z : Nat → Nat} {i : Nat} (hi : i + 1 < n) (hr : r (i + 1) = r i) (hs : s (i + 1) = s i) : toT n r s z i = toT n r s z (i + 1) + z (i + 1) := by
  have h := sm_or (p := fun k => decide (i + 1 < k) && (decide (r k = r (i + 1)) && decide (s k = s (i + 1)))) (q := fun k => decide (k = i + 1)) (t := fun k => decide (i < k) && (decide (r k = r i) && decide (s k = s i))) (z := z) (n := n) (fun k hk => by
    rw [hr, hs]
    refine ⟨?_, ?_⟩
    · by_cases h1 : k = i + 1
      · subst h1
        simp [hr, hs]
      · by_cases h2 : i < k
        · have : i + 1 < k := by omega
          simp [h1, h2, this]
        · have : ¬ i + 1 < k := by omega
          simp [h1, h2, this]
    · intro h
      simp at h
      rw [decide_eq_false_iff_not]
      omega)
  unfold toT
  rw [h, sm_one, if_pos hi]
theorem toT_0 {n : Nat} {r s z : Nat → Nat} {i : Nat} (h : ∀ k, i < k → k < n → ¬ (r k = r i ∧ s k = s i)) : toT n r s z i = 0 := by
  unfold toT
  refine sm_none (fun k hk => ?_)
  by_cases h1 : i < k
  · have := h k h1 hk
    by_cases h2 : r k = r i
    · have h3 : ¬ s k = s i := fun e => this ⟨h2, e⟩
      simp [h3]
    · simp [h2]
  · simp [h1]
/-- a row filled from its end -/
def rowE (T f : Nat → Int32) (n j : Nat) : Nat → Int32 := fun k => if n ≤ k + j ∧ k < n then T k else f k
theorem rowE_s {T f : Nat → Int32} {n j : Nat} (hj : j < n) : upd (rowE T f n j) (n - 1 - j) (T (n - 1 - j)) = rowE T f n (j + 1) := by
  funext k
  unfold upd rowE
  by_cases h : k = n - 1 - j
  · rw [if_pos h, if_pos (by omega), h]
  · rw [if_neg h]
    by_cases h2 : n ≤ k + j ∧ k < n
    · rw [if_pos h2, if_pos (by omega)]
    · rw [if_neg h2, if_neg (by omega)]
theorem shN_mono {σ : SG} {w h n : Nat} {r l z f : Nat → Nat} (hv : Cov σ w h n r l z f) {a b i k : Nat} (hik : i < k) (hk : k < n) (hr : r i = r k) : shN n r l z w a b i ≤ shN n r l z w a b k := by
  unfold shN
  have h1 := Cov_mono hv hik hk hr
  have h2 := cj_mono (V := fun g => nbS r l z (r k) g n) (x := l i) (x' := l k) (b := b) (by omega) ((w - 1) / b)
  rw [hr]
  omega
theorem toC {σ : SG} {w h n : Nat} {r l z f s : Nat → Nat} (c1 : σ 18 0 = nI n) (h240 : n ≤ 240) (hh : h ≤ 10) (hv : Cov σ w h n r l z f) (hs : ∀ i, i < n → s i < 240 ∧ σ 30 i = nI (s i)) (hm : ∀ i k, i < k → k < n → r i = r k → s i ≤ s k) : F_Sheets_turnOver σ = some (sR σ 32 (rowE (fun i => nI (toT n r s z i)) (σ 32) n n)) := by
  have hl : lpW L_Sheets_turnOver_10 FU ((σ 18 0 - 1), σ) = some (sR σ 32 (rowE (fun i => nI (toT n r s z i)) (σ 32) n n)) := by
    refine lpW_at (s := fun j => (nI (n - j) - 1, sR σ 32 (rowE (fun i => nI (toT n r s z i)) (σ 32) n j))) n ?_ ?_ ?_ (by omega)
    · show (nI n - 1, sR σ 32 (rowE _ (σ 32) n 0)) = _
      rw [c1, show rowE (fun i => nI (toT n r s z i)) (σ 32) n 0 = σ 32 from funext fun k => if_neg (by omega), sR_self]
    · intro j hj
      obtain ⟨i, hi⟩ : ∃ i, i = n - 1 - j := ⟨_, rfl⟩
      have hin : i < n := by omega
      obtain ⟨g1, g2, g3, g4, g5, g6, g7, g8, -⟩ := hv.1 i hin
      have e30 : σ 30 i = nI (s i) := (hs i hin).2
      rw [show n - j = i + 1 by omega, show n - (j + 1) = i by omega, nI_pred]
      have hup := rowE_s (T := fun i => nI (toT n r s z i)) (f := σ 32) hj
      rw [← hi] at hup
      rw [← hup]
      have hrow : rowE (fun i => nI (toT n r s z i)) (σ 32) n j (i + 1) = if i + 1 < n then nI (toT n r s z (i + 1)) else σ 32 (i + 1) := by
        unfold rowE
        by_cases h1 : i + 1 < n
        · rw [if_pos (by omega), if_pos h1]
        · rw [if_neg (by omega), if_neg h1]
      generalize rowE (fun i => nI (toT n r s z i)) (σ 32) n j = A at hrow
      unfold L_Sheets_turnOver_10
      dsimp only
      rw [if_neg (nI_pos (by omega)), nI_1, rs_nI (show i < 240 by omega) (by decide), ← Int32.sub_eq_add_neg]
      unfold nm
      rw [up_sR, sR_at, sR_sR, if_pos rfl]
      simp only [if_neg Bool.false_ne_true]
      by_cases h1 : i + 1 < n
      · obtain ⟨q1, q2, q3, q4, q5, q6, q7, q8, -⟩ := hv.1 (i + 1) h1
        rw [if_neg (show ¬ (sR σ 32 A) 18 0 ≤ nI (i + 1) by rw [show (sR σ 32 A) 18 0 = nI n from c1]; exact nI_ge h1 (by omega))]
        have x20 : rg (sR σ 32 A) 20 240 (nI (i + 1)) = nI (r (i + 1)) := by rw [rg_nI (by omega) (by decide)]; exact q1
        have y20 : rg (sR σ 32 A) 20 240 (nI i) = nI (r i) := by rw [rg_nI (by omega) (by decide)]; exact g1
        have x30 : rg (sR σ 32 A) 30 240 (nI (i + 1)) = nI (s (i + 1)) := by rw [rg_nI (by omega) (by decide)]; exact (hs (i + 1) h1).2
        have y30 : rg (sR σ 32 A) 30 240 (nI i) = nI (s i) := by rw [rg_nI (by omega) (by decide)]; exact e30
        have x32 : rg (sR σ 32 A) 32 240 (nI (i + 1)) = nI (toT n r s z (i + 1)) := by rw [rg_nI (by omega) (by decide), sR_at, hrow, if_pos h1]
        have x24 : rg (sR σ 32 A) 24 240 (nI (i + 1)) = nI (z (i + 1)) := by rw [rg_nI (by omega) (by decide)]; exact q3
        rw [x20, y20, x30, y30, x32, x24]
        have hs1 := (hs i hin).1
        have hs2 := (hs (i + 1) h1).1
        by_cases h2 : r (i + 1) = r i
        · rw [if_pos (show nI (r (i + 1)) = nI (r i) by rw [h2])]
          by_cases h3 : s (i + 1) = s i
          · rw [if_pos (show nI (s (i + 1)) = nI (s i) by rw [h3]), toT_next h1 h2 h3, nI_add]
          · rw [if_neg (show ¬ nI (s (i + 1)) = nI (s i) by rw [nI_eq (by omega) (by omega)]; exact h3), toT_0 (i := i)]
            · rw [rs_nI (show i < 240 by omega) (by decide), up_sR, sR_at, sR_sR]; rfl
            · rintro k hk hkn ⟨a1, a2⟩
              have m1 := hm i (i + 1) (by omega) h1 h2.symm
              have m2 : s (i + 1) ≤ s k := by
                by_cases hk1 : k = i + 1
                · rw [hk1]; exact Nat.le_refl _
                · exact hm (i + 1) k (by omega) hkn (by omega)
              omega
        · rw [if_neg (show ¬ nI (r (i + 1)) = nI (r i) by rw [nI_eq (by omega) (by omega)]; exact h2), toT_0 (i := i)]
          · rw [rs_nI (show i < 240 by omega) (by decide), up_sR, sR_at, sR_sR]; rfl
          · rintro k hk hkn ⟨a1, a2⟩
            have m1 := Cov_r hv (i := i) (d := 1) h1
            have m2 := Cov_r hv (i := i + 1) (d := k - (i + 1)) (by omega)
            rw [show i + 1 + (k - (i + 1)) = k by omega] at m2
            omega
      · rw [if_pos (show (sR σ 32 A) 18 0 ≤ nI (i + 1) by rw [show (sR σ 32 A) 18 0 = nI n from c1]; exact nI_le (by omega) (by omega)), toT_0 (i := i)]
        · rw [rs_nI (show i < 240 by omega) (by decide), up_sR, sR_at, sR_sR]; rfl
        · intro k hk hkn
          omega
    · unfold L_Sheets_turnOver_10
      dsimp only
      rw [Nat.sub_self, if_pos (by decide)]
  unfold F_Sheets_turnOver
  rw [ob_of hl]
theorem op_cut {σ : SG} (hR : R σ) (p0 p1 : Int32) : ∃ r σ1 σ2, F_Shop_cut σ p0 p1 = some (r, σ1) ∧ F_Ref_cut σ1 p0 p1 = some (r, σ2) ∧ R σ2 := by
  obtain ⟨w, h, m, q, n, S, pt, hD, hF, hL, hH, hC⟩ := id hR
  by_cases ha : F_Shop_within p0 1 10 = true
  rotate_left
  · refine ⟨-2, σ, σ, ?_, ?_, hR⟩
    · unfold F_Shop_cut; rw [if_neg ha]
    · unfold F_Ref_cut; rw [in_wi, if_neg ha]
  by_cases hb : F_Shop_within p1 1 24 = true
  rotate_left
  · refine ⟨-2, σ, σ, ?_, ?_, hR⟩
    · unfold F_Shop_cut; rw [if_pos ha, if_neg hb]
    · unfold F_Ref_cut; rw [in_wi, if_pos ha, in_wi, if_neg hb]
  obtain ⟨a, ha1, ha2, rfl⟩ := wi_nI (a := 1) (b := 10) (by decide) (by decide) ha
  obtain ⟨b, hb1, hb2, rfl⟩ := wi_nI (a := 1) (b := 24) (by decide) (by decide) hb
  obtain ⟨⟨c1, c2, hn240, c4⟩, hP, hS, ⟨k1, k2, k3, k4, k5, k6⟩, hcov, hlot, h0⟩ := id hC
  by_cases hn : 0 < n
  rotate_left
  · refine ⟨-3, σ, σ, ?_, ?_, hR⟩
    · unfold F_Shop_cut; rw [if_pos ha, if_pos hb, if_neg (show ¬ F_Shop_isLaid σ = true by rw [isLaid_iff c1 hn240, decide_eq_false hn]; exact Bool.false_ne_true)]
    · unfold F_Ref_cut; rw [in_wi, if_pos ha, in_wi, if_pos hb, if_pos (show σ 76 7 = 0 by rw [c4, decide_eq_false hn]; rfl)]
  obtain ⟨r, l, z, f, hv, -⟩ := hcov hn
  obtain ⟨d1, d2, d3, d4, hw1, hw2, hh1, hh2, d5, d6⟩ := id hD
  have hcol := band_le hw1 hw2 hb1
  have hban := band_le hh1 hh2 ha1
  generalize hT : (h + a - 1) / a * ((w + b - 1) / b) = T
  have hT1 : 1 ≤ T := by
    have := Nat.mul_le_mul hban.2 hcol.2
    omega
  have hT2 : T ≤ 240 := by
    have := Nat.mul_le_mul hban.1 hcol.1
    omega
  have hsl : ∀ i, i < n → shN n r l z w a b i < T := fun i hi => by rw [← hT]; exact shN_lt hw1 hh1 ha1 hb1 (hv.1 i hi).2.2.2.2.1
  -- the class
  generalize hσ0 : up σ 57 0 (nI T) = σ0
  have t : ∀ p, p ≠ 57 → σ0 p = σ p := fun p hp => by rw [← hσ0, up_sR, sR_ne _ _ hp]
  have hD0 : RD σ0 w h := RD_c (fun p hp => by rcases hp with rfl | rfl | rfl <;> exact t _ (by decide)) (by rw [t 76 (by decide)]) (by rw [t 76 (by decide)]) hD
  have hv0 : Cov σ0 w h n r l z f := Cov_c (fun p hp => by rcases hp with rfl | rfl | rfl | rfl | rfl | rfl <;> exact t _ (by decide)) hv
  have hc := cutC hD0 hn (by rw [t 18 (by decide)]; exact c1) hn240 hv0 ha1 ha2 hb1 hb2 (fun i hi => Nat.lt_of_lt_of_le (hsl i hi) hT2)
  rw [t 30 (by decide), t 59 (by decide)] at hc
  generalize hA : rowF (fun k => nI (shN n r l z w a b k)) (σ 30) n = A at hc
  generalize hB : wtS (shN n r l z w a b) z (σ 59) n = B at hc
  generalize hσ1 : w2 σ0 30 59 A B = σ1 at hc
  have t1 : ∀ p, p ≠ 57 → p ≠ 30 → p ≠ 59 → σ1 p = σ p := fun p h1 h2 h3 => by rw [← hσ1, w2_o _ _ _ h2 h3, t p h1]
  have e30 : σ1 30 = A := by rw [← hσ1, w2_p _ _ _ (by decide)]
  have e59 : σ1 59 = B := by rw [← hσ1, w2_q]
  have e57 : σ1 57 0 = nI T := by rw [← hσ1, w2_o _ _ _ (by decide) (by decide), ← hσ0]; rfl
  have hv1 : Cov σ1 w h n r l z f := Cov_c (fun p hp => by rcases hp with rfl | rfl | rfl | rfl | rfl | rfl <;> exact t1 _ (by decide) (by decide) (by decide)) hv
  have hto := toC (s := shN n r l z w a b) (by rw [t1 18 (by decide) (by decide) (by decide)]; exact c1) hn240 hh2 hv1 (fun i hi => ⟨Nat.lt_of_lt_of_le (hsl i hi) hT2, by rw [e30, ← hA, rowF_lt hi]⟩) (fun i k hik hk hr => shN_mono hv hik hk hr)
  rw [t1 32 (by decide) (by decide) (by decide)] at hto
  generalize hE : rowE (fun i => nI (toT n r (shN n r l z w a b) z i)) (σ 32) n n = E at hto
  have hcl : F_Shop_cut σ (nI a) (nI b) = some (nI T, sR σ1 32 E) := by
    unfold F_Shop_cut F_Sheets_cutWall
    rw [if_pos ha, if_pos hb, if_pos (show F_Shop_isLaid σ = true by rw [isLaid_iff c1 hn240, decide_eq_true hn]), d1, d2, ob_of (rU (by omega) hb1 (by omega)), ob_of (rU (by omega) ha1 (by omega)), nI_mul, hT, hσ0, ob_of hc, ob_of hto]
    show some ((sR σ1 32 E) 57 0, sR σ1 32 E) = _
    rw [show (sR σ1 32 E) 57 0 = nI T from e57]
  -- the reference
  generalize hσ2 : sR σ1 32 E = σ2 at hcl
  have t2 : ∀ p, p ≠ 57 → p ≠ 30 → p ≠ 59 → p ≠ 32 → σ2 p = σ p := fun p h1 h2 h3 h4 => by rw [← hσ2, sR_ne _ _ h4, t1 p h1 h2 h3]
  have x30 : σ2 30 = A := by rw [← hσ2, sR_ne _ _ (by decide), e30]
  have x59 : σ2 59 = B := by rw [← hσ2, sR_ne _ _ (by decide), e59]
  have x57 : σ2 57 0 = nI T := by rw [← hσ2, sR_ne _ _ (by decide), e57]
  have x32 : σ2 32 = E := by rw [← hσ2, sR_at]
  generalize hσ3 : up σ2 76 17 (nI T) = σ3
  have t3 : ∀ p, p ≠ 57 → p ≠ 30 → p ≠ 59 → p ≠ 32 → p ≠ 76 → σ3 p = σ p := fun p h1 h2 h3 h4 h5 => by rw [← hσ3, up_sR, sR_ne _ _ h5, t2 p h1 h2 h3 h4]
  have t76 : ∀ k, k ≠ 17 → σ3 76 k = σ 76 k := fun k hk => by
    rw [← hσ3, up_sR, sR_at, upd_ne _ _ hk, t2 76 (by decide) (by decide) (by decide) (by decide)]
  have hD3 : RD σ3 w h := RD_c (fun p hp => by rcases hp with rfl | rfl | rfl <;> exact t3 _ (by decide) (by decide) (by decide) (by decide) (by decide)) (t76 0 (by decide)) (t76 1 (by decide)) hD
  have hv3 : Cov σ3 w h n r l z f := Cov_c (fun p hp => by rcases hp with rfl | rfl | rfl | rfl | rfl | rfl <;> exact t3 _ (by decide) (by decide) (by decide) (by decide) (by decide)) hv
  have hr := cutR hD3 (by rw [t76 10 (by decide)]; exact c2) hn240 (by rw [t3 82 (by decide) (by decide) (by decide) (by decide) (by decide), t3 20 (by decide) (by decide) (by decide) (by decide) (by decide)]; exact k1) (by rw [t3 83 (by decide) (by decide) (by decide) (by decide) (by decide), t3 22 (by decide) (by decide) (by decide) (by decide) (by decide)]; exact k2) (by rw [t3 84 (by decide) (by decide) (by decide) (by decide) (by decide), t3 24 (by decide) (by decide) (by decide) (by decide) (by decide)]; exact k3) hv3 ha1 ha2 hb1 hb2
  rw [t3 87 (by decide) (by decide) (by decide) (by decide) (by decide), k6, hA] at hr
  generalize hσ4 : up (sR σ3 87 A) 76 9 1 = σ4
  have t4 : ∀ p, p ≠ 57 → p ≠ 30 → p ≠ 59 → p ≠ 32 → p ≠ 76 → p ≠ 87 → σ4 p = σ p := fun p h1 h2 h3 h4 h5 h6 => by rw [← hσ4, up_sR, sR_ne _ _ h5, sR_ne _ _ h6, t3 p h1 h2 h3 h4 h5]
  have y76 : ∀ k, k ≠ 17 → k ≠ 9 → σ4 76 k = σ 76 k := fun k hk hk2 => by
    rw [← hσ4, up_sR, sR_at, upd_ne _ _ hk2, sR_ne _ _ (by decide), t76 k hk]
  have y17 : σ4 76 17 = nI T := by
    rw [← hσ4, up_sR, sR_at, upd_ne _ _ (by decide), sR_ne _ _ (by decide), ← hσ3, up_sR, sR_at, upd_at]
  have y9 : σ4 76 9 = 1 := by rw [← hσ4, up_sR, sR_at, upd_at]
  have y87 : σ4 87 = A := by rw [← hσ4, up_sR, sR_ne _ _ (by decide), sR_at]
  have yo : ∀ p, p ≠ 76 → p ≠ 87 → σ4 p = σ2 p := fun p h1 h2 => by rw [← hσ4, up_sR, sR_ne _ _ h1, sR_ne _ _ h2, ← hσ3, up_sR, sR_ne _ _ h1]
  refine ⟨nI T, σ2, σ4, hcl, ?_, w, h, m, q, n, T, pt, ?_, ?_, ?_, ?_, ?_⟩
  · have z76 : σ2 76 = σ 76 := t2 76 (by decide) (by decide) (by decide) (by decide)
    unfold F_Ref_cut nm
    rw [in_wi, if_pos ha, in_wi, if_pos hb, if_neg (show ¬ σ2 76 7 = 0 by rw [z76, c4, decide_eq_true hn]; decide), show nz (nI b) = true from decide_eq_true (nI_ne0 hb1 (by omega)), show nz (nI a) = true from decide_eq_true (nI_ne0 ha1 (by omega)), og_t, og_t, show σ2 76 1 = nI h by rw [z76]; exact d4, show σ2 76 0 = nI w by rw [z76]; exact d3, nI_add, nI_add, nI_sub1 (by omega), nI_sub1 (by omega), pk_div (by omega) ha1 (by omega), pk_div (by omega) hb1 (by omega), nI_mul, hT]
    dsimp only
    rw [hσ3, ob_of hr, hσ4, y17]
  · exact RD_c (fun p hp => by rcases hp with rfl | rfl | rfl <;> exact t4 _ (by decide) (by decide) (by decide) (by decide) (by decide) (by decide)) (y76 0 (by decide) (by decide)) (y76 1 (by decide) (by decide)) hD
  · exact RF_c (fun p hp => by rcases hp with rfl | rfl | rfl | rfl | rfl | rfl | rfl | rfl | rfl | rfl <;> exact t4 _ (by decide) (by decide) (by decide) (by decide) (by decide) (by decide)) hF
  · exact RLo_c (fun p hp => by rcases hp with rfl | rfl | rfl | rfl | rfl | rfl | rfl <;> exact t4 _ (by decide) (by decide) (by decide) (by decide) (by decide) (by decide)) (y76 18 (by decide) (by decide)) hL
  · exact RH_c (fun p hp => by rcases hp with rfl | rfl | rfl | rfl | rfl <;> exact t4 _ (by decide) (by decide) (by decide) (by decide) (by decide) (by decide)) (y76 21 (by decide) (by decide)) hH
  · have v8 : ∀ p, p = 18 ∨ p = 20 ∨ p = 22 ∨ p = 24 ∨ p = 26 ∨ p = 28 ∨ p = 3 ∨ p = 34 ∨ p = 52 ∨ p = 82 ∨ p = 83 ∨ p = 84 ∨ p = 85 ∨ p = 86 → σ4 p = σ p := fun p hp => by rcases hp with rfl | rfl | rfl | rfl | rfl | rfl | rfl | rfl | rfl | rfl | rfl | rfl | rfl | rfl <;> exact t4 _ (by decide) (by decide) (by decide) (by decide) (by decide) (by decide)
    refine ⟨?_, ?_, ?_, ?_, ?_, ?_, ?_⟩
    · rw [v8 18 (by decide), y76 10 (by decide) (by decide), y76 7 (by decide) (by decide)]; exact ⟨c1, c2, hn240, c4⟩
    · rw [v8 52 (by decide), y76 8 (by decide) (by decide)]; exact hP
    · rw [yo 57 (by decide) (by decide), x57, y17, y9]
      exact ⟨rfl, rfl, hT2, by rw [decide_eq_true (show 0 < T by omega)]; rfl, fun _ => hn⟩
    · rw [v8 82 (by decide), v8 83 (by decide), v8 84 (by decide), v8 85 (by decide), v8 86 (by decide), v8 20 (by decide), v8 22 (by decide), v8 24 (by decide), v8 26 (by decide), v8 28 (by decide), y87, yo 30 (by decide) (by decide), x30]
      exact ⟨k1, k2, k3, k4, k5, rfl⟩
    · intro _
      refine ⟨r, l, z, f, Cov_c (fun p hp => by rcases hp with rfl | rfl | rfl | rfl | rfl | rfl <;> exact v8 _ (by decide)) hv, fun _ => ⟨shN n r l z w a b, fun i hi => ⟨hsl i hi, ?_, ?_⟩, fun u hu => ?_⟩⟩
      · rw [yo 30 (by decide) (by decide), x30, ← hA, rowF_lt hi]
      · rw [yo 32 (by decide) (by decide), x32, ← hE]
        unfold rowE
        rw [if_pos (by omega)]
        rfl
      · rw [yo 59 (by decide) (by decide), x59, ← hB]
        unfold wtS
        rw [if_pos (by omega)]
    · rw [v8 28 (by decide)]; exact hlot
    · intro hS0; omega
