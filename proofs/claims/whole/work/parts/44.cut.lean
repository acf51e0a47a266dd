/-! cut: borders, the nearest border -/
theorem Cov_ps {σ : SG} {w h n : Nat} {r l z f : Nat → Nat} (hv : Cov σ w h n r l z f) : ∀ {d i : Nat}, i + d + 1 < n → ps w r l i + z i ≤ ps w r l (i + d + 1) := by
  intro d
  induction d with
  | zero =>
    intro i hi
    rw [Nat.add_zero, Cov_step hv (by omega)]
    exact Nat.le_refl _
  | succ d ih =>
    intro i hi
    have h1 := ih (i := i) (by omega)
    have h2 := Cov_step hv (i := i + d + 1) (by omega)
    rw [show i + (d + 1) + 1 = i + d + 1 + 1 by omega, h2]
    omega
theorem Cov_mono {σ : SG} {w h n : Nat} {r l z f : Nat → Nat} (hv : Cov σ w h n r l z f) {k i : Nat} (hk : k < i) (hi : i < n) (hr : r k = r i) : l k + z k ≤ l i := by
  obtain ⟨d, rfl⟩ : ∃ d, i = k + d + 1 := ⟨i - k - 1, by omega⟩
  have h1 := Cov_ps hv hi
  unfold ps at h1
  rw [hr] at h1
  omega
theorem Cov_r {σ : SG} {w h n : Nat} {r l z f : Nat → Nat} (hv : Cov σ w h n r l z f) : ∀ {d i : Nat}, i + d < n → r i ≤ r (i + d) := by
  intro d
  induction d with
  | zero => intro i _; exact Nat.le_refl _
  | succ d ih =>
    intro i hi
    have h1 := ih (i := i) (by omega)
    rcases hv.2.2.2.1 (i + d) (by omega) with ⟨h2, -⟩ | ⟨h2, -⟩
    · rw [show i + (d + 1) = i + d + 1 by omega, h2]; exact h1
    · rw [show i + (d + 1) = i + d + 1 by omega, h2]; omega
/-- a border of row y -/
def bord (n : Nat) (r l z : Nat → Nat) (y b : Nat) : Prop := b = 0 ∨ ∃ i, i < n ∧ r i = y ∧ l i + z i = b
theorem Cov_w {σ : SG} {w h n : Nat} {r l z f : Nat → Nat} (hn : 0 < n) (hv : Cov σ w h n r l z f) (hw : 1 ≤ w) {y : Nat} (hy : y < h) : bord n r l z y w := by
  obtain ⟨i, hi, h1, h2, h3⟩ := Cov_at hn hv (x := w - 1) (by omega) hy
  have := (hv.1 i hi).2.2.2.2.2.2.2.1
  exact Or.inr ⟨i, hi, h1, by omega⟩
theorem isB_iff {σ : SG} {w h n : Nat} {r l z f : Nat → Nat} (hD : RD σ w h) (hn : 0 < n) (h240 : n ≤ 240) (hv : Cov σ w h n r l z f) {y : Nat} (hy : y < h) (x : Int32) : F_Sheets_isBorder σ x (nI y) = true ↔ ∃ b, x = nI b ∧ bord n r l z y b := by
  obtain ⟨d1, d2, -, -, hw1, hw2, hh1, hh2, -, -⟩ := id hD
  have hov : ∀ b i, b < w → i < n → r i = y → l i ≤ b → b < l i + z i → rg σ 22 240 (F_Cubes_over σ (nI b) (nI y)) = nI (l i) := by
    intro b i hb hi hr h1 h2
    have hc := (hv.1 i hi)
    have h34 := (hc.2.2.2.2.2.2.2.2.2 b h1 h2).2
    have hp := pl_lt hD hb hy
    unfold F_Cubes_over
    rw [pl_nI, rg_nI hp (by decide), ← hr, h34, rg_nI (by omega) (by decide), hc.2.1]
  unfold F_Sheets_isBorder
  rw [d1]
  by_cases hx : x = nI w
  · rw [if_pos hx]
    exact ⟨fun _ => ⟨w, hx, Cov_w hn hv hw1 hy⟩, fun _ => rfl⟩
  · rw [if_neg hx]
    constructor
    · intro h1
      by_cases hh : F_Drawing_has σ x (nI y) = true
      · rw [if_pos hh] at h1
        obtain ⟨b, y', hb, hy', rfl, e⟩ := has_nI hD hh
        obtain ⟨i, hi, h2, h3, h4⟩ := Cov_at hn hv hb hy
        rw [hov b i hb hi h2 h3 h4] at h1
        refine ⟨b, rfl, ?_⟩
        by_cases hl : nI (l i) = nI b
        · rw [nI_eq (by omega) (by omega)] at hl
          by_cases hb0 : b = 0
          · exact Or.inl hb0
          · obtain ⟨k, hk, g2, g3, g4⟩ := Cov_at hn hv (x := b - 1) (by omega) hy
            rcases Nat.lt_trichotomy k i with c | c | c
            · have := Cov_mono hv c hi (by omega)
              exact Or.inr ⟨k, hk, g2, by omega⟩
            · subst c; omega
            · have := Cov_mono hv c hk (by omega)
              omega
        · rw [if_neg hl] at h1
          cases h1
      · rw [if_neg hh] at h1
        cases h1
    · rintro ⟨b, rfl, hb⟩
      have hbw : b ≠ w := fun e => hx (by rw [e])
      have hbl : b < w := by
        rcases hb with rfl | ⟨i, hi, -, e⟩
        · omega
        · have := (hv.1 i hi).2.2.2.2.2.2.2.1
          omega
      rw [if_pos (has_of hD hbl hy)]
      obtain ⟨i, hi, h2, h3, h4⟩ := Cov_at hn hv hbl hy
      rw [hov b i hbl hi h2 h3 h4]
      have : l i = b := by
        rcases hb with rfl | ⟨k, hk, g2, g3⟩
        · omega
        · rcases Nat.lt_trichotomy k i with c | c | c
          · have := Cov_mono hv c hi (by omega)
            omega
          · subst c; omega
          · have := Cov_mono hv c hk (by omega)
            omega
      rw [this, if_pos rfl]
def dst2 (g x : Nat) : Nat := (g - x) + (x - g)
/-- v is the nearest border, the left of two -/
def NB (n : Nat) (r l z : Nat → Nat) (y g v : Nat) : Prop := bord n r l z y v ∧ ∀ x, bord n r l z y x → dst2 g v < dst2 g x ∨ (dst2 g v = dst2 g x ∧ v ≤ x)
theorem NB_u {n : Nat} {r l z : Nat → Nat} {y g v v' : Nat} (h : NB n r l z y g v) (h' : NB n r l z y g v') : v = v' := by
  rcases h.2 v' h'.1 with h1 | ⟨h1, h2⟩ <;> rcases h'.2 v h.1 with h3 | ⟨h3, h4⟩ <;> omega
/-- the reference's way -/
def nbS (r l z : Nat → Nat) (y g : Nat) : Nat → Nat
  | 0 => 0
  | i + 1 => if r i = y then (if dst2 g (nbS r l z y g i) ≤ dst2 g (l i + z i) then nbS r l z y g i else l i + z i) else nbS r l z y g i
theorem nbS_bord {n : Nat} {r l z : Nat → Nat} {y g : Nat} : ∀ {i : Nat}, i ≤ n → bord n r l z y (nbS r l z y g i)
  | 0, _ => Or.inl rfl
  | i + 1, h => by
    rw [nbS]
    by_cases h1 : r i = y
    · rw [if_pos h1]
      by_cases h2 : dst2 g (nbS r l z y g i) ≤ dst2 g (l i + z i)
      · rw [if_pos h2]; exact nbS_bord (by omega)
      · rw [if_neg h2]; exact Or.inr ⟨i, by omega, h1, rfl⟩
    · rw [if_neg h1]; exact nbS_bord (by omega)
theorem nbS_inv {σ : SG} {w h n : Nat} {r l z f : Nat → Nat} (hv : Cov σ w h n r l z f) {y g : Nat} : ∀ {i : Nat}, i ≤ n → (nbS r l z y g i = 0 ∨ ∃ k, k < i ∧ r k = y ∧ nbS r l z y g i = l k + z k) ∧ ∀ x, (x = 0 ∨ ∃ k, k < i ∧ r k = y ∧ l k + z k = x) → dst2 g (nbS r l z y g i) < dst2 g x ∨ (dst2 g (nbS r l z y g i) = dst2 g x ∧ nbS r l z y g i ≤ x) := by
  intro i
  induction i with
  | zero =>
    intro _
    refine ⟨Or.inl rfl, ?_⟩
    rintro x (rfl | ⟨k, hk, -⟩)
    · exact Or.inr ⟨rfl, Nat.le_refl _⟩
    · omega
  | succ i ih =>
    intro hi
    obtain ⟨i1, i2⟩ := ih (by omega)
    rw [nbS]
    by_cases h1 : r i = y
    · rw [if_pos h1]
      have hle : nbS r l z y g i ≤ l i + z i := by
        rcases i1 with e | ⟨k, hk, hr, e⟩
        · omega
        · have := Cov_mono hv hk (by omega) (by omega)
          omega
      by_cases h2 : dst2 g (nbS r l z y g i) ≤ dst2 g (l i + z i)
      · rw [if_pos h2]
        refine ⟨?_, ?_⟩
        · rcases i1 with e | ⟨k, hk, hr, e⟩
          · exact Or.inl e
          · exact Or.inr ⟨k, by omega, hr, e⟩
        · rintro x (rfl | ⟨k, hk, hr, e⟩)
          · exact i2 0 (Or.inl rfl)
          · by_cases hki : k = i
            · subst hki
              rw [← e]
              omega
            · exact i2 x (Or.inr ⟨k, by omega, hr, e⟩)
      · rw [if_neg h2]
        refine ⟨Or.inr ⟨i, by omega, h1, rfl⟩, ?_⟩
        rintro x (rfl | ⟨k, hk, hr, e⟩)
        · rcases i2 0 (Or.inl rfl) with c | ⟨c, -⟩ <;> omega
        · by_cases hki : k = i
          · subst hki
            rw [← e]
            exact Or.inr ⟨rfl, Nat.le_refl _⟩
          · rcases i2 x (Or.inr ⟨k, by omega, hr, e⟩) with c | ⟨c, -⟩ <;> omega
    · rw [if_neg h1]
      refine ⟨?_, ?_⟩
      · rcases i1 with e | ⟨k, hk, hr, e⟩
        · exact Or.inl e
        · exact Or.inr ⟨k, by omega, hr, e⟩
      · rintro x (rfl | ⟨k, hk, hr, e⟩)
        · exact i2 0 (Or.inl rfl)
        · have : k ≠ i := fun e => h1 (by rw [← e]; exact hr)
          exact i2 x (Or.inr ⟨k, by omega, hr, e⟩)
theorem nbS_NB {σ : SG} {w h n : Nat} {r l z f : Nat → Nat} (hv : Cov σ w h n r l z f) (y g : Nat) : NB n r l z y g (nbS r l z y g n) :=
  ⟨nbS_bord (Nat.le_refl n), fun x hx => (nbS_inv hv (Nat.le_refl n)).2 x hx⟩
theorem nbR {σ : SG} {w h n : Nat} {r l z f : Nat → Nat} (hw2 : w ≤ 24) (hh : h ≤ 10) (c2 : σ 76 10 = nI n) (h240 : n ≤ 240) (k1 : σ 82 = σ 20) (k2 : σ 83 = σ 22) (k3 : σ 84 = σ 24) (hv : Cov σ w h n r l z f) {y g : Nat} (hy : y < h) (hg : g ≤ w) : F_Ref_nearestBorder σ (nI y) (nI g) = some (nI (nbS r l z y g n)) := by
  have hl : lpW (L_Ref_nearestBorder_5 σ (nI y) (nI g)) FU (0, 0) = some (nI (nbS r l z y g n)) := by
    refine lpW_at (s := fun i => (nI (nbS r l z y g i), nI i)) n rfl ?_ ?_ (by omega)
    · intro i hi
      obtain ⟨g1, g2, g3, g4, g5, g6, g7, g8, -⟩ := hv.1 i hi
      have hii : ix (nI i) = i := ix_nI (by omega)
      have hb : nbS r l z y g i ≤ w := by
        rcases nbS_bord (n := n) (r := r) (l := l) (z := z) (y := y) (g := g) (i := i) (by omega) with e | ⟨k, hk, -, e⟩
        · omega
        · have := (hv.1 k hk).2.2.2.2.2.2.2.1
          omega
      unfold L_Ref_nearestBorder_5
      dsimp only
      rw [c2, if_neg (nI_ge hi (by omega)), vin_nI (show i < 240 by omega) (by decide), nI_1, nbS]
      simp only [og_t]
      rw [hii, k1, k2, k3, g1, g2, g3, nI_add]
      generalize nbS r l z y g i = B at hb
      by_cases h1 : r i = y
      rotate_left
      · rw [if_neg (show ¬ nI (r i) = nI y by rw [nI_eq (by omega) (by omega)]; exact h1), if_neg h1]
      rw [if_pos (show nI (r i) = nI y by rw [h1]), if_pos h1]
      unfold dst2
      by_cases h2 : l i + z i ≤ g
      · rw [if_pos (nI_le h2 (by omega))]
        by_cases h3 : B ≤ g
        · rw [if_pos (nI_le h3 (by omega)), pk_sub h3, pk_sub h2]
          by_cases h4 : g - B ≤ g - (l i + z i)
          · rw [if_pos (nI_le h4 (by omega)), if_pos (by omega)]
          · rw [if_neg (nI_ge (by omega) (by omega)), if_neg (by omega)]
        · rw [if_neg (nI_ge (by omega) (by omega)), pk_sub (show g ≤ B by omega), pk_sub h2]
          by_cases h4 : B - g ≤ g - (l i + z i)
          · rw [if_pos (nI_le h4 (by omega)), if_pos (by omega)]
          · rw [if_neg (nI_ge (by omega) (by omega)), if_neg (by omega)]
      · rw [if_neg (nI_ge (by omega) (by omega))]
        by_cases h3 : B ≤ g
        · rw [if_pos (nI_le h3 (by omega)), pk_sub h3, pk_sub (show g ≤ l i + z i by omega)]
          by_cases h4 : g - B ≤ l i + z i - g
          · rw [if_pos (nI_le h4 (by omega)), if_pos (by omega)]
          · rw [if_neg (nI_ge (by omega) (by omega)), if_neg (by omega)]
        · rw [if_neg (nI_ge (by omega) (by omega)), pk_sub (show g ≤ B by omega), pk_sub (show g ≤ l i + z i by omega)]
          by_cases h4 : B - g ≤ l i + z i - g
          · rw [if_pos (nI_le h4 (by omega)), if_pos (by omega)]
          · rw [if_neg (nI_ge (by omega) (by omega)), if_neg (by omega)]
    · unfold L_Ref_nearestBorder_5
      dsimp only
      rw [c2, if_pos (nI_le (Nat.le_refl n) (by omega))]
  unfold F_Ref_nearestBorder
  rw [ob_of hl]
theorem least_of {P : Nat → Prop} : ∀ {N : Nat}, P N → ∃ d, d ≤ N ∧ P d ∧ ∀ e, e < d → ¬ P e := by
  intro N
  induction N using Nat.strongRecOn with
  | _ N ih =>
    intro hN
    by_cases h : ∃ k, k < N ∧ P k
    · obtain ⟨k, hk, hP⟩ := h
      obtain ⟨d, a, b, c⟩ := ih k hk hP
      exact ⟨d, by omega, b, c⟩
    · exact ⟨N, Nat.le_refl _, hN, fun e he hP => h ⟨e, he, hP⟩⟩
theorem nbC {σ : SG} {w h n : Nat} {r l z f : Nat → Nat} (hD : RD σ w h) (hn : 0 < n) (h240 : n ≤ 240) (hv : Cov σ w h n r l z f) {y g : Nat} (hy : y < h) (hg : g ≤ w) : F_Sheets_cutNear σ (nI g) (nI y) = some (nI (nbS r l z y g n)) := by
  obtain ⟨d1, d2, -, -, hw1, hw2, hh1, hh2, -, -⟩ := id hD
  obtain ⟨d, hd, hP, hmin⟩ := least_of (P := fun d => bord n r l z y (g - d) ∨ bord n r l z y (g + d)) (N := g) (Or.inl (Or.inl (by omega)))
  have hbw : ∀ b, bord n r l z y b → b ≤ w := by
    rintro b (e | ⟨k, hk, -, e⟩)
    · omega
    · have := (hv.1 k hk).2.2.2.2.2.2.2.1
      omega
  have hfar : ∀ x, bord n r l z y x → d ≤ dst2 g x := by
    intro x hx
    have : ¬ dst2 g x < d := by
      intro hlt
      refine hmin _ hlt ?_
      unfold dst2 at hlt ⊢
      rcases Nat.le_total x g with c | c
      · left
        rw [show g - (g - x + (x - g)) = x by omega]; exact hx
      · right
        rw [show g + (g - x + (x - g)) = x by omega]; exact hx
    omega
  have hl : ∀ {v : Nat}, F_Sheets_isBorder σ (nI g - nI d) (nI y) = true ∧ v = g - d ∨ ¬ F_Sheets_isBorder σ (nI g - nI d) (nI y) = true ∧ F_Sheets_isBorder σ (nI g + nI d) (nI y) = true ∧ v = g + d → lpW (L_Sheets_cutNear_2 σ (nI g) (nI y)) FU 0 = some (.inr (nI v)) := by
    intro v hv2
    refine lpW_at (s := fun i => nI i) d rfl ?_ ?_ (by omega)
    · intro i hi
      have hno := hmin i hi
      unfold L_Sheets_cutNear_2
      rw [d1, if_neg (nI_nlt (by omega) (by omega)), if_neg ?_, if_neg ?_, nI_1]
      · intro hb
        rw [nI_add, isB_iff hD hn h240 hv hy] at hb
        obtain ⟨b, e, hb⟩ := hb
        have := hbw b hb
        rw [nI_eq (by omega) (by omega)] at e
        exact hno (Or.inr (e ▸ hb))
      · intro hb
        rw [pk_sub (by omega), isB_iff hD hn h240 hv hy] at hb
        obtain ⟨b, e, hb⟩ := hb
        have := hbw b hb
        rw [nI_eq (by omega) (by omega)] at e
        exact hno (Or.inl (e ▸ hb))
    · unfold L_Sheets_cutNear_2
      rw [d1, if_neg (nI_nlt (by omega) (by omega))]
      rcases hv2 with ⟨h1, rfl⟩ | ⟨h1, h2, rfl⟩
      · rw [if_pos h1, pk_sub hd]
      · rw [if_neg h1, if_pos h2, nI_add]
  have hfin : ∀ v, NB n r l z y g v → lpW (L_Sheets_cutNear_2 σ (nI g) (nI y)) FU 0 = some (.inr (nI v)) → F_Sheets_cutNear σ (nI g) (nI y) = some (nI (nbS r l z y g n)) := by
    intro v h1 h2
    unfold F_Sheets_cutNear
    rw [ob_of h2, NB_u h1 (nbS_NB hv y g)]
    rfl
  by_cases hb : bord n r l z y (g - d)
  · refine hfin (g - d) ⟨hb, fun x hx => ?_⟩ (hl (Or.inl ⟨?_, rfl⟩))
    · have := hfar x hx
      unfold dst2 at this ⊢
      omega
    · rw [pk_sub hd, isB_iff hD hn h240 hv hy]
      exact ⟨_, rfl, hb⟩
  · have hb2 := hP.resolve_left hb
    have := hbw _ hb2
    refine hfin (g + d) ⟨hb2, fun x hx => ?_⟩ (hl (Or.inr ⟨?_, ?_, rfl⟩))
    · have := hfar x hx
      have hne : x ≠ g - d := fun e => hb (e ▸ hx)
      unfold dst2 at this ⊢
      omega
    · rw [pk_sub hd, isB_iff hD hn h240 hv hy]
      rintro ⟨b, e, h2⟩
      have := hbw b h2
      rw [nI_eq (by omega) (by omega)] at e
      exact hb (e ▸ h2)
    · rw [nI_add, isB_iff hD hn h240 hv hy]
      exact ⟨_, rfl, hb2⟩
/-! how many cuts are not right of x -/
def cj (V : Nat → Nat) (x b : Nat) : Nat → Nat
  | 0 => 0
  | j + 1 => if V ((j + 1) * b) ≤ x then cj V x b j + 1 else cj V x b j
theorem cj_le {V : Nat → Nat} {x b : Nat} : ∀ j, cj V x b j ≤ j
  | 0 => Nat.le_refl 0
  | j + 1 => by
    have := cj_le (V := V) (x := x) (b := b) j
    rw [cj]
    by_cases h : V ((j + 1) * b) ≤ x
    · rw [if_pos h]; omega
    · rw [if_neg h]; omega
theorem cj_mono {V : Nat → Nat} {x x' b : Nat} (hx : x ≤ x') : ∀ j, cj V x b j ≤ cj V x' b j
  | 0 => Nat.le_refl 0
  | j + 1 => by
    have := cj_mono (V := V) (b := b) hx j
    rw [cj, cj]
    by_cases h : V ((j + 1) * b) ≤ x
    · rw [if_pos h, if_pos (by omega)]; omega
    · rw [if_neg h]
      by_cases h2 : V ((j + 1) * b) ≤ x'
      · rw [if_pos h2]; omega
      · rw [if_neg h2]; omega
theorem goal_lt {w b j : Nat} (hw : 1 ≤ w) (hb : 1 ≤ b) : j < (w - 1) / b ↔ (j + 1) * b < w := by
  rw [Nat.lt_iff_add_one_le, Nat.le_div_iff_mul_le (by omega)]
  omega
theorem clC {σ : SG} {w h n : Nat} {r l z f : Nat → Nat} (hD : RD σ w h) (hn : 0 < n) (h240 : n ≤ 240) (hv : Cov σ w h n r l z f) {i b : Nat} (hi : i < n) (hb1 : 1 ≤ b) (hb : b ≤ 24) : F_Sheets_cutsLeftOf σ (nI i) (nI b) = some (nI (cj (fun g => nbS r l z (r i) g n) (l i) b ((w - 1) / b))) := by
  obtain ⟨d1, d2, -, -, hw1, hw2, hh1, hh2, -, -⟩ := id hD
  obtain ⟨g1, g2, g3, g4, g5, g6, g7, g8, -⟩ := hv.1 i hi
  have hN : (w - 1) / b ≤ w := by have := Nat.div_le_self (w - 1) b; omega
  have hl : lpW (L_Sheets_cutsLeftOf_5 σ (nI i) (nI b)) FU (0, nI b) = some (nI (cj (fun g => nbS r l z (r i) g n) (l i) b ((w - 1) / b))) := by
    refine lpW_at (s := fun j => (nI (cj (fun g => nbS r l z (r i) g n) (l i) b j), nI ((j + 1) * b))) ((w - 1) / b) ?_ ?_ ?_ (by omega)
    · show (nI 0, nI ((0 + 1) * b)) = _
      rw [Nat.zero_add, Nat.one_mul]; rfl
    · intro j hj
      have hj2 := (goal_lt hw1 hb1).mp hj
      have hV : nbS r l z (r i) ((j + 1) * b) n ≤ w := by
        rcases nbS_bord (n := n) (r := r) (l := l) (z := z) (y := r i) (g := (j + 1) * b) (Nat.le_refl n) with e | ⟨k, hk, -, e⟩
        · omega
        · have := (hv.1 k hk).2.2.2.2.2.2.2.1
          omega
      unfold L_Sheets_cutsLeftOf_5
      dsimp only
      rw [d1, if_neg (nI_ge hj2 (by omega)), rg_nI (show i < 240 by omega) (by decide), rg_nI (show i < 240 by omega) (by decide), g1, g2, ob_of (nbC hD hn h240 hv g5 (by omega)), cj, show mxI (nI b) 1 = nI b from ?_]
      · rw [nI_add, show (j + 1) * b + b = (j + 1 + 1) * b by rw [Nat.succ_mul (j + 1) b]]
        by_cases h1 : nbS r l z (r i) ((j + 1) * b) n ≤ l i
        · rw [if_neg (nI_nlt h1 (by omega)), if_pos h1, nI_1]
        · rw [if_pos (nI_lt (by omega) (by omega)), if_neg h1]
      · unfold mxI
        rw [if_neg (show ¬ nI b < 1 from nI_nlt (b := 1) hb1 (by omega))]
    · have : ¬ ((w - 1) / b + 1) * b < w := fun h => absurd ((goal_lt hw1 hb1).mpr h) (Nat.lt_irrefl _)
      have h2 : ((w - 1) / b + 1) * b < 1000 := by
        have := Nat.div_mul_le_self (w - 1) b
        rw [Nat.succ_mul]
        omega
      unfold L_Sheets_cutsLeftOf_5
      dsimp only
      rw [d1, if_pos (nI_le (by omega) (by omega))]
  unfold F_Sheets_cutsLeftOf
  rw [ob_of hl]
theorem clR {σ : SG} {w h n : Nat} {r l z f : Nat → Nat} (hD : RD σ w h) (c2 : σ 76 10 = nI n) (h240 : n ≤ 240) (k1 : σ 82 = σ 20) (k2 : σ 83 = σ 22) (k3 : σ 84 = σ 24) (hv : Cov σ w h n r l z f) {i b : Nat} {x0 : Int32} (hi : i < n) (hb1 : 1 ≤ b) (hb : b ≤ 24) : lpW (L_Ref_cut_78 (nI b) (x0, σ) (nI i)) FU (0, nI b) = some (nI (cj (fun g => nbS r l z (r i) g n) (l i) b ((w - 1) / b))) := by
  obtain ⟨-, -, d1, d2, hw1, hw2, hh1, hh2, -, -⟩ := id hD
  obtain ⟨g1, g2, g3, g4, g5, g6, g7, g8, -⟩ := hv.1 i hi
  have hN : (w - 1) / b ≤ w := by have := Nat.div_le_self (w - 1) b; omega
  have hii : ix (nI i) = i := ix_nI (by omega)
  refine lpW_at (s := fun j => (nI (cj (fun g => nbS r l z (r i) g n) (l i) b j), nI ((j + 1) * b))) ((w - 1) / b) ?_ ?_ ?_ (by omega)
  · show (nI 0, nI ((0 + 1) * b)) = _
    rw [Nat.zero_add, Nat.one_mul]; rfl
  · intro j hj
    have hj2 := (goal_lt hw1 hb1).mp hj
    have hV : nbS r l z (r i) ((j + 1) * b) n ≤ w := by
      rcases nbS_bord (n := n) (r := r) (l := l) (z := z) (y := r i) (g := (j + 1) * b) (Nat.le_refl n) with e | ⟨k, hk, -, e⟩
      · omega
      · have := (hv.1 k hk).2.2.2.2.2.2.2.1
        omega
    unfold L_Ref_cut_78
    dsimp only
    rw [if_neg (show ¬ σ 76 0 ≤ nI ((j + 1) * b) by rw [d1]; exact nI_ge hj2 (by omega)), vin_nI (show i < 240 by omega) (by decide)]
    simp only [og_t]
    rw [hii, show σ 82 i = nI (r i) by rw [k1]; exact g1, ob_of (nbR hw2 hh2 c2 h240 k1 k2 k3 hv g5 (by omega)), cj, nI_add, show (j + 1) * b + b = (j + 1 + 1) * b by rw [Nat.succ_mul (j + 1) b]]
    have e83 : σ 83 i = nI (l i) := by rw [k2]; exact g2
    by_cases h1 : nbS r l z (r i) ((j + 1) * b) n ≤ l i
    · rw [if_neg (show ¬ σ 83 i < _ by rw [e83]; exact nI_nlt h1 (by omega)), if_pos h1, nI_1]
    · rw [if_pos (show σ 83 i < nI (nbS r l z (r i) ((j + 1) * b) n) by rw [e83]; exact nI_lt (by omega) (by omega)), if_neg h1, Int32.add_zero]
  · have : ¬ ((w - 1) / b + 1) * b < w := fun h => absurd ((goal_lt hw1 hb1).mpr h) (Nat.lt_irrefl _)
    have h2 : ((w - 1) / b + 1) * b < 1000 := by
      have := Nat.div_mul_le_self (w - 1) b
      rw [Nat.succ_mul]
      omega
    unfold L_Ref_cut_78
    dsimp only
    rw [if_pos (show σ 76 0 ≤ nI (((w - 1) / b + 1) * b) by rw [d1]; exact nI_le (by omega) (by omega))]
theorem rU {x b : Nat} (hx : x < 1000000) (hb1 : 1 ≤ b) (hb : b < 1000) : F_Shop_roundedUp (nI x) (nI b) = some (nI ((x + b - 1) / b)) := by
  unfold F_Shop_roundedUp
  rw [if_pos (show (1 : Int32) ≤ nI b from nI_le (a := 1) hb1 (by omega)), show nz (nI b) = true from decide_eq_true (nI_ne0 hb1 (by omega)), og_t, nI_add, nI_sub1 (by omega), pk_div (by omega) hb1 (by omega)]
/-! the sheet of a cube -/
def shN (n : Nat) (r l z : Nat → Nat) (w a b i : Nat) : Nat := r i / a * ((w + b - 1) / b) + cj (fun g => nbS r l z (r i) g n) (l i) b ((w - 1) / b)
theorem cols_eq {w b : Nat} (hw : 1 ≤ w) (hb : 1 ≤ b) : (w + b - 1) / b = (w - 1) / b + 1 := by
  rw [show w + b - 1 = (w - 1) + b by omega, Nat.add_div_right _ hb]
theorem shN_lt {n : Nat} {r l z : Nat → Nat} {w h a b i : Nat} (hw : 1 ≤ w) (hh : 1 ≤ h) (ha : 1 ≤ a) (hb : 1 ≤ b) (hr : r i < h) : shN n r l z w a b i < (h + a - 1) / a * ((w + b - 1) / b) := by
  unfold shN
  rw [cols_eq hw hb, cols_eq hh ha]
  have h1 := cj_le (V := fun g => nbS r l z (r i) g n) (x := l i) (b := b) ((w - 1) / b)
  have h2 : r i / a ≤ (h - 1) / a := Nat.div_le_div_right (by omega)
  have h3 := Nat.mul_le_mul_right ((w - 1) / b + 1) h2
  rw [Nat.succ_mul]
  omega
theorem band_le {h a m : Nat} (hh1 : 1 ≤ h) (hh : h ≤ m) (ha : 1 ≤ a) : (h + a - 1) / a ≤ m ∧ 1 ≤ (h + a - 1) / a := by
  rw [cols_eq hh1 ha]
  have := Nat.div_le_self (h - 1) a
  generalize (h - 1) / a = q at this ⊢
  omega
/-- the class's row of weights on the way -/
def wtS (s z : Nat → Nat) (g : Nat → Int32) (i : Nat) : Nat → Int32 := fun t => if t < 240 then nI (sm (fun k => decide (s k = t)) z i) else g t
theorem wtS_s {s z : Nat → Nat} {g : Nat → Int32} {i : Nat} (hs : s i < 240) : upd (wtS s z g i) (s i) (wtS s z g i (s i) + nI (z i)) = wtS s z g (i + 1) := by
  funext t
  unfold upd wtS
  by_cases h : t = s i
  · rw [if_pos h, if_pos hs, if_pos (by omega), sm, if_pos (by rw [h]; exact decide_eq_true rfl), nI_add, h]
  · rw [if_neg h, sm, if_neg (show ¬ decide (s i = t) = true from fun e => h (of_decide_eq_true e).symm), Nat.add_zero]
theorem cutC {σ : SG} {w h n : Nat} {r l z f : Nat → Nat} (hD : RD σ w h) (hn : 0 < n) (c1 : σ 18 0 = nI n) (h240 : n ≤ 240) (hv : Cov σ w h n r l z f) {a b : Nat} (ha1 : 1 ≤ a) (ha : a ≤ 10) (hb1 : 1 ≤ b) (hb : b ≤ 24) (hs : ∀ i, i < n → shN n r l z w a b i < 240) : lpW (L_Sheets_cutWall_40 (nI a) (nI b) (nI ((w + b - 1) / b))) FU (0, rf σ 59 240 0) = some (w2 σ 30 59 (rowF (fun k => nI (shN n r l z w a b k)) (σ 30) n) (wtS (shN n r l z w a b) z (σ 59) n)) := by
  obtain ⟨d1, d2, -, -, hw1, hw2, hh1, hh2, -, -⟩ := id hD
  refine lpW_at (s := fun i => (nI i, w2 σ 30 59 (rowF (fun k => nI (shN n r l z w a b k)) (σ 30) i) (wtS (shN n r l z w a b) z (σ 59) i))) n ?_ ?_ ?_ (by omega)
  · rw [rowF_0]
    unfold w2
    rw [sR_self, rf_sR]
    rfl
  · intro i hi
    obtain ⟨g1, g2, g3, g4, g5, g6, g7, g8, -⟩ := hv.1 i hi
    have hi2 : i < 240 := by omega
    unfold L_Sheets_cutWall_40
    dsimp only
    rw [nI_1, ← rowF_s, ← wtS_s (hs i hi)]
    generalize rowF (fun k => nI (shN n r l z w a b k)) (σ 30) i = A
    generalize wtS (shN n r l z w a b) z (σ 59) i = B
    have hD' : RD (w2 σ 30 59 A B) w h := RD_c (fun p hp => by rcases hp with rfl | rfl | rfl <;> rfl) rfl rfl hD
    have hv' : Cov (w2 σ 30 59 A B) w h n r l z f := Cov_c (fun p hp => by rcases hp with rfl | rfl | rfl | rfl | rfl | rfl <;> rfl) hv
    rw [if_neg (show ¬ (w2 σ 30 59 A B) 18 0 ≤ nI i by rw [show (w2 σ 30 59 A B) 18 0 = nI n from c1]; exact nI_ge hi (by omega))]
    have e20 : rg (w2 σ 30 59 A B) 20 240 (nI i) = nI (r i) := by rw [rg_nI hi2 (by decide)]; exact g1
    have hband : F_Shop_roundedUp (rg (w2 σ 30 59 A B) 20 240 (nI i) + 1) (nI a) = some (nI (r i / a + 1)) := by
      rw [e20, nI_1, rU (by omega) ha1 (by omega), cols_eq (by omega) ha1]
      rfl
    rw [ob_of hband, ob_of (clC hD' hn h240 hv' hi hb1 hb), nI_pred, nI_mul, nI_add]
    unfold nm
    rw [show r i / a * ((w + b - 1) / b) + cj (fun g => nbS r l z (r i) g n) (l i) b ((w - 1) / b) = shN n r l z w a b i from rfl, rs_nI hi2 (by decide), up_w2p _ _ _ (by decide)]
    dsimp only
    rw [ra_nI (hs i hi) (by decide), w2_q, up_w2q, rg_nI hi2 (by decide), show ∀ A', (w2 σ 30 59 A' B) 24 i = nI (z i) from fun _ => g3]
  · unfold L_Sheets_cutWall_40
    dsimp only
    rw [if_pos (show (w2 σ 30 59 _ _) 18 0 ≤ nI n by rw [show ∀ A B, (w2 σ 30 59 A B) 18 0 = nI n from fun _ _ => c1]; exact nI_le (Nat.le_refl n) (by omega))]
theorem cutR {σ : SG} {w h n : Nat} {r l z f : Nat → Nat} (hD : RD σ w h) (c2 : σ 76 10 = nI n) (h240 : n ≤ 240) (k1 : σ 82 = σ 20) (k2 : σ 83 = σ 22) (k3 : σ 84 = σ 24) (hv : Cov σ w h n r l z f) {a b : Nat} (ha1 : 1 ≤ a) (ha : a ≤ 10) (hb1 : 1 ≤ b) (hb : b ≤ 24) : lpW (L_Ref_cut_63 (nI a) (nI b) (nI ((w + b - 1) / b))) FU (0, σ) = some (sR σ 87 (rowF (fun k => nI (shN n r l z w a b k)) (σ 87) n)) := by
  obtain ⟨-, -, d1, d2, hw1, hw2, hh1, hh2, -, -⟩ := id hD
  refine lpW_at (s := fun i => (nI i, sR σ 87 (rowF (fun k => nI (shN n r l z w a b k)) (σ 87) i))) n ?_ ?_ ?_ (by omega)
  · rw [rowF_0, sR_self]; rfl
  · intro i hi
    obtain ⟨g1, g2, g3, g4, g5, g6, g7, g8, -⟩ := hv.1 i hi
    have hi2 : i < 240 := by omega
    have hii : ix (nI i) = i := ix_nI (by omega)
    unfold L_Ref_cut_63
    dsimp only
    rw [nI_1, ← rowF_s]
    generalize rowF (fun k => nI (shN n r l z w a b k)) (σ 87) i = A
    have hD' : RD (sR σ 87 A) w h := RD_c (fun p hp => by rcases hp with rfl | rfl | rfl <;> rfl) rfl rfl hD
    have hv' : Cov (sR σ 87 A) w h n r l z f := Cov_c (fun p hp => by rcases hp with rfl | rfl | rfl | rfl | rfl | rfl <;> rfl) hv
    have hcl := clR (x0 := nI i) hD' c2 h240 k1 k2 k3 hv' hi hb1 hb
    rw [if_neg (show ¬ (sR σ 87 A) 76 10 ≤ nI i by rw [show (sR σ 87 A) 76 10 = nI n from c2]; exact nI_ge hi (by omega)), ob_of hcl, vin_nI hi2 (by decide), show nz (nI a) = true from decide_eq_true (nI_ne0 ha1 (by omega))]
    simp only [og_t]
    unfold nm
    rw [hii, show (sR σ 87 A) 82 i = nI (r i) by rw [← g1, ← k1]; rfl, pk_div (by omega) ha1 (by omega), nI_mul, nI_add, up_sR, sR_at, sR_sR]
    rfl
  · unfold L_Ref_cut_63
    dsimp only
    rw [if_pos (show (sR σ 87 _) 76 10 ≤ nI n by rw [show ∀ A, (sR σ 87 A) 76 10 = nI n from fun _ => c2]; exact nI_le (Nat.le_refl n) (by omega))]
