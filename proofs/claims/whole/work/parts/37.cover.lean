/-! cover: the cubes lie on the wall one behind the other; at, cube -/
/-- where a cube begins, counted along the rows -/
def ps (w : Nat) (r l : Nat → Nat) (i : Nat) : Nat := w * r i + l i
theorem Cov_step {σ : SG} {w h n : Nat} {r l z f : Nat → Nat} (hv : Cov σ w h n r l z f) {i : Nat} (hi : i + 1 < n) : ps w r l (i + 1) = ps w r l i + z i := by
  obtain ⟨-, -, -, h4, -⟩ := hv
  unfold ps
  rcases h4 i hi with ⟨e1, e2⟩ | ⟨e1, e2, e3⟩
  · rw [e1, e2, Nat.add_assoc]
  · rw [e1, e2, Nat.mul_add]
    omega
theorem Cov_end {σ : SG} {w h n : Nat} {r l z f : Nat → Nat} (hv : Cov σ w h n r l z f) : ps w r l (n - 1) + z (n - 1) = w * h := by
  obtain ⟨-, -, -, -, h5, h6⟩ := hv
  unfold ps
  rw [← h5, Nat.mul_add]
  omega
theorem Cov_0 {σ : SG} {w h n : Nat} {r l z f : Nat → Nat} (hv : Cov σ w h n r l z f) : ps w r l 0 = 0 := by
  obtain ⟨-, h2, h3, -⟩ := hv
  unfold ps
  rw [h2, h3]; rfl
theorem Cov_find {σ : SG} {w h n : Nat} {r l z f : Nat → Nat} (hn : 0 < n) (hv : Cov σ w h n r l z f) {t : Nat} (ht : t < w * h) : ∃ i, i < n ∧ ps w r l i ≤ t ∧ t < ps w r l i + z i := by
  have key : ∀ k, k < n → t < ps w r l k + z k → ∃ i, i < n ∧ ps w r l i ≤ t ∧ t < ps w r l i + z i := by
    intro k
    induction k with
    | zero =>
      intro hk h1
      exact ⟨0, hk, by rw [Cov_0 hv]; omega, h1⟩
    | succ k ih =>
      intro hk h1
      by_cases h2 : ps w r l (k + 1) ≤ t
      · exact ⟨k + 1, hk, h2, h1⟩
      · exact ih (by omega) (by rw [← Cov_step hv hk]; omega)
  exact key (n - 1) (by omega) (by rw [Cov_end hv]; exact ht)
theorem div_eq {w a b x : Nat} (h1 : w * a ≤ w * b + x) (h2 : w * b + x < w * a + w) (hx : x < w) : a = b := by
  rcases Nat.lt_trichotomy a b with q | q | q
  · exfalso
    have := Nat.mul_le_mul_left w (show a + 1 ≤ b from q)
    rw [Nat.mul_add] at this
    omega
  · exact q
  · exfalso
    have := Nat.mul_le_mul_left w (show b + 1 ≤ a from q)
    rw [Nat.mul_add] at this
    omega
theorem lin_lt {w h x y : Nat} (hx : x < w) (hy : y < h) : w * y + x < w * h := by
  have := Nat.mul_le_mul_left w (show y + 1 ≤ h from hy)
  rw [Nat.mul_add] at this
  omega
theorem Cov_at {σ : SG} {w h n : Nat} {r l z f : Nat → Nat} (hn : 0 < n) (hv : Cov σ w h n r l z f) {x y : Nat} (hx : x < w) (hy : y < h) : ∃ i, i < n ∧ r i = y ∧ l i ≤ x ∧ x < l i + z i := by
  obtain ⟨i, hi, h1, h2⟩ := Cov_find hn hv (lin_lt hx hy)
  obtain ⟨-, -, -, -, -, -, -, h8, -⟩ := hv.1 i hi
  unfold ps at h1 h2
  have e : r i = y := div_eq (w := w) (x := x) (by omega) (by omega) hx
  subst e
  exact ⟨i, hi, rfl, by omega, by omega⟩
theorem op_at {σ : SG} (hR : R σ) (a b : Int32) : F_Ref_at σ a b = some (F_Shop_at σ a b) := by
  obtain ⟨w, h, m, q, n, S, pt, hD, hF, hL, hH, hC⟩ := hR
  unfold F_Ref_at F_Shop_at
  rw [isPl hD]
  by_cases hh : F_Drawing_has σ a b = true
  rotate_left
  · rw [if_neg hh, if_neg hh]
  rw [if_pos hh, if_pos hh]
  obtain ⟨x, y, hx, hy, rfl, rfl⟩ := has_nI hD hh
  have hlt := pl_lt hD hx hy
  obtain ⟨⟨c1, c2, hn240, -⟩, -, -, ⟨k1, k2, k3, -⟩, hcov, -⟩ := hC
  rw [isLaid_iff c1 hn240]
  by_cases h0 : 0 < n
  rotate_left
  · rw [if_neg (by simp [h0])]
    have hl : lpW (L_Ref_at_14 σ (nI x) (nI y)) FU 0 = some (Sum.inl ()) := by
      refine lpW_at (s := fun i => nI i) 0 rfl (fun i hi => absurd hi (by omega)) ?_ (by omega)
      unfold L_Ref_at_14
      rw [c2, if_pos (nI_le (by omega) (by omega))]
    rw [ob_of hl]
    rfl
  rw [if_pos (by simp [h0])]
  obtain ⟨r, l, z, f, hv, -⟩ := hcov h0
  obtain ⟨-, -, -, -, g1, g2, g3, g4, -⟩ := hD
  obtain ⟨i0, hi0, e1, e2, e3⟩ := Cov_at h0 hv hx hy
  -- the first that covers the place
  obtain ⟨i, ⟨hin, e1, e2, e3⟩, hmin⟩ := pk_least (fun i => i < n ∧ r i = y ∧ l i ≤ x ∧ x < l i + z i) ⟨i0, hi0, e1, e2, e3⟩
  have hov : σ 34 (24 * y + x) = nI i := by
    have := ((hv.1 i hin).2.2.2.2.2.2.2.2.2 x e2 e3).2
    rw [e1] at this
    exact this
  have hl : lpW (L_Ref_at_14 σ (nI x) (nI y)) FU 0 = some (Sum.inr (nI i)) := by
    refine lpW_at (s := fun i => nI i) i rfl ?_ ?_ (by omega)
    · intro j hj
      obtain ⟨u1, u2, u3, u4, u5, u6, u7, u8, u9, -⟩ := hv.1 j (by omega)
      unfold L_Ref_at_14
      rw [c2, if_neg (nI_ge (by omega) (by omega)), vin_nI (show j < 240 by omega) (by decide)]
      simp only [og_t]
      rw [ix_nI (by omega), k1, k2, k3, u1, u2, u3, nI_add, nI_1]
      by_cases q1 : r j = y
      · rw [if_pos (by rw [q1])]
        by_cases q2 : l j ≤ x
        · rw [if_neg (nI_nlt q2 (by omega)), if_pos]
          apply nI_le _ (by omega)
          rcases Nat.lt_or_ge x (l j + z j) with q | q
          · exact absurd ⟨by omega, q1, q2, q⟩ (hmin j hj)
          · exact q
        · rw [if_pos (nI_lt (by omega) (by omega))]
      · rw [if_neg (fun e => q1 ((nI_eq (by omega) (by omega)).mp e))]
    · obtain ⟨u1, u2, u3, u4, u5, u6, u7, u8, u9, -⟩ := hv.1 i hin
      unfold L_Ref_at_14
      rw [c2, if_neg (nI_ge hin (by omega)), vin_nI (show i < 240 by omega) (by decide)]
      simp only [og_t]
      rw [ix_nI (by omega), k1, k2, k3, u1, u2, u3, nI_add, e1, if_pos rfl, if_neg (nI_nlt e2 (by omega)), if_neg (nI_ge e3 (by omega))]
  rw [ob_of hl]
  unfold F_Cubes_over
  rw [pl_nI, rg_nI hlt (by decide), hov]
  rfl
theorem sI_zero {p : Nat → Bool} {g : Nat → Int32} : ∀ {n : Nat}, (∀ i, i < n → p i = false) → sI p g n = 0
  | 0, _ => rfl
  | n + 1, h => by
    rw [sI, if_neg (by rw [h n (by omega)]; exact Bool.false_ne_true), sI_zero (fun i hi => h i (by omega))]
theorem faceDown_eq {σ : SG} {n i : Nat} (hn : σ 76 10 = nI n) (h240 : n ≤ 240) (hi : i < n) : F_Ref_faceDown σ (nI i) = if σ 87 i = -1 then some (-1) else some (sI (fun k => decide (i < k) && (decide (σ 82 k = σ 82 i) && decide (σ 87 k = σ 87 i))) (σ 84) n) := by
  have hl : lpW (L_Ref_faceDown_18 σ (nI i)) FU (0, nI (i + 1)) = some (sI (fun k => decide (i < k) && (decide (σ 82 k = σ 82 i) && decide (σ 87 k = σ 87 i))) (σ 84) n) := by
    refine lpW_at (s := fun j => (sI (fun k => decide (i < k) && (decide (σ 82 k = σ 82 i) && decide (σ 87 k = σ 87 i))) (σ 84) (i + 1 + j), nI (i + 1 + j))) (n - (i + 1)) ?_ ?_ ?_ (by omega)
    · rw [Nat.add_zero, sI_zero (fun k hk => by simp; omega)]
    · intro j hj
      have hj2 : i + 1 + j < 240 := by omega
      unfold L_Ref_faceDown_18
      dsimp only
      rw [hn, if_neg (nI_ge (by omega) (by omega)), vin_nI hj2 (by decide), vin_nI (show i < 240 by omega) (by decide)]
      simp only [og_t]
      rw [ix_nI (by omega), ix_nI (by omega), nI_1, ← Nat.add_assoc, sI]
      have hlt : i < i + 1 + j := by omega
      by_cases q1 : σ 82 (i + 1 + j) = σ 82 i
      · by_cases q2 : σ 87 (i + 1 + j) = σ 87 i
        · simp [q1, q2, hlt]
        · simp [q1, q2]
      · simp [q1]
    · unfold L_Ref_faceDown_18
      dsimp only
      rw [hn, show i + 1 + (n - (i + 1)) = n by omega, if_pos (nI_le (Nat.le_refl n) (by omega))]
  unfold F_Ref_faceDown
  rw [vin_nI (show i < 240 by omega) (by decide), og_t, ix_nI (by omega), nI_1]
  by_cases h1 : σ 87 i = -1
  · rw [if_pos h1, if_pos h1]
  · rw [if_neg h1, if_neg h1, ob_of hl]
theorem turned {σ : SG} {w h m n S : Nat} {pt : Bool} (hh : h ≤ 10) (hC : RC σ w h m n S pt) {i : Nat} (hi : i < n) : F_Ref_faceDown σ (nI i) = some (σ 32 i) := by
  obtain ⟨⟨c1, c2, hn240, -⟩, -, ⟨-, -, hS240, -, -⟩, ⟨k1, k2, k3, k4, k5, k6⟩, hcov, -, h0⟩ := hC
  rw [faceDown_eq c2 hn240 hi, k1, k3, k6]
  by_cases hS : S = 0
  · obtain ⟨e1, e2⟩ := h0 hS i hi
    rw [if_pos e1, e2]
  · obtain ⟨r, l, z, f, hv, hcut⟩ := hcov (by omega)
    obtain ⟨s, hs1, -⟩ := hcut (by omega)
    obtain ⟨g1, g2, g3⟩ := hs1 i hi
    rw [if_neg (by rw [g2]; exact nm1_ne (by omega)), g3, ← sI_sm (g := σ 24) (fun k hk => (hv.1 k hk).2.2.1)]
    refine congrArg some (sI_cong (fun k hk => ?_) (fun _ _ _ => rfl))
    obtain ⟨e1, -, -, -, e5, -⟩ := hv.1 k hk
    obtain ⟨e1', -, -, -, e5', -⟩ := hv.1 i hi
    obtain ⟨g1', g2', -⟩ := hs1 k hk
    rw [e1, e1', g2, g2']
    congr 2
    · exact decide_eq_decide.mpr (nI_eq (by omega) (by omega))
    · exact decide_eq_decide.mpr (nI_eq (by omega) (by omega))
theorem cubes_has {σ : SG} {n : Nat} (c1 : σ 18 0 = nI n) (c2 : σ 76 10 = nI n) (hn : n ≤ 240) (a : Int32) : (F_Cubes_has σ a = true ∧ F_Shop_within a 0 (σ 76 10 - 1) = true ∧ ∃ k, k < n ∧ a = nI k) ∨ (¬ F_Cubes_has σ a = true ∧ ¬ F_Shop_within a 0 (σ 76 10 - 1) = true) := by
  unfold F_Cubes_has
  rw [c1, c2]
  have hT : (nI n - 1).toInt = (n : Int) - 1 := by
    by_cases h0 : 1 ≤ n
    · rw [nI_sub1 h0, nI_toInt (by omega)]; omega
    · have : n = 0 := by omega
      subst this
      rfl
  by_cases h1 : a < 0
  · right
    rw [if_pos h1]
    exact ⟨fun h => (by cases h), fun h => k2_nlt (wi_iff.mp h).1 h1⟩
  · obtain ⟨k, hk, rfl⟩ := nI_of h1
    rw [if_neg h1]
    by_cases h2 : k < n
    · left
      rw [if_neg (nI_ge h2 (by omega))]
      refine ⟨rfl, wi_iff.mpr ⟨nI_pos' hk, ?_⟩, k, h2, rfl⟩
      rw [le_T, hT, nI_toInt hk]
      omega
    · right
      rw [if_pos (nI_le (by omega) hk)]
      refine ⟨fun h => (by cases h), fun h => ?_⟩
      have := (wi_iff.mp h).2
      rw [le_T, hT, nI_toInt hk] at this
      omega
theorem cube_tell {σ : SG} {w h m n S : Nat} {pt : Bool} (hh : h ≤ 10) (hC : RC σ w h m n S pt) {i : Nat} (hi : i < n) (b : Int32) : (tsS b 0 [(og (vin (nI i) 240) (some (σ 82 (ix (nI i))))), (og (vin (nI i) 240) (some (σ 83 (ix (nI i))))), (og (vin (nI i) 240) (some (σ 84 (ix (nI i))))), (og (vin (nI i) 240) (some (σ 85 (ix (nI i))))), (og (vin (nI i) 240) (some (σ 86 (ix (nI i))))), (og (vin (nI i) 240) (some (σ 87 (ix (nI i)))))] (ob (F_Ref_faceDown σ (nI i)) (fun v10 => some v10))) = some (F_Cubes_tell σ (nI i) b) := by
  have ht := turned hh hC hi
  obtain ⟨⟨c1, c2, hn240, -⟩, -, -, ⟨k1, k2, k3, k4, k5, k6⟩, -⟩ := hC
  have hi2 : i < 240 := by omega
  unfold F_Cubes_tell
  rw [vin_nI hi2 (by decide), ob_of ht, ix_nI (by omega)]
  simp only [og_t]
  rw [rg_nI hi2 (by decide), rg_nI hi2 (by decide), rg_nI hi2 (by decide), rg_nI hi2 (by decide), rg_nI hi2 (by decide), rg_nI hi2 (by decide), rg_nI hi2 (by decide), k1, k2, k3, k4, k5, k6, tsS_map some]
  rfl
theorem op_cube {σ : SG} (hR : R σ) (a b : Int32) : F_Ref_cube σ a b = some (F_Shop_cube σ a b) := by
  obtain ⟨w, h, m, q, n, S, pt, hD, hF, hL, hH, hC⟩ := hR
  unfold F_Ref_cube F_Shop_cube
  rw [in_wi, in_wi]
  by_cases hb : F_Shop_within b 0 6 = true
  rotate_left
  · rw [if_neg hb, if_neg hb]
  rw [if_pos hb, if_pos hb]
  rcases cubes_has hC.1.1 hC.1.2.1 hC.1.2.2.1 a with ⟨h1, h2, k, hk, rfl⟩ | ⟨h1, h2⟩
  rotate_left
  · rw [if_neg h1, if_neg h2]
  rw [if_pos h1, if_pos h2, cube_tell hD.2.2.2.2.2.2.2.1 hC hk b]
