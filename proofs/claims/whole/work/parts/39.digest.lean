/-! digest -/
def dg (g : Nat → Int32) : Nat → Int64 → Int64
  | 0, h => h
  | k + 1, h => 31 * dg g k h + (g k).toInt64
def od (F : Nat → Int64 → Int64) : Nat → Int64 → Int64
  | 0, h => h
  | k + 1, h => F k (od F k h)
theorem dgC1 {σ : SG} {g : Nat → Int32} (hg : ∀ k, k < 9 → F_Shop_count σ (nI k) = some (g k)) (h : Int64) : lpW (L_Shop_digest_6 σ) FU (h, 0) = some (dg g 9 h) := by
  refine lpW_at (s := fun k => (dg g k h, nI k)) 9 rfl ?_ ?_ (by omega)
  · intro k hk
    unfold L_Shop_digest_6
    dsimp only
    rw [if_neg (show ¬ (8 : Int32) < nI k from nI_nlt (a := 8) (by omega) (by decide)), ob_of (hg k hk), nI_1]
    rfl
  · unfold L_Shop_digest_6
    dsimp only
    rw [if_pos (show (8 : Int32) < nI 9 from nI_lt (by decide) (by decide))]
theorem dgR1 {σ : SG} {g : Nat → Int32} (hg : ∀ k, k < 9 → F_Ref_count σ (nI k) = some (g k)) (h : Int64) : lpW (L_Ref_digest_6 σ) FU (h, 0) = some (dg g 9 h) := by
  refine lpW_at (s := fun k => (dg g k h, nI k)) 9 rfl ?_ ?_ (by omega)
  · intro k hk
    unfold L_Ref_digest_6
    dsimp only
    rw [if_neg (show ¬ (9 : Int32) ≤ nI k from nI_ge hk (by decide)), ob_of (hg k hk), nI_1]
    rfl
  · unfold L_Ref_digest_6
    dsimp only
    rw [if_pos (show (9 : Int32) ≤ nI 9 from nI_le (by decide) (by decide))]
theorem dgC2 {σ : SG} {w h : Nat} (hD : RD σ w h) (d : Int64) : lpW (L_Shop_digest_33 σ) FU (d, 0) = some (od (fun y => dg (fun x => σ 3 (24 * y + x)) w) h d) := by
  have hD2 := hD
  obtain ⟨e1, e2, -, -, g1, g2, g3, g4, -⟩ := hD2
  refine lpW_at (s := fun y => (od (fun y => dg (fun x => σ 3 (24 * y + x)) w) y d, nI y)) h rfl ?_ ?_ (by omega)
  · intro y hy
    have hin : ∀ d, lpW (L_Shop_digest_47 σ (nI y)) FU (d, 0) = some (dg (fun x => σ 3 (24 * y + x)) w d) := by
      intro d
      refine lpW_at (s := fun x => (dg (fun x => σ 3 (24 * y + x)) x d, nI x)) w rfl ?_ ?_ (by omega)
      · intro x hx
        unfold L_Shop_digest_47
        dsimp only
        rw [e1, if_neg (nI_ge hx (by omega)), fAt (pl_lt hD hx hy), nI_1]
        rfl
      · unfold L_Shop_digest_47
        dsimp only
        rw [e1, if_pos (nI_le (Nat.le_refl w) (by omega))]
    unfold L_Shop_digest_33
    dsimp only
    rw [e2, if_neg (nI_ge hy (by omega)), ob_of (hin _), nI_1]
    rfl
  · unfold L_Shop_digest_33
    dsimp only
    rw [e2, if_pos (nI_le (Nat.le_refl h) (by omega))]
theorem dgR2 {σ : SG} {w h : Nat} (hD : RD σ w h) (d : Int64) : lpW (L_Ref_digest_33 σ) FU (d, 0) = some (od (fun y => dg (fun x => σ 3 (24 * y + x)) w) h d) := by
  have hD2 := hD
  obtain ⟨-, -, e1, e2, g1, g2, g3, g4, e5, -⟩ := hD2
  refine lpW_at (s := fun y => (od (fun y => dg (fun x => σ 3 (24 * y + x)) w) y d, nI y)) h rfl ?_ ?_ (by omega)
  · intro y hy
    have hin : ∀ d, lpW (L_Ref_digest_44 σ (nI y)) FU (d, 0) = some (dg (fun x => σ 3 (24 * y + x)) w d) := by
      intro d
      refine lpW_at (s := fun x => (dg (fun x => σ 3 (24 * y + x)) x d, nI x)) w rfl ?_ ?_ (by omega)
      · intro x hx
        have hlt := pl_lt hD hx hy
        unfold L_Ref_digest_44
        dsimp only
        rw [e1, if_neg (nI_ge hx (by omega)), pl_nI', vin_nI hlt (by decide), og_t, ix_nI (by omega), nI_1, e5]
        rfl
      · unfold L_Ref_digest_44
        dsimp only
        rw [e1, if_pos (nI_le (Nat.le_refl w) (by omega))]
    unfold L_Ref_digest_33
    dsimp only
    rw [e2, if_neg (nI_ge hy (by omega)), ob_of (hin _), nI_1]
    rfl
  · unfold L_Ref_digest_33
    dsimp only
    rw [e2, if_pos (nI_le (Nat.le_refl h) (by omega))]
theorem dgC3 {σ : SG} {n : Nat} (hn : σ 18 0 = nI n) (h240 : n ≤ 240) (d : Int64) : lpW (L_Shop_digest_91 σ) FU (d, 0) = some (od (fun i => dg (fun b => F_Cubes_tell σ (nI i) (nI b)) 7) n d) := by
  refine lpW_at (s := fun i => (od (fun i => dg (fun b => F_Cubes_tell σ (nI i) (nI b)) 7) i d, nI i)) n rfl ?_ ?_ (by omega)
  · intro i hi
    have hin : ∀ d, lpW (L_Shop_digest_105 σ (nI i)) FU (d, 0) = some (dg (fun b => F_Cubes_tell σ (nI i) (nI b)) 7 d) := by
      intro d
      refine lpW_at (s := fun b => (dg (fun b => F_Cubes_tell σ (nI i) (nI b)) b d, nI b)) 7 rfl ?_ ?_ (by omega)
      · intro b hb
        unfold L_Shop_digest_105
        dsimp only
        rw [if_neg (show ¬ (6 : Int32) < nI b from nI_nlt (a := 6) (by omega) (by decide)), nI_1]
        rfl
      · unfold L_Shop_digest_105
        dsimp only
        rw [if_pos (show (6 : Int32) < nI 7 from nI_lt (by decide) (by decide))]
    unfold L_Shop_digest_91
    dsimp only
    rw [hn, if_neg (nI_ge hi (by omega)), ob_of (hin _), nI_1]
    rfl
  · unfold L_Shop_digest_91
    dsimp only
    rw [hn, if_pos (nI_le (Nat.le_refl n) (by omega))]
theorem dgR3 {σ : SG} {w h m n S : Nat} {pt : Bool} (hh : h ≤ 10) (hC : RC σ w h m n S pt) (d : Int64) : lpW (L_Ref_digest_87 σ) FU (d, 0) = some (od (fun i => dg (fun b => F_Cubes_tell σ (nI i) (nI b)) 7) n d) := by
  have hn := hC.1.2.1
  have h240 := hC.1.2.2.1
  refine lpW_at (s := fun i => (od (fun i => dg (fun b => F_Cubes_tell σ (nI i) (nI b)) 7) i d, nI i)) n rfl ?_ ?_ (by omega)
  · intro i hi
    have hin : ∀ d, lpW (L_Ref_digest_98 σ (nI i)) FU (d, 0) = some (dg (fun b => F_Cubes_tell σ (nI i) (nI b)) 7 d) := by
      intro d
      refine lpW_at (s := fun b => (dg (fun b => F_Cubes_tell σ (nI i) (nI b)) b d, nI b)) 7 rfl ?_ ?_ (by omega)
      · intro b hb
        have hcube : F_Ref_cube σ (nI i) (nI b) = some (F_Cubes_tell σ (nI i) (nI b)) := by
          unfold F_Ref_cube
          rw [in_wi, in_wi, if_pos (show F_Shop_within (nI b) 0 6 = true from wi_0 (b := 6) (by omega) (by decide)), hn, nI_sub1 (by omega), if_pos (wi_0 (by omega) (by omega)), cube_tell hh hC hi]
        unfold L_Ref_digest_98
        dsimp only
        rw [if_neg (show ¬ (7 : Int32) ≤ nI b from nI_ge hb (by decide)), ob_of hcube, nI_1]
        rfl
      · unfold L_Ref_digest_98
        dsimp only
        rw [if_pos (show (7 : Int32) ≤ nI 7 from nI_le (by decide) (by decide))]
    unfold L_Ref_digest_87
    dsimp only
    rw [hn, if_neg (nI_ge hi (by omega)), ob_of (hin _), nI_1]
    rfl
  · unfold L_Ref_digest_87
    dsimp only
    rw [hn, if_pos (nI_le (Nat.le_refl n) (by omega))]
theorem dgC4 {σ : SG} {m : Nat} (hL : RLo σ m) (d : Int64) : lpW (L_Shop_digest_144 σ) FU (d, 0) = some (dg (σ 44) m d) := by
  obtain ⟨e1, -, e3, -⟩ := hL
  refine lpW_at (s := fun k => (dg (σ 44) k d, nI k)) m rfl ?_ ?_ (by omega)
  · intro k hk
    unfold L_Shop_digest_144
    dsimp only
    rw [e1, if_neg (nI_ge hk (by omega)), rg_nI (show k < 10 by omega) (by decide), nI_1]
    rfl
  · unfold L_Shop_digest_144
    dsimp only
    rw [e1, if_pos (nI_le (Nat.le_refl m) (by omega))]
theorem dgR4 {σ : SG} {m : Nat} (hL : RLo σ m) (d : Int64) : lpW (L_Ref_digest_134 σ) FU (d, 0) = some (dg (σ 44) m d) := by
  obtain ⟨-, e2, e3, e4, -⟩ := hL
  refine lpW_at (s := fun k => (dg (σ 44) k d, nI k)) m rfl ?_ ?_ (by omega)
  · intro k hk
    unfold L_Ref_digest_134
    dsimp only
    rw [e2, if_neg (nI_ge hk (by omega)), vin_nI (show k < 10 by omega) (by decide), og_t, ix_nI (by omega), nI_1, e4]
    rfl
  · unfold L_Ref_digest_134
    dsimp only
    rw [e2, if_pos (nI_le (Nat.le_refl m) (by omega))]
theorem op_digest {σ : SG} (hR : R σ) : ∃ r, F_Shop_digest σ = some r ∧ F_Ref_digest σ = some r := by
  have hcnt : ∀ k, ∃ r, F_Shop_count σ (nI k) = some r ∧ F_Ref_count σ (nI k) = some r := fun k => op_count hR (nI k)
  obtain ⟨w, h, m, q, n, S, pt, hD, hF, hL, hH, hC⟩ := hR
  have hg1 : ∀ k, k < 9 → F_Shop_count σ (nI k) = some ((fun k => (F_Shop_count σ (nI k)).getD 0) k) := by
    intro k _
    obtain ⟨r, h1, -⟩ := hcnt k
    dsimp only
    rw [h1]; rfl
  have hg2 : ∀ k, k < 9 → F_Ref_count σ (nI k) = some ((fun k => (F_Shop_count σ (nI k)).getD 0) k) := by
    intro k _
    obtain ⟨r, h1, h2⟩ := hcnt k
    dsimp only
    rw [h1, h2]; rfl
  refine ⟨dg (σ 44) m (od (fun i => dg (fun b => F_Cubes_tell σ (nI i) (nI b)) 7) n (od (fun y => dg (fun x => σ 3 (24 * y + x)) w) h (dg (fun k => (F_Shop_count σ (nI k)).getD 0) 9 149))), ?_, ?_⟩
  · unfold F_Shop_digest
    rw [ob_of (dgC1 hg1 149), ob_of (dgC2 hD _), ob_of (dgC3 hC.1.1 hC.1.2.2.1 _), ob_of (dgC4 hL _)]
  · unfold F_Ref_digest
    rw [ob_of (dgR1 hg2 149), ob_of (dgR2 hD _), ob_of (dgR3 hD.2.2.2.2.2.2.2.1 hC _), ob_of (dgR4 hL _)]
