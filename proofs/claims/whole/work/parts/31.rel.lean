/-! rel: the relation between the class's cells and the reference's; the first calls -/
def RD (σ : SG) (w h : Nat) : Prop := σ 1 0 = nI w ∧ σ 1 1 = nI h ∧ σ 76 0 = nI w ∧ σ 76 1 = nI h ∧ 1 ≤ w ∧ w ≤ 24 ∧ 1 ≤ h ∧ h ≤ 10 ∧ σ 77 = σ 3 ∧ (∀ k, k < 240 → ∃ f, f < 8 ∧ σ 3 k = nI f)
def RF (σ : SG) : Prop := σ 80 = σ 15 ∧ σ 81 = σ 17 ∧ ∀ f, f < 8 → (∃ a b c, a ≤ 255 ∧ b ≤ 255 ∧ c ≤ 255 ∧ σ 7 f = nI a ∧ σ 78 (3 * f) = nI a ∧ σ 9 f = nI b ∧ σ 78 (3 * f + 1) = nI b ∧ σ 11 f = nI c ∧ σ 78 (3 * f + 2) = nI c) ∧ (∃ g, 1 ≤ g ∧ g ≤ 3 ∧ σ 13 f = nI g ∧ σ 79 f = nI (3 - g)) ∧ (∃ z : Bool, σ 15 f = bI z) ∧ (∃ z : Bool, σ 17 f = bI z)
def RLo (σ : SG) (m : Nat) : Prop := σ 42 0 = nI m ∧ σ 76 18 = nI m ∧ m ≤ 10 ∧ σ 89 = σ 44 ∧ ∀ l, l < 10 → ∃ a b c, a ≤ 255 ∧ b ≤ 255 ∧ c ≤ 255 ∧ σ 47 l = nI a ∧ σ 88 (3 * l) = nI a ∧ σ 49 l = nI b ∧ σ 88 (3 * l + 1) = nI b ∧ σ 51 l = nI c ∧ σ 88 (3 * l + 2) = nI c
def RH (σ : SG) (q : Nat) : Prop := σ 60 0 = nI q ∧ σ 76 21 = nI q ∧ q ≤ 4 ∧ σ 90 = σ 62 ∧ σ 91 = σ 64 ∧ ∀ k, k < q → (∃ s, 1 ≤ s ∧ s ≤ 20 ∧ σ 62 k = nI s) ∧ (∃ z : Bool, σ 64 k = bI z)
/-- the cubes lie on the wall in one line: row, left border, width, field of each -/
def Cov (σ : SG) (w h n : Nat) (r l z f : Nat → Nat) : Prop :=
  (∀ i, i < n → σ 20 i = nI (r i) ∧ σ 22 i = nI (l i) ∧ σ 24 i = nI (z i) ∧ σ 26 i = nI (f i) ∧ r i < h ∧ 1 ≤ z i ∧ z i ≤ 3 ∧ l i + z i ≤ w ∧ f i < 8 ∧ ∀ x, l i ≤ x → x < l i + z i → σ 3 (24 * r i + x) = nI (f i) ∧ σ 34 (24 * r i + x) = nI i) ∧
  r 0 = 0 ∧ l 0 = 0 ∧ (∀ i, i + 1 < n → (r (i + 1) = r i ∧ l (i + 1) = l i + z i) ∨ (r (i + 1) = r i + 1 ∧ l (i + 1) = 0 ∧ l i + z i = w)) ∧ r (n - 1) + 1 = h ∧ l (n - 1) + z (n - 1) = w
/-- a sum over i < n of what p holds of -/
def sm (p : Nat → Bool) (z : Nat → Nat) : Nat → Nat
  | 0 => 0
  | n + 1 => sm p z n + (if p n = true then z n else 0)
/-- what a cut says of the cubes -/
def CutI (σ : SG) (n S : Nat) (r z : Nat → Nat) : Prop := ∃ s : Nat → Nat, (∀ i, i < n → s i < S ∧ σ 30 i = nI (s i) ∧ σ 32 i = nI (sm (fun k => decide (i < k) && (decide (r k = r i) && decide (s k = s i))) z n)) ∧ ∀ t, t < S → σ 59 t = nI (sm (fun k => decide (s k = t)) z n)
def RC (σ : SG) (w h m n S : Nat) (pt : Bool) : Prop :=
  (σ 18 0 = nI n ∧ σ 76 10 = nI n ∧ n ≤ 240 ∧ σ 76 7 = bI (decide (0 < n))) ∧ (σ 52 0 = bI pt ∧ σ 76 8 = bI pt ∧ (pt = true → 0 < n)) ∧ (σ 57 0 = nI S ∧ σ 76 17 = nI S ∧ S ≤ 240 ∧ σ 76 9 = bI (decide (0 < S)) ∧ (0 < S → 0 < n)) ∧
  (σ 82 = σ 20 ∧ σ 83 = σ 22 ∧ σ 84 = σ 24 ∧ σ 85 = σ 26 ∧ σ 86 = σ 28 ∧ σ 87 = σ 30) ∧
  (0 < n → ∃ r l z f : Nat → Nat, Cov σ w h n r l z f ∧ (0 < S → CutI σ n S r z)) ∧
  (∀ i, i < n → σ 28 i = -1 ∨ (pt = true ∧ ∃ k, k < m ∧ σ 28 i = nI k)) ∧ (S = 0 → ∀ i, i < n → σ 30 i = -1 ∧ σ 32 i = -1)
def R (σ : SG) : Prop := ∃ w h m q n S pt, RD σ w h ∧ RF σ ∧ RLo σ m ∧ RH σ q ∧ RC σ w h m n S pt
theorem RD_c {σ σ' : SG} {w h : Nat} (hp : ∀ p, p = 1 ∨ p = 3 ∨ p = 77 → σ' p = σ p) (h0 : σ' 76 0 = σ 76 0) (h1 : σ' 76 1 = σ 76 1) (H : RD σ w h) : RD σ' w h := by
  unfold RD at H ⊢
  rw [h0, h1, hp 1 (by decide), hp 3 (by decide), hp 77 (by decide)]
  exact H
theorem RF_c {σ σ' : SG} (hp : ∀ p, p = 7 ∨ p = 9 ∨ p = 11 ∨ p = 13 ∨ p = 15 ∨ p = 17 ∨ p = 78 ∨ p = 79 ∨ p = 80 ∨ p = 81 → σ' p = σ p) (H : RF σ) : RF σ' := by
  unfold RF at H ⊢
  rw [hp 7 (by decide), hp 9 (by decide), hp 11 (by decide), hp 13 (by decide), hp 15 (by decide), hp 17 (by decide), hp 78 (by decide), hp 79 (by decide), hp 80 (by decide), hp 81 (by decide)]
  exact H
theorem RLo_c {σ σ' : SG} {m : Nat} (hp : ∀ p, p = 42 ∨ p = 44 ∨ p = 47 ∨ p = 49 ∨ p = 51 ∨ p = 88 ∨ p = 89 → σ' p = σ p) (h0 : σ' 76 18 = σ 76 18) (H : RLo σ m) : RLo σ' m := by
  unfold RLo at H ⊢
  rw [h0, hp 42 (by decide), hp 44 (by decide), hp 47 (by decide), hp 49 (by decide), hp 51 (by decide), hp 88 (by decide), hp 89 (by decide)]
  exact H
theorem RH_c {σ σ' : SG} {q : Nat} (hp : ∀ p, p = 60 ∨ p = 62 ∨ p = 64 ∨ p = 90 ∨ p = 91 → σ' p = σ p) (h0 : σ' 76 21 = σ 76 21) (H : RH σ q) : RH σ' q := by
  unfold RH at H ⊢
  rw [h0, hp 60 (by decide), hp 62 (by decide), hp 64 (by decide), hp 90 (by decide), hp 91 (by decide)]
  exact H
theorem Cov_c {σ σ' : SG} {w h n : Nat} {r l z f : Nat → Nat} (hp : ∀ p, p = 3 ∨ p = 20 ∨ p = 22 ∨ p = 24 ∨ p = 26 ∨ p = 34 → σ' p = σ p) (H : Cov σ w h n r l z f) : Cov σ' w h n r l z f := by
  unfold Cov at H ⊢
  rw [hp 3 (by decide), hp 20 (by decide), hp 22 (by decide), hp 24 (by decide), hp 26 (by decide), hp 34 (by decide)]
  exact H
theorem CutI_c {σ σ' : SG} {n S : Nat} {r z : Nat → Nat} (hp : ∀ p, p = 30 ∨ p = 32 ∨ p = 59 → σ' p = σ p) (H : CutI σ n S r z) : CutI σ' n S r z := by
  unfold CutI at H ⊢
  rw [hp 30 (by decide), hp 32 (by decide), hp 59 (by decide)]
  exact H
theorem RC_c {σ σ' : SG} {w h m n S : Nat} {pt : Bool} (hp : ∀ p, p = 3 ∨ p = 18 ∨ p = 20 ∨ p = 22 ∨ p = 24 ∨ p = 26 ∨ p = 28 ∨ p = 30 ∨ p = 32 ∨ p = 34 ∨ p = 52 ∨ p = 57 ∨ p = 59 ∨ p = 82 ∨ p = 83 ∨ p = 84 ∨ p = 85 ∨ p = 86 ∨ p = 87 → σ' p = σ p) (hq : ∀ k, k = 7 ∨ k = 8 ∨ k = 9 ∨ k = 10 ∨ k = 17 → σ' 76 k = σ 76 k) (H : RC σ w h m n S pt) : RC σ' w h m n S pt := by
  unfold RC Cov CutI at H ⊢
  rw [hq 7 (by decide), hq 8 (by decide), hq 9 (by decide), hq 10 (by decide), hq 17 (by decide), hp 3 (by decide), hp 18 (by decide), hp 20 (by decide), hp 22 (by decide), hp 24 (by decide), hp 26 (by decide), hp 28 (by decide), hp 30 (by decide), hp 32 (by decide), hp 34 (by decide), hp 52 (by decide), hp 57 (by decide), hp 59 (by decide), hp 82 (by decide), hp 83 (by decide), hp 84 (by decide), hp 85 (by decide), hp 86 (by decide), hp 87 (by decide)]
  exact H
theorem RC_m {σ : SG} {w h m m' n S : Nat} {pt : Bool} (hm : m ≤ m') (H : RC σ w h m n S pt) : RC σ w h m' n S pt := by
  obtain ⟨a, b, c, d, e, f, g⟩ := H
  refine ⟨a, b, c, d, e, fun i hi => ?_, g⟩
  rcases f i hi with h1 | ⟨h1, k, h2, h3⟩
  · exact Or.inl h1
  · exact Or.inr ⟨h1, k, by omega, h3⟩
/-- nothing is laid -/
theorem RC_0 {σ : SG} {w h m : Nat} (h18 : σ 18 0 = 0) (h52 : σ 52 0 = 0) (h57 : σ 57 0 = 0) (hq : ∀ k, k = 7 ∨ k = 8 ∨ k = 9 ∨ k = 10 ∨ k = 17 → σ 76 k = 0) (he : σ 82 = σ 20 ∧ σ 83 = σ 22 ∧ σ 84 = σ 24 ∧ σ 85 = σ 26 ∧ σ 86 = σ 28 ∧ σ 87 = σ 30) : RC σ w h m 0 0 false :=
  ⟨⟨h18, hq 10 (by decide), by omega, hq 7 (by decide)⟩, ⟨h52, hq 8 (by decide), by intro h; cases h⟩, ⟨h57, hq 17 (by decide), by omega, hq 9 (by decide), fun h => h⟩, he, fun h => absurd h (Nat.lt_irrefl 0), fun i hi => absurd hi (Nat.not_lt_zero i), fun _ i hi => absurd hi (Nat.not_lt_zero i)⟩
theorem wi_f {p a b : Int32} (h : ¬ F_Shop_within p a b = true) : F_Shop_within p a b = false := by
  cases e : F_Shop_within p a b with
  | true => exact absurd e h
  | false => rfl
theorem op_wall {σ : SG} (hR : R σ) (a b : Int32) : ∃ r σ1 σ2, F_Shop_wall σ a b = (r, σ1) ∧ F_Ref_wall σ1 a b = some (r, σ2) ∧ R σ2 := by
  by_cases ha : F_Shop_within a 1 24 = true
  rotate_left
  · refine ⟨-2, σ, σ, ?_, ?_, hR⟩
    · unfold F_Shop_wall; rw [if_neg ha]
    · unfold F_Ref_wall; rw [in_wi, if_neg ha]
  by_cases hb : F_Shop_within b 1 10 = true
  rotate_left
  · refine ⟨-2, σ, σ, ?_, ?_, hR⟩
    · unfold F_Shop_wall; rw [if_pos ha, if_neg hb]
    · unfold F_Ref_wall; rw [in_wi, if_pos ha, in_wi, if_neg hb]
  obtain ⟨w, hw1, hw2, rfl⟩ := wi_nI (a := 1) (b := 24) (by decide) (by decide) ha
  obtain ⟨h, hh1, hh2, rfl⟩ := wi_nI (a := 1) (b := 10) (by decide) (by decide) hb
  obtain ⟨w0, h0, m, q, n, S, pt, hD, hF, hL, hH, hC⟩ := hR
  have h1 : F_Shop_wall σ (nI w) (nI h) = (1, F_Shop_takeDown (F_Drawing_begin σ (nI w) (nI h))) := by
    unfold F_Shop_wall; rw [if_pos ha, if_pos hb]
  refine ⟨1, _, F_Ref_goes (sR (up (up (F_Shop_takeDown (F_Drawing_begin σ (nI w) (nI h))) 76 0 (nI w)) 76 1 (nI h)) 77 (rowF (fun _ => 0) (σ 77) 240)), h1, ?_, w, h, m, q, 0, 0, false, ?_, ?_, ?_, ?_, ?_⟩
  · unfold F_Ref_wall
    rw [in_wi, if_pos ha, in_wi, if_pos hb]
    generalize hs : up (up (F_Shop_takeDown (F_Drawing_begin σ (nI w) (nI h))) 76 0 (nI w)) 76 1 (nI h) = σ1
    have h77 : σ 77 = σ1 77 := by rw [← hs]; rfl
    have hl : lpW L_Ref_wall_35 FU (0, σ1) = some (sR σ1 77 (rowF (fun _ => 0) (σ1 77) 240)) := by
      refine lpW_at (s := fun i => (nI i, sR σ1 77 (rowF (fun _ => 0) (σ1 77) i))) 240 ?_ ?_ ?_ (by decide)
      · rw [rowF_0, sR_self]; rfl
      · intro i hi
        unfold L_Ref_wall_35
        dsimp only
        rw [if_neg (show ¬ (240 : Int32) ≤ nI i from nI_ge hi (by decide)), vin_nI hi (by decide), og_t, ix_nI (by omega), nI_1, up_sR, sR_at, sR_sR, ← rowF_s]
      · unfold L_Ref_wall_35
        dsimp only
        rw [if_pos (show (240 : Int32) ≤ nI 240 from nI_le (Nat.le_refl 240) (by decide))]
    rw [h77, ob_of hl]
  · exact ⟨rfl, rfl, rfl, rfl, hw1, hw2, hh1, hh2, by show rowF (fun _ => 0) (σ 77) 240 = (fun j => if j < 240 then 0 else σ 3 j); rw [hD.2.2.2.2.2.2.2.2.1]; rfl, fun k hk => ⟨0, by decide, if_pos hk⟩⟩
  · exact RF_c (fun p hp => by rcases hp with rfl | rfl | rfl | rfl | rfl | rfl | rfl | rfl | rfl | rfl <;> rfl) hF
  · exact RLo_c (fun p hp => by rcases hp with rfl | rfl | rfl | rfl | rfl | rfl | rfl <;> rfl) rfl hL
  · exact RH_c (fun p hp => by rcases hp with rfl | rfl | rfl | rfl | rfl <;> rfl) rfl hH
  · exact RC_0 rfl rfl rfl (fun k hk => by rcases hk with rfl | rfl | rfl | rfl | rfl <;> rfl) hC.2.2.2.1
