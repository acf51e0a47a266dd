/-! two rows at once; scrape -/
def w2 (σ : SG) (p q : Nat) (A B : Nat → Int32) : SG := sR (sR σ p A) q B
theorem w2_q (σ : SG) (p q : Nat) (A B : Nat → Int32) : w2 σ p q A B q = B := sR_at _ _ _
theorem w2_p (σ : SG) {p q : Nat} (A B : Nat → Int32) (h : p ≠ q) : w2 σ p q A B p = A := by
  unfold w2
  rw [sR_ne _ _ h, sR_at]
theorem w2_o (σ : SG) {p q r : Nat} (A B : Nat → Int32) (h1 : r ≠ p) (h2 : r ≠ q) : w2 σ p q A B r = σ r := by
  unfold w2
  rw [sR_ne _ _ h2, sR_ne _ _ h1]
theorem up_w2q (σ : SG) (p q : Nat) (A B : Nat → Int32) (k : Nat) (v : Int32) : up (w2 σ p q A B) q k v = w2 σ p q A (upd B k v) := by
  rw [up_sR, w2_q]
  unfold w2
  rw [sR_sR]
theorem up_w2p (σ : SG) {p q : Nat} (A B : Nat → Int32) (h : p ≠ q) (k : Nat) (v : Int32) : up (w2 σ p q A B) p k v = w2 σ p q (upd A k v) B := by
  rw [up_sR, w2_p _ _ _ h]
  unfold w2
  rw [sR_comm _ _ _ (fun e => h e.symm), sR_sR]
theorem w2_self (σ : SG) (p q : Nat) : w2 σ p q (σ p) (σ q) = σ := by
  unfold w2
  rw [sR_self, sR_self]
def cap (v : Int32) : Int32 := if v ≤ 1000 then v else 1000
theorem mnI_cap (v : Int32) : mnI 1000 v = cap v := by
  unfold mnI cap
  by_cases h : v < 1000
  · rw [if_pos h, if_pos (show v ≤ 1000 by rw [le_T]; rw [lt_T] at h; omega)]
  · rw [if_neg h]
    by_cases h2 : v ≤ 1000
    · rw [if_pos h2]
      rw [lt_T] at h
      rw [le_T] at h2
      rw [eq_T]
      omega
    · rw [if_neg h2]
/-- what is given back: how many places, and the lots -/
def scS (g z B : Nat → Int32) : Nat → Int32 × (Nat → Int32)
  | 0 => (0, B)
  | i + 1 => if g i = -1 then scS g z B i else ((scS g z B i).1 + z i, upd (scS g z B i).2 (ix (g i)) (cap ((scS g z B i).2 (ix (g i)) + z i)))
theorem rowF_m1 {g : Nat → Int32} {i : Nat} (h : g i = -1) : rowF (fun _ => -1) g (i + 1) = rowF (fun _ => -1) g i := by
  rw [← rowF_s]
  exact upd_eq ((rowF_ge (Nat.le_refl i)).trans h)
theorem scC {σ : SG} {n : Nat} (hn : σ 18 0 = nI n) (h240 : n ≤ 240) (hg : ∀ i, i < n → σ 28 i = -1 ∨ ∃ k, k < 10 ∧ σ 28 i = nI k) : lpW L_Painter_giveBack_4 FU (0, 0, σ) = some ((scS (σ 28) (σ 24) (σ 44) n).1, w2 σ 28 44 (rowF (fun _ => -1) (σ 28) n) (scS (σ 28) (σ 24) (σ 44) n).2) := by
  refine lpW_at (s := fun i => ((scS (σ 28) (σ 24) (σ 44) i).1, nI i, w2 σ 28 44 (rowF (fun _ => -1) (σ 28) i) (scS (σ 28) (σ 24) (σ 44) i).2)) n ?_ ?_ ?_ (by omega)
  · rw [rowF_0]
    show ((0 : Int32), nI 0, w2 σ 28 44 (σ 28) (σ 44)) = _
    rw [w2_self]; rfl
  · intro i hi
    have hi2 : i < 240 := by omega
    unfold L_Painter_giveBack_4
    dsimp only
    rw [scS, nI_1]
    generalize hA : rowF (fun _ => -1) (σ 28) i = A
    generalize scS (σ 28) (σ 24) (σ 44) i = B
    generalize hτ : w2 σ 28 44 A B.2 = τ
    have t18 : τ 18 0 = nI n := by rw [← hτ]; exact hn
    have t28 : τ 28 i = σ 28 i := by rw [← hτ, w2_p _ _ _ (by decide), ← hA, rowF_ge (Nat.le_refl i)]
    have t24 : τ 24 i = σ 24 i := by rw [← hτ]; rfl
    have t44 : ∀ k, τ 44 k = B.2 k := fun k => by rw [← hτ, w2_q]
    have t28' : rg τ 28 240 (nI i) = σ 28 i := by rw [rg_nI hi2 (by decide), t28]
    have t24' : rg τ 24 240 (nI i) = σ 24 i := by rw [rg_nI hi2 (by decide), t24]
    rw [if_neg (show ¬ τ 18 0 ≤ nI i by rw [t18]; exact nI_ge hi (by omega))]
    rcases hg i hi with h1 | ⟨k, hk, h1⟩
    · rw [if_pos (show rg τ 28 240 (nI i) = -1 by rw [t28']; exact h1), if_pos h1, rowF_m1 h1, hA, hτ]
    · rw [if_neg (show ¬ rg τ 28 240 (nI i) = -1 by rw [t28', h1]; exact nm1_ne (by omega)), if_neg (by rw [h1]; exact nm1_ne (by omega)), t28', t24', h1, rg_nI hk (by decide), rs_nI hk (by decide), t44, ← hτ, up_w2q, mnI_cap, ix_nI (by omega)]
      unfold nm
      dsimp only
      rw [rs_nI hi2 (by decide), up_w2p _ _ _ (by decide), ← hA, rowF_s]
  · unfold L_Painter_giveBack_4
    dsimp only
    rw [if_pos (show (w2 σ 28 44 _ _) 18 0 ≤ nI n by rw [show ∀ A B, (w2 σ 28 44 A B) 18 0 = nI n from fun _ _ => hn]; exact nI_le (Nat.le_refl n) (by omega))]
theorem scR {σ : SG} {n : Nat} (hn : σ 76 10 = nI n) (h240 : n ≤ 240) (hg : ∀ i, i < n → σ 86 i = -1 ∨ ∃ k, k < 10 ∧ σ 86 i = nI k) : lpW L_Ref_scrape_14 FU (0, 0, σ) = some ((scS (σ 86) (σ 84) (σ 89) n).1, w2 σ 86 89 (rowF (fun _ => -1) (σ 86) n) (scS (σ 86) (σ 84) (σ 89) n).2) := by
  refine lpW_at (s := fun i => ((scS (σ 86) (σ 84) (σ 89) i).1, nI i, w2 σ 86 89 (rowF (fun _ => -1) (σ 86) i) (scS (σ 86) (σ 84) (σ 89) i).2)) n ?_ ?_ ?_ (by omega)
  · rw [rowF_0]
    show ((0 : Int32), nI 0, w2 σ 86 89 (σ 86) (σ 89)) = _
    rw [w2_self]; rfl
  · intro i hi
    have hi2 : i < 240 := by omega
    unfold L_Ref_scrape_14
    dsimp only
    rw [scS, nI_1]
    generalize hA : rowF (fun _ => -1) (σ 86) i = A
    generalize scS (σ 86) (σ 84) (σ 89) i = B
    generalize hτ : w2 σ 86 89 A B.2 = τ
    have t18 : τ 76 10 = nI n := by rw [← hτ]; exact hn
    have t28 : τ 86 i = σ 86 i := by rw [← hτ, w2_p _ _ _ (by decide), ← hA, rowF_ge (Nat.le_refl i)]
    have t24 : τ 84 i = σ 84 i := by rw [← hτ]; rfl
    have t44 : ∀ k, τ 89 k = B.2 k := fun k => by rw [← hτ, w2_q]
    have hii : ix (nI i) = i := ix_nI (by omega)
    rw [if_neg (show ¬ τ 76 10 ≤ nI i by rw [t18]; exact nI_ge hi (by omega)), vin_nI hi2 (by decide), og_t]
    rcases hg i hi with h1 | ⟨k, hk, h1⟩
    · rw [if_pos (show τ 86 (ix (nI i)) = -1 by rw [hii, t28]; exact h1), if_pos h1, rowF_m1 h1, hA, hτ]
    · have h1' : τ 86 (ix (nI i)) = nI k := by rw [hii, t28]; exact h1
      have hkk : ix (nI k) = k := ix_nI (by omega)
      have h1n : ¬ σ 86 i = -1 := by rw [h1]; exact nm1_ne (by omega)
      rw [if_neg (show ¬ τ 86 (ix (nI i)) = -1 by rw [h1']; exact nm1_ne (by omega)), if_neg h1n, show vin (τ 86 (ix (nI i))) 10 = true by rw [h1', vin_nI hk (by decide)]]
      simp only [og_t]
      by_cases h2 : B.2 k + σ 84 i ≤ 1000
      · rw [if_pos (show τ 89 (ix (τ 86 (ix (nI i)))) + τ 84 (ix (nI i)) ≤ 1000 by rw [h1', hkk, hii, t44, t24]; exact h2)]
        rw [h1', hkk, hii, t44, t24, h1, hkk]
        unfold nm cap
        rw [if_pos h2, ← hτ, up_w2q]
        show some (Sum.inl (_, _, up (w2 σ 86 89 A _) 86 i (-1))) = _
        rw [up_w2p _ _ _ (show (86:Nat) ≠ 89 by decide), ← hA, rowF_s]
      · rw [if_neg (show ¬ τ 89 (ix (τ 86 (ix (nI i)))) + τ 84 (ix (nI i)) ≤ 1000 by rw [h1', hkk, hii, t44, t24]; exact h2)]
        rw [h1', hkk, hii, t24, h1, hkk]
        unfold nm cap
        rw [if_neg h2, ← hτ, up_w2q]
        show some (Sum.inl (_, _, up (w2 σ 86 89 A _) 86 i (-1))) = _
        rw [up_w2p _ _ _ (show (86:Nat) ≠ 89 by decide), ← hA, rowF_s]
  · unfold L_Ref_scrape_14
    dsimp only
    rw [if_pos (show (w2 σ 86 89 _ _) 76 10 ≤ nI n by rw [show ∀ A B, (w2 σ 86 89 A B) 76 10 = nI n from fun _ _ => hn]; exact nI_le (Nat.le_refl n) (by omega))]
theorem op_scrape {σ : SG} (hR : R σ) : ∃ r σ1 σ2, F_Shop_scrape σ = some (r, σ1) ∧ F_Ref_scrape σ1 = some (r, σ2) ∧ R σ2 := by
  obtain ⟨w, h, m, q, n, S, pt, hD, hF, hL, hH, hC⟩ := id hR
  obtain ⟨⟨c1, c2, hn240, c4⟩, ⟨p1, p2, p3⟩, hS, ⟨k1, k2, k3, k4, k5, k6⟩, hcov, hlot, h0⟩ := hC
  by_cases hp : bI pt = 0
  · refine ⟨-3, σ, σ, ?_, ?_, hR⟩
    · unfold F_Shop_scrape; rw [p1, if_pos hp]
    · unfold F_Ref_scrape; rw [p2, if_pos hp]
  have hg : ∀ i, i < n → σ 28 i = -1 ∨ ∃ k, k < 10 ∧ σ 28 i = nI k := by
    intro i hi
    rcases hlot i hi with h1 | ⟨-, k, h2, h3⟩
    · exact Or.inl h1
    · have := hL.2.2.1
      exact Or.inr ⟨k, by omega, h3⟩
  have hc := scC c1 hn240 hg
  generalize hA : rowF (fun _ => -1) (σ 28) n = A at hc
  generalize hB : scS (σ 28) (σ 24) (σ 44) n = B at hc
  refine ⟨B.1, up (w2 σ 28 44 A B.2) 52 0 0, up (w2 (up (w2 σ 28 44 A B.2) 52 0 0) 86 89 A B.2) 76 8 0, ?_, ?_, w, h, m, q, n, S, false, ?_, ?_, ?_, ?_, ?_⟩
  · unfold F_Shop_scrape F_Painter_giveBack
    rw [p1, if_neg hp, ob_of hc]
    rfl
  · have hr := scR (σ := up (w2 σ 28 44 A B.2) 52 0 0) (n := n) c2 hn240 (by
      intro i hi
      show σ 86 i = -1 ∨ ∃ k, k < 10 ∧ σ 86 i = nI k
      rw [k5]; exact hg i hi)
    rw [show (up (w2 σ 28 44 A B.2) 52 0 0) 86 = σ 28 from k5, show (up (w2 σ 28 44 A B.2) 52 0 0) 84 = σ 24 from k3, show (up (w2 σ 28 44 A B.2) 52 0 0) 89 = σ 44 from hL.2.2.2.1, hA, hB] at hr
    unfold F_Ref_scrape
    rw [show (up (w2 σ 28 44 A B.2) 52 0 0) 76 8 = bI pt from p2, if_neg hp, ob_of hr]
  · exact RD_c (fun p hp => by rcases hp with rfl | rfl | rfl <;> rfl) rfl rfl hD
  · exact RF_c (fun p hp => by rcases hp with rfl | rfl | rfl | rfl | rfl | rfl | rfl | rfl | rfl | rfl <;> rfl) hF
  · exact ⟨hL.1, hL.2.1, hL.2.2.1, rfl, hL.2.2.2.2⟩
  · exact RH_c (fun p hp => by rcases hp with rfl | rfl | rfl | rfl | rfl <;> rfl) rfl hH
  · refine ⟨⟨c1, c2, hn240, c4⟩, ⟨rfl, rfl, by intro h; cases h⟩, hS, ⟨k1, k2, k3, k4, rfl, k6⟩, hcov, fun i hi => Or.inl ?_, h0⟩
    show A i = -1
    rw [← hA, rowF_lt hi]
