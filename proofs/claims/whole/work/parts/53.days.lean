/-! days and dealt -/
theorem RD_DC {σ τ : SG} {w h : Nat} (h0 : DCf σ τ) (H : RD σ w h) : RD τ w h := RD_c (fun p hp => by rcases hp with rfl | rfl | rfl <;> exact h0 _ (by decide) (by decide) (by decide) (by decide) (by decide) (by decide)) (by rw [h0 76 (by decide) (by decide) (by decide) (by decide) (by decide) (by decide)]) (by rw [h0 76 (by decide) (by decide) (by decide) (by decide) (by decide) (by decide)]) H
theorem RF_DC {σ τ : SG} (h0 : DCf σ τ) (H : RF σ) : RF τ := RF_c (fun p hp => by rcases hp with rfl | rfl | rfl | rfl | rfl | rfl | rfl | rfl | rfl | rfl <;> exact h0 _ (by decide) (by decide) (by decide) (by decide) (by decide) (by decide)) H
theorem RLo_DC {σ τ : SG} {m : Nat} (h0 : DCf σ τ) (H : RLo σ m) : RLo τ m := RLo_c (fun p hp => by rcases hp with rfl | rfl | rfl | rfl | rfl | rfl | rfl <;> exact h0 _ (by decide) (by decide) (by decide) (by decide) (by decide) (by decide)) (by rw [h0 76 (by decide) (by decide) (by decide) (by decide) (by decide) (by decide)]) H
theorem RH_DC {σ τ : SG} {q : Nat} (h0 : DCf σ τ) (H : RH σ q) : RH τ q := RH_c (fun p hp => by rcases hp with rfl | rfl | rfl | rfl | rfl <;> exact h0 _ (by decide) (by decide) (by decide) (by decide) (by decide) (by decide)) (by rw [h0 76 (by decide) (by decide) (by decide) (by decide) (by decide) (by decide)]) H
theorem RC_DC {σ τ : SG} {w h m n S : Nat} {pt : Bool} (h0 : DCf σ τ) (H : RC σ w h m n S pt) : RC τ w h m n S pt := RC_c (fun p hp => by rcases hp with rfl | rfl | rfl | rfl | rfl | rfl | rfl | rfl | rfl | rfl | rfl | rfl | rfl | rfl | rfl | rfl | rfl | rfl | rfl <;> exact h0 _ (by decide) (by decide) (by decide) (by decide) (by decide) (by decide)) (fun k _ => by rw [h0 76 (by decide) (by decide) (by decide) (by decide) (by decide) (by decide)]) H
theorem RD_DR {σ τ : SG} {w h : Nat} (h0 : DRf σ τ) (H : RD σ w h) : RD τ w h := RD_c (fun p hp => by rcases hp with rfl | rfl | rfl <;> exact h0.1 _ (by decide) (by decide) (by decide) (by decide) (by decide) (by decide)) (h0.2 0 (by decide) (by decide)) (h0.2 1 (by decide) (by decide)) H
theorem RF_DR {σ τ : SG} (h0 : DRf σ τ) (H : RF σ) : RF τ := RF_c (fun p hp => by rcases hp with rfl | rfl | rfl | rfl | rfl | rfl | rfl | rfl | rfl | rfl <;> exact h0.1 _ (by decide) (by decide) (by decide) (by decide) (by decide) (by decide)) H
theorem RLo_DR {σ τ : SG} {m : Nat} (h0 : DRf σ τ) (H : RLo σ m) : RLo τ m := RLo_c (fun p hp => by rcases hp with rfl | rfl | rfl | rfl | rfl | rfl | rfl <;> exact h0.1 _ (by decide) (by decide) (by decide) (by decide) (by decide) (by decide)) (h0.2 18 (by decide) (by decide)) H
theorem RH_DR {σ τ : SG} {q : Nat} (h0 : DRf σ τ) (H : RH σ q) : RH τ q := RH_c (fun p hp => by rcases hp with rfl | rfl | rfl | rfl | rfl <;> exact h0.1 _ (by decide) (by decide) (by decide) (by decide) (by decide) (by decide)) (h0.2 21 (by decide) (by decide)) H
theorem RC_DR {σ τ : SG} {w h m n S : Nat} {pt : Bool} (h0 : DRf σ τ) (H : RC σ w h m n S pt) : RC τ w h m n S pt := RC_c (fun p hp => by rcases hp with rfl | rfl | rfl | rfl | rfl | rfl | rfl | rfl | rfl | rfl | rfl | rfl | rfl | rfl | rfl | rfl | rfl | rfl | rfl <;> exact h0.1 _ (by decide) (by decide) (by decide) (by decide) (by decide) (by decide)) (fun k hk => h0.2 k (by omega) (by omega)) H
def fcS (σ : SG) (n : Nat) (s : Nat) : Bool := anyB (fun i => decide (σ 30 i = nI s) && decide (σ 17 (ix (σ 26 i)) = 1)) n
def msS (σ : SG) (q : Nat) : Bool := anyB (fun j => decide (σ 64 j = 1)) q
theorem headC {σ : SG} {w h m n S : Nat} {pt : Bool} (hD : RD σ w h) (hF : RF σ) (hC : RC σ w h m n S pt) (s : Nat) : F_Sheets_hasHead σ (nI s) = some (fcS σ n s) ∧ F_Ref_hasFace σ (nI s) = some (fcS σ n s) := by
  obtain ⟨z, f, hz, hf, hf26, hf85, e1, e2, e3⟩ := sheet_facts hD hF hC
  obtain ⟨⟨c1, c2, hn240, -⟩, -⟩ := hC
  have hb720 : sm (fun i => decide (σ 30 i = nI s) && decide (σ 17 (ix (σ 26 i)) = 1)) z n ≤ n * 3 := sm_le (fun i hi => (hz i hi).2.2)
  have hfc : fcS σ n s = decide (0 < sm (fun i => decide (σ 30 i = nI s) && decide (σ 17 (ix (σ 26 i)) = 1)) z n) := by
    unfold fcS
    rw [Bool.eq_iff_iff, anyB_iff, decide_eq_true_eq, sm_pos (fun i hi => (hz i hi).2.1)]
  constructor
  · unfold F_Sheets_hasHead
    rw [ob_of (marked16_eq c1 hn240 hf26 (nI s)), sI_sm (fun i hi => (hz i hi).1), hfc]
    generalize sm (fun i => decide (σ 30 i = nI s) && decide (σ 17 (ix (σ 26 i)) = 1)) z n = K at hb720
    by_cases h0 : 0 < K
    · rw [if_neg (nI_nle h0 (by omega)), decide_eq_true h0]
    · have : K = 0 := by omega
      subst this
      rfl
  · rw [hasFace_eq c2 hn240 hf85 (nI s), e2, hfc]
theorem mastC {σ : SG} {q : Nat} (hH : RH σ q) : F_Hands_haveMaster σ = some (msS σ q) := by
  obtain ⟨h60, -, hq, -, -, -⟩ := hH
  have hl : lpW (L_Hands_haveMaster_4 σ) FU (false, 0) = some (msS σ q) := by
    refine lpW_at (s := fun j => (msS σ j, nI j)) q rfl ?_ ?_ (by omega)
    · intro j hj
      unfold L_Hands_haveMaster_4 F_Hands_isMaster
      dsimp only
      rw [if_neg (show ¬ σ 60 0 ≤ nI j by rw [h60]; exact nI_ge hj (by omega)), rg_nI (show j < 4 by omega) (by decide), nI_1, show msS σ (j + 1) = (msS σ j || decide (σ 64 j = 1)) from rfl]
      cases hm : msS σ j with
      | true => rw [if_pos rfl]; rfl
      | false =>
        rw [if_neg Bool.false_ne_true]
        by_cases h1 : σ 64 j = 1
        · rw [if_pos h1, if_pos rfl, decide_eq_true h1]; rfl
        · rw [if_neg h1, if_neg Bool.false_ne_true, decide_eq_false h1]; rfl
    · unfold L_Hands_haveMaster_4
      dsimp only
      rw [if_pos (show σ 60 0 ≤ nI q by rw [h60]; exact nI_le (Nat.le_refl _) (by omega))]
  unfold F_Hands_haveMaster
  rw [ob_of hl]
theorem mastR {σ : SG} {q : Nat} (hH : RH σ q) : lpW (L_Ref_deal_9 σ) FU (false, 0) = some (msS σ q) := by
  obtain ⟨-, h60, hq, -, h91, hk⟩ := hH
  refine lpW_at (s := fun j => (msS σ j, nI j)) q rfl ?_ ?_ (by omega)
  · intro j hj
    obtain ⟨-, ⟨b, hb⟩⟩ := hk j hj
    unfold L_Ref_deal_9
    dsimp only
    rw [if_neg (show ¬ (up σ 76 31 0) 76 21 ≤ nI j by rw [show (up σ 76 31 0) 76 21 = nI q from h60]; exact nI_ge hj (by omega)), vin_nI (show j < 4 by omega) (by decide), og_t, ix_nI (by omega), nI_1, show msS σ (j + 1) = (msS σ j || decide (σ 64 j = 1)) from rfl]
    have e91 : (up σ 76 31 0) 91 j = bI b := by show σ 91 j = _; rw [h91]; exact hb
    cases hm : msS σ j with
    | true => rw [if_pos rfl]; rfl
    | false =>
      rw [if_neg Bool.false_ne_true, hb, bI_eq1]
      cases b with
      | true => rw [if_neg (show ¬ (up σ 76 31 0) 91 j = 0 by rw [e91]; decide)]; rfl
      | false => rw [if_pos (show (up σ 76 31 0) 91 j = 0 by rw [e91]; rfl)]; rfl
  · unfold L_Ref_deal_9
    dsimp only
    rw [if_pos (show (up σ 76 31 0) 76 21 ≤ nI q by rw [show (up σ 76 31 0) 76 21 = nI q from h60]; exact nI_le (Nat.le_refl _) (by omega))]
/-- the numbers that the dealing is made of -/
def wtS2 (σ : SG) (s : Nat) : Nat := ix (σ 59 s)
def skS (σ : SG) (j : Nat) : Nat := ix (σ 62 j)
def msJ (σ : SG) (j : Nat) : Bool := decide (σ 64 j = 1)
def dyS (σ : SG) (L : Nat → Nat) : Nat → Nat → Nat := dyF (fun k => wtS2 σ (L k)) (skS σ)
def okS (σ : SG) (n : Nat) (L : Nat → Nat) : Nat → Nat → Bool := okF (fun k => fcS σ n (L k)) (msJ σ)
theorem wt_of {σ : SG} {w h m n S : Nat} {pt : Bool} (hD : RD σ w h) (hF : RF σ) (hC : RC σ w h m n S pt) {s : Nat} (hs : s < S) : σ 59 s = nI (wtS2 σ s) ∧ wtS2 σ s < 1000 := by
  obtain ⟨k, hk, e⟩ := (weights hD hF hC).1 s hs
  unfold wtS2
  rw [e, ix_nI (by omega)]
  exact ⟨rfl, hk⟩
theorem sk_of {σ : SG} {q j : Nat} (hH : RH σ q) (hj : j < q) : σ 62 j = nI (skS σ j) ∧ 1 ≤ skS σ j ∧ skS σ j ≤ 20 ∧ σ 64 j = bI (msJ σ j) := by
  obtain ⟨⟨s, s1, s2, e⟩, ⟨b, hb⟩⟩ := hH.2.2.2.2.2 j hj
  unfold skS msJ
  rw [e, ix_nI (by omega), hb, bI_eq1]
  exact ⟨rfl, s1, s2, rfl⟩
/-- there is a dealing -/
theorem best_ex {σ : SG} {q n S M : Nat} {L : Nat → Nat} {wt : Nat → Nat} (hq : 1 ≤ q) (hh : hl wt (fcS σ n) (msS σ q) S = some (M, L)) {b : Option Nat} (hB : Best q M (dyS σ L) (okS σ n L) (q ^ M) b) : ∃ c, b = some c := by
  obtain ⟨-, hf⟩ := hl_facts hh
  cases hm : msS σ q with
  | true =>
    obtain ⟨j, hj, hj2⟩ := anyB_iff.mp hm
    refine Best_some hB hj (fun k hk => ?_)
    show (!_ || decide (σ 64 j = 1)) = true
    rw [hj2]
    exact Bool.or_true _
  | false =>
    refine Best_some hB (show 0 < q by omega) (fun k hk => ?_)
    have := (hf k hk).2.2
    show (!(fcS σ n (L k)) || _) = true
    cases hfk : fcS σ n (L k) with
    | true => rw [hm] at this; exact absurd (this hfk) Bool.false_ne_true
    | false => rfl
theorem gS_0 {dy : Nat → Nat → Nat} {a : Nat → Nat} {q : Nat} : gS dy a 0 q = 0 := by
  have : gS dy a 0 q ≤ 0 := by
    rw [gS_le]; intro j hj; exact Nat.le_refl 0
  omega
theorem dealC {σ : SG} {w h m n S q : Nat} {pt : Bool} (hD : RD σ w h) (hF : RF σ) (hH : RH σ q) (hC : RC σ w h m n S pt) :
    ∃ v τ, F_Dealer_dealSheets σ = some (v, τ) ∧ DCf σ τ ∧ ((v = false ∧ (q = 0 ∨ hl (wtS2 σ) (fcS σ n) (msS σ q) S = none)) ∨ (v = true ∧ 1 ≤ q ∧ ∃ M L c, hl (wtS2 σ) (fcS σ n) (msS σ q) S = some (M, L) ∧ Best q M (dyS σ L) (okS σ n L) (q ^ M) (some c) ∧ τ 65 0 = nI (gc q M (dyS σ L) c) ∧ τ 65 3 = nI M ∧ ∀ k, k < M → τ 67 k = nI (L k) ∧ τ 73 k = nI (dgt q c M k))) := by
  obtain ⟨h60, -, hq4, -, -, -⟩ := id hH
  obtain ⟨-, -, ⟨hS, -, hS240, -, -⟩, -⟩ := id hC
  by_cases hq0 : q = 0
  · refine ⟨false, σ, ?_, fun _ _ _ _ _ _ _ => rfl, Or.inl ⟨rfl, Or.inl hq0⟩⟩
    unfold F_Dealer_dealSheets
    rw [if_pos (show σ 60 0 = 0 by rw [h60, hq0]; rfl)]
  have hq1 : 1 ≤ q := by omega
  have hc60 : ¬ σ 60 0 = 0 := by rw [h60]; exact nI_ne0 hq1 (by omega)
  obtain ⟨Y, g1, g2⟩ := gatherC hS hS240 (fun s hs => wt_of hD hF hC hs) (fun τ hτ s hs => by
    rw [(headC (RD_DC hτ hD) (RF_DC hτ hF) (RC_DC hτ hC) s).1]
    unfold fcS
    rw [hτ 30 (by decide) (by decide) (by decide) (by decide) (by decide) (by decide), hτ 17 (by decide) (by decide) (by decide) (by decide) (by decide) (by decide), hτ 26 (by decide) (by decide) (by decide) (by decide) (by decide) (by decide)]) (fun τ hτ => by
    rw [mastC (RH_DC hτ hH)]
    unfold msS
    rw [hτ 64 (by decide) (by decide) (by decide) (by decide) (by decide) (by decide)]) (fc := fcS σ n) (ms := msS σ q) (wt := wtS2 σ)
  rcases g2 with ⟨M, L, τ, hh, rfl, ⟨hτ, h65, h67⟩⟩ | ⟨hh, τ, rfl, hτ⟩
  rotate_left
  · refine ⟨false, τ, ?_, hτ, Or.inl ⟨rfl, Or.inr hh⟩⟩
    unfold F_Dealer_dealSheets
    rw [if_neg hc60, ob_of g1]
    rfl
  obtain ⟨hM9, hLf⟩ := hl_facts hh
  generalize hτ1 : rf (up τ 65 0 1000000) 75 4 0 = τ1
  have t1 : ∀ p, p ≠ 65 → p ≠ 75 → τ1 p = τ p := fun p a b => by rw [← hτ1, rf_sR, sR_ne _ _ b, up_ne _ _ _ a]
  have H : DSx τ1 q M L (fun k => wtS2 σ (L k)) (skS σ) (fun k => fcS σ n (L k)) (msJ σ) := by
    refine ⟨hq1, hq4, hM9, ?_, ?_, fun k hk => ⟨?_, ?_, ?_, ?_, ?_⟩, fun j hj => ?_⟩
    · rw [t1 60 (by decide) (by decide), hτ 60 (by decide) (by decide) (by decide) (by decide) (by decide) (by decide)]; exact h60
    · rw [← hτ1]; exact h65
    · rw [t1 67 (by decide) (by decide)]; exact (h67 k hk).1
    · have := (hLf k hk).1; exact Nat.lt_of_lt_of_le this hS240
    · rw [t1 59 (by decide) (by decide), hτ 59 (by decide) (by decide) (by decide) (by decide) (by decide) (by decide)]; exact (wt_of hD hF hC (hLf k hk).1).1
    · exact (wt_of hD hF hC (hLf k hk).1).2
    · rw [t1 69 (by decide) (by decide)]; exact (h67 k hk).2
    · rw [t1 62 (by decide) (by decide), hτ 62 (by decide) (by decide) (by decide) (by decide) (by decide) (by decide), t1 64 (by decide) (by decide), hτ 64 (by decide) (by decide) (by decide) (by decide) (by decide) (by decide)]; exact sk_of hH hj
  obtain ⟨τ2, b, r1, ⟨rF, -, -, rL⟩, r3⟩ := dfs H M 0 (by omega) 11 (by omega) 0 τ1 none ⟨⟨fun _ _ _ _ _ => rfl, fun _ _ => rfl⟩, fun i hi => by omega, fun j hj => by rw [← hτ1, rf_sR, sR_at]; exact if_pos (by omega), by rw [← hτ1]; rfl⟩ (fun c hc => by omega) (fun i hi => by omega) (fun c hc => by cases hc)
  rw [gS_0] at r1
  rw [Nat.zero_add, Nat.one_mul] at r3
  obtain ⟨c, rfl⟩ := best_ex hq1 hh r3
  have t2 : ∀ p, p ≠ 65 → p ≠ 71 → p ≠ 73 → p ≠ 75 → τ2 p = τ p := fun p a b c d => by rw [rF.1 p a b c d, t1 p a d]
  refine ⟨true, τ2, ?_, fun p a1 a2 a3 a4 a5 a6 => ?_, Or.inr ⟨rfl, hq1, M, L, c, hh, r3, rL.1, ?_, fun k hk => ⟨?_, rL.2 k hk⟩⟩⟩
  · unfold F_Dealer_dealSheets F_Dealer_dealFrom
    rw [if_neg hc60, ob_of g1]
    dsimp only
    rw [if_pos rfl, hτ1, ob_of (show R_Dealer_dealFrom 11 τ1 0 0 = some τ2 from r1)]
  · rw [t2 p a1 a4 a5 a6, hτ p a1 a2 a3 a4 a5 a6]
  · rw [rF.2 3 (by decide), ← hτ1]; exact h65
  · rw [t2 67 (by decide) (by decide) (by decide) (by decide)]; exact (h67 k hk).1
theorem de130 {τ : SG} {q M : Nat} (hq : τ 76 21 = nI q) (hM : τ 76 31 = nI M) (hM9 : M ≤ 9) : lpW (L_Ref_deal_130 τ) FU (1, 0) = some (nI (q ^ M)) := by
  refine lpW_at (s := fun k => (nI (q ^ k), nI k)) M rfl ?_ ?_ (by omega)
  · intro k hk
    unfold L_Ref_deal_130
    dsimp only
    rw [if_neg (show ¬ τ 76 31 ≤ nI k by rw [hM]; exact nI_ge hk (by omega)), hq, nI_mul, nI_1, ← Nat.pow_succ]
  · unfold L_Ref_deal_130
    dsimp only
    rw [if_pos (show τ 76 31 ≤ nI M by rw [hM]; exact nI_le (Nat.le_refl _) (by omega))]
theorem dealR {σ : SG} {w h m n S q : Nat} {pt : Bool} (hD : RD σ w h) (hF : RF σ) (hH : RH σ q) (hC : RC σ w h m n S pt) :
    ∃ v τ, F_Ref_deal σ = some (v, τ) ∧ DRf σ τ ∧ ((v = false ∧ (S = 0 ∨ q = 0 ∨ hl (wtS2 σ) (fcS σ n) (msS σ q) S = none)) ∨ (v = true ∧ 1 ≤ q ∧ 0 < S ∧ ∃ M L c, hl (wtS2 σ) (fcS σ n) (msS σ q) S = some (M, L) ∧ Best q M (dyS σ L) (okS σ n L) (q ^ M) (some c) ∧ τ 76 33 = nI (gc q M (dyS σ L) c) ∧ τ 76 31 = nI M ∧ ∀ k, k < M → τ 98 k = nI (L k) ∧ τ 99 k = nI (dgt q c M k))) := by
  obtain ⟨-, h21, hq4, h90, h91, -⟩ := id hH
  obtain ⟨-, -, ⟨-, hS, hS240, h9, -⟩, -⟩ := id hC
  have hsum : ∀ τ, DRf σ τ → ∀ s, s < S → F_Ref_sumOf τ (nI s) false = some (nI (wtS2 σ s)) := fun τ hτ s hs => by
    rw [(weights (RD_DR hτ hD) (RF_DR hτ hF) (RC_DR hτ hC)).2 s hs, hτ.1 59 (by decide) (by decide) (by decide) (by decide) (by decide) (by decide), (wt_of hD hF hC hs).1]
  have hfc : ∀ τ, DRf σ τ → ∀ s, s < S → F_Ref_hasFace τ (nI s) = some (fcS σ n s) := fun τ hτ s hs => by
    rw [(headC (RD_DR hτ hD) (RF_DR hτ hF) (RC_DR hτ hC) s).2]
    unfold fcS
    rw [hτ.1 30 (by decide) (by decide) (by decide) (by decide) (by decide) (by decide), hτ.1 17 (by decide) (by decide) (by decide) (by decide) (by decide) (by decide), hτ.1 26 (by decide) (by decide) (by decide) (by decide) (by decide) (by decide)]
  obtain ⟨Y, g1, g2⟩ := gatherR (σ0 := up σ 76 31 0) (ms := msS σ q) hS hS240 (fun s hs => (wt_of hD hF hC hs).2) hsum hfc ⟨⟨fun p a b c d e f => up_ne _ _ _ a, fun k a b => by show upd (σ 76) 31 0 k = _; rw [upd_ne _ _ a]⟩, rfl, fun k hk => by omega⟩
  rcases g2 with ⟨M, L, τ, hh, rfl, ⟨hτ, h31, h98⟩⟩ | ⟨hh, τ, rfl, hτ⟩
  rotate_left
  · refine ⟨false, τ, ?_, hτ, Or.inl ⟨rfl, Or.inr (Or.inr hh)⟩⟩
    unfold F_Ref_deal
    rw [ob_of (mastR hH), ob_of g1, Sum.elim_inr]
  by_cases hS0 : S = 0
  · refine ⟨false, τ, ?_, hτ, Or.inl ⟨rfl, Or.inl hS0⟩⟩
    unfold F_Ref_deal
    rw [ob_of (mastR hH), ob_of g1, Sum.elim_inl, if_pos (show τ 76 9 = 0 by rw [hτ.2 9 (by decide) (by decide), h9, hS0]; rfl)]
  have hc9 : ¬ τ 76 9 = 0 := by rw [hτ.2 9 (by decide) (by decide), h9, decide_eq_true (show 0 < S by omega)]; decide
  by_cases hq0 : q = 0
  · refine ⟨false, τ, ?_, hτ, Or.inl ⟨rfl, Or.inr (Or.inl hq0)⟩⟩
    unfold F_Ref_deal
    rw [ob_of (mastR hH), ob_of g1, Sum.elim_inl, if_neg hc9, if_pos (show τ 76 21 = 0 by rw [hτ.2 21 (by decide) (by decide), h21, hq0]; rfl)]
  have hq1 : 1 ≤ q := by omega
  have t21 : τ 76 21 = nI q := by rw [hτ.2 21 (by decide) (by decide)]; exact h21
  have hc21 : ¬ τ 76 21 = 0 := by rw [t21]; exact nI_ne0 hq1 (by omega)
  obtain ⟨hM9, hLf⟩ := hl_facts hh
  -- the rows of weights
  have h153 : lpW L_Ref_deal_153 FU (0, τ) = some (w2 τ 100 101 (rowF (fun k => nI (wtS2 σ (L k))) (τ 100) M) (rowF (fun k => bI (fcS σ n (L k))) (τ 101) M)) := by
    refine lpW_at (s := fun k => (nI k, w2 τ 100 101 (rowF (fun k => nI (wtS2 σ (L k))) (τ 100) k) (rowF (fun k => bI (fcS σ n (L k))) (τ 101) k))) M ?_ ?_ ?_ (Nat.lt_of_le_of_lt hM9 (by decide))
    · rw [rowF_0, rowF_0, w2_self]; rfl
    · intro k hk
      have hM9' : M ≤ 9 := hM9
      have hLk := (hLf k hk).1
      have hfr : ∀ A B, DRf σ (w2 τ 100 101 A B) := fun A B => ⟨fun p a b c d e f => by rw [w2_o _ _ _ d e]; exact hτ.1 p a b c d e f, fun k a b => hτ.2 k a b⟩
      rw [← rowF_s, ← rowF_s]
      generalize rowF (fun k => nI (wtS2 σ (L k))) (τ 100) k = A
      generalize rowF (fun k => bI (fcS σ n (L k))) (τ 101) k = B
      have hkk : ix (nI k) = k := ix_nI (by omega)
      have e98 : ∀ A B, (w2 τ 100 101 A B) 98 k = nI (L k) := fun A B => h98 k hk
      unfold L_Ref_deal_153 nm
      dsimp only
      rw [if_neg (show ¬ (w2 τ 100 101 A B) 76 31 ≤ nI k by rw [show (w2 τ 100 101 A B) 76 31 = nI M from h31]; exact nI_ge hk (by omega)), vin_nI (show k < 9 by omega) (by decide)]
      simp only [og_t]
      rw [hkk, e98, ob_of (hsum _ (hfr A B) _ hLk), up_w2p _ _ _ (by decide), e98, ob_of (hfc _ (hfr _ B) _ hLk), up_w2q, nI_1]
    · unfold L_Ref_deal_153
      dsimp only
      rw [if_pos (show (w2 τ 100 101 _ _) 76 31 ≤ nI M by rw [show ∀ A B, (w2 τ 100 101 A B) 76 31 = nI M from fun _ _ => h31]; exact nI_le (Nat.le_refl _) (Nat.lt_of_le_of_lt hM9 (by decide)))]
  generalize hτ1 : up (w2 τ 100 101 (rowF (fun k => nI (wtS2 σ (L k))) (τ 100) M) (rowF (fun k => bI (fcS σ n (L k))) (τ 101) M)) 76 33 (-1) = τ1
  have H : RX τ1 q M (fun k => wtS2 σ (L k)) (skS σ) (fun k => fcS σ n (L k)) (msJ σ) := by
    refine ⟨hq1, hq4, hM9, ?_, ?_, fun k hk => ⟨?_, ?_, ?_⟩, fun j hj => ?_⟩
    · rw [← hτ1]; exact t21
    · rw [← hτ1]; exact h31
    · rw [← hτ1, up_ne _ _ _ (by decide), w2_p _ _ _ (by decide), rowF_lt hk]
    · exact (wt_of hD hF hC (hLf k hk).1).2
    · rw [← hτ1, up_ne _ _ _ (by decide), w2_q, rowF_lt hk]
    · obtain ⟨a, b, c, d⟩ := sk_of hH hj
      refine ⟨?_, b, c, ?_⟩
      · rw [← hτ1, up_ne _ _ _ (by decide), w2_o _ _ _ (by decide) (by decide), hτ.1 90 (by decide) (by decide) (by decide) (by decide) (by decide) (by decide), h90]; exact a
      · rw [← hτ1, up_ne _ _ _ (by decide), w2_o _ _ _ (by decide) (by decide), hτ.1 91 (by decide) (by decide) (by decide) (by decide) (by decide) (by decide), h91]; exact d
  obtain ⟨τ2, b, r1, rF, rB, rL⟩ := de207 H (by rw [← hτ1]; rfl)
  obtain ⟨c, rfl⟩ := best_ex hq1 hh rB
  refine ⟨true, τ2, ?_, ⟨fun p a1 a2 a3 a4 a5 a6 => ?_, fun k a b => ?_⟩, Or.inr ⟨rfl, hq1, by omega, M, L, c, hh, rB, rL.1, ?_, fun k hk => ⟨?_, rL.2 k hk⟩⟩⟩
  · unfold F_Ref_deal
    rw [ob_of (mastR hH), ob_of g1, Sum.elim_inl, if_neg hc9, if_neg hc21, ob_of (de130 t21 h31 hM9), ob_of h153, hτ1, ob_of r1]
  · rw [rF.1 p a1 a3 a6, ← hτ1, up_ne _ _ _ a1, w2_o _ _ _ a4 a5]; exact hτ.1 p a1 a2 a3 a4 a5 a6
  · rw [rF.2 k b, ← hτ1, up_sR, sR_at, upd_ne _ _ b]; exact hτ.2 k a b
  · rw [rF.2 31 (by decide), ← hτ1]; exact h31
  · rw [rF.1 98 (by decide) (by decide) (by decide), ← hτ1]; exact h98 k hk
theorem op_days {σ : SG} (hR : R σ) : ∃ r σ1 σ2, F_Shop_days σ = some (r, σ1) ∧ F_Ref_days σ1 = some (r, σ2) ∧ R σ2 := by
  obtain ⟨w, h, m, q, n, S, pt, hD, hF, hL, hH, hC⟩ := id hR
  have hcutd := isCut_iff hC.2.2.1.1 hC.2.2.1.2.2.1
  by_cases hS0 : S = 0
  · obtain ⟨v, τ, g1, g2, g3⟩ := dealR hD hF hH hC
    rcases g3 with ⟨rfl, -⟩ | ⟨-, -, h0, -⟩
    · refine ⟨-3, σ, τ, ?_, ?_, w, h, m, q, n, S, pt, RD_DR g2 hD, RF_DR g2 hF, RLo_DR g2 hL, RH_DR g2 hH, RC_DR g2 hC⟩
      · unfold F_Shop_days
        rw [if_neg (show ¬ F_Shop_isCut σ = true by rw [hcutd, hS0]; decide)]
      · unfold F_Ref_days
        rw [ob_of g1]
        rfl
    · omega
  have hcut : F_Shop_isCut σ = true := by rw [hcutd]; exact decide_eq_true (by omega)
  obtain ⟨v, σ1, a1, a2, a3⟩ := dealC hD hF hH hC
  have hD1 := RD_DC a2 hD
  have hF1 := RF_DC a2 hF
  have hH1 := RH_DC a2 hH
  have hC1 := RC_DC a2 hC
  have hL1 := RLo_DC a2 hL
  obtain ⟨v', σ2, b1, b2, b3⟩ := dealR hD1 hF1 hH1 hC1
  have t : ∀ p, p ≠ 65 → p ≠ 67 → p ≠ 69 → p ≠ 71 → p ≠ 73 → p ≠ 75 → σ1 p = σ p := a2
  have e1 : wtS2 σ1 = wtS2 σ := by unfold wtS2; rw [t 59 (by decide) (by decide) (by decide) (by decide) (by decide) (by decide)]
  have e2 : fcS σ1 = fcS σ := by unfold fcS; rw [t 30 (by decide) (by decide) (by decide) (by decide) (by decide) (by decide), t 17 (by decide) (by decide) (by decide) (by decide) (by decide) (by decide), t 26 (by decide) (by decide) (by decide) (by decide) (by decide) (by decide)]
  have e3 : msS σ1 = msS σ := by unfold msS; rw [t 64 (by decide) (by decide) (by decide) (by decide) (by decide) (by decide)]
  have e4 : dyS σ1 = dyS σ := by unfold dyS skS; rw [e1, t 62 (by decide) (by decide) (by decide) (by decide) (by decide) (by decide)]
  have e5 : okS σ1 = okS σ := by unfold okS msJ; rw [e2, t 64 (by decide) (by decide) (by decide) (by decide) (by decide) (by decide)]
  rw [e1, e2, e3, e4, e5] at b3
  have hRf : R σ2 := ⟨w, h, m, q, n, S, pt, RD_DR b2 hD1, RF_DR b2 hF1, RLo_DR b2 hL1, RH_DR b2 hH1, RC_DR b2 hC1⟩
  rcases a3 with ⟨rfl, a3⟩ | ⟨rfl, hq, M, L, c, a4, a5, a6, a7, a8⟩
  · rcases b3 with ⟨rfl, -⟩ | ⟨-, hq, -, M, L, c, b4, -⟩
    · refine ⟨-3, σ1, σ2, ?_, ?_, hRf⟩
      · unfold F_Shop_days; rw [if_pos hcut, ob_of a1]; rfl
      · unfold F_Ref_days; rw [ob_of b1]; rfl
    · rcases a3 with a3 | a3
      · omega
      · rw [a3] at b4; cases b4
  · rcases b3 with ⟨-, b3⟩ | ⟨rfl, -, -, M', L', c', b4, b5, b6, b7, b8⟩
    · rcases b3 with b3 | b3 | b3
      · omega
      · omega
      · rw [b3] at a4; cases a4
    · rw [a4] at b4
      cases b4
      have := Best_u a5 b5
      cases this
      refine ⟨nI (gc q M (dyS σ L) c), σ1, σ2, ?_, ?_, hRf⟩
      · unfold F_Shop_days
        rw [if_pos hcut, ob_of a1]
        dsimp only
        rw [if_pos rfl, a6]
      · unfold F_Ref_days
        rw [ob_of b1]
        dsimp only
        rw [if_pos rfl, b6]
theorem handC {τ : SG} {M s : Nat} {L D : Nat → Nat} (hM9 : M ≤ 9) (hs : s < 240) (hL : ∀ k, k < M → L k < 240) (h65 : τ 65 3 = nI M) (hk : ∀ k, k < M → τ 67 k = nI (L k) ∧ τ 73 k = nI (D k)) {r : Int32} (hr : (∃ k, k < M ∧ L k = s ∧ (∀ e, e < k → ¬ L e = s) ∧ r = nI (D k)) ∨ ((∀ k, k < M → ¬ L k = s) ∧ r = -1)) : F_Dealer_handOf τ (nI s) = some r := by
  have hgo : ∀ k, k < M → ¬ L k = s → L_Dealer_handOf_2 τ (nI s) (nI k) = some (.inl (nI (k + 1))) := fun k hkM hne => by
    have := hL k hkM
    unfold L_Dealer_handOf_2
    rw [if_neg (show ¬ τ 65 3 ≤ nI k by rw [h65]; exact nI_ge hkM (by omega)), rg_nI (show k < 9 by omega) (by decide), (hk k hkM).1, if_neg (show ¬ nI (L k) = nI s by rw [nI_eq (by omega) (by omega)]; exact hne), nI_1]
  unfold F_Dealer_handOf
  rcases hr with ⟨k, hkM, h1, h2, rfl⟩ | ⟨h1, rfl⟩
  · have hl : lpW (L_Dealer_handOf_2 τ (nI s)) FU 0 = some (.inr (nI (D k))) := by
      refine lpW_at (s := fun i => nI i) k rfl (fun i hi => hgo i (by omega) (h2 i hi)) ?_ (by omega)
      unfold L_Dealer_handOf_2
      rw [if_neg (show ¬ τ 65 3 ≤ nI k by rw [h65]; exact nI_ge hkM (by omega)), rg_nI (show k < 9 by omega) (by decide), rg_nI (show k < 9 by omega) (by decide), (hk k hkM).1, (hk k hkM).2, if_pos (by rw [h1])]
    rw [ob_of hl]
    rfl
  · have hl : lpW (L_Dealer_handOf_2 τ (nI s)) FU 0 = some (.inl ()) := by
      refine lpW_at (s := fun i => nI i) M rfl (fun i hi => hgo i hi (h1 i hi)) ?_ (by omega)
      unfold L_Dealer_handOf_2
      rw [if_pos (show τ 65 3 ≤ nI M by rw [h65]; exact nI_le (Nat.le_refl _) (by omega))]
    rw [ob_of hl]
    rfl
theorem handR {τ : SG} {M s : Nat} {L D : Nat → Nat} {v : Bool} (hM9 : M ≤ 9) (hs : s < 240) (hL : ∀ k, k < M → L k < 240) (h31 : τ 76 31 = nI M) (hk : ∀ k, k < M → τ 98 k = nI (L k) ∧ τ 99 k = nI (D k)) {r : Int32} (hr : (∃ k, k < M ∧ L k = s ∧ (∀ e, e < k → ¬ L e = s) ∧ r = nI (D k)) ∨ ((∀ k, k < M → ¬ L k = s) ∧ r = -1)) : ob (lpW (L_Ref_dealt_25 (nI s) (v, τ)) FU 0) (fun y4 => Sum.elim (fun y4 : Unit => some ((-1), τ)) (fun q4 : Int32 × SG => some q4) y4) = some (r, τ) := by
  have hgo : ∀ k, k < M → ¬ L k = s → L_Ref_dealt_25 (nI s) (v, τ) (nI k) = some (.inl (nI (k + 1))) := fun k hkM hne => by
    have := hL k hkM
    have e : τ 98 (ix (nI k)) = nI (L k) := by rw [ix_nI (by omega)]; exact (hk k hkM).1
    unfold L_Ref_dealt_25
    dsimp only
    rw [if_neg (show ¬ τ 76 31 ≤ nI k by rw [h31]; exact nI_ge hkM (by omega)), vin_nI (show k < 9 by omega) (by decide)]
    simp only [og_t]
    rw [if_neg (show ¬ τ 98 (ix (nI k)) = nI s by rw [e, nI_eq (by omega) (by omega)]; exact hne), nI_1]
  rcases hr with ⟨k, hkM, h1, h2, rfl⟩ | ⟨h1, rfl⟩
  · have hl : lpW (L_Ref_dealt_25 (nI s) (v, τ)) FU 0 = some (.inr (nI (D k), τ)) := by
      refine lpW_at (s := fun i => nI i) k rfl (fun i hi => hgo i (by omega) (h2 i hi)) ?_ (by omega)
      have e : τ 98 (ix (nI k)) = nI (L k) := by rw [ix_nI (by omega)]; exact (hk k hkM).1
      have e2 : τ 99 (ix (nI k)) = nI (D k) := by rw [ix_nI (by omega)]; exact (hk k hkM).2
      unfold L_Ref_dealt_25
      dsimp only
      rw [if_neg (show ¬ τ 76 31 ≤ nI k by rw [h31]; exact nI_ge hkM (by omega)), vin_nI (show k < 9 by omega) (by decide)]
      simp only [og_t]
      rw [if_pos (show τ 98 (ix (nI k)) = nI s by rw [e, h1]), e2]
    rw [ob_of hl]
    rfl
  · have hl : lpW (L_Ref_dealt_25 (nI s) (v, τ)) FU 0 = some (.inl ()) := by
      refine lpW_at (s := fun i => nI i) M rfl (fun i hi => hgo i hi (h1 i hi)) ?_ (by omega)
      unfold L_Ref_dealt_25
      dsimp only
      rw [if_pos (show τ 76 31 ≤ nI M by rw [h31]; exact nI_le (Nat.le_refl _) (by omega))]
    rw [ob_of hl]
    rfl
theorem first_or {M s : Nat} {L D : Nat → Nat} : ∃ r : Int32, (∃ k, k < M ∧ L k = s ∧ (∀ e, e < k → ¬ L e = s) ∧ r = nI (D k)) ∨ ((∀ k, k < M → ¬ L k = s) ∧ r = -1) := by
  by_cases h : ∃ k, k < M ∧ L k = s
  · obtain ⟨k, h1, h2⟩ := h
    obtain ⟨d, a, b, c⟩ := least_of (P := fun k => L k = s) (N := k) h2
    exact ⟨nI (D d), Or.inl ⟨d, by omega, b, c, rfl⟩⟩
  · exact ⟨-1, Or.inr ⟨fun k hk e => h ⟨k, hk, e⟩, rfl⟩⟩
theorem op_dealt {σ : SG} (hR : R σ) (a : Int32) : ∃ r σ1 σ2, F_Shop_dealt σ a = some (r, σ1) ∧ F_Ref_dealt σ1 a = some (r, σ2) ∧ R σ2 := by
  obtain ⟨w, h, m, q, n, S, pt, hD, hF, hL, hH, hC⟩ := id hR
  rcases sheet_cases hC a with ⟨h1, h2⟩ | ⟨h0, h1, h2, h3⟩ | ⟨s, hs, rfl, h1, h2, h3⟩
  · exact ⟨-2, σ, σ, by unfold F_Shop_dealt; rw [if_neg h1], by unfold F_Ref_dealt; rw [h2, if_pos rfl], hR⟩
  · obtain ⟨v, τ, g1, g2, g3⟩ := dealR hD hF hH hC
    rcases g3 with ⟨rfl, -⟩ | ⟨-, -, h0', -⟩
    · refine ⟨-3, σ, τ, ?_, ?_, w, h, m, q, n, S, pt, RD_DR g2 hD, RF_DR g2 hF, RLo_DR g2 hL, RH_DR g2 hH, RC_DR g2 hC⟩
      · unfold F_Shop_dealt; rw [if_pos h1, if_neg (bf h2)]
      · unfold F_Ref_dealt
        rw [h3, if_neg (show ¬ (-3 : Int32) = -2 by decide), ob_of g1]
        rfl
    · omega
  obtain ⟨v, σ1, a1, a2, a3⟩ := dealC hD hF hH hC
  have hD1 := RD_DC a2 hD
  have hF1 := RF_DC a2 hF
  have hH1 := RH_DC a2 hH
  have hC1 := RC_DC a2 hC
  have hL1 := RLo_DC a2 hL
  have hS240 := hC.2.2.1.2.2.1
  obtain ⟨v', σ2, b1, b2, b3⟩ := dealR hD1 hF1 hH1 hC1
  have t : ∀ p, p ≠ 65 → p ≠ 67 → p ≠ 69 → p ≠ 71 → p ≠ 73 → p ≠ 75 → σ1 p = σ p := a2
  have e1 : wtS2 σ1 = wtS2 σ := by unfold wtS2; rw [t 59 (by decide) (by decide) (by decide) (by decide) (by decide) (by decide)]
  have e2 : fcS σ1 = fcS σ := by unfold fcS; rw [t 30 (by decide) (by decide) (by decide) (by decide) (by decide) (by decide), t 17 (by decide) (by decide) (by decide) (by decide) (by decide) (by decide), t 26 (by decide) (by decide) (by decide) (by decide) (by decide) (by decide)]
  have e3 : msS σ1 = msS σ := by unfold msS; rw [t 64 (by decide) (by decide) (by decide) (by decide) (by decide) (by decide)]
  have e4 : dyS σ1 = dyS σ := by unfold dyS skS; rw [e1, t 62 (by decide) (by decide) (by decide) (by decide) (by decide) (by decide)]
  have e5 : okS σ1 = okS σ := by unfold okS msJ; rw [e2, t 64 (by decide) (by decide) (by decide) (by decide) (by decide) (by decide)]
  rw [e1, e2, e3, e4, e5] at b3
  have hRf : R σ2 := ⟨w, h, m, q, n, S, pt, RD_DR b2 hD1, RF_DR b2 hF1, RLo_DR b2 hL1, RH_DR b2 hH1, RC_DR b2 hC1⟩
  have hns : F_Ref_noSheet σ1 (nI s) = 0 := by rw [← h3]; unfold F_Ref_noSheet; rw [t 76 (by decide) (by decide) (by decide) (by decide) (by decide) (by decide)]
  rcases a3 with ⟨rfl, a3⟩ | ⟨rfl, hq, M, L, c, a4, a5, a6, a7, a8⟩
  · rcases b3 with ⟨rfl, -⟩ | ⟨-, hq, -, M, L, c, b4, -⟩
    · refine ⟨-3, σ1, σ2, ?_, ?_, hRf⟩
      · unfold F_Shop_dealt; rw [if_pos h1, if_pos h2, ob_of a1]; rfl
      · unfold F_Ref_dealt; rw [hns, if_neg (show ¬ (0 : Int32) = -2 by decide), ob_of b1]; rfl
    · rcases a3 with a3 | a3
      · omega
      · rw [a3] at b4; cases b4
  · rcases b3 with ⟨-, b3⟩ | ⟨rfl, -, -, M', L', c', b4, b5, b6, b7, b8⟩
    · rcases b3 with b3 | b3 | b3
      · omega
      · omega
      · rw [b3] at a4; cases a4
    · rw [a4] at b4
      cases b4
      have := Best_u a5 b5
      cases this
      obtain ⟨hM9, hLf⟩ := hl_facts a4
      have hL240 : ∀ k, k < M → L k < 240 := fun k hk => Nat.lt_of_lt_of_le (hLf k hk).1 hS240
      obtain ⟨r, hr⟩ := first_or (M := M) (s := s) (L := L) (D := dgt q c M)
      refine ⟨r, σ1, σ2, ?_, ?_, hRf⟩
      · unfold F_Shop_dealt
        rw [if_pos h1, if_pos h2, ob_of a1]
        dsimp only
        rw [if_pos rfl, ob_of (handC hM9 (by omega) hL240 a7 a8 hr)]
      · unfold F_Ref_dealt
        rw [hns, if_neg (show ¬ (0 : Int32) = -2 by decide), ob_of b1]
        dsimp only
        rw [if_pos rfl]
        exact handR hM9 (by omega) hL240 b7 b8 hr
