/-! the sheets to deal -/
def hl (wt : Nat → Nat) (fc : Nat → Bool) (ms : Bool) : Nat → Option (Nat × (Nat → Nat))
  | 0 => some (0, fun _ => 0)
  | s + 1 => match hl wt fc ms s with
    | none => none
    | some p => if wt s = 0 then some p else if p.1 = 9 ∨ (fc s = true ∧ ms = false) then none else some (p.1 + 1, updN p.2 p.1 s)
theorem hl_none {wt : Nat → Nat} {fc : Nat → Bool} {ms : Bool} {s : Nat} (h : hl wt fc ms s = none) : ∀ d, hl wt fc ms (s + d) = none
  | 0 => h
  | d + 1 => by
    rw [show s + (d + 1) = (s + d) + 1 by omega, hl, hl_none h d]
theorem hl_facts {wt : Nat → Nat} {fc : Nat → Bool} {ms : Bool} : ∀ {s : Nat} {p : Nat × (Nat → Nat)}, hl wt fc ms s = some p → p.1 ≤ 9 ∧ ∀ k, k < p.1 → p.2 k < s ∧ 0 < wt (p.2 k) ∧ (fc (p.2 k) = true → ms = true) := by
  intro s
  induction s with
  | zero => intro p h; cases h; exact ⟨by omega, fun k hk => by omega⟩
  | succ s ih =>
    intro p h
    rw [hl] at h
    cases hq : hl wt fc ms s with
    | none => rw [hq] at h; cases h
    | some p0 =>
      rw [hq] at h
      dsimp only at h
      obtain ⟨i1, i2⟩ := ih hq
      by_cases h1 : wt s = 0
      · rw [if_pos h1] at h
        cases h
        exact ⟨i1, fun k hk => by obtain ⟨a, b, c⟩ := i2 k hk; exact ⟨by omega, b, c⟩⟩
      · rw [if_neg h1] at h
        by_cases h2 : p0.1 = 9 ∨ (fc s = true ∧ ms = false)
        · rw [if_pos h2] at h; cases h
        · rw [if_neg h2] at h
          cases h
          refine ⟨by show p0.1 + 1 ≤ 9; omega, fun k hk => ?_⟩
          by_cases hk2 : k = p0.1
          · show updN p0.2 p0.1 s k < s + 1 ∧ 0 < wt (updN p0.2 p0.1 s k) ∧ _
            rw [hk2, updN_at]
            refine ⟨by omega, by omega, fun hf => ?_⟩
            cases ms with
            | true => rfl
            | false =>
              rw [show (p0.1 + 1, updN p0.2 p0.1 s).2 p0.1 = s from updN_at _ _ _] at hf
              exact absurd (Or.inr ⟨hf, rfl⟩) h2
          · show updN p0.2 p0.1 s k < s + 1 ∧ 0 < wt (updN p0.2 p0.1 s k) ∧ (fc (updN p0.2 p0.1 s k) = true → _)
            rw [updN_ne _ _ hk2]
            have hk3 : k < p0.1 + 1 := hk
            obtain ⟨a, b, c⟩ := i2 k (by omega)
            exact ⟨by omega, b, c⟩
/-- all but the dealer's cells is as before -/
def DCf (σ τ : SG) : Prop := ∀ p, p ≠ 65 → p ≠ 67 → p ≠ 69 → p ≠ 71 → p ≠ 73 → p ≠ 75 → τ p = σ p
def DRf (σ τ : SG) : Prop := (∀ p, p ≠ 76 → p ≠ 98 → p ≠ 99 → p ≠ 100 → p ≠ 101 → p ≠ 102 → τ p = σ p) ∧ ∀ k, k ≠ 31 → k ≠ 33 → τ 76 k = σ 76 k
def GIC (σ : SG) (fc : Nat → Bool) (τ : SG) (m : Nat) (L : Nat → Nat) : Prop := DCf σ τ ∧ τ 65 3 = nI m ∧ ∀ k, k < m → τ 67 k = nI (L k) ∧ τ 69 k = bI (fc (L k))
def GIR (σ τ : SG) (m : Nat) (L : Nat → Nat) : Prop := DRf σ τ ∧ τ 76 31 = nI m ∧ ∀ k, k < m → τ 98 k = nI (L k)
theorem gaW {τ : SG} {m : Nat} {a c : Int32} (h : τ 65 3 = nI m) (hm : m < 9) : rs (rs τ 67 9 (τ 65 3) a) 69 9 ((rs τ 67 9 (τ 65 3) a) 65 3) c = up (up τ 67 m a) 69 m c := by
  have e : rs τ 67 9 (τ 65 3) a = up τ 67 m a := by rw [h, rs_nI hm (by decide)]
  rw [e, show (up τ 67 m a) 65 3 = nI m from h, rs_nI hm (by decide)]
theorem GIC_s {σ τ : SG} {fc : Nat → Bool} {m s : Nat} {L : Nat → Nat} (h : GIC σ fc τ m L) : GIC σ fc (up (up (up τ 67 m (nI s)) 69 m (bI (fc s))) 65 3 (nI (m + 1))) (m + 1) (updN L m s) := by
  obtain ⟨h1, h2, h3⟩ := h
  refine ⟨fun p a b c d e f => ?_, rfl, fun k hk => ?_⟩
  · rw [up_ne _ _ _ a, up_ne _ _ _ c, up_ne _ _ _ b]
    exact h1 p a b c d e f
  · show upd (τ 67) m (nI s) k = _ ∧ upd (τ 69) m (bI (fc s)) k = _
    by_cases hkm : k = m
    · rw [hkm, upd_at, upd_at, updN_at]
      exact ⟨rfl, rfl⟩
    · rw [upd_ne _ _ hkm, upd_ne _ _ hkm, updN_ne _ _ hkm]
      exact h3 k (by omega)
theorem GIR_s {σ τ : SG} {m s : Nat} {L : Nat → Nat} (h : GIR σ τ m L) : GIR σ (up (up τ 98 m (nI s)) 76 31 (nI (m + 1))) (m + 1) (updN L m s) := by
  obtain ⟨⟨h1, h0⟩, h2, h3⟩ := h
  refine ⟨⟨fun p a b c d e f => ?_, fun k hk hk2 => ?_⟩, rfl, fun k hk => ?_⟩
  · rw [up_ne _ _ _ a, up_ne _ _ _ b]
    exact h1 p a b c d e f
  · show upd (τ 76) 31 (nI (m + 1)) k = _
    rw [upd_ne _ _ hk]
    exact h0 k hk hk2
  · show upd (τ 98) m (nI s) k = _
    by_cases hkm : k = m
    · rw [hkm, upd_at, updN_at]
    · rw [upd_ne _ _ hkm, updN_ne _ _ hkm]
      exact h3 k (by omega)
theorem gatherC {σ : SG} {S : Nat} {wt : Nat → Nat} {fc : Nat → Bool} {ms : Bool} (hS : σ 57 0 = nI S) (h240 : S ≤ 240) (hw : ∀ s, s < S → σ 59 s = nI (wt s) ∧ wt s < 1000) (hfc : ∀ τ, DCf σ τ → ∀ s, s < S → F_Sheets_hasHead τ (nI s) = some (fc s)) (hms : ∀ τ, DCf σ τ → F_Hands_haveMaster τ = some ms) :
    ∃ Y, F_Dealer_gather σ = some Y ∧ ((∃ M L τ, hl wt fc ms S = some (M, L) ∧ Y = (true, τ) ∧ GIC σ fc τ M L) ∨ (hl wt fc ms S = none ∧ ∃ τ, Y = (false, τ) ∧ DCf σ τ)) := by
  have hl := lpInv (f := L_Dealer_gather_7)
    (Inv := fun k X => ∃ s m L τ, s ≤ S ∧ k = S - s ∧ X = (nI s, τ) ∧ hl wt fc ms s = some (m, L) ∧ GIC σ fc τ m L)
    (Post := fun Y => (∃ M L τ, hl wt fc ms S = some (M, L) ∧ Y = .inl τ ∧ GIC σ fc τ M L) ∨ (hl wt fc ms S = none ∧ ∃ τ, Y = .inr (false, τ) ∧ DCf σ τ))
    (fun k X hI => by
      obtain ⟨s, m, L, τ, h1, h2, rfl, hh, hG⟩ := hI
      obtain ⟨hF, h65, h67⟩ := id hG
      have t57 : τ 57 0 = nI S := by rw [hF 57 (by decide) (by decide) (by decide) (by decide) (by decide) (by decide)]; exact hS
      by_cases hsS : s = S
      · right
        refine ⟨.inl τ, ?_, Or.inl ⟨m, L, τ, hsS ▸ hh, rfl, hG⟩⟩
        unfold L_Dealer_gather_7
        dsimp only
        rw [if_pos (show τ 57 0 ≤ nI s by rw [t57]; exact nI_le (by omega) (by omega))]
      · have hs : s < S := by omega
        obtain ⟨w1, w2⟩ := hw s hs
        have hc : ¬ τ 57 0 ≤ nI s := by rw [t57]; exact nI_ge hs (by omega)
        have hwt : rg τ 59 240 (nI s) = nI (wt s) := by rw [rg_nI (by omega) (by decide), hF 59 (by decide) (by decide) (by decide) (by decide) (by decide) (by decide)]; exact w1
        have hm9 : m ≤ 9 := (hl_facts hh).1
        by_cases h0 : wt s = 0
        · left
          refine ⟨(nI (s + 1), τ), S - (s + 1), by omega, ?_, s + 1, m, L, τ, by omega, rfl, rfl, by rw [hl, hh]; exact if_pos h0, hG⟩
          unfold L_Dealer_gather_7
          dsimp only
          rw [if_neg hc, if_pos (show rg τ 59 240 (nI s) ≤ 0 by rw [hwt, h0]; decide), nI_1]
        · have hc2 : ¬ rg τ 59 240 (nI s) ≤ 0 := by rw [hwt]; exact nI_nle (by omega) (by omega)
          by_cases h9 : m = 9
          · right
            refine ⟨.inr (false, τ), ?_, Or.inr ⟨?_, τ, rfl, hF⟩⟩
            · unfold L_Dealer_gather_7
              dsimp only
              rw [if_neg hc, if_neg hc2, ob_of (hfc τ hF s hs), if_pos (show τ 65 3 = 9 by rw [h65, h9]; rfl)]
            · have : hl wt fc ms (s + 1) = none := by rw [hl, hh]; dsimp only; rw [if_neg h0, if_pos (Or.inl h9)]
              have h := hl_none this (S - (s + 1))
              rwa [show s + 1 + (S - (s + 1)) = S by omega] at h
          · have hc3 : ¬ τ 65 3 = 9 := by rw [h65]; intro e; have := (nI_eq (b := 9) (by omega) (by decide)).mp e; omega
            by_cases hff : fc s = true ∧ ms = false
            · right
              refine ⟨.inr (false, τ), ?_, Or.inr ⟨?_, τ, rfl, hF⟩⟩
              · unfold L_Dealer_gather_7
                dsimp only
                rw [if_neg hc, if_neg hc2, ob_of (hfc τ hF s hs), if_neg hc3, if_pos hff.1, ob_of (hms τ hF), if_neg (bf hff.2)]
              · have : hl wt fc ms (s + 1) = none := by rw [hl, hh]; dsimp only; rw [if_neg h0, if_pos (Or.inr hff)]
                have h := hl_none this (S - (s + 1))
                rwa [show s + 1 + (S - (s + 1)) = S by omega] at h
            · left
              refine ⟨(nI (s + 1), _), S - (s + 1), by omega, ?_, s + 1, m + 1, updN L m s, up (up (up τ 67 m (nI s)) 69 m (bI (fc s))) 65 3 (nI (m + 1)), by omega, rfl, rfl, by rw [hl, hh]; dsimp only; rw [if_neg h0, if_neg (fun h => h.elim h9 hff)], GIC_s hG⟩
              unfold L_Dealer_gather_7
              dsimp only
              rw [if_neg hc, if_neg hc2, ob_of (hfc τ hF s hs), if_neg hc3, nI_1]
              cases hfs : fc s with
              | true =>
                have hmt : ms = true := by cases hms2 : ms with
                  | true => rfl
                  | false => exact absurd ⟨hfs, hms2⟩ hff
                rw [if_pos rfl, ob_of (hms τ hF), if_pos hmt, if_pos rfl, gaW h65 (by omega)]
                unfold nm
                dsimp only
                rw [show (up (up τ 67 m (nI s)) 69 m 1) 65 3 = nI m from h65, nI_1]
                rfl
              | false =>
                rw [if_neg Bool.false_ne_true, if_neg Bool.false_ne_true, gaW h65 (by omega)]
                unfold nm
                dsimp only
                rw [show (up (up τ 67 m (nI s)) 69 m 0) 65 3 = nI m from h65, nI_1]
                rfl)
    (k := S) (x := (0, up σ 65 3 0)) ⟨0, 0, fun _ => 0, up σ 65 3 0, Nat.zero_le _, rfl, rfl, rfl, fun p a b c d e f => up_ne _ _ _ a, rfl, fun k hk => by omega⟩ (by omega)
  obtain ⟨Y, g1, g2⟩ := hl
  unfold F_Dealer_gather
  rw [ob_of g1]
  rcases g2 with ⟨M, L, τ, a, rfl, b⟩ | ⟨a, τ, rfl, b⟩
  · exact ⟨(true, τ), rfl, Or.inl ⟨M, L, τ, a, rfl, b⟩⟩
  · exact ⟨(false, τ), rfl, Or.inr ⟨a, τ, rfl, b⟩⟩
theorem gatherR {σ σ0 : SG} {S : Nat} {wt : Nat → Nat} {fc : Nat → Bool} {ms : Bool} (hS : σ 76 17 = nI S) (h240 : S ≤ 240) (hw : ∀ s, s < S → wt s < 1000) (hsum : ∀ τ, DRf σ τ → ∀ s, s < S → F_Ref_sumOf τ (nI s) false = some (nI (wt s))) (hfc : ∀ τ, DRf σ τ → ∀ s, s < S → F_Ref_hasFace τ (nI s) = some (fc s)) (h0 : GIR σ σ0 0 (fun _ => 0)) :
    ∃ Y, lpW (L_Ref_deal_44 ms) FU (0, σ0) = some Y ∧ ((∃ M L τ, hl wt fc ms S = some (M, L) ∧ Y = .inl τ ∧ GIR σ τ M L) ∨ (hl wt fc ms S = none ∧ ∃ τ, Y = .inr (false, τ) ∧ DRf σ τ)) := by
  exact lpInv (f := L_Ref_deal_44 ms)
    (Inv := fun k X => ∃ s m L τ, s ≤ S ∧ k = S - s ∧ X = (nI s, τ) ∧ hl wt fc ms s = some (m, L) ∧ GIR σ τ m L)
    (Post := fun Y => (∃ M L τ, hl wt fc ms S = some (M, L) ∧ Y = .inl τ ∧ GIR σ τ M L) ∨ (hl wt fc ms S = none ∧ ∃ τ, Y = .inr (false, τ) ∧ DRf σ τ))
    (fun k X hI => by
      obtain ⟨s, m, L, τ, h1, h2, rfl, hh, hG⟩ := hI
      obtain ⟨hF, h65, h67⟩ := id hG
      have t57 : τ 76 17 = nI S := by rw [hF.2 17 (by decide) (by decide)]; exact hS
      by_cases hsS : s = S
      · right
        refine ⟨.inl τ, ?_, Or.inl ⟨m, L, τ, hsS ▸ hh, rfl, hG⟩⟩
        unfold L_Ref_deal_44
        dsimp only
        rw [if_pos (show τ 76 17 ≤ nI s by rw [t57]; exact nI_le (by omega) (by omega))]
      · have hs : s < S := by omega
        have w2 := hw s hs
        have hc : ¬ τ 76 17 ≤ nI s := by rw [t57]; exact nI_ge hs (by omega)
        have hm9 : m ≤ 9 := (hl_facts hh).1
        by_cases h0 : wt s = 0
        · left
          refine ⟨(nI (s + 1), τ), S - (s + 1), by omega, ?_, s + 1, m, L, τ, by omega, rfl, rfl, by rw [hl, hh]; exact if_pos h0, hG⟩
          unfold L_Ref_deal_44
          dsimp only
          rw [if_neg hc, ob_of (hsum τ hF s hs), if_pos (show nI (wt s) ≤ 0 by rw [h0]; decide), nI_1]
        · have hc2 : ¬ nI (wt s) ≤ 0 := nI_nle (by omega) (by omega)
          by_cases h9 : m = 9
          · right
            refine ⟨.inr (false, τ), ?_, Or.inr ⟨?_, τ, rfl, hF⟩⟩
            · unfold L_Ref_deal_44
              dsimp only
              rw [if_neg hc, ob_of (hsum τ hF s hs), if_neg hc2, if_pos (show τ 76 31 = 9 by rw [h65, h9]; rfl)]
            · have : hl wt fc ms (s + 1) = none := by rw [hl, hh]; dsimp only; rw [if_neg h0, if_pos (Or.inl h9)]
              have h := hl_none this (S - (s + 1))
              rwa [show s + 1 + (S - (s + 1)) = S by omega] at h
          · have hc3 : ¬ τ 76 31 = 9 := by rw [h65]; intro e; have := (nI_eq (b := 9) (by omega) (by decide)).mp e; omega
            by_cases hff : fc s = true ∧ ms = false
            · right
              refine ⟨.inr (false, τ), ?_, Or.inr ⟨?_, τ, rfl, hF⟩⟩
              · unfold L_Ref_deal_44
                dsimp only
                rw [if_neg hc, ob_of (hsum τ hF s hs), if_neg hc2, if_neg hc3, ob_of (hfc τ hF s hs), if_pos hff.1, if_neg (bf hff.2)]
              · have : hl wt fc ms (s + 1) = none := by rw [hl, hh]; dsimp only; rw [if_neg h0, if_pos (Or.inr hff)]
                have h := hl_none this (S - (s + 1))
                rwa [show s + 1 + (S - (s + 1)) = S by omega] at h
            · left
              have hix : ix (τ 76 31) = m := by rw [h65, ix_nI (by omega)]
              have hvn : vin (τ 76 31) 9 = true := by rw [h65]; exact vin_nI (by omega) (by decide)
              refine ⟨(nI (s + 1), _), S - (s + 1), by omega, ?_, s + 1, m + 1, updN L m s, up (up τ 98 m (nI s)) 76 31 (nI (m + 1)), by omega, rfl, rfl, by rw [hl, hh]; dsimp only; rw [if_neg h0, if_neg (fun h => h.elim h9 hff)], GIR_s hG⟩
              unfold L_Ref_deal_44
              dsimp only
              rw [if_neg hc, ob_of (hsum τ hF s hs), if_neg hc2, if_neg hc3, ob_of (hfc τ hF s hs), nI_1, hvn]
              simp only [og_t]
              unfold nm
              rw [hix, show (up τ 98 m (nI s)) 76 31 = nI m from h65, nI_1]
              cases hfs : fc s with
              | true =>
                have hmt : ms = true := by cases hms2 : ms with
                  | true => rfl
                  | false => exact absurd ⟨hfs, hms2⟩ hff
                rw [if_pos rfl, if_pos hmt]
              | false =>
                rw [if_neg Bool.false_ne_true])
    (k := S) (x := (0, σ0)) ⟨0, 0, fun _ => 0, σ0, Nat.zero_le _, rfl, rfl, rfl, h0⟩ (by omega)
