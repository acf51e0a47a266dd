/-! the reference's way through all dealings -/
def RX (τ0 : SG) (q M : Nat) (W sk : Nat → Nat) (O mst : Nat → Bool) : Prop := 1 ≤ q ∧ q ≤ 4 ∧ M ≤ 9 ∧ τ0 76 21 = nI q ∧ τ0 76 31 = nI M ∧ (∀ k, k < M → τ0 100 k = nI (W k) ∧ W k < 1000 ∧ τ0 101 k = bI (O k)) ∧ ∀ j, j < q → τ0 90 j = nI (sk j) ∧ 1 ≤ sk j ∧ sk j ≤ 20 ∧ τ0 91 j = bI (mst j)
def DE (τ0 τ : SG) : Prop := (∀ p, p ≠ 76 → p ≠ 99 → p ≠ 102 → τ p = τ0 p) ∧ ∀ k, k ≠ 33 → τ 76 k = τ0 76 k
theorem RX_c {τ0 τ : SG} {q M : Nat} {W sk : Nat → Nat} {O mst : Nat → Bool} (h : DE τ0 τ) (H : RX τ0 q M W sk O mst) : RX τ q M W sk O mst := by
  unfold RX at H ⊢
  rw [h.2 21 (by decide), h.2 31 (by decide), h.1 100 (by decide) (by decide) (by decide), h.1 101 (by decide) (by decide) (by decide), h.1 90 (by decide) (by decide) (by decide), h.1 91 (by decide) (by decide) (by decide)]
  exact H
theorem DE_102 {τ0 τ : SG} {g : Nat → Int32} (h : DE τ0 τ) : DE τ0 (sR τ 102 g) := ⟨fun p a b c => by rw [sR_ne _ _ c]; exact h.1 p a b c, h.2⟩
theorem DE_99 {τ0 τ : SG} {g : Nat → Int32} (h : DE τ0 τ) : DE τ0 (sR τ 99 g) := ⟨fun p a b c => by rw [sR_ne _ _ b]; exact h.1 p a b c, h.2⟩
theorem DE_33 {τ0 τ : SG} {v : Int32} (h : DE τ0 τ) : DE τ0 (up τ 76 33 v) := ⟨fun p a b c => by rw [up_ne _ _ _ a]; exact h.1 p a b c, fun k hk => by show upd (τ 76) 33 v k = _; rw [upd_ne _ _ hk]; exact h.2 k hk⟩
theorem pow_bd {q M : Nat} (hq : q ≤ 4) (hM : M ≤ 9) : q ^ M ≤ 262144 := by
  have h1 : q ^ M ≤ 4 ^ M := Nat.pow_le_pow_left hq M
  have h2 : 4 ^ M ≤ 4 ^ 9 := Nat.pow_le_pow_right (by decide) hM
  omega
theorem gr2 {τ : SG} {q : Nat} (hq : τ 76 21 = nI q) (h4 : q ≤ 4) : lpW L_Ref_greatestOf_2 FU (0, τ) = some (sR τ 102 (rowF (fun _ => 0) (τ 102) q)) := by
  refine lpW_at (s := fun i => (nI i, sR τ 102 (rowF (fun _ => 0) (τ 102) i))) q ?_ ?_ ?_ (by omega)
  · rw [rowF_0, sR_self]; rfl
  · intro i hi
    unfold L_Ref_greatestOf_2
    dsimp only
    rw [if_neg (show ¬ (sR τ 102 (rowF (fun _ => 0) (τ 102) i)) 76 21 ≤ nI i by rw [show (sR τ 102 (rowF (fun _ => 0) (τ 102) i)) 76 21 = nI q from hq]; exact nI_ge hi (by omega)), vin_nI (show i < 4 by omega) (by decide)]
    simp only [og_t]
    rw [ix_nI (by omega), nI_1, up_sR, sR_at, sR_sR, ← rowF_s]
  · unfold L_Ref_greatestOf_2
    dsimp only
    rw [if_pos (show (sR τ 102 (rowF (fun _ => 0) (τ 102) q)) 76 21 ≤ nI q by rw [show (sR τ 102 (rowF (fun _ => 0) (τ 102) q)) 76 21 = nI q from hq]; exact nI_le (Nat.le_refl _) (by omega))]
theorem pow_step {q M k : Nat} (hq : 1 ≤ q) (hk : k < M) : q ^ (M - k) / q = q ^ (M - 1 - k) := by
  rw [show M - k = (M - 1 - k) + 1 by omega, Nat.pow_succ, Nat.mul_div_cancel _ hq]
theorem digR {q M k c : Nat} (hq : 1 ≤ q) (hq4 : q ≤ 4) (hM : M ≤ 9) (hk : k < M) (hc : c < q ^ M) : nI (q ^ (M - k)) / nI q = nI (q ^ (M - 1 - k)) ∧ nI c / nI (q ^ (M - 1 - k)) - nI c / nI (q ^ (M - 1 - k)) / nI q * nI q = nI (dgt q c M k) ∧ nz (nI q) = true ∧ nz (nI (q ^ (M - 1 - k))) = true := by
  have h1 := pow_bd (q := q) (M := M - k) hq4 (by omega)
  have h2 := pow_bd (q := q) (M := M - 1 - k) hq4 (by omega)
  have h3 := pow_bd (q := q) (M := M) hq4 hM
  have hp : 0 < q ^ (M - 1 - k) := Nat.pow_pos hq
  have hd := Nat.div_le_self c (q ^ (M - 1 - k))
  refine ⟨?_, ?_, decide_eq_true (nI_ne0 hq (by omega)), decide_eq_true (nI_ne0 hp (by omega))⟩
  · rw [pk_div (by omega) hq (by omega), pow_step hq hk]
  · rw [pk_div (by omega) hp (by omega), pk_rem (by omega) hq (by omega)]
    rfl
theorem gr28 {τ : SG} {q M c : Nat} {W sk : Nat → Nat} {O mst : Nat → Bool} (H : RX τ q M W sk O mst) (hc : c < q ^ M) :
    ∃ Y, lpW (L_Ref_greatestOf_28 (nI c)) FU (nI (q ^ M), 0, sR τ 102 (rowF (fun _ => 0) (τ 102) q)) = some Y ∧ ((vld (okF O mst) (dgt q c M) M ∧ ∃ row, Y = .inl (sR τ 102 row) ∧ ∀ j, j < q → row j = nI (sS (dyF W sk) (dgt q c M) M j)) ∨ (¬ vld (okF O mst) (dgt q c M) M ∧ ∃ row, Y = .inr (-1, sR τ 102 row))) := by
  obtain ⟨q1, q4, M9, c21, c31, ck, cj⟩ := H
  exact lpInv (f := L_Ref_greatestOf_28 (nI c))
    (Inv := fun kk X => ∃ k row, k ≤ M ∧ kk = M - k ∧ X = (nI (q ^ (M - k)), nI k, sR τ 102 row) ∧ vld (okF O mst) (dgt q c M) k ∧ ∀ j, j < q → row j = nI (sS (dyF W sk) (dgt q c M) k j))
    (Post := fun Y => (vld (okF O mst) (dgt q c M) M ∧ ∃ row, Y = .inl (sR τ 102 row) ∧ ∀ j, j < q → row j = nI (sS (dyF W sk) (dgt q c M) M j)) ∨ (¬ vld (okF O mst) (dgt q c M) M ∧ ∃ row, Y = .inr (-1, sR τ 102 row)))
    (fun kk X hI => by
      obtain ⟨k, row, h1, h2, rfl, hv, hrow⟩ := hI
      by_cases hkM : k = M
      · right
        subst hkM
        refine ⟨.inl (sR τ 102 row), ?_, Or.inl ⟨hv, row, rfl, hrow⟩⟩
        unfold L_Ref_greatestOf_28
        dsimp only
        rw [if_pos (show (sR τ 102 row) 76 31 ≤ nI k by rw [show (sR τ 102 row) 76 31 = nI k from c31]; exact nI_le (Nat.le_refl _) (by omega))]
      · have hk : k < M := by omega
        obtain ⟨d1, d2, d3, d4⟩ := digR q1 q4 M9 hk hc
        have hh := dgt_lt (q := q) (c := c) (k := M) (i := k) q1
        obtain ⟨k100, kW, k101⟩ := ck k hk
        obtain ⟨j90, js1, js2, j91⟩ := cj (dgt q c M k) hh
        have hkk : ix (nI k) = k := ix_nI (by omega)
        have hhh : ix (nI (dgt q c M k)) = dgt q c M k := ix_nI (by omega)
        have e21 : (sR τ 102 row) 76 21 = nI q := c21
        have e101 : (sR τ 102 row) 101 k = bI (O k) := k101
        have e91 : (sR τ 102 row) 91 (dgt q c M k) = bI (mst (dgt q c M k)) := j91
        have e90 : (sR τ 102 row) 90 (dgt q c M k) = nI (sk (dgt q c M k)) := j90
        have e100 : (sR τ 102 row) 100 k = nI (W k) := k100
        have hdy : (nI (W k) + nI (sk (dgt q c M k)) - 1) / nI (sk (dgt q c M k)) = nI (dyF W sk k (dgt q c M k)) := by
          rw [nI_add, nI_sub1 (by omega), pk_div (by omega) js1 (by omega)]
          rfl
        have hd2 := dyF_le (W := W) (sk := sk) (k := k) (j := dgt q c M k) kW js2
        have hrow2 : ∀ j, j < q → upd row (dgt q c M k) (row (dgt q c M k) + nI (dyF W sk k (dgt q c M k))) j = nI (sS (dyF W sk) (dgt q c M) (k + 1) j) := by
          intro j hj
          rw [sS_s]
          by_cases hjj : j = dgt q c M k
          · rw [hjj, upd_at, hrow _ hh, nI_add, if_pos rfl]
          · rw [upd_ne _ _ hjj, hrow j hj, if_neg (fun e => hjj e.symm), Nat.add_zero]
        have hvd : vin (nI (dgt q c M k)) 4 = true := vin_nI (by omega) (by decide)
        have hvk : vin (nI k) 9 = true := vin_nI (by omega) (by decide)
        have hnsk : nz (nI (sk (dgt q c M k))) = true := decide_eq_true (nI_ne0 js1 (by omega))
        have hgo : okF O mst k (dgt q c M k) = true → vld (okF O mst) (dgt q c M) (k + 1) := fun hok i hi => by
          by_cases hik : i = k
          · rw [hik]; exact hok
          · exact hv i (by omega)
        have hc31 : ¬ (sR τ 102 row) 76 31 ≤ nI k := by rw [show (sR τ 102 row) 76 31 = nI M from c31]; exact nI_ge hk (by omega)
        have hupd : up (sR τ 102 row) 102 (dgt q c M k) (row (dgt q c M k) + nI (dyF W sk k (dgt q c M k))) = sR τ 102 (upd row (dgt q c M k) (row (dgt q c M k) + nI (dyF W sk k (dgt q c M k)))) := by
          rw [up_sR, sR_at, sR_sR]
        have e102 : (sR τ 102 row) 102 (dgt q c M k) = row (dgt q c M k) := by rw [sR_at]
        have hexp : nI (q ^ (M - 1 - k)) = nI (q ^ (M - (k + 1))) := by rw [show M - 1 - k = M - (k + 1) by omega]
        have hr0 : L_Ref_greatestOf_28 (nI c) (nI (q ^ (M - k)), nI k, sR τ 102 row) = (if bI (O k) = 0 then some (.inl (nI (q ^ (M - (k + 1))), nI (k + 1), sR τ 102 (upd row (dgt q c M k) (row (dgt q c M k) + nI (dyF W sk k (dgt q c M k)))))) else if bI (mst (dgt q c M k)) = 0 then some (.inr (.inr (-1, sR τ 102 row))) else some (.inl (nI (q ^ (M - (k + 1))), nI (k + 1), sR τ 102 (upd row (dgt q c M k) (row (dgt q c M k) + nI (dyF W sk k (dgt q c M k))))))) := by
          rw [← hexp, ← hupd, ← e102]
          generalize sR τ 102 row = σ at e21 e101 e91 e90 e100 hc31
          unfold L_Ref_greatestOf_28 nm
          simp only [if_neg hc31, e21, d1, d2, d3, d4, hvk, hvd, hkk, hhh, og_t, e101, e91, e90, e100, hdy, hnsk, nI_1]
        rw [hr0]
        cases hO : O k with
        | false =>
          have hok : okF O mst k (dgt q c M k) = true := by unfold okF; rw [hO]; rfl
          left
          exact ⟨_, M - (k + 1), by omega, if_pos rfl, k + 1, _, by omega, rfl, rfl, hgo hok, hrow2⟩
        | true =>
          rw [if_neg (show ¬ bI true = 0 by decide)]
          cases hm : mst (dgt q c M k) with
          | true =>
            have hok : okF O mst k (dgt q c M k) = true := by unfold okF; rw [hO, hm]; rfl
            left
            exact ⟨_, M - (k + 1), by omega, if_neg (show ¬ bI true = 0 by decide), k + 1, _, by omega, rfl, rfl, hgo hok, hrow2⟩
          | false =>
            right
            refine ⟨_, if_pos rfl, Or.inr ⟨fun h => ?_, row, rfl⟩⟩
            have := h k hk
            unfold okF at this
            rw [hO, hm] at this
            cases this)
    (k := M) (x := (nI (q ^ M), 0, sR τ 102 (rowF (fun _ => 0) (τ 102) q))) ⟨0, _, Nat.zero_le _, rfl, rfl, fun i hi => by omega, fun j hj => by rw [rowF_lt hj]; rfl⟩ (by omega)
theorem grAll {τ : SG} {q M c : Nat} {W sk : Nat → Nat} {O mst : Nat → Bool} (H : RX τ q M W sk O mst) (hc : c < q ^ M) : ∃ row, (vld (okF O mst) (dgt q c M) M ∧ F_Ref_greatestOf τ (nI c) (nI (q ^ M)) = some (nI (gc q M (dyF W sk) c), sR τ 102 row)) ∨ (¬ vld (okF O mst) (dgt q c M) M ∧ F_Ref_greatestOf τ (nI c) (nI (q ^ M)) = some (-1, sR τ 102 row)) := by
  obtain ⟨q1, q4, M9, c21, c31, ck, cj⟩ := id H
  obtain ⟨Y, g1, g2⟩ := gr28 H hc
  rcases g2 with ⟨hv, row, rfl, hrow⟩ | ⟨hv, row, rfl⟩
  · refine ⟨row, Or.inl ⟨hv, ?_⟩⟩
    have hsb : ∀ j, j < q → sS (dyF W sk) (dgt q c M) M j ≤ 18000 := fun j hj => by
      have := sS_bd (dy := dyF W sk) (a := dgt q c M) (k := M) (j := j) (c := 2000) (fun i hi => dyF_le (ck i hi).2.1 (cj j hj).2.2.1)
      omega
    have hgb : ∀ j, j ≤ q → gS (dyF W sk) (dgt q c M) M j ≤ 18000 := fun j hj => by
      rw [gS_le]
      intro j' hj'
      exact hsb j' (by omega)
    have hl : lpW (L_Ref_greatestOf_123 (sR τ 102 row)) FU (0, 0) = some (nI (gS (dyF W sk) (dgt q c M) M q)) := by
      refine lpW_at (s := fun j => (nI (gS (dyF W sk) (dgt q c M) M j), nI j)) q rfl ?_ ?_ (by omega)
      · intro j hj
        have h1 := hsb j hj
        have h2 := hgb j (by omega)
        unfold L_Ref_greatestOf_123
        dsimp only
        rw [if_neg (show ¬ (sR τ 102 row) 76 21 ≤ nI j by rw [show (sR τ 102 row) 76 21 = nI q from c21]; exact nI_ge hj (by omega)), vin_nI (show j < 4 by omega) (by decide)]
        simp only [og_t]
        have e : (sR τ 102 row) 102 (ix (nI j)) = nI (sS (dyF W sk) (dgt q c M) M j) := by rw [ix_nI (by omega), sR_at, hrow j hj]
        rw [gS, nI_1]
        by_cases hc : gS (dyF W sk) (dgt q c M) M j < sS (dyF W sk) (dgt q c M) M j
        · rw [if_neg (show ¬ (sR τ 102 row) 102 (ix (nI j)) ≤ nI (gS (dyF W sk) (dgt q c M) M j) by rw [e]; exact nI_ge hc (by omega)), if_pos hc, e]
        · rw [if_pos (show (sR τ 102 row) 102 (ix (nI j)) ≤ nI (gS (dyF W sk) (dgt q c M) M j) by rw [e]; exact nI_le (by omega) (by omega)), if_neg hc]
      · unfold L_Ref_greatestOf_123
        dsimp only
        rw [if_pos (show (sR τ 102 row) 76 21 ≤ nI q by rw [show (sR τ 102 row) 76 21 = nI q from c21]; exact nI_le (Nat.le_refl _) (by omega))]
    unfold F_Ref_greatestOf
    rw [ob_of (gr2 c21 q4), ob_of g1, Sum.elim_inl, ob_of hl]
    rfl
  · refine ⟨row, Or.inr ⟨hv, ?_⟩⟩
    unfold F_Ref_greatestOf
    rw [ob_of (gr2 c21 q4), ob_of g1, Sum.elim_inr]
theorem de255 {τ : SG} {q M c : Nat} {W sk : Nat → Nat} {O mst : Nat → Bool} (H : RX τ q M W sk O mst) (hc : c < q ^ M) : lpW (L_Ref_deal_255 (nI c)) FU (nI (q ^ M), 0, τ) = some (sR τ 99 (rowF (fun k => nI (dgt q c M k)) (τ 99) M)) := by
  obtain ⟨q1, q4, M9, c21, c31, ck, cj⟩ := id H
  refine lpW_at (s := fun k => (nI (q ^ (M - k)), nI k, sR τ 99 (rowF (fun k => nI (dgt q c M k)) (τ 99) k))) M ?_ ?_ ?_ (by omega)
  · rw [rowF_0, sR_self]; rfl
  · intro k hk
    obtain ⟨d1, d2, d3, d4⟩ := digR q1 q4 M9 hk hc
    unfold L_Ref_deal_255 nm
    dsimp only
    rw [if_neg (show ¬ (sR τ 99 (rowF (fun k => nI (dgt q c M k)) (τ 99) k)) 76 31 ≤ nI k by rw [show (sR τ 99 (rowF (fun k => nI (dgt q c M k)) (τ 99) k)) 76 31 = nI M from c31]; exact nI_ge hk (by omega)), show (sR τ 99 (rowF (fun k => nI (dgt q c M k)) (τ 99) k)) 76 21 = nI q from c21, d1, d2, d3, d4, vin_nI (show k < 9 by omega) (by decide)]
    simp only [og_t]
    rw [ix_nI (by omega), nI_1, up_sR, sR_at, sR_sR, ← rowF_s, show M - 1 - k = M - (k + 1) by omega]
  · unfold L_Ref_deal_255
    dsimp only
    rw [if_pos (show (sR τ 99 (rowF (fun k => nI (dgt q c M k)) (τ 99) M)) 76 31 ≤ nI M by rw [show (sR τ 99 (rowF (fun k => nI (dgt q c M k)) (τ 99) M)) 76 31 = nI M from c31]; exact nI_le (Nat.le_refl _) (by omega))]
def LR (q M : Nat) (dy : Nat → Nat → Nat) (τ : SG) : Option Nat → Prop
  | none => τ 76 33 = -1
  | some c => τ 76 33 = nI (gc q M dy c) ∧ ∀ i, i < M → τ 99 i = nI (dgt q c M i)
theorem LR_c {q M : Nat} {dy : Nat → Nat → Nat} {τ τ' : SG} {b : Option Nat} (h1 : τ' 76 = τ 76) (h2 : τ' 99 = τ 99) (h : LR q M dy τ b) : LR q M dy τ' b := by
  cases b with
  | none => show τ' 76 33 = _; rw [h1]; exact h
  | some c => show τ' 76 33 = _ ∧ _; rw [h1, h2]; exact h
theorem gc_bd {q M c : Nat} {W sk : Nat → Nat} (hM : M ≤ 9) (hW : ∀ k, k < M → W k < 1000) (hs : ∀ j, j < q → sk j ≤ 20) : gc q M (dyF W sk) c ≤ 18000 := by
  have := gS_bd (dy := dyF W sk) (a := dgt q c M) (k := M) (q := q) (fun i j hi hj => dyF_le (hW i hi) (hs j hj))
  unfold gc
  omega
theorem de207 {τ0 : SG} {q M : Nat} {W sk : Nat → Nat} {O mst : Nat → Bool} (H : RX τ0 q M W sk O mst) (h33 : τ0 76 33 = -1) : ∃ Y b, lpW (L_Ref_deal_207 (nI (q ^ M))) FU (0, τ0) = some Y ∧ DE τ0 Y ∧ Best q M (dyF W sk) (okF O mst) (q ^ M) b ∧ LR q M (dyF W sk) Y b := by
  obtain ⟨q1, q4, M9, c21, c31, ck, cj⟩ := id H
  have hpb := pow_bd q4 M9
  have hgb : ∀ c, gc q M (dyF W sk) c ≤ 18000 := fun c => gc_bd M9 (fun k hk => (ck k hk).2.1) (fun j hj => (cj j hj).2.2.1)
  have hll := lpInv (f := L_Ref_deal_207 (nI (q ^ M)))
    (Inv := fun kk X => ∃ e τ b, e ≤ q ^ M ∧ kk = q ^ M - e ∧ X = (nI e, τ) ∧ DE τ0 τ ∧ Best q M (dyF W sk) (okF O mst) e b ∧ LR q M (dyF W sk) τ b)
    (Post := fun Y => ∃ b, DE τ0 Y ∧ Best q M (dyF W sk) (okF O mst) (q ^ M) b ∧ LR q M (dyF W sk) Y b)
    (fun kk X hI => by
      obtain ⟨e, τ, b, h1, h2, rfl, hF, hB, hL⟩ := hI
      by_cases he : e = q ^ M
      · right
        refine ⟨τ, ?_, b, hF, he ▸ hB, hL⟩
        unfold L_Ref_deal_207
        dsimp only
        rw [he, if_pos (nI_le (Nat.le_refl _) (by omega))]
      · left
        have hel : e < q ^ M := by omega
        obtain ⟨row, hg⟩ := grAll (RX_c hF H) hel
        have hc : ¬ nI (q ^ M) ≤ nI e := nI_ge hel (by omega)
        rcases hg with ⟨hv, hg⟩ | ⟨hv, hg⟩
        · have hne : ¬ nI (gc q M (dyF W sk) e) = -1 := nm1_ne (by have := hgb e; omega)
          -- the new best
          have hnew : (∀ d, b = some d → gc q M (dyF W sk) e < gc q M (dyF W sk) d) → ∃ τ', lpW (L_Ref_deal_255 (nI e)) FU (nI (q ^ M), 0, up (sR τ 102 row) 76 33 (nI (gc q M (dyF W sk) e))) = some τ' ∧ DE τ0 τ' ∧ Best q M (dyF W sk) (okF O mst) (e + 1) (some e) ∧ LR q M (dyF W sk) τ' (some e) := by
            intro hlt
            have hF' : DE τ0 (up (sR τ 102 row) 76 33 (nI (gc q M (dyF W sk) e))) := DE_33 (DE_102 hF)
            refine ⟨_, de255 (RX_c hF' H) hel, DE_99 hF', Best_new hB hv hlt, rfl, fun i hi => ?_⟩
            rw [sR_at, rowF_lt hi]
          cases b with
          | none =>
            obtain ⟨τ', k1, k2, k3, k4⟩ := hnew (fun d h => by cases h)
            refine ⟨(nI (e + 1), τ'), q ^ M - (e + 1), by omega, ?_, e + 1, τ', some e, by omega, rfl, rfl, k2, k3, k4⟩
            unfold L_Ref_deal_207
            dsimp only
            rw [if_neg hc, ob_of hg]
            dsimp only
            rw [if_neg hne, if_pos (show (sR τ 102 row) 76 33 = -1 from hL), ob_of k1, nI_1]
          | some d =>
            have hd := hgb d
            have he2 := hgb e
            have e33 : (sR τ 102 row) 76 33 = nI (gc q M (dyF W sk) d) := hL.1
            have hnd : ¬ (sR τ 102 row) 76 33 = -1 := by rw [e33]; exact nm1_ne (by omega)
            by_cases hle : gc q M (dyF W sk) d ≤ gc q M (dyF W sk) e
            · refine ⟨(nI (e + 1), sR τ 102 row), q ^ M - (e + 1), by omega, ?_, e + 1, sR τ 102 row, some d, by omega, rfl, rfl, DE_102 hF, Best_skip hB (fun c hc1 hc2 _ => ⟨d, rfl, ?_⟩) (by omega), LR_c rfl rfl hL⟩
              · unfold L_Ref_deal_207
                dsimp only
                rw [if_neg hc, ob_of hg]
                dsimp only
                rw [if_neg hne, if_neg hnd, if_pos (show (sR τ 102 row) 76 33 ≤ nI (gc q M (dyF W sk) e) by rw [e33]; exact nI_le hle (by omega)), nI_1]
              · have : c = e := by omega
                rw [this]; exact hle
            · obtain ⟨τ', k1, k2, k3, k4⟩ := hnew (fun d' h => by cases h; omega)
              refine ⟨(nI (e + 1), τ'), q ^ M - (e + 1), by omega, ?_, e + 1, τ', some e, by omega, rfl, rfl, k2, k3, k4⟩
              unfold L_Ref_deal_207
              dsimp only
              rw [if_neg hc, ob_of hg]
              dsimp only
              rw [if_neg hne, if_neg hnd, if_neg (show ¬ (sR τ 102 row) 76 33 ≤ nI (gc q M (dyF W sk) e) by rw [e33]; exact nI_ge (by omega) (by omega)), ob_of k1, nI_1]
        · refine ⟨(nI (e + 1), sR τ 102 row), q ^ M - (e + 1), by omega, ?_, e + 1, sR τ 102 row, b, by omega, rfl, rfl, DE_102 hF, Best_skip hB (fun c hc1 hc2 hvc => ?_) (by omega), LR_c rfl rfl hL⟩
          · unfold L_Ref_deal_207
            dsimp only
            rw [if_neg hc, ob_of hg]
            dsimp only
            rw [if_pos rfl, nI_1]
          · have : c = e := by omega
            subst this
            exact absurd hvc hv)
    (k := q ^ M) (x := (0, τ0)) ⟨0, τ0, none, Nat.zero_le _, rfl, rfl, ⟨fun _ _ _ _ => rfl, fun _ _ => rfl⟩, fun c hc => by omega, h33⟩ (by omega)
  obtain ⟨Y, g1, b, g2, g3, g4⟩ := hll
  exact ⟨Y, b, g1, g2, g3, g4⟩
