/-! the class's search -/
def dyF (W sk : Nat → Nat) (k j : Nat) : Nat := (W k + sk j - 1) / sk j
def okF (O mst : Nat → Bool) (k j : Nat) : Bool := !O k || mst j
/-- what the search reads -/
def DSx (τ0 : SG) (q M : Nat) (L W sk : Nat → Nat) (O mst : Nat → Bool) : Prop := 1 ≤ q ∧ q ≤ 4 ∧ M ≤ 9 ∧ τ0 60 0 = nI q ∧ τ0 65 3 = nI M ∧ (∀ k, k < M → τ0 67 k = nI (L k) ∧ L k < 240 ∧ τ0 59 (L k) = nI (W k) ∧ W k < 1000 ∧ τ0 69 k = bI (O k)) ∧ ∀ j, j < q → τ0 62 j = nI (sk j) ∧ 1 ≤ sk j ∧ sk j ≤ 20 ∧ τ0 64 j = bI (mst j)
theorem DSx.q1 {τ0 : SG} {q M : Nat} {L W sk : Nat → Nat} {O mst : Nat → Bool} (H : DSx τ0 q M L W sk O mst) : 1 ≤ q := H.1
theorem DSx.q4 {τ0 : SG} {q M : Nat} {L W sk : Nat → Nat} {O mst : Nat → Bool} (H : DSx τ0 q M L W sk O mst) : q ≤ 4 := H.2.1
theorem DSx.M9 {τ0 : SG} {q M : Nat} {L W sk : Nat → Nat} {O mst : Nat → Bool} (H : DSx τ0 q M L W sk O mst) : M ≤ 9 := H.2.2.1
theorem DSx.c60 {τ0 : SG} {q M : Nat} {L W sk : Nat → Nat} {O mst : Nat → Bool} (H : DSx τ0 q M L W sk O mst) : τ0 60 0 = nI q := H.2.2.2.1
theorem DSx.c65 {τ0 : SG} {q M : Nat} {L W sk : Nat → Nat} {O mst : Nat → Bool} (H : DSx τ0 q M L W sk O mst) : τ0 65 3 = nI M := H.2.2.2.2.1
theorem DSx.ck {τ0 : SG} {q M : Nat} {L W sk : Nat → Nat} {O mst : Nat → Bool} (H : DSx τ0 q M L W sk O mst) : ∀ k, k < M → τ0 67 k = nI (L k) ∧ L k < 240 ∧ τ0 59 (L k) = nI (W k) ∧ W k < 1000 ∧ τ0 69 k = bI (O k) := H.2.2.2.2.2.1
theorem DSx.cj {τ0 : SG} {q M : Nat} {L W sk : Nat → Nat} {O mst : Nat → Bool} (H : DSx τ0 q M L W sk O mst) : ∀ j, j < q → τ0 62 j = nI (sk j) ∧ 1 ≤ sk j ∧ sk j ≤ 20 ∧ τ0 64 j = bI (mst j) := H.2.2.2.2.2.2
theorem dyF_le {W sk : Nat → Nat} {k j : Nat} (h1 : W k < 1000) (h2 : sk j ≤ 20) : dyF W sk k j ≤ 2000 := by
  unfold dyF
  have := Nat.div_le_self (W k + sk j - 1) (sk j)
  omega
def DF (τ0 τ : SG) : Prop := (∀ p, p ≠ 65 → p ≠ 71 → p ≠ 73 → p ≠ 75 → τ p = τ0 p) ∧ ∀ k, k ≠ 0 → τ 65 k = τ0 65 k
def LE (q M : Nat) (dy : Nat → Nat → Nat) (τ : SG) : Option Nat → Prop
  | none => τ 65 0 = 1000000
  | some c => τ 65 0 = nI (gc q M dy c) ∧ ∀ i, i < M → τ 73 i = nI (dgt q c M i)
def DI (τ0 : SG) (q M : Nat) (dy : Nat → Nat → Nat) (τ : SG) (k p : Nat) (b : Option Nat) : Prop := DF τ0 τ ∧ (∀ i, i < k → τ 71 i = nI (dgt q p k i)) ∧ (∀ j, j < q → τ 75 j = nI (sS dy (dgt q p k) k j)) ∧ LE q M dy τ b
theorem LE_c {q M : Nat} {dy : Nat → Nat → Nat} {τ τ' : SG} {b : Option Nat} (h1 : τ' 65 = τ 65) (h2 : τ' 73 = τ 73) (h : LE q M dy τ b) : LE q M dy τ' b := by
  cases b with
  | none => show τ' 65 0 = _; rw [h1]; exact h
  | some c => show τ' 65 0 = _ ∧ _; rw [h1, h2]; exact h
theorem blk {e X c : Nat} (h1 : e * X ≤ c) (h2 : c < (e + 1) * X) : c / X = e := Nat.div_eq_of_lt_le h1 h2
theorem ext_sum {q p j k : Nat} {dy : Nat → Nat → Nat} (hj : j < q) (j' : Nat) : sS dy (dgt q (p * q + j) (k + 1)) (k + 1) j' = sS dy (dgt q p k) k j' + if j = j' then dy k j' else 0 := by
  rw [sS_s, dgt_at hj, sS_cong (fun i hi => dgt_ext hj hi)]
theorem ext_g {q p j k : Nat} {dy : Nat → Nat → Nat} (hj : j < q) : gS dy (dgt q (p * q + j) (k + 1)) (k + 1) q = if gS dy (dgt q p k) k q < sS dy (dgt q p k) k j + dy k j then sS dy (dgt q p k) k j + dy k j else gS dy (dgt q p k) k q := by
  rw [gS_ext hj (dgt_at hj), gS_cong (fun i hi => dgt_ext hj hi), sS_cong (fun i hi => dgt_ext hj hi)]
theorem mxI_N {a b : Nat} (ha : a < 2 ^ 31) (hb : b < 2 ^ 31) : mxI (nI a) (nI b) = nI (if a < b then b else a) := by
  unfold mxI
  by_cases h : a < b
  · rw [if_pos h, if_pos (nI_lt h hb)]
  · rw [if_neg h, if_neg (nI_nlt (by omega) ha)]
theorem gS_bd {dy : Nat → Nat → Nat} {a : Nat → Nat} {k q : Nat} (h : ∀ i j, i < k → j < q → dy i j ≤ 2000) : gS dy a k q ≤ k * 2000 := by
  rw [gS_le]
  intro j hj
  exact sS_bd (fun i hi => h i j hi hj)
/-- the part of the step at a hand that may -/
def actE (R0 : SG → Int32 → Int32 → Option SG) (p0 p1 v5 : Int32) (x : Int32 × SG) : Option ((Int32 × SG) ⊕ SG) :=
  (if (x.2 65 0) ≤ (mxI p1 ((rg x.2 75 4 x.1) + v5)) then some (.inl ((x.1 + 1), x.2)) else (nm (rs (rs x.2 71 9 p0 x.1) 75 4 x.1 ((rg x.2 75 4 x.1) + v5)) (fun s9 => (ob (R0 s9 (p0 + 1) (mxI p1 ((rg x.2 75 4 x.1) + v5))) (fun v10 => (nm (rs v10 75 4 x.1 (((rg x.2 75 4 x.1) + v5) - v5)) (fun s11 => some (.inl ((x.1 + 1), s11)))))))))
theorem dfs {τ0 : SG} {q M : Nat} {L W sk : Nat → Nat} {O mst : Nat → Bool} (H : DSx τ0 q M L W sk O mst) : ∀ d k, k + d = M → ∀ n, d < n → ∀ p τ b, DI τ0 q M (dyF W sk) τ k p b → Best q M (dyF W sk) (okF O mst) (p * q ^ d) b → vld (okF O mst) (dgt q p k) k → (∀ c, b = some c → gS (dyF W sk) (dgt q p k) k q < gc q M (dyF W sk) c) → ∃ τ' b', R_Dealer_dealFrom n τ (nI k) (nI (gS (dyF W sk) (dgt q p k) k q)) = some τ' ∧ DI τ0 q M (dyF W sk) τ' k p b' ∧ Best q M (dyF W sk) (okF O mst) ((p + 1) * q ^ d) b' := by
  have hM9 := H.M9
  have hq4 := H.q4
  intro d
  induction d with
  | zero =>
    intro k hk n hn p τ b hI hB hv hl
    have hkM : k = M := by omega
    subst hkM
    obtain ⟨n, rfl⟩ : ∃ m, n = m + 1 := ⟨n - 1, by omega⟩
    obtain ⟨hF, h71, h75, hL⟩ := hI
    rw [Nat.pow_zero, Nat.mul_one] at hB
    refine ⟨rc (up τ 65 0 (nI (gS (dyF W sk) (dgt q p k) k q))) 73 9 71 9, some p, ?_, ⟨⟨fun p' a b c e => ?_, fun k' hk' => ?_⟩, h71, h75, ?_, fun i hi => ?_⟩, ?_⟩
    · rw [R_Dealer_dealFrom]
      unfold B_Dealer_dealFrom
      rw [if_pos (show τ 65 3 ≤ nI k by rw [hF.2 3 (by decide), H.c65]; exact nI_le (Nat.le_refl _) (by omega))]
    · rw [rc_sR, sR_ne _ _ c, up_ne _ _ _ a]; exact hF.1 p' a b c e
    · show upd (τ 65) 0 _ k' = _
      rw [upd_ne _ _ hk']; exact hF.2 k' hk'
    · rfl
    · rw [rc_sR, sR_at, if_pos (by omega), rg_nI (by omega) (by decide)]
      exact h71 i hi
    · rw [Nat.pow_zero, Nat.mul_one]
      exact Best_new hB hv hl
  | succ d ih =>
    intro k hk n hn p τ b hI hB hv hl
    obtain ⟨n, rfl⟩ : ∃ m, n = m + 1 := ⟨n - 1, by omega⟩
    have hkM : k < M := by omega
    obtain ⟨k67, k240, k59, kW, k69⟩ := H.ck k hkM
    have hdy : ∀ i j, i < M → j < q → dyF W sk i j ≤ 2000 := fun i j hi hj => dyF_le (H.ck i hi).2.2.2.1 (H.cj j hj).2.2.1
    have hgb : ∀ a k', k' ≤ M → gS (dyF W sk) a k' q ≤ 18000 := fun a k' hk' => by
      have := gS_bd (dy := dyF W sk) (a := a) (k := k') (q := q) (fun i j hi hj => hdy i j (by omega) hj)
      omega
    have hsb : ∀ a k' j, k' ≤ M → j < q → sS (dyF W sk) a k' j ≤ 18000 := fun a k' j hk' hj => by
      have := sS_bd (dy := dyF W sk) (a := a) (k := k') (j := j) (c := 2000) (fun i hi => hdy i j (by omega) hj)
      omega
    have hloop := lpInv (f := L_Dealer_dealFrom_53 (R_Dealer_dealFrom n) (nI k) (nI (gS (dyF W sk) (dgt q p k) k q)) (nI (W k)))
      (Inv := fun kk X => ∃ j τ b, j ≤ q ∧ kk = q - j ∧ X = (nI j, τ) ∧ DI τ0 q M (dyF W sk) τ k p b ∧ Best q M (dyF W sk) (okF O mst) ((p * q + j) * q ^ d) b)
      (Post := fun Y => ∃ b, DI τ0 q M (dyF W sk) Y k p b ∧ Best q M (dyF W sk) (okF O mst) ((p * q + q) * q ^ d) b)
      (fun kk X hX => by
        obtain ⟨j, τ, b, h1, h2, rfl, hI, hB⟩ := hX
        obtain ⟨hF, h71, h75, hL⟩ := id hI
        have t60 : τ 60 0 = nI q := by rw [hF.1 60 (by decide) (by decide) (by decide) (by decide)]; exact H.c60
        by_cases hjq : j = q
        · right
          subst hjq
          refine ⟨τ, ?_, b, hI, hB⟩
          unfold L_Dealer_dealFrom_53
          dsimp only
          rw [if_pos (show τ 60 0 ≤ nI j by rw [t60]; exact nI_le (Nat.le_refl _) (by omega))]
        · left
          have hj : j < q := by omega
          obtain ⟨j62, js1, js2, j64⟩ := H.cj j hj
          have hdj := hdy k j hkM hj
          have hc60 : ¬ τ 60 0 ≤ nI j := by rw [t60]; exact nI_ge hj (by omega)
          have hday : F_Hands_daysFor τ (nI (W k)) (nI j) = some (nI (dyF W sk k j)) := by
            unfold F_Hands_daysFor
            rw [rg_nI (show j < 4 by omega) (by decide), hF.1 62 (by decide) (by decide) (by decide) (by decide), j62, ob_of (rU (by omega) js1 (by omega))]
            rfl
          have e69 : rg τ 69 9 (nI k) = bI (O k) := by rw [rg_nI (by omega) (by decide), hF.1 69 (by decide) (by decide) (by decide) (by decide)]; exact k69
          have emst : F_Hands_isMaster τ (nI j) = mst j := by
            unfold F_Hands_isMaster
            rw [rg_nI (show j < 4 by omega) (by decide), hF.1 64 (by decide) (by decide) (by decide) (by decide), j64]
            cases mst j <;> rfl
          have e75 : rg τ 75 4 (nI j) = nI (sS (dyF W sk) (dgt q p k) k j) := by rw [rg_nI (show j < 4 by omega) (by decide)]; exact h75 j hj
          have hsj := hsb (dgt q p k) k j (by omega) hj
          have hgk := hgb (dgt q p k) k (by omega)
          have hmx : mxI (nI (gS (dyF W sk) (dgt q p k) k q)) (nI (sS (dyF W sk) (dgt q p k) k j + dyF W sk k j)) = nI (gS (dyF W sk) (dgt q (p * q + j) (k + 1)) (k + 1) q) := by
            rw [mxI_N (by omega) (by omega), ext_g hj]
          have hgk1 := hgb (dgt q (p * q + j) (k + 1)) (k + 1) (by omega)
          have hpre : ∀ c, (p * q + j) * q ^ d ≤ c → c < (p * q + j + 1) * q ^ d → ∀ i, i < k + 1 → dgt q c M i = dgt q (p * q + j) (k + 1) i := by
            intro c hc1 hc2 i hi
            have h := dgt_pre (k := k + 1) (blk hc1 hc2) hi
            rwa [show k + 1 + d = M by omega] at h
          have hle2 : (p * q + j) * q ^ d ≤ (p * q + j + 1) * q ^ d := Nat.mul_le_mul_right _ (by omega)
          -- a hand that may
          have hact : okF O mst k j = true → ∃ τ' b', actE (R_Dealer_dealFrom n) (nI k) (nI (gS (dyF W sk) (dgt q p k) k q)) (nI (dyF W sk k j)) (nI j, τ) = some (.inl (nI (j + 1), τ')) ∧ DI τ0 q M (dyF W sk) τ' k p b' ∧ Best q M (dyF W sk) (okF O mst) ((p * q + j + 1) * q ^ d) b' := by
            intro hok
            unfold actE
            dsimp only
            rw [e75, nI_add, hmx, nI_1]
            by_cases hcut : τ 65 0 ≤ nI (gS (dyF W sk) (dgt q (p * q + j) (k + 1)) (k + 1) q)
            · rw [if_pos hcut]
              refine ⟨τ, b, rfl, hI, Best_skip hB (fun c hc1 hc2 hvc => ?_) hle2⟩
              cases b with
              | none =>
                exfalso
                rw [show τ 65 0 = nI 1000000 from hL, nI_leI (by decide) (by omega)] at hcut
                omega
              | some c0 =>
                refine ⟨c0, rfl, ?_⟩
                have hg0 : gc q M (dyF W sk) c0 ≤ 18000 := hgb _ M (Nat.le_refl M)
                rw [hL.1, nI_leI (by omega) (by omega)] at hcut
                refine Nat.le_trans hcut ?_
                rw [← gS_cong (hpre c hc1 hc2)]
                have := gS_mono (dy := dyF W sk) (a := dgt q c M) (k := k + 1) (d := d) (q := q)
                rwa [show k + 1 + d = M by omega] at this
            · rw [if_neg hcut]
              unfold nm
              rw [rs_nI (show k < 9 by omega) (by decide), rs_nI (show j < 4 by omega) (by decide), nI_1]
              generalize hs9 : up (up τ 71 k (nI j)) 75 j (nI (sS (dyF W sk) (dgt q p k) k j + dyF W sk k j)) = s9
              have u71 : s9 71 = upd (τ 71) k (nI j) := by rw [← hs9]; rfl
              have u75 : s9 75 = upd (τ 75) j (nI (sS (dyF W sk) (dgt q p k) k j + dyF W sk k j)) := by rw [← hs9]; rfl
              have hI9 : DI τ0 q M (dyF W sk) s9 (k + 1) (p * q + j) b := by
                refine ⟨⟨fun p' a b c e => ?_, fun k' hk' => ?_⟩, fun i hi => ?_, fun j' hj' => ?_, ?_⟩
                · rw [← hs9, up_ne _ _ _ e, up_ne _ _ _ b]; exact hF.1 p' a b c e
                · rw [← hs9]; exact hF.2 k' hk'
                · rw [u71]
                  by_cases hik : i = k
                  · rw [hik, upd_at, dgt_at hj]
                  · rw [upd_ne _ _ hik, dgt_ext hj (by omega)]; exact h71 i (by omega)
                · rw [u75, ext_sum hj]
                  by_cases hjj : j' = j
                  · rw [hjj, upd_at, if_pos rfl]
                  · rw [upd_ne _ _ hjj, if_neg (fun e => hjj e.symm), Nat.add_zero]; exact h75 j' hj'
                · exact LE_c (by rw [← hs9]; rfl) (by rw [← hs9]; rfl) hL
              have hv9 : vld (okF O mst) (dgt q (p * q + j) (k + 1)) (k + 1) := by
                intro i hi
                by_cases hik : i = k
                · rw [hik, dgt_at hj]; exact hok
                · rw [dgt_ext hj (by omega)]; exact hv i (by omega)
              have hl9 : ∀ c, b = some c → gS (dyF W sk) (dgt q (p * q + j) (k + 1)) (k + 1) q < gc q M (dyF W sk) c := by
                intro c hbc
                subst hbc
                have hg0 : gc q M (dyF W sk) c ≤ 18000 := hgb _ M (Nat.le_refl M)
                rw [hL.1, nI_leI (by omega) (by omega)] at hcut
                omega
              obtain ⟨τ', b', r1, ⟨rF, r71, r75, rL⟩, r3⟩ := ih (k + 1) (by omega) n (by omega) (p * q + j) s9 b hI9 hB hv9 hl9
              dsimp only
              rw [ob_of r1]
              rw [pk_sub (Nat.le_add_left _ _), Nat.add_sub_cancel, rs_nI (show j < 4 by omega) (by decide)]
              refine ⟨up τ' 75 j (nI (sS (dyF W sk) (dgt q p k) k j)), b', rfl, ⟨⟨fun p' a b c e => ?_, rF.2⟩, fun i hi => ?_, fun j' hj' => ?_, LE_c rfl rfl rL⟩, r3⟩
              · rw [up_ne _ _ _ e]; exact rF.1 p' a b c e
              · show τ' 71 i = _
                rw [r71 i (by omega), dgt_ext hj hi]
              · show upd (τ' 75) j _ j' = _
                by_cases hjj : j' = j
                · rw [hjj, upd_at]
                · rw [upd_ne _ _ hjj, r75 j' hj', ext_sum hj, if_neg (fun e => hjj e.symm), Nat.add_zero]
          -- a hand that may not
          have hskip : okF O mst k j = false → Best q M (dyF W sk) (okF O mst) ((p * q + j + 1) * q ^ d) b := by
            intro hok
            refine Best_skip hB (fun c hc1 hc2 hvc => ?_) hle2
            exfalso
            have h := hvc k hkM
            rw [hpre c hc1 hc2 k (by omega), dgt_at hj, hok] at h
            cases h
          have hstep : L_Dealer_dealFrom_53 (R_Dealer_dealFrom n) (nI k) (nI (gS (dyF W sk) (dgt q p k) k q)) (nI (W k)) (nI j, τ) = if okF O mst k j = true then actE (R_Dealer_dealFrom n) (nI k) (nI (gS (dyF W sk) (dgt q p k) k q)) (nI (dyF W sk k j)) (nI j, τ) else some (.inl (nI (j + 1), τ)) := by
            unfold L_Dealer_dealFrom_53 okF
            dsimp only
            rw [if_neg hc60, ob_of hday, e69]
            cases hO : O k with
            | false =>
              rw [if_pos (show bI false = 0 from rfl), if_pos rfl, if_pos (show (!false || mst j) = true from rfl)]
              rfl
            | true =>
              rw [if_neg (show ¬ bI true = 0 by decide), emst]
              cases hm : mst j with
              | true =>
                rw [if_pos rfl, if_pos rfl, if_pos (show (!true || true) = true from rfl)]
                rfl
              | false =>
                rw [if_neg Bool.false_ne_true, if_neg Bool.false_ne_true, if_neg (show ¬ (!true || false) = true by decide), nI_1]
          cases hok : okF O mst k j with
          | true =>
            obtain ⟨τ', b', a1, a2, a3⟩ := hact hok
            refine ⟨(nI (j + 1), τ'), q - (j + 1), by omega, ?_, j + 1, τ', b', by omega, rfl, rfl, a2, a3⟩
            rw [hstep, if_pos hok, a1]
          | false =>
            refine ⟨(nI (j + 1), τ), q - (j + 1), by omega, ?_, j + 1, τ, b, by omega, rfl, rfl, hI, hskip hok⟩
            rw [hstep, if_neg (bf hok)])
      (k := q) (x := (0, τ)) ⟨0, τ, b, Nat.zero_le _, rfl, rfl, hI, by rw [Nat.add_zero, Nat.mul_assoc, Nat.mul_comm q, ← Nat.pow_succ]; exact hB⟩ (by omega)
    obtain ⟨Y, g1, b', g2, g3⟩ := hloop
    refine ⟨Y, b', ?_, g2, ?_⟩
    · obtain ⟨hF, -⟩ := hI
      rw [R_Dealer_dealFrom]
      unfold B_Dealer_dealFrom
      rw [if_neg (show ¬ τ 65 3 ≤ nI k by rw [hF.2 3 (by decide), H.c65]; exact nI_ge hkM (by omega)), if_pos (show nI k < 9 from nI_lt (b := 9) (by omega) (by decide))]
      have e67 : rg τ 67 9 (nI k) = nI (L k) := by rw [rg_nI (by omega) (by decide), hF.1 67 (by decide) (by decide) (by decide) (by decide)]; exact k67
      have e59 : rg τ 59 240 (nI (L k)) = nI (W k) := by rw [rg_nI k240 (by decide), hF.1 59 (by decide) (by decide) (by decide) (by decide)]; exact k59
      rw [e67, e59, ob_of g1]
    · rw [show (p + 1) * q ^ (d + 1) = (p * q + q) * q ^ d by rw [Nat.pow_succ, ← Nat.succ_mul, Nat.mul_assoc, Nat.mul_comm q]]
      exact g3
