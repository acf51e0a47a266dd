/-! draw -/
theorem in_wi2 (p a b : Int32) : F_Ref_in p a b = F_Shop_within p a b := (in_wi p a b).trans (Eq.refl _)
theorem it_inv {A : Type} {F : Nat → A → A} {P : Nat → A → Prop} {a : A} (h0 : P 0 a) (hs : ∀ k a, P k a → P (k + 1) (F k a)) : ∀ n, P n (it F n a)
  | 0 => h0
  | n + 1 => hs n _ (it_inv h0 hs n)
def dOk (g0 : Nat → Int32) (B : Nat) (p : Int32 × (Nat → Int32)) : Prop := (∃ c, c ≤ B ∧ p.1 = nI c ∧ (c = 0 → p.2 = g0)) ∧ ∀ k, k < 240 → ∃ f, f < 8 ∧ p.2 k = nI f
theorem dst_ok {g0 : Nat → Int32} {B f j : Nat} (hf : f < 8) {p : Int32 × (Nat → Int32)} (h : dOk g0 B p) : dOk g0 (B + 1) (dst (nI f) j p) := by
  obtain ⟨⟨c, h1, h2, h3⟩, h4⟩ := h
  refine ⟨?_, fun k hk => ?_⟩
  · unfold dst
    by_cases hg : p.2 j = nI f
    · rw [if_pos hg]
      exact ⟨c, by omega, h2, fun h0 => (upd_eq hg).trans (h3 h0)⟩
    · rw [if_neg hg]
      exact ⟨c + 1, by omega, by show p.1 + 1 = _; rw [h2, nI_1], fun h0 => absurd h0 (by omega)⟩
  · show ∃ f1, f1 < 8 ∧ upd p.2 j (nI f) k = nI f1
    by_cases hk2 : k = j
    · rw [hk2, upd_at]; exact ⟨f, hf, rfl⟩
    · rw [upd_ne _ _ hk2]; exact h4 k hk
theorem dRow_ok {g0 : Nat → Int32} {B f y a n : Nat} (hf : f < 8) {p : Int32 × (Nat → Int32)} (h : dOk g0 B p) : dOk g0 (B + n) (dRow (nI f) y a n p) :=
  it_inv (P := fun k p => dOk g0 (B + k) p) h (fun k p hp => dst_ok hf hp) n
theorem dAll_ok {g0 : Nat → Int32} {B f y a m n : Nat} (hf : f < 8) {p : Int32 × (Nat → Int32)} (h : dOk g0 B p) : dOk g0 (B + m * n) (dAll (nI f) y a m n p) := by
  refine it_inv (P := fun k p => dOk g0 (B + k * n) p) (by rw [Nat.zero_mul]; exact h) (fun k p hp => ?_) m
  have := dRow_ok (y := y + k) (a := a) (n := n) hf hp
  rw [Nat.succ_mul, ← Nat.add_assoc]
  exact this
theorem draw_cond {σ : SG} {w h : Nat} (hD : RD σ w h) (x0 y0 x1 y1 f : Int32) :
    (∃ a b c d g, a ≤ c ∧ c < w ∧ b ≤ d ∧ d < h ∧ g < 8 ∧ x0 = nI a ∧ y0 = nI b ∧ x1 = nI c ∧ y1 = nI d ∧ f = nI g) ∨
    (F_Shop_draw σ x0 y0 x1 y1 f = some (-2, σ) ∧ F_Ref_draw σ x0 y0 x1 y1 f = some (-2, σ)) := by
  by_cases hv : ∃ a b c d g, a ≤ c ∧ c < w ∧ b ≤ d ∧ d < h ∧ g < 8 ∧ x0 = nI a ∧ y0 = nI b ∧ x1 = nI c ∧ y1 = nI d ∧ f = nI g
  · exact Or.inl hv
  right
  have hD2 := hD
  obtain ⟨e1, e2, e3, e4, g1, g2, g3, g4, -⟩ := hD2
  constructor
  · unfold F_Shop_draw
    by_cases c1 : F_Drawing_has σ x0 y0 = true
    rotate_left
    · rw [if_neg c1]
    rw [if_pos c1]
    by_cases c2 : F_Drawing_has σ x1 y1 = true
    rotate_left
    · rw [if_neg c2]
    rw [if_pos c2]
    by_cases c3 : x1 < x0
    · rw [if_pos c3]
    rw [if_neg c3]
    by_cases c4 : y1 < y0
    · rw [if_pos c4]
    rw [if_neg c4]
    by_cases c5 : F_Shop_isField f = true
    rotate_left
    · rw [if_neg c5]
    exfalso
    obtain ⟨a, b, ha, hb, rfl, rfl⟩ := has_nI hD c1
    obtain ⟨c, d, hc, hd, rfl, rfl⟩ := has_nI hD c2
    obtain ⟨g, hg, rfl⟩ := isF_nI c5
    refine hv ⟨a, b, c, d, g, ?_, hc, ?_, hd, hg, rfl, rfl, rfl, rfl, rfl⟩
    · rcases Nat.lt_or_ge c a with q | q
      · exact absurd (nI_lt q (by omega)) c3
      · exact q
    · rcases Nat.lt_or_ge d b with q | q
      · exact absurd (nI_lt q (by omega)) c4
      · exact q
  · unfold F_Ref_draw
    rw [e3, e4, nI_sub1 g1, nI_sub1 g3]
    simp only [in_wi2]
    by_cases c1 : F_Shop_within x0 0 (nI (w - 1)) = true
    rotate_left
    · rw [if_neg c1]
    rw [if_pos c1]
    by_cases c2 : F_Shop_within x1 x0 (nI (w - 1)) = true
    rotate_left
    · rw [if_neg c2]
    rw [if_pos c2]
    by_cases c3 : F_Shop_within y0 0 (nI (h - 1)) = true
    rotate_left
    · rw [if_neg c3]
    rw [if_pos c3]
    by_cases c4 : F_Shop_within y1 y0 (nI (h - 1)) = true
    rotate_left
    · rw [if_neg c4]
    rw [if_pos c4]
    by_cases c5 : F_Shop_within f 0 7 = true
    rotate_left
    · rw [if_neg c5]
    exfalso
    obtain ⟨a, -, ha, rfl⟩ := wi_nI (a := 0) (by decide) (by omega) c1
    obtain ⟨c, hac, hc, rfl⟩ := wi_nI (by omega) (by omega) c2
    obtain ⟨b, -, hb, rfl⟩ := wi_nI (a := 0) (by decide) (by omega) c3
    obtain ⟨d, hbd, hd, rfl⟩ := wi_nI (by omega) (by omega) c4
    obtain ⟨g, hg, rfl⟩ := isF_nI c5
    exact hv ⟨a, b, c, d, g, hac, by omega, hbd, by omega, hg, rfl, rfl, rfl, rfl, rfl⟩
theorem op_draw {σ : SG} (hR : R σ) (x0 y0 x1 y1 f : Int32) : ∃ r σ1 σ2, F_Shop_draw σ x0 y0 x1 y1 f = some (r, σ1) ∧ F_Ref_draw σ1 x0 y0 x1 y1 f = some (r, σ2) ∧ R σ2 := by
  obtain ⟨w, h, m, q, n, S, pt, hD, hF, hL, hH, hC⟩ := id hR
  rcases draw_cond hD x0 y0 x1 y1 f with ⟨a, b, c, d, g, hac, hcw, hbd, hdh, hg, rfl, rfl, rfl, rfl, rfl⟩ | ⟨h1, h2⟩
  rotate_left
  · exact ⟨-2, σ, σ, h1, h2, hR⟩
  have hD2 := hD
  obtain ⟨e1, e2, e3, e4, g1, g2, g3, g4, e5, e6⟩ := hD2
  have hok : dOk (σ 3) (0 + (d + 1 - b) * (c + 1 - a)) (dAll (nI g) b a (d + 1 - b) (c + 1 - a) (nI 0, σ 3)) := dAll_ok hg ⟨⟨0, Nat.le_refl 0, rfl, fun _ => rfl⟩, e6⟩
  have hc0 := fillAC (σ := σ) (f := nI g) (a := a) (b := b) (c := c) (d := d) (by omega) hac hbd (nI 0, σ 3)
  have hfield : F_Shop_isField (nI g) = true := wi_0 (b := 7) (by omega) (by decide)
  generalize hp : dAll (nI g) b a (d + 1 - b) (c + 1 - a) (nI 0, σ 3) = p at hok hc0
  obtain ⟨⟨k, hk1, hk2, hk3⟩, hk4⟩ := hok
  have hkB : k < 2 ^ 31 := by
    have : (d + 1 - b) * (c + 1 - a) ≤ 10 * 24 := Nat.mul_le_mul (by omega) (by omega)
    omega
  rw [sR_self] at hc0
  have hrow : sR (sR σ 3 p.2) 77 (sR σ 3 p.2 77) = sR σ 3 p.2 := sR_self _ _
  have hr0 := fillAR (σ := sR σ 3 p.2) (f := nI g) (a := a) (b := b) (c := c) (d := d) (by omega) hac hbd (nI 0, σ 3)
  rw [hp] at hr0
  have h77 : (sR σ 3 p.2) 77 = σ 3 := (sR_ne σ p.2 (by decide)).trans e5
  rw [show sR (sR σ 3 p.2) 77 (σ 3) = sR σ 3 p.2 by rw [← h77, sR_self]] at hr0
  have hcl : F_Drawing_fill σ (nI a) (nI b) (nI c) (nI d) (nI g) = some (p.1, sR σ 3 p.2) := by
    unfold F_Drawing_fill
    rw [show ((0 : Int32), nI b, σ) = (nI 0, nI b, σ) from rfl, ob_of hc0]
  have hclass : ∀ t, (if p.1 ≤ 0 then some (p.1, sR σ 3 p.2) else some (p.1, F_Shop_takeDown (sR σ 3 p.2))) = t → F_Shop_draw σ (nI a) (nI b) (nI c) (nI d) (nI g) = t := by
    intro t ht
    unfold F_Shop_draw
    rw [if_pos (has_of hD (by omega) (by omega)), if_pos (has_of hD hcw hdh), if_neg (nI_nlt hac (by omega)), if_neg (nI_nlt hbd (by omega)), if_pos hfield, ob_of hcl]
    exact ht
  have href : ∀ σ1 : SG, σ1 76 0 = nI w → σ1 76 1 = nI h → ∀ σ3, lpW (L_Ref_draw_77 (nI a) (nI c) (nI d) (nI g)) FU (0, nI b, σ1) = some (p.1, σ3) → F_Ref_draw σ1 (nI a) (nI b) (nI c) (nI d) (nI g) = (if p.1 ≤ 0 then some (p.1, σ3) else some (p.1, F_Ref_goes σ3)) := by
    intro σ1 k1 k2 σ3 k3
    unfold F_Ref_draw
    simp only [in_wi2]
    rw [k1, k2, nI_sub1 g1, nI_sub1 g3, if_pos (wi_0 (by omega) (by omega)), if_pos (wi_of (by omega) (by omega) (by omega)), if_pos (wi_0 (by omega) (by omega)), if_pos (wi_of (by omega) (by omega) (by omega)), if_pos (show F_Shop_within (nI g) 0 7 = true from hfield), ob_of k3]
  by_cases hk0 : k = 0
  · have hp2 : p.2 = σ 3 := hk3 hk0
    have hle : p.1 ≤ 0 := by rw [hk2, hk0]; decide
    rw [hp2] at hclass hr0
    rw [sR_self] at hclass hr0
    rw [show sR σ 77 (σ 3) = σ by rw [← e5, sR_self]] at hr0
    exact ⟨p.1, σ, σ, hclass _ (if_pos hle), (href σ e3 e4 σ hr0).trans (if_pos hle), hR⟩
  · have hnle : ¬ p.1 ≤ 0 := by rw [hk2]; exact nI_nle (by omega) hkB
    have hT : F_Shop_takeDown (sR σ 3 p.2) = up (up (up (sR σ 3 p.2) 18 0 0) 52 0 0) 57 0 0 := rfl
    have hr1 := fillAR (σ := F_Shop_takeDown (sR σ 3 p.2)) (f := nI g) (a := a) (b := b) (c := c) (d := d) (by omega) hac hbd (nI 0, σ 3)
    rw [hp] at hr1
    have h77' : (F_Shop_takeDown (sR σ 3 p.2)) 77 = σ 3 := e5
    rw [show sR (F_Shop_takeDown (sR σ 3 p.2)) 77 (σ 3) = F_Shop_takeDown (sR σ 3 p.2) by rw [← h77', sR_self]] at hr1
    refine ⟨p.1, _, _, hclass _ (if_neg hnle), (href (F_Shop_takeDown (sR σ 3 p.2)) e3 e4 _ hr1).trans (if_neg hnle), w, h, m, q, 0, 0, false, ?_, ?_, ?_, ?_, ?_⟩
    · exact ⟨e1, e2, e3, e4, g1, g2, g3, g4, rfl, hk4⟩
    · exact RF_c (fun p hp => by rcases hp with rfl | rfl | rfl | rfl | rfl | rfl | rfl | rfl | rfl | rfl <;> rfl) hF
    · exact RLo_c (fun p hp => by rcases hp with rfl | rfl | rfl | rfl | rfl | rfl | rfl <;> rfl) rfl hL
    · exact RH_c (fun p hp => by rcases hp with rfl | rfl | rfl | rfl | rfl <;> rfl) rfl hH
    · exact RC_0 rfl rfl rfl (fun k hk => by rcases hk with rfl | rfl | rfl | rfl | rfl <;> rfl) hC.2.2.2.1
