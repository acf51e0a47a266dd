/-! lay: class and reference side by side -/
def updN (f : Nat → Nat) (n v : Nat) : Nat → Nat := fun k => if k = n then v else f k
theorem updN_at (f : Nat → Nat) (n v : Nat) : updN f n v n = v := if_pos rfl
theorem updN_ne (f : Nat → Nat) {n k : Nat} (v : Nat) (h : k ≠ n) : updN f n v k = f k := if_neg h
/-- the cubes laid as far as border x of row y -/
def PCov (σ : SG) (w h n y x : Nat) (r l z f : Nat → Nat) : Prop :=
  (∀ i, i < n → (σ 20 i = nI (r i) ∧ σ 22 i = nI (l i) ∧ σ 24 i = nI (z i) ∧ σ 26 i = nI (f i) ∧ r i < h ∧ 1 ≤ z i ∧ z i ≤ 3 ∧ l i + z i ≤ w ∧ f i < 8 ∧ ∀ x, l i ≤ x → x < l i + z i → σ 3 (24 * r i + x) = nI (f i) ∧ σ 34 (24 * r i + x) = nI i) ∧ (r i < y ∨ (r i = y ∧ l i + z i ≤ x)) ∧ σ 28 i = -1 ∧ σ 30 i = -1 ∧ σ 32 i = -1) ∧
  (0 < n → r 0 = 0 ∧ l 0 = 0) ∧ (∀ i, i + 1 < n → (r (i + 1) = r i ∧ l (i + 1) = l i + z i) ∨ (r (i + 1) = r i + 1 ∧ l (i + 1) = 0 ∧ l i + z i = w)) ∧
  ((n = 0 ∧ y = 0 ∧ x = 0) ∨ (0 < n ∧ ((r (n - 1) = y ∧ l (n - 1) + z (n - 1) = x) ∨ (x = 0 ∧ r (n - 1) + 1 = y ∧ l (n - 1) + z (n - 1) = w)))) ∧ n ≤ w * y + x
theorem PCov_put {σ σ' : SG} {w h n y x t g : Nat} {r l z f : Nat → Nat} (hw : w ≤ 24) (H : PCov σ w h n y x r l z f) (hy : y < h) (ht1 : 1 ≤ t) (ht3 : t ≤ 3) (hxt : x + t ≤ w) (hg : g < 8) (hfl : ∀ k, x ≤ k → k < x + t → σ 3 (24 * y + k) = nI g)
    (h20 : σ' 20 = upd (σ 20) n (nI y)) (h22 : σ' 22 = upd (σ 22) n (nI x)) (h24 : σ' 24 = upd (σ 24) n (nI t)) (h26 : σ' 26 = upd (σ 26) n (nI g)) (h28 : σ' 28 = upd (σ 28) n (-1)) (h30 : σ' 30 = upd (σ 30) n (-1)) (h32 : σ' 32 = upd (σ 32) n (-1)) (h34 : σ' 34 = (fun k => if 24 * y + x ≤ k ∧ k < 24 * y + x + t then nI n else σ 34 k)) (h3 : σ' 3 = σ 3) :
    PCov σ' w h (n + 1) y (x + t) (updN r n y) (updN l n x) (updN z n t) (updN f n g) := by
  obtain ⟨a, b, c, d, e⟩ := H
  refine ⟨fun i hi => ?_, fun _ => ?_, fun i hi => ?_, Or.inr ⟨by omega, Or.inl ?_⟩, by omega⟩
  · rw [h20, h22, h24, h26, h28, h30, h32, h34, h3]
    by_cases hin : i = n
    · subst hin
      rw [upd_at, upd_at, upd_at, upd_at, upd_at, upd_at, upd_at, updN_at, updN_at, updN_at, updN_at]
      refine ⟨⟨rfl, rfl, rfl, rfl, hy, ht1, ht3, hxt, hg, fun k h1 h2 => ⟨hfl k h1 h2, if_pos (by omega)⟩⟩, Or.inr ⟨rfl, Nat.le_refl _⟩, rfl, rfl, rfl⟩
    · rw [upd_ne _ _ hin, upd_ne _ _ hin, upd_ne _ _ hin, upd_ne _ _ hin, upd_ne _ _ hin, upd_ne _ _ hin, upd_ne _ _ hin, updN_ne _ _ hin, updN_ne _ _ hin, updN_ne _ _ hin, updN_ne _ _ hin]
      obtain ⟨⟨a1, a2, a3, a4, a5, a6, a7, a8, a9, a10⟩, a11, a12⟩ := a i (by omega)
      refine ⟨⟨a1, a2, a3, a4, a5, a6, a7, a8, a9, fun k h1 h2 => ⟨(a10 k h1 h2).1, ?_⟩⟩, by omega, a12⟩
      dsimp only
      rw [if_neg (by omega)]
      exact (a10 k h1 h2).2
  · by_cases h0 : n = 0
    · subst h0
      rw [updN_at, updN_at]
      omega
    · rw [updN_ne _ _ (show 0 ≠ n by omega), updN_ne _ _ (show 0 ≠ n by omega)]
      exact b (by omega)
  · by_cases hin : i + 1 = n
    · rw [hin, updN_at, updN_at, updN_ne _ _ (show i ≠ n by omega), updN_ne _ _ (show i ≠ n by omega), updN_ne _ _ (show i ≠ n by omega)]
      rw [show n - 1 = i by omega] at d
      omega
    · rw [updN_ne _ _ (show i + 1 ≠ n by omega), updN_ne _ _ (show i + 1 ≠ n by omega), updN_ne _ _ (show i ≠ n by omega), updN_ne _ _ (show i ≠ n by omega), updN_ne _ _ (show i ≠ n by omega)]
      exact c i (by omega)
  · rw [Nat.add_sub_cancel, updN_at, updN_at, updN_at]
    exact ⟨rfl, rfl⟩
theorem PCov_row {σ : SG} {w h n y : Nat} {r l z f : Nat → Nat} (hw : 1 ≤ w) (H : PCov σ w h n y w r l z f) : PCov σ w h n (y + 1) 0 r l z f := by
  obtain ⟨a, b, c, d, e⟩ := H
  refine ⟨fun i hi => ?_, b, c, by omega, by rw [Nat.mul_succ]; omega⟩
  obtain ⟨a1, a2, a3⟩ := a i hi
  exact ⟨a1, by omega, a3⟩
theorem PCov_c {σ σ' : SG} {w h n y x : Nat} {r l z f : Nat → Nat} (hp : ∀ p, p = 3 ∨ p = 20 ∨ p = 22 ∨ p = 24 ∨ p = 26 ∨ p = 28 ∨ p = 30 ∨ p = 32 ∨ p = 34 → σ' p = σ p) (H : PCov σ w h n y x r l z f) : PCov σ' w h n y x r l z f := by
  unfold PCov at H ⊢
  rw [hp 3 (by decide), hp 20 (by decide), hp 22 (by decide), hp 24 (by decide), hp 26 (by decide), hp 28 (by decide), hp 30 (by decide), hp 32 (by decide), hp 34 (by decide)]
  exact H
abbrev nJ (p : Nat) : Prop := nC p ∧ p ≠ 37 ∧ p ≠ 39 ∧ p ≠ 41
abbrev nK (p : Nat) : Prop := nR p ∧ p ≠ 92 ∧ p ≠ 93 ∧ p ≠ 94 ∧ p ≠ 95
/-- nothing else has changed; the cubes' rows are the same -/
def LyW (σ0 τ0 σ τ : SG) : Prop := (∀ p, nJ p → σ p = σ0 p) ∧ (∀ p, nK p → τ p = τ0 p) ∧ (∀ k, k ≠ 10 → τ 76 k = τ0 76 k) ∧ (τ 82 = σ 20 ∧ τ 83 = σ 22 ∧ τ 84 = σ 24 ∧ τ 85 = σ 26 ∧ τ 86 = σ 28 ∧ τ 87 = σ 30)
def LyS (σ0 τ0 σ τ : SG) (w h y x n : Nat) (r l z f : Nat → Nat) (ja : Nat → Bool) : Prop := LyW σ0 τ0 σ τ ∧ σ 18 0 = nI n ∧ τ 76 10 = nI n ∧ PCov σ w h n y x r l z f ∧ (∀ k, k < 25 → ∃ b : Bool, σ 39 k = bI b ∧ τ 93 k = bI b) ∧ ∀ k, k < 25 → σ 37 k = bI (ja k) ∧ τ 92 k = bI (ja k)
theorem LB_w {σ0 τ0 σ τ : SG} {w h : Nat} {F : Nat → Nat} (hB : LB σ0 τ0 w h F) (hW : LyW σ0 τ0 σ τ) : LB σ τ w h F := by
  obtain ⟨a, b, c, -⟩ := hW
  unfold LB at hB ⊢
  rw [a 1 (by decide), a 3 (by decide), a 13 (by decide), b 77 (by decide), b 79 (by decide), c 0 (by decide), c 1 (by decide)]
  exact hB
theorem mx1 {t : Nat} (h1 : 1 ≤ t) (h2 : t < 1000) : mxI 1 (nI t) = nI t := by
  unfold mxI
  by_cases h : t = 1
  · subst h; rfl
  · rw [if_pos (show (1 : Int32) < nI t from nI_lt (a := 1) (by omega) (by omega))]
theorem puts2 {σ0 τ0 σ τ : SG} {w h y from_ to L n g : Nat} {F : Nat → Nat} {V : Nat → Option Nat} {r l z f : Nat → Nat} {ja : Nat → Bool} (hB : LB σ0 τ0 w h F) (hy : y < h) (hft : from_ ≤ to) (hto : to ≤ w) (hL : L ≤ 3) (hg : g < 8) (hfl : ∀ k, from_ ≤ k → k < to → F (24 * y + k) = g) (hfr : FR (σ 41) (τ 94) (τ 95) V ja L to from_) (hV : ∃ v, V from_ = some v) (hS : LyS σ0 τ0 σ τ w h y from_ n r l z f ja) :
    ∃ σ' τ', lpW (L_Layer_layStrip_54 (nI y) (nI to) (nI g) (nI L)) FU (nI from_, σ) = some σ' ∧ lpW (L_Ref_strip_163 (nI y) (nI to)) FU (nI from_, τ) = some τ' ∧ ∃ n r l z f, LyS σ0 τ0 σ' τ' w h y to n r l z f ja := by
  obtain ⟨b1, b2, b3, b4, b5, b6, b7, b8, b9, b10⟩ := id hB
  have hll := lockS (f := L_Layer_layStrip_54 (nI y) (nI to) (nI g) (nI L)) (f' := L_Ref_strip_163 (nI y) (nI to))
    (Inv := fun k X X' => ∃ x σ τ n r l z f, from_ ≤ x ∧ x ≤ to ∧ k = to - x ∧ X = (nI x, σ) ∧ X' = (nI x, τ) ∧ FR (σ 41) (τ 94) (τ 95) V ja L to from_ ∧ (∃ v, V x = some v) ∧ LyS σ0 τ0 σ τ w h y x n r l z f ja)
    (Post := fun Y Y' => ∃ n r l z f, LyS σ0 τ0 Y Y' w h y to n r l z f ja)
    (fun k X X' hI => by
      obtain ⟨x, σ, τ, n, r, l, z, f, h1, h2, h3, rfl, rfl, hfr, ⟨v, hv⟩, hS⟩ := hI
      by_cases hx : x = to
      · right
        subst hx
        refine ⟨σ, τ, ?_, ?_, n, r, l, z, f, hS⟩
        · unfold L_Layer_layStrip_54
          dsimp only
          rw [if_pos (nI_le (Nat.le_refl _) (by omega))]
        · unfold L_Ref_strip_163
          dsimp only
          rw [if_pos (nI_le (Nat.le_refl _) (by omega))]
      · left
        obtain ⟨hW, s18, s76, hP, h39, h37⟩ := hS
        have hfrx : FR (σ 41) (τ 94) (τ 95) V ja L to x := ⟨hfr.1, fun k h1 h2 => hfr.2 k (by omega) h2⟩
        obtain ⟨t, u, t1, t3, t4, t5, t6, t7⟩ := widC (by omega) hL (show x < to by omega) (fun k hk => (h37 k hk).1) hfrx hv
        have hwy : w * y + w ≤ w * h := by
          rw [← Nat.mul_succ]; exact Nat.mul_le_mul_left w (by omega)
        have hwh : w * h ≤ 240 := by
          have := Nat.mul_le_mul b6 b8
          omega
        have hn240 : n < 240 := by have := hP.2.2.2.2; omega
        have hxw : 24 * y + x < 240 := by omega
        obtain ⟨hWa, hWb, hWc, hWd⟩ := id hW
        have hf3 : ∀ k, x ≤ k → k < to → σ 3 (24 * y + k) = nI g := fun k a b => by
          rw [hWa 3 (by decide), (b9 _ (by omega)).2.1, hfl k (by omega) b]
        obtain ⟨σ', p1, p2, p3, p4, p5, p6, p7, p8, p9, p10, p11⟩ := putC (fl := nI g) (s := t) s18 hn240 (show 24 * y + x + t ≤ 240 by omega)
        have h77 : τ 77 (24 * y + x) = nI g := by rw [hWb 77 (by decide), (b9 _ (by omega)).2.2, hfl x (by omega) (by omega)]
        obtain ⟨τ', q1, q2, q3, q4, q5, q6, q7, q8, q9⟩ := putR s76 hn240 (show x < to by omega) (by omega) t4 hxw t5 h77
        obtain ⟨d1, d2, d3, d4, d5, d6⟩ := hWd
        have hstep : ∃ σ2, L_Layer_layStrip_54 (nI y) (nI to) (nI g) (nI L) (nI x, σ) = some (.inl (nI (x + t), σ2)) ∧ σ2 = if to ≤ x + t then σ' else up σ' 39 (x + t) 1 := by
          unfold L_Layer_layStrip_54
          dsimp only
          rw [if_neg (nI_ge (by omega) (by omega)), ob_of t7, mx1 t1 (by omega), ob_of p1, nI_add]
          by_cases hc : to ≤ x + t
          · rw [if_pos (nI_le hc (by omega))]
            exact ⟨_, rfl, (if_pos hc).symm⟩
          · rw [if_neg (nI_ge (by omega) (by omega)), rs_nI (by omega) (by decide)]
            exact ⟨_, rfl, (if_neg hc).symm⟩
        obtain ⟨σ2, g1, g2⟩ := hstep
        generalize hτ2 : (if to ≤ x + t then τ' else up τ' 93 (x + t) 1) = τ2 at q1
        have s2 : ∀ p, p ≠ 39 → σ2 p = σ' p := fun p hp => by
          rw [g2]; by_cases hc : to ≤ x + t
          · rw [if_pos hc]
          · rw [if_neg hc, up_ne _ _ _ hp]
        have r2 : ∀ p, p ≠ 93 → τ2 p = τ' p := fun p hp => by
          rw [← hτ2]; by_cases hc : to ≤ x + t
          · rw [if_pos hc]
          · rw [if_neg hc, up_ne _ _ _ hp]
        have hj39 : ∀ k, k < 25 → ∃ b : Bool, σ2 39 k = bI b ∧ τ2 93 k = bI b := fun k hk => by
          rw [g2, ← hτ2]
          by_cases hc : to ≤ x + t
          · rw [if_pos hc, if_pos hc, p11 39 (by decide), q9 93 (by decide)]
            exact h39 k hk
          · rw [if_neg hc, if_neg hc, up_sR, up_sR, sR_at, sR_at, p11 39 (by decide), q9 93 (by decide)]
            by_cases hkx : k = x + t
            · rw [hkx, upd_at, upd_at]
              exact ⟨true, rfl, rfl⟩
            · rw [upd_ne _ _ hkx, upd_ne _ _ hkx]
              exact h39 k hk
        refine ⟨(nI (x + t), σ2), (nI (x + t), τ2), to - (x + t), by omega, g1, q1, x + t, σ2, τ2, n + 1, updN r n y, updN l n x, updN z n t, updN f n g, by omega, t4, rfl, rfl, rfl, ?_, ⟨u, t6⟩, ⟨fun p hp => ?_, fun p hp => ?_, fun k hk => ?_, ?_⟩, ?_, ?_, ?_, hj39, ?_⟩
        · rw [s2 41 (by decide), p11 41 (by decide), r2 94 (by decide), r2 95 (by decide), q9 94 (by decide), q9 95 (by decide)]
          exact hfr
        · rw [s2 p hp.2.2.1, p11 p hp.1, hWa p hp]
        · rw [r2 p hp.2.2.1, q9 p hp.1, hWb p hp]
        · rw [r2 76 (by decide), q2, upd_ne _ _ hk, hWc k hk]
        · rw [r2 82 (by decide), r2 83 (by decide), r2 84 (by decide), r2 85 (by decide), r2 86 (by decide), r2 87 (by decide), s2 20 (by decide), s2 22 (by decide), s2 24 (by decide), s2 26 (by decide), s2 28 (by decide), s2 30 (by decide), p3, p4, p5, p6, p7, p8, q3, q4, q5, q6, q7, q8, d1, d2, d3, d4, d5, d6]
          exact ⟨rfl, rfl, rfl, rfl, rfl, rfl⟩
        · rw [s2 18 (by decide)]; exact p2
        · rw [r2 76 (by decide), q2, upd_at]
        · refine PCov_put b6 hP hy t1 t3 (by omega) hg (fun k a b => hf3 k a (by omega)) ?_ ?_ ?_ ?_ ?_ ?_ ?_ ?_ ?_
          · rw [s2 20 (by decide)]; exact p3
          · rw [s2 22 (by decide)]; exact p4
          · rw [s2 24 (by decide)]; exact p5
          · rw [s2 26 (by decide)]; exact p6
          · rw [s2 28 (by decide)]; exact p7
          · rw [s2 30 (by decide)]; exact p8
          · rw [s2 32 (by decide)]; exact p9
          · rw [s2 34 (by decide)]; exact p10
          · rw [s2 3 (by decide)]; exact p11 3 (by decide)
        · rw [s2 37 (by decide), p11 37 (by decide), r2 92 (by decide), q9 92 (by decide)]
          exact h37)
    (k := to - from_) (x := (nI from_, σ)) (x' := (nI from_, τ))
    ⟨from_, σ, τ, n, r, l, z, f, Nat.le_refl _, hft, rfl, rfl, rfl, hfr, hV, hS⟩ (by omega)
  obtain ⟨Y, Y', g1, g2, g3⟩ := hll
  exact ⟨Y, Y', g1, g2, g3⟩
theorem LyS_bound {σ0 τ0 σ τ : SG} {w h y x n : Nat} {F r l z f : Nat → Nat} {ja : Nat → Bool} (hB : LB σ0 τ0 w h F) (hS : LyS σ0 τ0 σ τ w h y x n r l z f ja) : LB σ τ w h F := LB_w hB hS.1
theorem strip2 {σ0 τ0 σ τ : SG} {w h y x e n : Nat} {F r l z f : Nat → Nat} {ja : Nat → Bool} (hB : LB σ0 τ0 w h F) (hy : y < h) (hx : x < w) (he : SE F w y x e) (hS : LyS σ0 τ0 σ τ w h y x n r l z f ja) :
    (∃ σ' τ', F_Layer_layStrip σ (nI y) (nI x) (nI e) = some (true, σ') ∧ F_Ref_strip τ (nI y) (nI x) (nI e) = some (true, τ') ∧ ∃ n r l z f, LyS σ0 τ0 σ' τ' w h y e n r l z f ja) ∨
    (∃ σ' τ', F_Layer_layStrip σ (nI y) (nI x) (nI e) = some (false, σ') ∧ F_Ref_strip τ (nI y) (nI x) (nI e) = some (false, τ') ∧ LyW σ0 τ0 σ' τ') := by
  obtain ⟨b1, b2, b3, b4, b5, b6, b7, b8, b9, b10⟩ := id hB
  have hB' := LyS_bound hB hS
  obtain ⟨e1, e2, e3, e4⟩ := id he
  obtain ⟨hg8, h3, h77⟩ := hB'.2.2.2.2.2.2.2.2.1 (24 * y + x) (by omega)
  obtain ⟨L, hL1, hL3, hL, hL'⟩ := hB'.2.2.2.2.2.2.2.2.2 (F (24 * y + x)) hg8
  obtain ⟨A, B, C, V, c1, c2, hfr⟩ := fewest2 hB' hy e1 e2 ⟨hL, hL', hL1, hL3⟩ (fun k hk => hS.2.2.2.2.2 k hk)
  have hfa : F_Drawing_fieldAt σ (nI x) (nI y) = nI (F (24 * y + x)) := by rw [fAt (by omega)]; exact h3
  have hlen : rg σ 13 8 (nI (F (24 * y + x))) = nI L := by rw [rg_nI hg8 (by decide)]; exact hL
  obtain ⟨f1, f2, f3, f4⟩ := hfr.2 x (Nat.le_refl x) (by omega)
  have hc41 : rg (sR σ 41 A) 41 25 (nI x) = encC (V x) := by rw [rg_nI (by omega) (by decide), sR_at]; exact f1
  have hr94 : (w2 τ 94 95 B C) 94 x = encR (V x) := by rw [w2_p _ _ _ (by decide)]; exact f2
  have hS' : LyS σ0 τ0 (sR σ 41 A) (w2 τ 94 95 B C) w h y x n r l z f ja := by
    obtain ⟨⟨a1, a2, a3, a4⟩, a5, a6, a7, a8, a9⟩ := hS
    refine ⟨⟨fun p hp => ?_, fun p hp => ?_, a3, a4⟩, a5, a6, PCov_c (fun p hp => by rcases hp with rfl | rfl | rfl | rfl | rfl | rfl | rfl | rfl | rfl <;> rfl) a7, a8, a9⟩
    · rw [sR_ne _ _ hp.2.2.2]; exact a1 p hp
    · rw [w2_o _ _ _ hp.2.2.2.1 hp.2.2.2.2]; exact a2 p hp
  have hC : F_Layer_layStrip σ (nI y) (nI x) (nI e) = if rg (sR σ 41 A) 41 25 (nI x) < 1000000 then ob (lpW (L_Layer_layStrip_54 (nI y) (nI e) (nI (F (24 * y + x))) (nI L)) FU (nI x, sR σ 41 A)) (fun y3 => some (true, y3)) else some (false, sR σ 41 A) := by
    unfold F_Layer_layStrip
    rw [hfa, hlen, ob_of c1]
  have hR : F_Ref_strip τ (nI y) (nI x) (nI e) = if (w2 τ 94 95 B C) 94 x < 999 then ob (lpW (L_Ref_strip_163 (nI y) (nI e)) FU (nI x, w2 τ 94 95 B C)) (fun y31 => some (true, y31)) else some (false, w2 τ 94 95 B C) := by
    unfold F_Ref_strip
    rw [vin_nI (show e < 25 by omega) (by decide), og_t, ob_of c2, vin_nI (show x < 25 by omega) (by decide), og_t, ix_nI (show x < 2 ^ 31 by omega)]
  rw [hC, hR]
  cases hV : V x with
  | none =>
    right
    refine ⟨sR σ 41 A, w2 τ 94 95 B C, ?_, ?_, hS'.1⟩
    · rw [if_neg (show ¬ rg (sR σ 41 A) 41 25 (nI x) < 1000000 by rw [hc41, hV]; decide)]
    · rw [if_neg (show ¬ (w2 τ 94 95 B C) 94 x < 999 by rw [hr94, hV]; decide)]
  | some v =>
    left
    have hv := f3 v hV
    obtain ⟨σ', τ', g1, g2, g3⟩ := puts2 hB hy (Nat.le_of_lt e1) e2 hL3 hg8 e3 (by rw [sR_at, w2_p _ _ _ (by decide), w2_q]; exact hfr) ⟨v, hV⟩ hS'
    refine ⟨σ', τ', ?_, ?_, g3⟩
    · rw [if_pos (show rg (sR σ 41 A) 41 25 (nI x) < 1000000 by rw [hc41, hV]; exact nI_lt (b := 1000000) (by omega) (by decide)), ob_of g1]
    · rw [if_pos (show (w2 τ 94 95 B C) 94 x < 999 by rw [hr94, hV]; exact nI_lt (b := 999) (by omega) (by decide)), ob_of g2]
/-- how a row ends -/
def rowP (σ0 τ0 : SG) (w h y : Nat) (ja : Nat → Bool) (Y : SG ⊕ (Int32 × SG)) (Y' : SG ⊕ (Int32 × SG)) : Prop :=
  (∃ σ τ n r l z f, Y = .inl σ ∧ Y' = .inl τ ∧ LyS σ0 τ0 σ τ w h y w n r l z f ja) ∨
  ∃ p σ τ, p < 240 ∧ Y = .inr (nI p, σ) ∧ Y' = .inr ((-1000) - nI p, F_Ref_goes τ) ∧ LyW σ0 τ0 σ τ
theorem row2 {σ0 τ0 σ τ : SG} {w h y n : Nat} {F r l z f : Nat → Nat} {ja : Nat → Bool} (hB : LB σ0 τ0 w h F) (hy : y < h) (hS : LyS σ0 τ0 σ τ w h y 0 n r l z f ja) :
    ∃ Y Y', lpW (L_Layer_layRows_42 (nI y)) FU (0, σ) = some Y ∧ lpW (L_Ref_lay_58 (nI y)) FU (0, τ) = some Y' ∧ rowP σ0 τ0 w h y ja Y Y' := by
  obtain ⟨b1, b2, b3, b4, b5, b6, b7, b8, b9, b10⟩ := id hB
  exact lockS (f := L_Layer_layRows_42 (nI y)) (f' := L_Ref_lay_58 (nI y))
    (Inv := fun k X X' => ∃ x σ τ n r l z f, x ≤ w ∧ k = w - x ∧ X = (nI x, σ) ∧ X' = (nI x, τ) ∧ LyS σ0 τ0 σ τ w h y x n r l z f ja)
    (Post := rowP σ0 τ0 w h y ja)
    (fun k X X' hI => by
      obtain ⟨x, σ, τ, n, r, l, z, f, h1, h2, rfl, rfl, hS⟩ := hI
      have hB' := LyS_bound hB hS
      by_cases hx : x = w
      · right
        subst hx
        refine ⟨.inl σ, .inl τ, ?_, ?_, Or.inl ⟨σ, τ, n, r, l, z, f, rfl, rfl, hS⟩⟩
        · unfold L_Layer_layRows_42
          dsimp only
          rw [if_pos (show σ 1 0 ≤ nI x by rw [hB'.1]; exact nI_le (Nat.le_refl _) (by omega))]
        · unfold L_Ref_lay_58
          dsimp only
          rw [if_pos (show τ 76 0 ≤ nI x by rw [hB'.2.2.1]; exact nI_le (Nat.le_refl _) (by omega))]
      · have hxw : x < w := by omega
        obtain ⟨e, he⟩ := SE_ex F (y := y) hxw
        have hc1 : ¬ σ 1 0 ≤ nI x := by rw [hB'.1]; exact nI_ge (by omega) (by omega)
        have hc2 : ¬ τ 76 0 ≤ nI x := by rw [hB'.2.2.1]; exact nI_ge (by omega) (by omega)
        have hse := seC hB' hy hxw he
        have hse2 := seR (x0 := nI x) hB' hy hxw he
        obtain ⟨e1, e2, -, -⟩ := id he
        rcases strip2 hB hy hxw he hS with ⟨σ', τ', g1, g2, n', r', l', z', f', hS'⟩ | ⟨σ', τ', g1, g2, hW⟩
        · left
          refine ⟨(nI e, σ'), (nI e, τ'), w - e, by omega, ?_, ?_, e, σ', τ', n', r', l', z', f', e2, rfl, rfl, rfl, hS'⟩
          · unfold L_Layer_layRows_42
            dsimp only
            rw [if_neg hc1, ob_of hse, ob_of g1, if_pos rfl, ob_of (seC (LyS_bound hB hS') hy hxw he)]
            unfold mxI
            rw [nI_1]
            by_cases hxe : x + 1 = e
            · rw [hxe, if_neg (nI_nlt (Nat.le_refl e) (by omega))]
            · rw [if_pos (nI_lt (by omega) (by omega))]
          · unfold L_Ref_lay_58
            dsimp only
            rw [if_neg hc2, ob_of hse2, ob_of g2, if_pos rfl]
        · right
          refine ⟨.inr (nI (24 * y + x), σ'), .inr ((-1000) - nI (24 * y + x), F_Ref_goes τ'), ?_, ?_, Or.inr ⟨24 * y + x, σ', τ', by omega, rfl, rfl, hW⟩⟩
          · unfold L_Layer_layRows_42
            dsimp only
            rw [if_neg hc1, ob_of hse, ob_of g1, if_neg (show ¬ false = true from Bool.false_ne_true), pl_nI]
          · unfold L_Ref_lay_58
            dsimp only
            have hh : ∀ a b : Int32, (-1000) - 24 * a - b = (-1000) - (24 * a + b) := by intro a b; grind
            rw [if_neg hc2, ob_of hse2, ob_of g2, if_neg (show ¬ false = true from Bool.false_ne_true), hh, pl_nI'])
    (k := w) (x := (0, σ)) (x' := (0, τ)) ⟨0, σ, τ, n, r, l, z, f, Nat.zero_le _, rfl, rfl, rfl, hS⟩ (by omega)
/-- between two rows -/
def LyR (σ0 τ0 σ τ : SG) (w h y n : Nat) (r l z f : Nat → Nat) : Prop := LyW σ0 τ0 σ τ ∧ σ 18 0 = nI n ∧ τ 76 10 = nI n ∧ PCov σ w h n y 0 r l z f ∧ ∀ k, k < 25 → ∃ b : Bool, σ 39 k = bI b ∧ τ 92 k = bI b
def rowsP (σ0 τ0 : SG) (w h : Nat) (Y : SG ⊕ (Int32 × SG)) (Y' : SG ⊕ (Int32 × SG)) : Prop :=
  (∃ σ τ n r l z f, Y = .inl σ ∧ Y' = .inl τ ∧ LyR σ0 τ0 σ τ w h h n r l z f) ∨
  ∃ p σ τ, p < 240 ∧ Y = .inr (nI p, σ) ∧ Y' = .inr ((-1000) - nI p, F_Ref_goes τ) ∧ LyW σ0 τ0 σ τ
theorem LyR_in {σ0 τ0 σ τ : SG} {w h y n : Nat} {r l z f : Nat → Nat} (hR : LyR σ0 τ0 σ τ w h y n r l z f) : ∃ ja, LyS σ0 τ0 (rf (rc σ 37 25 39 25) 39 25 0) (sR τ 93 (rowF (fun _ => 0) (τ 93) 25)) w h y 0 n r l z f ja := by
  obtain ⟨⟨a1, a2, a3, a4⟩, a5, a6, a7, a8⟩ := hR
  refine ⟨fun k => decide (σ 39 k = 1), ⟨fun p hp => ?_, fun p hp => ?_, a3, a4⟩, a5, a6, PCov_c (fun p hp => by rcases hp with rfl | rfl | rfl | rfl | rfl | rfl | rfl | rfl | rfl <;> rfl) a7, fun k hk => ⟨false, ?_, ?_⟩, fun k hk => ?_⟩
  · rw [rf_sR, sR_ne _ _ hp.2.2.1, rc_sR, sR_ne _ _ hp.2.1]; exact a1 p hp
  · rw [sR_ne _ _ hp.2.2.1]; exact a2 p hp
  · rw [rf_sR, sR_at]
    exact if_pos hk
  · rw [sR_at, rowF_lt hk]; rfl
  · obtain ⟨b, hb, hb'⟩ := a8 k hk
    refine ⟨?_, ?_⟩
    · rw [rf_sR, sR_ne _ _ (by decide), rc_sR, sR_at]
      dsimp only
      rw [if_pos hk, rg_nI hk (by decide), hb, bI_eq1]
    · show τ 92 k = bI (decide (σ 39 k = 1))
      rw [hb', hb, bI_eq1]
theorem LyS_out {σ0 τ0 σ τ : SG} {w h y n : Nat} {r l z f : Nat → Nat} {ja : Nat → Bool} (hw : 1 ≤ w) (hS : LyS σ0 τ0 σ τ w h y w n r l z f ja) : LyR σ0 τ0 σ (sR τ 92 (rowF (τ 93) (τ 92) 25)) w h (y + 1) n r l z f := by
  obtain ⟨⟨a1, a2, a3, a4⟩, a5, a6, a7, a8, -⟩ := hS
  refine ⟨⟨a1, fun p hp => ?_, a3, a4⟩, a5, a6, PCov_row hw a7, fun k hk => ?_⟩
  · rw [sR_ne _ _ hp.2.1]; exact a2 p hp
  · rw [sR_at, rowF_lt hk]; exact a8 k hk
theorem rows2 {σ0 τ0 σ τ : SG} {w h n : Nat} {F r l z f : Nat → Nat} (hB : LB σ0 τ0 w h F) (hS : LyR σ0 τ0 σ τ w h 0 n r l z f) :
    ∃ Y Y', lpW L_Layer_layRows_10 FU (0, σ) = some Y ∧ lpW L_Ref_lay_27 FU (0, τ) = some Y' ∧ rowsP σ0 τ0 w h Y Y' := by
  obtain ⟨b1, b2, b3, b4, b5, b6, b7, b8, b9, b10⟩ := id hB
  exact lockS (f := L_Layer_layRows_10) (f' := L_Ref_lay_27)
    (Inv := fun k X X' => ∃ y σ τ n r l z f, y ≤ h ∧ k = h - y ∧ X = (nI y, σ) ∧ X' = (nI y, τ) ∧ LyR σ0 τ0 σ τ w h y n r l z f)
    (Post := rowsP σ0 τ0 w h)
    (fun k X X' hI => by
      obtain ⟨y, σ, τ, n, r, l, z, f, h1, h2, rfl, rfl, hR⟩ := hI
      have hB' := LB_w hB hR.1
      by_cases hy : y = h
      · right
        subst hy
        refine ⟨.inl σ, .inl τ, ?_, ?_, Or.inl ⟨σ, τ, n, r, l, z, f, rfl, rfl, hR⟩⟩
        · unfold L_Layer_layRows_10
          dsimp only
          rw [if_pos (show σ 1 1 ≤ nI y by rw [hB'.2.1]; exact nI_le (Nat.le_refl _) (by omega))]
        · unfold L_Ref_lay_27
          dsimp only
          rw [if_pos (show τ 76 1 ≤ nI y by rw [hB'.2.2.2.1]; exact nI_le (Nat.le_refl _) (by omega))]
      · have hyh : y < h := by omega
        have hc1 : ¬ σ 1 1 ≤ nI y := by rw [hB'.2.1]; exact nI_ge (by omega) (by omega)
        have hc2 : ¬ τ 76 1 ≤ nI y := by rw [hB'.2.2.2.1]; exact nI_ge (by omega) (by omega)
        obtain ⟨ja, hS⟩ := LyR_in hR
        obtain ⟨Y, Y', g1, g2, g3⟩ := row2 hB hyh hS
        rcases g3 with ⟨σ', τ', n', r', l', z', f', rfl, rfl, hS'⟩ | ⟨p, σ', τ', hp, rfl, rfl, hW⟩
        · left
          refine ⟨(nI (y + 1), σ'), (nI (y + 1), sR τ' 92 (rowF (τ' 93) (τ' 92) 25)), h - (y + 1), by omega, ?_, ?_, y + 1, _, _, n', r', l', z', f', by omega, rfl, rfl, rfl, LyS_out b5 hS'⟩
          · unfold L_Layer_layRows_10
            dsimp only
            rw [if_neg hc1, ob_of g1, Sum.elim_inl, nI_1]
          · unfold L_Ref_lay_27
            dsimp only
            rw [if_neg hc2, ob_of lay37, ob_of g2, Sum.elim_inl, ob_of (lay139 (fun k hk => by obtain ⟨b, -, hb⟩ := hS'.2.2.2.2.1 k hk; exact ⟨b, hb⟩)), nI_1]
        · right
          refine ⟨_, _, ?_, ?_, Or.inr ⟨p, σ', τ', hp, rfl, rfl, hW⟩⟩
          · unfold L_Layer_layRows_10
            dsimp only
            rw [if_neg hc1, ob_of g1, Sum.elim_inr]
          · unfold L_Ref_lay_27
            dsimp only
            rw [if_neg hc2, ob_of lay37, ob_of g2, Sum.elim_inr])
    (k := h) (x := (0, σ)) (x' := (0, τ)) ⟨0, σ, τ, n, r, l, z, f, Nat.zero_le _, rfl, rfl, rfl, hS⟩ (by omega)
theorem goes_o (σ : SG) {p : Nat} (h : p ≠ 76) : F_Ref_goes σ p = σ p := by
  show (up (up (up (up (up σ 76 7 0) 76 8 0) 76 9 0) 76 10 0) 76 17 0) p = σ p
  rw [up_ne _ _ _ h, up_ne _ _ _ h, up_ne _ _ _ h, up_ne _ _ _ h, up_ne _ _ _ h]
theorem goes76 (σ : SG) (k : Nat) : F_Ref_goes σ 76 k = if k = 7 ∨ k = 8 ∨ k = 9 ∨ k = 10 ∨ k = 17 then 0 else σ 76 k := by
  by_cases h : k = 7 ∨ k = 8 ∨ k = 9 ∨ k = 10 ∨ k = 17
  · rw [if_pos h]
    rcases h with rfl | rfl | rfl | rfl | rfl <;> rfl
  · rw [if_neg h]
    show upd (upd (upd (upd (upd (σ 76) 7 0) 8 0) 9 0) 10 0) 17 0 k = _
    rw [upd_ne _ _ (by omega), upd_ne _ _ (by omega), upd_ne _ _ (by omega), upd_ne _ _ (by omega), upd_ne _ _ (by omega)]
theorem lay2 {σ τ : SG} {w h : Nat} (hD : RD σ w h) (hF : RF σ) (hE : σ 82 = σ 20 ∧ σ 83 = σ 22 ∧ σ 84 = σ 24 ∧ σ 85 = σ 26 ∧ σ 86 = σ 28 ∧ σ 87 = σ 30) (hτ : ∀ p, 76 ≤ p → τ p = σ p) :
    ∃ Y Y', lpW L_Layer_layRows_10 FU (0, rf (F_Shop_takeDown σ) 39 25 0) = some Y ∧ lpW L_Ref_lay_27 FU (0, sR (F_Ref_goes τ) 92 (rowF (fun _ => 0) ((F_Ref_goes τ) 92) 25)) = some Y' ∧ rowsP (rf (F_Shop_takeDown σ) 39 25 0) (sR (F_Ref_goes τ) 92 (rowF (fun _ => 0) ((F_Ref_goes τ) 92) 25)) w h Y Y' := by
  obtain ⟨d1, d2, d3, d4, d5, d6, d7, d8, d9, d10⟩ := hD
  obtain ⟨e1, e2, e3, e4, e5, e6⟩ := hE
  have t76 : τ 76 = σ 76 := hτ 76 (by decide)
  refine rows2 (F := fun k => ix (σ 3 k)) (n := 0) (r := fun _ => 0) (l := fun _ => 0) (z := fun _ => 0) (f := fun _ => 0) ⟨d1, d2, ?_, ?_, d5, d6, d7, d8, fun k hk => ?_, fun f hf => ?_⟩ ⟨⟨fun _ _ => rfl, fun _ _ => rfl, fun _ _ => rfl, ?_⟩, rfl, rfl, ⟨fun i hi => by omega, fun hi => by omega, fun i hi => by omega, Or.inl ⟨rfl, rfl, rfl⟩, by omega⟩, fun k hk => ⟨false, ?_, ?_⟩⟩
  · rw [← d3, ← t76]; rfl
  · rw [← d4, ← t76]; rfl
  · obtain ⟨f, hf, hk2⟩ := d10 k hk
    have hix : ix (σ 3 k) = f := by rw [hk2, ix_nI (by omega)]
    refine ⟨by show ix (σ 3 k) < 8; rw [hix]; exact hf, by show σ 3 k = nI (ix (σ 3 k)); rw [hix]; exact hk2, ?_⟩
    show τ 77 k = nI (ix (σ 3 k))
    rw [hix, hτ 77 (by decide), d9, hk2]
  · obtain ⟨-, ⟨g, g1, g2, g3, g4⟩, -⟩ := hF.2.2 f hf
    refine ⟨g, g1, g2, g3, ?_⟩
    show τ 79 f = _
    rw [hτ 79 (by decide)]
    exact g4
  · show τ 82 = σ 20 ∧ τ 83 = σ 22 ∧ τ 84 = σ 24 ∧ τ 85 = σ 26 ∧ τ 86 = σ 28 ∧ τ 87 = σ 30
    rw [hτ 82 (by decide), hτ 83 (by decide), hτ 84 (by decide), hτ 85 (by decide), hτ 86 (by decide), hτ 87 (by decide)]
    exact ⟨e1, e2, e3, e4, e5, e6⟩
  · rw [rf_sR, sR_at]
    exact if_pos hk
  · rw [sR_at, rowF_lt hk]; rfl
theorem op_lay {σ : SG} (hR : R σ) : ∃ r σ1 σ2, F_Shop_lay σ = some (r, σ1) ∧ F_Ref_lay σ1 = some (r, σ2) ∧ R σ2 := by
  obtain ⟨w, h, m, q, n, S, pt, hD, hF, hL, hH, hC⟩ := id hR
  have hE := hC.2.2.2.1
  obtain ⟨Y, Y0, g1, g0, g3⟩ := lay2 (τ := σ) hD hF hE (fun _ _ => rfl)
  have hbase : ∀ p, p ≠ 18 → p ≠ 52 → p ≠ 57 → p ≠ 39 → (rf (F_Shop_takeDown σ) 39 25 0) p = σ p := fun p h1 h2 h3 h4 => by
    rw [rf_sR, sR_ne _ _ h4]
    unfold F_Shop_takeDown F_Cubes_clear
    rw [up_ne _ _ _ h3, up_ne _ _ _ h2, up_ne _ _ _ h1]
  have hb52 : (rf (F_Shop_takeDown σ) 39 25 0) 52 0 = 0 := rfl
  have hb57 : (rf (F_Shop_takeDown σ) 39 25 0) 57 0 = 0 := rfl
  -- the reference from a state whose own cells are as before
  have rbase : ∀ σ1 : SG, ∀ p, p ≠ 76 → p ≠ 92 → (sR (F_Ref_goes σ1) 92 (rowF (fun _ => 0) ((F_Ref_goes σ1) 92) 25)) p = σ1 p := fun σ1 p h1 h2 => by
    rw [sR_ne _ _ h2, goes_o _ h1]
  have r76 : ∀ σ1 : SG, ∀ k, (sR (F_Ref_goes σ1) 92 (rowF (fun _ => 0) ((F_Ref_goes σ1) 92) 25)) 76 k = if k = 7 ∨ k = 8 ∨ k = 9 ∨ k = 10 ∨ k = 17 then 0 else σ1 76 k := fun σ1 k => by
    rw [sR_ne _ _ (by decide)]
    exact goes76 σ1 k
  have href : ∀ σ1 : SG, F_Ref_lay σ1 = ob (lpW L_Ref_lay_27 FU (0, sR (F_Ref_goes σ1) 92 (rowF (fun _ => 0) ((F_Ref_goes σ1) 92) 25))) (fun y4 => Sum.elim (fun y4 : SG => some (((up y4 76 7 1) 76 10), (up y4 76 7 1))) (fun q4 : Int32 × SG => some q4) y4) := fun σ1 => by
    unfold F_Ref_lay
    rw [ob_of lay6]
  -- what the two sides leave alone
  have hfin : ∀ (σ' τ' σ1 σ2 : SG), LyW (rf (F_Shop_takeDown σ) 39 25 0) (sR (F_Ref_goes σ1) 92 (rowF (fun _ => 0) ((F_Ref_goes σ1) 92) 25)) σ' τ' → (∀ p, p ≠ 18 → σ1 p = σ' p) → (∀ p, p ≠ 76 → σ2 p = τ' p) → (∀ p, p ≠ 76 → p ≠ 82 → p ≠ 83 → p ≠ 84 → p ≠ 85 → p ≠ 86 → p ≠ 87 → p ≠ 92 → p ≠ 93 → p ≠ 94 → p ≠ 95 → σ2 p = σ1 p) ∧ (∀ p, p = 1 ∨ p = 3 ∨ p = 77 ∨ p = 7 ∨ p = 9 ∨ p = 11 ∨ p = 13 ∨ p = 15 ∨ p = 17 ∨ p = 78 ∨ p = 79 ∨ p = 80 ∨ p = 81 ∨ p = 42 ∨ p = 44 ∨ p = 47 ∨ p = 49 ∨ p = 51 ∨ p = 88 ∨ p = 89 ∨ p = 60 ∨ p = 62 ∨ p = 64 ∨ p = 90 ∨ p = 91 → σ2 p = σ p) ∧ (σ2 82 = σ2 20 ∧ σ2 83 = σ2 22 ∧ σ2 84 = σ2 24 ∧ σ2 85 = σ2 26 ∧ σ2 86 = σ2 28 ∧ σ2 87 = σ2 30) ∧ σ2 52 0 = 0 ∧ σ2 57 0 = 0 := by
    intro σ' τ' σ1 σ2 hW h1 h2
    obtain ⟨a1, a2, a3, ⟨d1, d2, d3, d4, d5, d6⟩⟩ := hW
    have k1 : ∀ p, p ≠ 76 → p ≠ 82 → p ≠ 83 → p ≠ 84 → p ≠ 85 → p ≠ 86 → p ≠ 87 → p ≠ 92 → p ≠ 93 → p ≠ 94 → p ≠ 95 → σ2 p = σ1 p := fun p b1 b2 b3 b4 b5 b6 b7 b8 b9 b10 b11 => by
      rw [h2 p b1, a2 p ⟨⟨b1, b2, b3, b4, b5, b6, b7⟩, b8, b9, b10, b11⟩, rbase σ1 p b1 b8]
    have k2 : ∀ p, nJ p → p ≠ 52 → p ≠ 57 → p ≠ 76 → p ≠ 82 → p ≠ 83 → p ≠ 84 → p ≠ 85 → p ≠ 86 → p ≠ 87 → p ≠ 92 → p ≠ 93 → p ≠ 94 → p ≠ 95 → σ2 p = σ p := fun p c0 c1 c2 b1 b2 b3 b4 b5 b6 b7 b8 b9 b10 b11 => by
      rw [k1 p b1 b2 b3 b4 b5 b6 b7 b8 b9 b10 b11, h1 p c0.1.1, a1 p c0, hbase p c0.1.1 c1 c2 c0.2.2.1]
    have k3 : ∀ p, p ≠ 76 → p ≠ 18 → p ≠ 82 → p ≠ 83 → p ≠ 84 → p ≠ 85 → p ≠ 86 → p ≠ 87 → p ≠ 92 → p ≠ 93 → p ≠ 94 → p ≠ 95 → σ2 p = σ' p := fun p b1 b0 b2 b3 b4 b5 b6 b7 b8 b9 b10 b11 => by
      rw [k1 p b1 b2 b3 b4 b5 b6 b7 b8 b9 b10 b11, h1 p b0]
    refine ⟨k1, fun p hp => ?_, ?_, ?_, ?_⟩
    · rcases hp with rfl | rfl | rfl | rfl | rfl | rfl | rfl | rfl | rfl | rfl | rfl | rfl | rfl | rfl | rfl | rfl | rfl | rfl | rfl | rfl | rfl | rfl | rfl | rfl | rfl <;> exact k2 _ (by decide) (by decide) (by decide) (by decide) (by decide) (by decide) (by decide) (by decide) (by decide) (by decide) (by decide) (by decide) (by decide) (by decide)
    · rw [h2 82 (by decide), h2 83 (by decide), h2 84 (by decide), h2 85 (by decide), h2 86 (by decide), h2 87 (by decide), d1, d2, d3, d4, d5, d6]
      refine ⟨?_, ?_, ?_, ?_, ?_, ?_⟩ <;> exact (k3 _ (by decide) (by decide) (by decide) (by decide) (by decide) (by decide) (by decide) (by decide) (by decide) (by decide) (by decide) (by decide)).symm
    · rw [k3 52 (by decide) (by decide) (by decide) (by decide) (by decide) (by decide) (by decide) (by decide) (by decide) (by decide) (by decide) (by decide), a1 52 (by decide)]
      exact hb52
    · rw [k3 57 (by decide) (by decide) (by decide) (by decide) (by decide) (by decide) (by decide) (by decide) (by decide) (by decide) (by decide) (by decide), a1 57 (by decide)]
      exact hb57
  have h76up : ∀ p, 76 ≤ p → nJ p := fun p hp => ⟨⟨by omega, by omega, by omega, by omega, by omega, by omega, by omega, by omega, by omega⟩, by omega, by omega, by omega⟩
  rcases g3 with ⟨σ', τ', n', r, l, z, f, rfl, -, hRy⟩ | ⟨p, σ', τ', hp, rfl, -, hW⟩
  · have hσ1 : ∀ p, 76 ≤ p → σ' p = σ p := fun p hp => by
      rw [hRy.1.1 p (h76up p hp), hbase p (by omega) (by omega) (by omega) (by omega)]
    obtain ⟨Y2, Y2', k1, k2, k3⟩ := lay2 (τ := σ') hD hF hE hσ1
    rw [g1] at k1
    cases k1
    rcases k3 with ⟨σ2, τ2, n2, r, l, z, f, e1, rfl, hRy2⟩ | ⟨p, σ2, τ2, hp, e1, -, hW⟩
    rotate_left
    · cases e1
    cases e1
    obtain ⟨hW, s18, s76, hP, -⟩ := hRy2
    have h1w := hD.2.2.2.2.1
    have h1h := hD.2.2.2.2.2.2.1
    obtain ⟨pa, pb, pc, pd, pe⟩ := hP
    have hn2 : 0 < n2 := by omega
    have hn240 : n2 ≤ 240 := by
      have := Nat.mul_le_mul hD.2.2.2.2.2.1 hD.2.2.2.2.2.2.2.1
      omega
    obtain ⟨f1, f2, f3, f4, f5⟩ := hfin σ' τ2 σ' (up τ2 76 7 1) hW (fun _ _ => rfl) (fun p hp => up_ne _ _ _ hp)
    have z76 : ∀ k, k ≠ 7 → k ≠ 10 → (up τ2 76 7 1) 76 k = if k = 7 ∨ k = 8 ∨ k = 9 ∨ k = 10 ∨ k = 17 then 0 else σ 76 k := fun k h1 h2 => by
      rw [up_sR, sR_at, upd_ne _ _ h1, hW.2.2.1 k h2, r76, hσ1 76 (by decide)]
    have z10 : (up τ2 76 7 1) 76 10 = nI n2 := by rw [up_sR, sR_at, upd_ne _ _ (by decide)]; exact s76
    have z7 : (up τ2 76 7 1) 76 7 = 1 := by rw [up_sR, sR_at, upd_at]
    refine ⟨nI n2, σ', up τ2 76 7 1, ?_, ?_, w, h, m, q, n2, 0, false, ?_, ?_, ?_, ?_, ?_⟩
    · unfold F_Shop_lay F_Layer_layRows
      rw [ob_of g1, Sum.elim_inl]
      dsimp only [ob]
      rw [if_pos rfl, s18]
    · rw [href, ob_of k2, Sum.elim_inl, z10]
    · exact RD_c (fun p hp => by rcases hp with rfl | rfl | rfl <;> exact f2 _ (by decide)) (z76 0 (by decide) (by decide)) (z76 1 (by decide) (by decide)) hD
    · exact RF_c (fun p hp => by rcases hp with rfl | rfl | rfl | rfl | rfl | rfl | rfl | rfl | rfl | rfl <;> exact f2 _ (by decide)) hF
    · exact RLo_c (fun p hp => by rcases hp with rfl | rfl | rfl | rfl | rfl | rfl | rfl <;> exact f2 _ (by decide)) (z76 18 (by decide) (by decide)) hL
    · exact RH_c (fun p hp => by rcases hp with rfl | rfl | rfl | rfl | rfl <;> exact f2 _ (by decide)) (z76 21 (by decide) (by decide)) hH
    · have v : ∀ p, p = 18 ∨ p = 20 ∨ p = 22 ∨ p = 24 ∨ p = 26 ∨ p = 28 ∨ p = 30 ∨ p = 32 ∨ p = 34 ∨ p = 3 → (up τ2 76 7 1) p = σ' p := fun p hp => by
        rcases hp with rfl | rfl | rfl | rfl | rfl | rfl | rfl | rfl | rfl | rfl <;> exact f1 _ (by decide) (by decide) (by decide) (by decide) (by decide) (by decide) (by decide) (by decide) (by decide) (by decide) (by decide)
      refine ⟨⟨?_, z10, hn240, ?_⟩, ⟨f4, z76 8 (by decide) (by decide), fun h => by cases h⟩, ⟨f5, z76 17 (by decide) (by decide), by omega, z76 9 (by decide) (by decide), fun h => by omega⟩, f3, fun _ => ⟨r, l, z, f, ⟨fun i hi => ?_, (pb hn2).1, (pb hn2).2, pc, ?_, ?_⟩, fun h => by omega⟩, fun i hi => Or.inl ?_, fun _ i hi => ?_⟩
      · rw [v 18 (by decide)]; exact s18
      · rw [z7, decide_eq_true hn2]; rfl
      · rw [v 20 (by decide), v 22 (by decide), v 24 (by decide), v 26 (by decide), v 3 (by decide), v 34 (by decide)]
        exact (pa i hi).1
      · have := (pa (n2 - 1) (by omega)).1.2.2.2.2.1
        omega
      · have := (pa (n2 - 1) (by omega)).1.2.2.2.2.1
        omega
      · rw [v 28 (by decide)]; exact (pa i hi).2.2.1
      · rw [v 30 (by decide), v 32 (by decide)]; exact (pa i hi).2.2.2
  · have hσ1 : ∀ p, 76 ≤ p → (F_Cubes_clear σ') p = σ p := fun p hp => by
      unfold F_Cubes_clear
      rw [up_ne _ _ _ (by omega), hW.1 p (h76up p hp), hbase p (by omega) (by omega) (by omega) (by omega)]
    obtain ⟨Y2, Y2', k1, k2, k3⟩ := lay2 (τ := F_Cubes_clear σ') hD hF hE hσ1
    rw [g1] at k1
    cases k1
    rcases k3 with ⟨σ2, τ2, n2, r, l, z, f, e1, -, -⟩ | ⟨p2, σ2, τ2, hp2, e1, rfl, hW2⟩
    · cases e1
    injection e1 with e1
    injection e1 with e1 e2
    subst e2
    rw [← e1] at k2
    obtain ⟨f1, f2, f3, f4, f5⟩ := hfin σ' τ2 (F_Cubes_clear σ') (F_Ref_goes τ2) hW2 (fun p hp => up_ne _ _ _ hp) (fun p hp => goes_o _ hp)
    have z76 : ∀ k, (F_Ref_goes τ2) 76 k = if k = 7 ∨ k = 8 ∨ k = 9 ∨ k = 10 ∨ k = 17 then 0 else σ 76 k := fun k => by
      rw [goes76]
      by_cases hk : k = 7 ∨ k = 8 ∨ k = 9 ∨ k = 10 ∨ k = 17
      · rw [if_pos hk, if_pos hk]
      · rw [if_neg hk, if_neg hk, hW2.2.2.1 k (by omega), r76, if_neg hk, hσ1 76 (by decide)]
    refine ⟨(-1000) - nI p, F_Cubes_clear σ', F_Ref_goes τ2, ?_, ?_, w, h, m, q, 0, 0, false, ?_, ?_, ?_, ?_, ?_⟩
    · unfold F_Shop_lay F_Layer_layRows
      rw [ob_of g1, Sum.elim_inr]
      dsimp only [ob]
      rw [if_neg (nm1_ne (by omega))]
    · rw [href, ob_of k2, Sum.elim_inr]
    · exact RD_c (fun p hp => by rcases hp with rfl | rfl | rfl <;> exact f2 _ (by decide)) (z76 0) (z76 1) hD
    · exact RF_c (fun p hp => by rcases hp with rfl | rfl | rfl | rfl | rfl | rfl | rfl | rfl | rfl | rfl <;> exact f2 _ (by decide)) hF
    · exact RLo_c (fun p hp => by rcases hp with rfl | rfl | rfl | rfl | rfl | rfl | rfl <;> exact f2 _ (by decide)) (z76 18) hL
    · exact RH_c (fun p hp => by rcases hp with rfl | rfl | rfl | rfl | rfl <;> exact f2 _ (by decide)) (z76 21) hH
    · refine RC_0 ?_ f4 f5 (fun k hk => by rw [z76, if_pos hk]) f3
      rw [f1 18 (by decide) (by decide) (by decide) (by decide) (by decide) (by decide) (by decide) (by decide) (by decide) (by decide) (by decide)]
      rfl
