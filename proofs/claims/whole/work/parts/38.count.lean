/-! count, digest -/
theorem lin_dm {w y x : Nat} (hx : x < w) : (w * y + x) / w = y ∧ (w * y + x) % w = x := by
  have hw : 0 < w := by omega
  constructor
  · rw [Nat.mul_add_div hw, Nat.div_eq_of_lt hx, Nat.add_zero]
  · rw [Nat.mul_add_mod, Nat.mod_eq_of_lt hx]
def fG (σ : SG) (w : Nat) (F : Int32) (t : Nat) : Bool := decide (σ 3 (24 * (t / w) + t % w) = F)
theorem fG_at {σ : SG} {w y x : Nat} {F : Int32} (hx : x < w) : fG σ w F (w * y + x) = decide (σ 3 (24 * y + x) = F) := by
  unfold fG
  rw [(lin_dm hx).1, (lin_dm hx).2]
theorem placesOf_lin {σ : SG} {w h : Nat} (hD : RD σ w h) (F : Int32) : F_Drawing_placesOf σ F = some (nI (sm (fG σ w F) (fun _ => 1) (w * h))) := by
  have hD2 := hD
  obtain ⟨e1, e2, -, -, g1, g2, g3, g4, -⟩ := hD2
  have hin : ∀ y, y < h → lpW (L_Drawing_placesOf_15 σ F (nI y)) FU (nI (sm (fG σ w F) (fun _ => 1) (w * y)), 0) = some (nI (sm (fG σ w F) (fun _ => 1) (w * (y + 1)))) := by
    intro y hy
    refine lpW_at (s := fun x => (nI (sm (fG σ w F) (fun _ => 1) (w * y + x)), nI x)) w rfl ?_ ?_ (by omega)
    · intro x hx
      unfold L_Drawing_placesOf_15
      dsimp only
      rw [e1, if_neg (nI_ge hx (by omega)), fAt (pl_lt hD hx hy), nI_1, nI_1, ← Nat.add_assoc, sm, fG_at hx]
      by_cases q1 : σ 3 (24 * y + x) = F <;> simp [q1]
    · unfold L_Drawing_placesOf_15
      dsimp only
      rw [e1, if_pos (nI_le (Nat.le_refl w) (by omega)), Nat.mul_add, Nat.mul_one]
  have hl : lpW (L_Drawing_placesOf_4 σ F) FU (0, 0) = some (nI (sm (fG σ w F) (fun _ => 1) (w * h))) := by
    refine lpW_at (s := fun y => (nI (sm (fG σ w F) (fun _ => 1) (w * y)), nI y)) h rfl ?_ ?_ (by omega)
    · intro y hy
      unfold L_Drawing_placesOf_4
      dsimp only
      rw [e2, if_neg (nI_ge hy (by omega)), ob_of (hin y hy), nI_1]
    · unfold L_Drawing_placesOf_4
      dsimp only
      rw [e2, if_pos (nI_le (Nat.le_refl h) (by omega))]
  unfold F_Drawing_placesOf
  rw [ob_of hl]
theorem lin_cubes {σ : SG} {w h n : Nat} {r l z f : Nat → Nat} (hn : 0 < n) (hv : Cov σ w h n r l z f) {F : Nat} (hF : F < 2 ^ 31) : sm (fG σ w (nI F)) (fun _ => 1) (w * h) = sm (fun i => decide (f i = F)) z n := by
  have hin : ∀ i, i < n → ∀ j, j ≤ z i → sm (fG σ w (nI F)) (fun _ => 1) (ps w r l i + j) = sm (fG σ w (nI F)) (fun _ => 1) (ps w r l i) + (if f i = F then j else 0) := by
    intro i hi j
    obtain ⟨-, -, -, -, -, -, -, h8, h9, hpl⟩ := hv.1 i hi
    induction j with
    | zero => intro _; simp
    | succ j ih =>
      intro hj
      rw [← Nat.add_assoc, sm, ih (by omega)]
      have e : ps w r l i + j = w * r i + (l i + j) := by unfold ps; omega
      rw [e, fG_at (by omega), (hpl (l i + j) (by omega) (by omega)).1]
      by_cases q : f i = F
      · simp [q]; omega
      · rw [if_neg q, if_neg q, if_neg]
        simp only [decide_eq_true_eq]
        intro e2
        exact q ((nI_eq (by omega) hF).mp e2)
  have key : ∀ i, i < n → sm (fG σ w (nI F)) (fun _ => 1) (ps w r l i) = sm (fun i => decide (f i = F)) z i := by
    intro i
    induction i with
    | zero => intro _; rw [Cov_0 hv]; rfl
    | succ i ih =>
      intro hi
      rw [Cov_step hv hi, hin i (by omega) (z i) (Nat.le_refl _), ih (by omega), sm]
      by_cases q : f i = F <;> simp [q]
  rw [← Cov_end hv, hin (n - 1) (by omega) _ (Nat.le_refl _), key (n - 1) (by omega)]
  obtain ⟨k, rfl⟩ : ∃ k, n = k + 1 := ⟨n - 1, by omega⟩
  rw [Nat.add_sub_cancel, sm]
  by_cases q : f k = F <;> simp [q]
theorem placesOf_eq {σ : SG} {w h n : Nat} {r l z f : Nat → Nat} (hD : RD σ w h) (hn : 0 < n) (hv : Cov σ w h n r l z f) {F : Nat} (hF : F < 2 ^ 31) : F_Drawing_placesOf σ (nI F) = some (nI (sm (fun i => decide (f i = F)) z n)) := by
  rw [placesOf_lin hD, lin_cubes hn hv hF]
theorem sm_split {f : Nat → Nat} {G : Nat → Bool} {z : Nat → Nat} {k : Nat} : ∀ n, sm (fun i => decide (f i < k + 1) && G (f i)) z n = sm (fun i => decide (f i < k) && G (f i)) z n + (if G k = true then sm (fun i => decide (f i = k)) z n else 0)
  | 0 => by simp [sm]
  | n + 1 => by
    rw [sm, sm, sm, sm_split n]
    by_cases hG : G k = true
    · rw [if_pos hG, if_pos hG]
      by_cases q1 : f n = k
      · simp [q1, hG]; omega
      · by_cases q2 : f n < k
        · have : f n < k + 1 := by omega
          simp [q1, q2, this]
          by_cases q3 : G (f n) = true <;> simp [q3] <;> omega
        · have : ¬ f n < k + 1 := by omega
          simp [q1, q2, this]
    · rw [if_neg hG, if_neg hG]
      by_cases q1 : f n = k
      · simp [q1, hG]
      · by_cases q2 : f n < k
        · have : f n < k + 1 := by omega
          simp [q2, this]
        · have : ¬ f n < k + 1 := by omega
          simp [q2, this]
theorem placesOfAll_eq {σ : SG} {w h n : Nat} {r l z f : Nat → Nat} (hD : RD σ w h) (hF : RF σ) (hn : 0 < n) (hv : Cov σ w h n r l z f) : F_Drawing_placesOfAll σ = some (nI (sm (fun i => decide (σ 15 (f i) = 1)) z n)) := by
  have hl : lpW (L_Drawing_placesOfAll_4 σ) FU (0, 0) = some (nI (sm (fun i => decide (f i < 8) && decide (σ 15 (f i) = 1)) z n)) := by
    refine lpW_at (s := fun k => (nI (sm (fun i => decide (f i < k) && decide (σ 15 (f i) = 1)) z n), nI k)) 8 ?_ ?_ ?_ (by omega)
    · have h0 : ∀ n, sm (fun i => decide (f i < 0) && decide (σ 15 (f i) = 1)) z n = 0 := by
        intro n
        induction n with
        | zero => rfl
        | succ n ih => rw [sm, ih]; simp
      rw [h0]; rfl
    · intro k hk
      unfold L_Drawing_placesOfAll_4
      dsimp only
      rw [if_neg (show ¬ (8 : Int32) ≤ nI k from nI_ge hk (by decide)), rg_nI hk (by decide), ob_of (placesOf_eq hD hn hv (by omega)), nI_1, nI_add, sm_split (G := fun g => decide (σ 15 g = 1))]
      by_cases q : σ 15 k = 1 <;> simp [q]
    · unfold L_Drawing_placesOfAll_4
      dsimp only
      rw [if_pos (show (8 : Int32) ≤ nI 8 from nI_le (Nat.le_refl 8) (by decide))]
  unfold F_Drawing_placesOfAll
  rw [ob_of hl]
  refine congrArg (fun t => some (nI t)) (sm_cong fun i hi => ?_)
  obtain ⟨-, -, -, -, -, -, -, -, h9, -⟩ := hv.1 i hi
  simp [h9]
theorem leafR {σ : SG} {n : Nat} (hn : σ 76 10 = nI n) (h240 : n ≤ 240) (hf : ∀ i, i < n → ∃ f, f < 8 ∧ σ 85 i = nI f) : lpW (L_Ref_count_128 σ) FU (0, 0) = some (sI (fun i => decide (¬ σ 80 (ix (σ 85 i)) = 0)) (σ 84) n) := by
  refine lpW_at (s := fun i => (sI (fun i => decide (¬ σ 80 (ix (σ 85 i)) = 0)) (σ 84) i, nI i)) n rfl ?_ ?_ (by omega)
  · intro i hi
    obtain ⟨f, hf1, hf2⟩ := hf i hi
    unfold L_Ref_count_128
    dsimp only
    rw [hn, if_neg (nI_ge hi (by omega)), vin_nI (show i < 240 by omega) (by decide), og_t, og_t, ix_nI (by omega), hf2, vin_nI hf1 (by decide), og_t, nI_1, sI, hf2]
    by_cases h1 : σ 80 (ix (nI f)) = 0 <;> simp [h1]
  · unfold L_Ref_count_128
    dsimp only
    rw [hn, if_pos (nI_le (Nat.le_refl n) (by omega))]
theorem leftC {σ : SG} {m : Nat} (hL : RLo σ m) : F_Lots_leftInAll σ = some (sI (fun _ => true) (σ 44) m) := by
  obtain ⟨e1, -, e3, -⟩ := hL
  have hl : lpW (L_Lots_leftInAll_4 σ) FU (0, 0) = some (sI (fun _ => true) (σ 44) m) := by
    refine lpW_at (s := fun i => (sI (fun _ => true) (σ 44) i, nI i)) m rfl ?_ ?_ (by omega)
    · intro i hi
      unfold L_Lots_leftInAll_4
      dsimp only
      rw [e1, if_neg (nI_ge hi (by omega)), rg_nI (show i < 10 by omega) (by decide), nI_1]
      rfl
    · unfold L_Lots_leftInAll_4
      dsimp only
      rw [e1, if_pos (nI_le (Nat.le_refl m) (by omega))]
  unfold F_Lots_leftInAll
  rw [ob_of hl]
theorem leftR {σ : SG} {m : Nat} (hL : RLo σ m) : lpW (L_Ref_count_101 σ) FU (0, 0) = some (sI (fun _ => true) (σ 44) m) := by
  obtain ⟨-, e2, e3, e4, -⟩ := hL
  refine lpW_at (s := fun i => (sI (fun _ => true) (σ 44) i, nI i)) m rfl ?_ ?_ (by omega)
  · intro i hi
    unfold L_Ref_count_101
    dsimp only
    rw [e2, if_neg (nI_ge hi (by omega)), vin_nI (show i < 10 by omega) (by decide), og_t, ix_nI (by omega), nI_1, e4]
    rfl
  · unfold L_Ref_count_101
    dsimp only
    rw [e2, if_pos (nI_le (Nat.le_refl m) (by omega))]
theorem tsS_in {A : Type} {x : Int32} {r : List A} {d d' : A} (h1 : ¬ x < 0) (h2 : ¬ nI r.length ≤ x) (hl : r.length < 1000) : tsS x 0 r d = tsS x 0 r d' := by
  obtain ⟨k, hk, rfl⟩ := nI_of h1
  have hkr : k < r.length := by
    rcases Nat.lt_or_ge k r.length with q | q
    · exact q
    · exact absurd (nI_le q hk) h2
  have hg : r[k]? = some r[k] := List.getElem?_eq_getElem hkr
  rw [tsS_at (j := k) (a := r[k]) (by rw [Nat.zero_add]) hg (Nat.ble_eq.mpr (by omega)), tsS_at (j := k) (a := r[k]) (by rw [Nat.zero_add]) hg (Nat.ble_eq.mpr (by omega))]
theorem tsS_app {A : Type} {x : Int32} {d d2 : A} : ∀ (k : Nat) (r : List A), tsS x k (r ++ [d]) d2 = tsS x k r (if x = nI (k + r.length) then d else d2)
  | k, [] => rfl
  | k, a :: r => by
    rw [List.cons_append, tsS, tsS, tsS_app (k + 1) r, List.length_cons, Nat.add_assoc, Nat.add_comm 1]
theorem op_count {σ : SG} (hR : R σ) (a : Int32) : ∃ r, F_Shop_count σ a = some r ∧ F_Ref_count σ a = some r := by
  obtain ⟨w, h, m, q, n, S, pt, hD, hF, hL, hH, hC⟩ := hR
  obtain ⟨z, f, hz, hf, hf26, hf85, e1, e2, e3⟩ := sheet_facts hD hF hC
  have hlC := leftC hL
  have hlR := leftR hL
  obtain ⟨⟨c1, c2, hn240, c4⟩, ⟨p1, p2, -⟩, ⟨s1, s2, -⟩, ⟨k1, k2, k3, k4, k5, k6⟩, hcov, -⟩ := hC
  have hlv := leafR c2 hn240 hf85
  -- the leaf in all, on both sides
  have hleaf : ∃ v, (if F_Shop_isLaid σ = true then ob (F_Drawing_placesOfAll σ) (fun v7 => some v7) else some (-3)) = some v ∧ ob (lpW (L_Ref_count_128 σ) FU (0, 0)) (fun y7 => if σ 76 7 = 0 then some (-3) else some y7) = some v := by
    rw [isLaid_iff c1 hn240, ob_of hlv, c4]
    by_cases h0 : 0 < n
    · obtain ⟨r, l, z', f', hv, -⟩ := hcov h0
      rw [if_pos (by simp [h0]), if_neg (by simp [h0, bI]), ob_of (placesOfAll_eq hD hF h0 hv), k3, k4, hF.1, ← sI_sm (g := σ 24) (fun i hi => (hv.1 i hi).2.2.1)]
      refine ⟨_, rfl, congrArg some (sI_cong (fun i hi => ?_) (fun _ _ _ => rfl))⟩
      obtain ⟨-, -, -, g4, -, -, -, -, g9, -⟩ := hv.1 i hi
      obtain ⟨-, -, ⟨zz, hzz⟩, -⟩ := hF.2.2 (f' i) g9
      rw [g4, ix_nI (by omega), hzz, bI_ne0, bI_eq1]
    · rw [if_neg (by simp [h0]), if_pos (by simp [h0, bI])]
      exact ⟨_, rfl, rfl⟩
  obtain ⟨v, hv1, hv2⟩ := hleaf
  unfold F_Shop_count F_Ref_count
  rw [hv1, hv2, ob_of hlC, ob_of hlR, ob_of (bareC_eq c1 hn240), ob_of (bare_eq c2 hn240), hD.1, hD.2.1, hD.2.2.1, hD.2.2.2.1, c1, c2, p1, p2, hL.1, hL.2.1, s1, s2, hH.1, hH.2.1, k5]
  rw [show [some (nI w), some (nI h), some (nI n), (if bI pt = 0 then some (-3) else some (sI (fun i => decide (σ 28 i = -1)) (fun _ => 1) n)), some (nI m), some (nI S), some (nI q), some (sI (fun _ => true) (σ 44) m), some v] = [some (nI w), some (nI h), some (nI n), (if bI pt = 0 then some (-3) else some (sI (fun i => decide (σ 28 i = -1)) (fun _ => 1) n)), some (nI m), some (nI S), some (nI q), some (sI (fun _ => true) (σ 44) m)] ++ [some v] from rfl]
  obtain ⟨r8, hr8⟩ : ∃ r, r = [some (nI w), some (nI h), some (nI n), (if bI pt = 0 then some (-3) else some (sI (fun i => decide (σ 28 i = -1)) (fun _ => 1) n)), some (nI m), some (nI S), some (nI q), some (sI (fun _ => true) (σ 44) m)] := ⟨_, rfl⟩
  have h8 : r8.length = 8 := by rw [hr8]; rfl
  rw [← hr8]
  have happ := tsS_app (x := a) (d := some v) (d2 := some (-2)) 0 r8
  rw [happ, Nat.zero_add, h8]
  have hsome : ∀ (x : Int32) (r : List (Option Int32)) (d : Option Int32), (∀ o ∈ r, ∃ t, o = some t) → (∃ t, d = some t) → ∃ t, tsS x 0 r d = some t := by
    intro x r d
    generalize 0 = k
    induction r generalizing k with
    | nil => intro _ h; exact h
    | cons o r ih =>
      intro h1 h2
      rw [tsS]
      by_cases hx : x = nI k
      · rw [if_pos hx]; exact h1 o List.mem_cons_self
      · rw [if_neg hx]; exact ih (k + 1) (fun o ho => h1 o (List.mem_cons_of_mem _ ho)) h2
  by_cases ha : F_Shop_within a 0 8 = true
  · rw [if_pos ha]
    obtain ⟨k, -, hk8, rfl⟩ := wi_nI (a := 0) (b := 8) (by decide) (by decide) ha
    obtain ⟨t, ht⟩ := hsome (nI k) r8 (some v) (by
      intro o ho
      rw [hr8] at ho
      by_cases hb : bI pt = 0
      · rw [if_pos hb] at ho
        simp only [List.mem_cons, List.not_mem_nil, or_false] at ho
        rcases ho with rfl | rfl | rfl | rfl | rfl | rfl | rfl | rfl <;> exact ⟨_, rfl⟩
      · rw [if_neg hb] at ho
        simp only [List.mem_cons, List.not_mem_nil, or_false] at ho
        rcases ho with rfl | rfl | rfl | rfl | rfl | rfl | rfl | rfl <;> exact ⟨_, rfl⟩) ⟨v, rfl⟩
    refine ⟨t, ht, ?_⟩
    rw [← ht]
    by_cases hk : k = 8
    · subst hk
      rw [if_pos rfl]
    · exact tsS_in (nI_pos (by omega)) (by rw [h8]; exact nI_ge (by omega) (by decide)) (by omega)
  · rw [if_neg ha]
    refine ⟨-2, rfl, ?_⟩
    have hout : a < 0 ∨ nI 9 ≤ a := by
      by_cases q1 : a < 0
      · exact Or.inl q1
      · right
        obtain ⟨k, hk, rfl⟩ := nI_of q1
        rcases Nat.lt_or_ge k 9 with q2 | q2
        · exact absurd (wi_0 (b := 8) (by omega) (by decide)) ha
        · exact nI_le q2 hk
    rw [tsS_out (by
      rcases hout with q1 | q1
      · exact Or.inl q1
      · right
        rw [h8, le_T, nI_toInt (by decide)]
        rw [le_T, nI_toInt (by decide)] at q1
        omega) (by rw [h8]; rfl), if_neg]
    intro e
    rw [e] at hout
    revert hout
    decide
