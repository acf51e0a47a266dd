/-! rows of numbers: add, fill, copyFrom -/
theorem s_Row_add {q a n : Nat} (hq : rowAt q a n) (σ : SG) (i x : Int32) : SpN 3 M_Row_add [.ref q, .int i, .int x] σ none (ra σ a n i x) := by
  refine Sp.of mk_Row_add rfl (Nat.le_of_ble_eq_true rfl) ?_
  refine RM.blk [(2, 0, 0, .null), (1, 1, 0, .null), (2, 0, 0, .null), (1, 1, 0, .null)] (pc' := 4) (L' := [some (.ref q), some (.int i), some (.int x)]) (st' := [.int i, .ref q, .int i, .ref q]) (by decide +kernel) rfl ?_
  refine RN.callV [.int i] (s_Row_get hq σ i) [.int i, .ref q] (pc3 := 7) (st3 := [.int (rg σ a n i), .int i, .ref q]) (by decide +kernel) mk_Row_get (by decide) ?_ (hq := hq.1)
  refine RM.blk [(1, 2, 0, .null), (5, 0, 0, .null)] (pc' := 9) (L' := [some (.ref q), some (.int i), some (.int x)]) (st' := [.int (rg σ a n i + x), .int i, .ref q]) (by decide +kernel) rfl ?_
  refine RN.callV [.int i, .int (rg σ a n i + x)] (s_Row_set hq σ i (rg σ a n i + x)) [] (pc3 := 12) (st3 := []) (by decide +kernel) mk_Row_set (by decide) ?_ (hq := hq.1)
  exact RM.retv (by decide +kernel) rfl
def rfI (σ : SG) (a i : Nat) (x : Int32) : SG := fun p => if p = a then (fun j => if j < i then x else σ a j) else σ p
theorem rfI_0 (σ : SG) (a : Nat) (x : Int32) : rfI σ a 0 x = σ := by
  funext p j
  unfold rfI
  by_cases h : p = a
  · rw [if_pos h, h]; rfl
  · rw [if_neg h]
theorem rfI_s (σ : SG) (a i : Nat) (x : Int32) : up (rfI σ a i x) a i x = rfI σ a (i + 1) x := by
  funext p j
  unfold up rfI
  by_cases h : p = a
  · simp only [h, if_true, upd]
    by_cases hj : j = i
    · simp [hj]
    · simp only [hj, if_false]
      by_cases h2 : j < i
      · rw [if_pos h2, if_pos (by omega)]
      · rw [if_neg h2, if_neg (by omega)]
  · simp only [h, if_false]
theorem s_Row_fill {q a n : Nat} (hq : rowAt q a n) (σ : SG) (x : Int32) : SpN 2 M_Row_fill [.ref q, .int x] σ none (rf σ a n x) := by
  refine Sp.of mk_Row_fill rfl (Nat.le_of_ble_eq_true rfl) ?_
  have hn := hq.2.2
  have key : ∀ k i, i + k = n → RN 2 M_Row_fill none (rf σ a n x) 2 [some (.ref q), some (.int x), some (.int (nI i))] [] (rfI σ a i x) := by
    intro k
    induction k with
    | zero =>
      intro i hi
      refine RM.blk [(1, 2, 0, .null), (2, 0, 0, .null)] (pc' := 4) (L' := [some (.ref q), some (.int x), some (.int (nI i))]) (st' := [.ref q, .int (nI i)]) (by decide +kernel) rfl ?_
      refine RN.cells hq (pc3 := 7) (by decide +kernel) ?_
      refine RM.alen (by decide +kernel) hq.2.1 ?_
      refine RM.icmp_ge (tgt := 24) (by decide +kernel) (fun hc => ?_) (fun hc => absurd (nI_le (by omega) (by omega)) hc)
      have hi2 : i = n := by omega
      subst hi2
      exact RM.retv (by decide +kernel) rfl
    | succ k ih =>
      intro i hi
      refine RM.blk [(1, 2, 0, .null), (2, 0, 0, .null)] (pc' := 4) (L' := [some (.ref q), some (.int x), some (.int (nI i))]) (st' := [.ref q, .int (nI i)]) (by decide +kernel) rfl ?_
      refine RN.cells hq (pc3 := 7) (by decide +kernel) ?_
      refine RM.alen (by decide +kernel) hq.2.1 ?_
      refine RM.icmp_ge (tgt := 24) (by decide +kernel) (fun hc => absurd hc (nI_ge (by omega) (by omega))) (fun hc => ?_)
      refine RM.blk [(2, 0, 0, .null)] (pc' := 12) (L' := [some (.ref q), some (.int x), some (.int (nI i))]) (st' := [.ref q]) (by decide +kernel) rfl ?_
      refine RN.cells hq (pc3 := 15) (by decide +kernel) ?_
      refine RM.blk [(1, 2, 0, .null), (1, 1, 0, .null)] (pc' := 17) (L' := [some (.ref q), some (.int x), some (.int (nI i))]) (st' := [.int x, .int (nI i), .ref a]) (by decide +kernel) rfl ?_
      refine RM.iast (by decide +kernel) hq.2.1 (vp_in_nI (by omega) hn) ?_
      refine RM.blk [(10, 2, 0, .int 1), (23, 0, 0, .null)] (pc' := 2) (L' := [some (.ref q), some (.int x), some (.int (nI i + 1))]) (st' := []) (by decide +kernel) rfl ?_
      rw [ix_nI (by omega), rfI_s, nI_1]
      exact ih (i + 1) (by omega)
  refine RM.blk [(0, 0, 0, .int 0), (4, 2, 0, .null)] (pc' := 2) (L' := [some (.ref q), some (.int x), some (.int 0)]) (st' := []) (by decide +kernel) rfl ?_
  have h := key n 0 (by omega)
  rw [rfI_0] at h
  exact h
def rcI (σ : SG) (a i a2 n2 : Nat) : SG := fun p => if p = a then (fun j => if j < i then rg σ a2 n2 (nI j) else σ a j) else σ p
theorem rcI_0 (σ : SG) (a a2 n2 : Nat) : rcI σ a 0 a2 n2 = σ := by
  funext p j
  unfold rcI
  by_cases h : p = a
  · rw [if_pos h, h]; rfl
  · rw [if_neg h]
theorem rcI_s (σ : SG) (a i a2 n2 : Nat) : up (rcI σ a i a2 n2) a i (rg σ a2 n2 (nI i)) = rcI σ a (i + 1) a2 n2 := by
  funext p j
  unfold up rcI
  by_cases h : p = a
  · simp only [h, if_true, upd]
    by_cases hj : j = i
    · simp [hj]
    · simp only [hj, if_false]
      by_cases h2 : j < i
      · rw [if_pos h2, if_pos (by omega)]
      · rw [if_neg h2, if_neg (by omega)]
  · simp only [h, if_false]
theorem rcI_g (σ : SG) {a a2 : Nat} (h : a2 ≠ a) (i n2 : Nat) (x : Int32) : rg (rcI σ a i a2 n2) a2 n2 x = rg σ a2 n2 x := by
  unfold rg rcI
  rw [if_neg h]
theorem s_Row_copyFrom {q a n q2 a2 n2 : Nat} (hq : rowAt q a n) (hq2 : rowAt q2 a2 n2) (hne : a2 ≠ a) (σ : SG) : SpN 3 M_Row_copyFrom [.ref q, .ref q2] σ none (rc σ a n a2 n2) := by
  refine Sp.of mk_Row_copyFrom rfl (Nat.le_of_ble_eq_true rfl) ?_
  have hn := hq.2.2
  have key : ∀ k i, i + k = n → RN 3 M_Row_copyFrom none (rc σ a n a2 n2) 2 [some (.ref q), some (.ref q2), some (.int (nI i))] [] (rcI σ a i a2 n2) := by
    intro k
    induction k with
    | zero =>
      intro i hi
      refine RM.blk [(1, 2, 0, .null), (2, 0, 0, .null)] (pc' := 4) (L' := [some (.ref q), some (.ref q2), some (.int (nI i))]) (st' := [.ref q, .int (nI i)]) (by decide +kernel) rfl ?_
      refine RN.cells hq (pc3 := 7) (by decide +kernel) ?_
      refine RM.alen (by decide +kernel) hq.2.1 ?_
      refine RM.icmp_ge (tgt := 28) (by decide +kernel) (fun hc => ?_) (fun hc => absurd (nI_le (by omega) (by omega)) hc)
      have hi2 : i = n := by omega
      subst hi2
      exact RM.retv (by decide +kernel) rfl
    | succ k ih =>
      intro i hi
      refine RM.blk [(1, 2, 0, .null), (2, 0, 0, .null)] (pc' := 4) (L' := [some (.ref q), some (.ref q2), some (.int (nI i))]) (st' := [.ref q, .int (nI i)]) (by decide +kernel) rfl ?_
      refine RN.cells hq (pc3 := 7) (by decide +kernel) ?_
      refine RM.alen (by decide +kernel) hq.2.1 ?_
      refine RM.icmp_ge (tgt := 28) (by decide +kernel) (fun hc => absurd hc (nI_ge (by omega) (by omega))) (fun hc => ?_)
      refine RM.blk [(2, 0, 0, .null)] (pc' := 12) (L' := [some (.ref q), some (.ref q2), some (.int (nI i))]) (st' := [.ref q]) (by decide +kernel) rfl ?_
      refine RN.cells hq (pc3 := 15) (by decide +kernel) ?_
      refine RM.blk [(1, 2, 0, .null), (2, 1, 0, .null), (1, 2, 0, .null)] (pc' := 18) (L' := [some (.ref q), some (.ref q2), some (.int (nI i))]) (st' := [.int (nI i), .ref q2, .int (nI i), .ref a]) (by decide +kernel) rfl ?_
      refine RN.callV [.int (nI i)] (s_Row_get hq2 _ (nI i)) [.int (nI i), .ref a] (pc3 := 21) (st3 := [.int (rg (rcI σ a i a2 n2) a2 n2 (nI i)), .int (nI i), .ref a]) (by decide +kernel) mk_Row_get (by decide) ?_ (hq := hq2.1)
      rw [rcI_g σ hne]
      refine RM.iast (by decide +kernel) hq.2.1 (vp_in_nI (by omega) hn) ?_
      refine RM.blk [(10, 2, 0, .int 1), (23, 0, 0, .null)] (pc' := 2) (L' := [some (.ref q), some (.ref q2), some (.int (nI i + 1))]) (st' := []) (by decide +kernel) rfl ?_
      rw [ix_nI (by omega), rcI_s, nI_1]
      exact ih (i + 1) (by omega)
  refine RM.blk [(0, 0, 0, .int 0), (4, 2, 0, .null)] (pc' := 2) (L' := [some (.ref q), some (.ref q2), some (.int 0)]) (st' := []) (by decide +kernel) rfl ?_
  have h := key n 0 (by omega)
  rw [rcI_0] at h
  exact h
