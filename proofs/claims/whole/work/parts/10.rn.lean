/-! rn: the fixed world of all cells, ordinary contracts, loops, rows of numbers -/
def DS : List CDs := [.inl (11, [some (some 1), some (some 4), some (some 18), some (some 35), some (some 42), some (some 52), some (some 57), some (some 60), some (some 65)]), .inl (3, [none, none, some (some 2)]), .inl (9, [some (some 3)]), .inr (false, 240), .inl (4, [some (some 5), some (some 12), some (some 14), some (some 16)]), .inl (0, [some (some 6), some (some 8), some (some 10)]), .inl (9, [some (some 7)]), .inr (false, 8), .inl (9, [some (some 9)]), .inr (false, 8), .inl (9, [some (some 11)]), .inr (false, 8), .inl (9, [some (some 13)]), .inr (false, 8), .inl (9, [some (some 15)]), .inr (false, 8), .inl (9, [some (some 17)]), .inr (false, 8), .inl (1, [none, some (some 19), some (some 21), some (some 23), some (some 25), some (some 27), some (some 29), some (some 31), some (some 33)]), .inl (9, [some (some 20)]), .inr (false, 240), .inl (9, [some (some 22)]), .inr (false, 240), .inl (9, [some (some 24)]), .inr (false, 240), .inl (9, [some (some 26)]), .inr (false, 240), .inl (9, [some (some 28)]), .inr (false, 240), .inl (9, [some (some 30)]), .inr (false, 240), .inl (9, [some (some 32)]), .inr (false, 240), .inl (9, [some (some 34)]), .inr (false, 240), .inl (6, [some (some 1), some (some 4), some (some 18), some (some 36), some (some 38), some (some 40)]), .inl (9, [some (some 37)]), .inr (false, 25), .inl (9, [some (some 39)]), .inr (false, 25), .inl (9, [some (some 41)]), .inr (false, 25), .inl (7, [none, some (some 43), some (some 45)]), .inl (9, [some (some 44)]), .inr (false, 10), .inl (0, [some (some 46), some (some 48), some (some 50)]), .inl (9, [some (some 47)]), .inr (false, 10), .inl (9, [some (some 49)]), .inr (false, 10), .inl (9, [some (some 51)]), .inr (false, 10), .inl (8, [none, some (some 1), some (some 4), some (some 18), some (some 42), some (some 53), some (some 55)]), .inl (9, [some (some 54)]), .inr (false, 10), .inl (9, [some (some 56)]), .inr (false, 240), .inl (10, [none, some (some 58), some (some 1), some (some 4), some (some 18)]), .inl (9, [some (some 59)]), .inr (false, 240), .inl (5, [none, some (some 61), some (some 63)]), .inl (9, [some (some 62)]), .inr (false, 4), .inl (9, [some (some 64)]), .inr (false, 4), .inl (2, [none, some (some 57), some (some 60), none, some (some 66), some (some 68), some (some 70), some (some 72), some (some 74)]), .inl (9, [some (some 67)]), .inr (false, 9), .inl (9, [some (some 69)]), .inr (false, 9), .inl (9, [some (some 71)]), .inr (false, 9), .inl (9, [some (some 73)]), .inr (false, 9), .inl (9, [some (some 75)]), .inr (false, 4), .inl (12, [none, none, some (some 77), some (some 78), some (some 79), some (some 80), some (some 81), none, none, none, none, some (some 82), some (some 83), some (some 84), some (some 85), some (some 86), some (some 87), none, none, some (some 88), some (some 89), none, some (some 90), some (some 91), some (some 92), some (some 93), some (some 94), some (some 95), some (some 96), some (some 97), some (some 98), none, some (some 99), none, some (some 100), some (some 101), some (some 102)]), .inr (false, 240), .inr (false, 24), .inr (false, 8), .inr (true, 8), .inr (true, 8), .inr (false, 240), .inr (false, 240), .inr (false, 240), .inr (false, 240), .inr (false, 240), .inr (false, 240), .inr (false, 30), .inr (false, 10), .inr (false, 4), .inr (true, 4), .inr (true, 25), .inr (true, 25), .inr (false, 25), .inr (false, 25), .inr (false, 10), .inr (false, 240), .inr (false, 9), .inr (false, 9), .inr (false, 9), .inr (true, 9), .inr (false, 4)]
abbrev SpN (d : Nat) (M : MI) (as : List Value) (σ : SG) (r : Option Value) (σ' : SG) : Prop := Sp d M 0 0 as DS σ r DS σ'
abbrev RN (d : Nat) (M : MI) (r : Option Value) (σ' : SG) (pc : Nat) (L : List (Option Value)) (st : List Value) (σ : SG) : Prop := RM d M 0 0 r DS σ' 0 0 pc L st DS σ
section RN1
variable {d : Nat} {M : MI} {r : Option Value} {σ' : SG} {pc : Nat} {L : List (Option Value)} {st : List Value} {σ : SG}
theorem RN.callV {M2 : MI} {d2 n : Nat} {r2 : Option Value} {σ2 : SG} (As : List Value) {q ci : Nat} {fs : List FDs} (hS1 : SpN d2 M2 (.ref q :: As) σ r2 σ2) (st : List Value) {pc3 : Nat} {st3 st0 : List Value} (ho : vOK M.oc M.cc pc M2 = true) (hm : mOK M2 n = true) (hd : d2 < d) (K : RN d M r σ' pc3 L st3 σ2) (hst : Nat.ble (st.map fun v => v.category).sum 8 = true := by rfl) (hna : As.length = n := by rfl) (hq : DS[q]? = some (.inl (ci, fs)) := by rfl) (hci : ci < 13 := by decide) (hcn : ci = M2.oc := by rfl) (hst0 : st0 = As.reverse ++ .ref q :: st := by rfl) (hp : pc + 3 = pc3 := by rfl) (hs3 : r2.toList ++ st = st3 := by rfl) : RN d M r σ' pc L st0 σ := by
  subst hp; subst hs3
  exact RM.callV As hS1 ho hm hna hq hci hcn hd ⟨Nat.le_refl _, Nat.le_refl _⟩ (Nat.le_of_ble_eq_true hst) hst0 K
theorem RN.callS {M2 : MI} {d2 n : Nat} {r2 : Option Value} {σ2 : SG} (As : List Value) (hS1 : SpN d2 M2 As σ r2 σ2) (st : List Value) {pc3 : Nat} {st3 st0 : List Value} (ho : sOK M.oc M.cc pc M2 = true) (hm : mOK M2 n = true) (hd : d2 < d) (K : RN d M r σ' pc3 L st3 σ2) (hst : Nat.ble (st.map fun v => v.category).sum 8 = true := by rfl) (hna : As.length = n := by rfl) (hst0 : st0 = As.reverse ++ st := by rfl) (hp : pc + 3 = pc3 := by rfl) (hs3 : r2.toList ++ st = st3 := by rfl) : RN d M r σ' pc L st0 σ := by
  subst hp; subst hs3
  exact RM.callS As hS1 ho hm hna hd ⟨Nat.le_refl _, Nat.le_refl _⟩ (Nat.le_of_ble_eq_true hst) hst0 K
theorem RN.drop {L2 : List (Option Value)} (h : ∀ (i : Nat) (v : Value), L2[i]? = some (some v) → L[i]? = some (some v)) (K : RN d M r σ' pc L2 st σ) : RN d M r σ' pc L st σ := by
  intro l b sc dC dI cI cZ p e s m args below meth c hC hr hk hn H locs ls hW hS hl
  refine K l b sc dC dI cI cZ p e s m args below meth c hC hr hk hn H locs ls hW hS ⟨hl.1, hl.2.1, fun q hq => hl.2.2 q ?_⟩
  obtain ⟨j, w⟩ := q
  obtain ⟨k, v, h1, h2, h3⟩ := (lc_mem b sc L2 0 j w).mp hq
  exact (lc_mem b sc L 0 j w).mpr ⟨k, v, h1, h k v h2, h3⟩
def dropL : List (Option Value) → List Bool → List (Option Value)
  | o :: r, true :: t => o :: dropL r t
  | _ :: r, false :: t => none :: dropL r t
  | [], _ => []
  | r, [] => r.map (fun _ => none)
theorem dropL_ok : ∀ (L : List (Option Value)) (t : List Bool) (i : Nat) (v : Value), (dropL L t)[i]? = some (some v) → L[i]? = some (some v)
  | o :: r, true :: t, 0, v, h => h
  | o :: r, true :: t, i + 1, v, h => by
    have := dropL_ok r t i v (by simpa [dropL] using h)
    simpa using this
  | o :: r, false :: t, 0, v, h => by simp [dropL] at h
  | o :: r, false :: t, i + 1, v, h => by
    have := dropL_ok r t i v (by simpa [dropL] using h)
    simpa using this
  | [], t, i, v, h => by cases t <;> simp [dropL] at h
  | o :: r, [], i, v, h => by
    simp only [dropL, List.getElem?_map, Option.map_eq_some_iff] at h
    obtain ⟨_, _, h⟩ := h
    cases h
theorem RN.dropB (t : List Bool) {L2 : List (Option Value)} (hL : dropL L t = L2) (K : RN d M r σ' pc L2 st σ) : RN d M r σ' pc L st σ := by
  subst hL
  exact RN.drop (dropL_ok L t) K
end RN1
/-! rows of numbers: a row object at q, its cells at a -/
theorem in_nI {i : Int32} {n : Nat} (hn : n < 2 ^ 31) (h1 : ¬ i < 0) (h2 : ¬ nI n ≤ i) : vp_in i n := by
  obtain ⟨j, hj, rfl⟩ := nI_of h1
  exact vp_in_nI (by rcases Nat.lt_or_ge j n with q | q; exact q; exact absurd (nI_le q hj) h2) hn
def rowAt (q a n : Nat) : Prop := DS[q]? = some (.inl (9, [some (some a)])) ∧ DS[a]? = some (.inr (false, n)) ∧ n < 2 ^ 31
def M_Row_get : MI := (yX9_get, cX9_get, 2, some .int, 9)
theorem mk_Row_get : mOK M_Row_get 1 = true := by decide +kernel
def M_Row_set : MI := (yX9_set, cX9_set, 3, none, 9)
theorem mk_Row_set : mOK M_Row_set 2 = true := by decide +kernel
def M_Row_add : MI := (yX9_add, cX9_add, 3, none, 9)
theorem mk_Row_add : mOK M_Row_add 2 = true := by decide +kernel
def M_Row_fill : MI := (yX9_fill, cX9_fill, 3, none, 9)
theorem mk_Row_fill : mOK M_Row_fill 1 = true := by decide +kernel
def M_Row_copyFrom : MI := (yX9_copyFrom, cX9_copyFrom, 3, none, 9)
theorem mk_Row_copyFrom : mOK M_Row_copyFrom 1 = true := by decide +kernel
theorem exs_cells {q a n k : Nat} (hq : rowAt q a n) {L : List (Option Value)} {st : List Value} {σ : SG} : ex DS (3, 9, 0, .null) L (.ref q :: st) σ = some (L, .ref a :: st, σ) := by
  simp only [ex, hq.1]
  rfl
theorem RN.cells {d : Nat} {M : MI} {r : Option Value} {σ' : SG} {pc pc3 : Nat} {L : List (Option Value)} {st : List Value} {σ : SG} {q a n : Nat} (hq : rowAt q a n) (hx : nxs M.oc M.nL M.cc pc [(3, 9, 0, .null)] = some pc3) (K : RN d M r σ' pc3 L (.ref a :: st) σ) : RN d M r σ' pc L (.ref q :: st) σ :=
  RM.blk [(3, 9, 0, .null)] hx (by simp only [exs, exs_cells (k := 0) hq]) K
theorem s_Row_get {q a n : Nat} (hq : rowAt q a n) (σ : SG) (i : Int32) : SpN 2 M_Row_get [.ref q, .int i] σ (some (.int (rg σ a n i))) σ := by
  generalize h : rg σ a n i = rr
  unfold rg at h
  refine Sp.of mk_Row_get rfl (Nat.le_of_ble_eq_true rfl) ?_
  refine RM.blk [(1, 1, 0, .null)] (pc' := 1) (L' := [some (.ref q), some (.int i)]) (st' := [.int i]) (by decide +kernel) rfl ?_
  refine RM.if_lt (tgt := 22) (by decide +kernel) (fun hc => ?_) (fun hc => ?_)
  · rw [if_pos hc] at h
    subst h
    refine RM.blk [(0, 0, 0, .int 0)] (pc' := 23) (L' := [some (.ref q), some (.int i)]) (st' := [.int 0]) (by decide +kernel) rfl ?_
    exact RM.reti (by decide +kernel) rfl
  · rw [if_neg hc] at h
    refine RM.blk [(1, 1, 0, .null), (2, 0, 0, .null)] (pc' := 6) (L' := [some (.ref q), some (.int i)]) (st' := [.ref q, .int i]) (by decide +kernel) rfl ?_
    refine RN.cells hq (pc3 := 9) (by decide +kernel) ?_
    refine RM.alen (by decide +kernel) hq.2.1 ?_
    refine RM.icmp_ge (tgt := 22) (by decide +kernel) (fun hc2 => ?_) (fun hc2 => ?_)
    · rw [if_pos hc2] at h
      subst h
      refine RM.blk [(0, 0, 0, .int 0)] (pc' := 23) (L' := [some (.ref q), some (.int i)]) (st' := [.int 0]) (by decide +kernel) rfl ?_
      exact RM.reti (by decide +kernel) rfl
    · rw [if_neg hc2] at h
      subst h
      refine RM.blk [(2, 0, 0, .null)] (pc' := 14) (L' := [some (.ref q), some (.int i)]) (st' := [.ref q]) (by decide +kernel) rfl ?_
      refine RN.cells hq (pc3 := 17) (by decide +kernel) ?_
      refine RM.blk [(1, 1, 0, .null)] (pc' := 18) (L' := [some (.ref q), some (.int i)]) (st' := [.int i, .ref a]) (by decide +kernel) rfl ?_
      refine RM.iald (by decide +kernel) hq.2.1 (in_nI hq.2.2 hc hc2) ?_
      refine RM.blk [(23, 0, 0, .null)] (pc' := 23) (L' := [some (.ref q), some (.int i)]) (st' := [.int (σ a (ix i))]) (by decide +kernel) rfl ?_
      exact RM.reti (by decide +kernel) rfl
theorem s_Row_set {q a n : Nat} (hq : rowAt q a n) (σ : SG) (i x : Int32) : SpN 2 M_Row_set [.ref q, .int i, .int x] σ none (rs σ a n i x) := by
  generalize h : rs σ a n i x = rr
  unfold rs at h
  refine Sp.of mk_Row_set rfl (Nat.le_of_ble_eq_true rfl) ?_
  refine RM.blk [(1, 1, 0, .null)] (pc' := 1) (L' := [some (.ref q), some (.int i), some (.int x)]) (st' := [.int i]) (by decide +kernel) rfl ?_
  refine RM.if_lt (tgt := 20) (by decide +kernel) (fun hc => ?_) (fun hc => ?_)
  · rw [if_pos hc] at h
    subst h
    exact RM.retv (by decide +kernel) rfl
  · rw [if_neg hc] at h
    refine RM.blk [(1, 1, 0, .null), (2, 0, 0, .null)] (pc' := 6) (L' := [some (.ref q), some (.int i), some (.int x)]) (st' := [.ref q, .int i]) (by decide +kernel) rfl ?_
    refine RN.cells hq (pc3 := 9) (by decide +kernel) ?_
    refine RM.alen (by decide +kernel) hq.2.1 ?_
    refine RM.icmp_ge (tgt := 20) (by decide +kernel) (fun hc2 => ?_) (fun hc2 => ?_)
    · rw [if_pos hc2] at h
      subst h
      exact RM.retv (by decide +kernel) rfl
    · rw [if_neg hc2] at h
      subst h
      refine RM.blk [(2, 0, 0, .null)] (pc' := 14) (L' := [some (.ref q), some (.int i), some (.int x)]) (st' := [.ref q]) (by decide +kernel) rfl ?_
      refine RN.cells hq (pc3 := 17) (by decide +kernel) ?_
      refine RM.blk [(1, 1, 0, .null), (1, 2, 0, .null)] (pc' := 19) (L' := [some (.ref q), some (.int i), some (.int x)]) (st' := [.int x, .int i, .ref a]) (by decide +kernel) rfl ?_
      refine RM.iast (by decide +kernel) hq.2.1 (in_nI hq.2.2 hc hc2) ?_
      exact RM.retv (by decide +kernel) rfl
