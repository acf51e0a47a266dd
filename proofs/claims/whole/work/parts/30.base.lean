/-! base of the pure part: loops by a run of states, rows set whole, numbers -/
theorem FU_big {n : Nat} (h : n < 1000000) : n < FU := Nat.lt_of_lt_of_le h (by unfold FU; decide)
theorem lpW_run {X Y : Type} {f : X → Option (X ⊕ Y)} {s : Nat → X} {y : Y} (N : Nat) (hs : ∀ i, i < N → f (s i) = some (.inl (s (i + 1)))) (he : f (s N) = some (.inr y)) (hF : N < 1000000) : lpW f FU (s 0) = some y := by
  have key : ∀ k i, i + k = N → ∀ m, k < m → lpW f m (s i) = some y := by
    intro k
    induction k with
    | zero =>
      intro i hi m hm
      obtain ⟨m, rfl⟩ : ∃ z, m = z + 1 := ⟨m - 1, by omega⟩
      have hi2 : i = N := by omega
      subst hi2
      rw [lpW, he]; rfl
    | succ k ih =>
      intro i hi m hm
      obtain ⟨m, rfl⟩ : ∃ z, m = z + 1 := ⟨m - 1, by omega⟩
      rw [lpW, hs i (by omega)]
      exact ih (i + 1) (by omega) m (by omega)
  exact key N 0 (by omega) FU (FU_big hF)
theorem lpW_at {X Y : Type} {f : X → Option (X ⊕ Y)} {s : Nat → X} {x0 : X} {y : Y} (N : Nat) (h0 : s 0 = x0) (hs : ∀ i, i < N → f (s i) = some (.inl (s (i + 1)))) (he : f (s N) = some (.inr y)) (hF : N < 1000000) : lpW f FU x0 = some y := by
  subst h0; exact lpW_run N hs he hF
theorem rg_nI {σ : SG} {a n k : Nat} (hk : k < n) (hn : n < 2 ^ 31) : rg σ a n (nI k) = σ a k := by
  unfold rg
  rw [if_neg (nI_pos (by omega)), if_neg (nI_ge hk hn), ix_nI (by omega)]
theorem rs_nI {σ : SG} {a n k : Nat} {x : Int32} (hk : k < n) (hn : n < 2 ^ 31) : rs σ a n (nI k) x = up σ a k x := by
  unfold rs
  rw [if_neg (nI_pos (by omega)), if_neg (nI_ge hk hn), ix_nI (by omega)]
theorem ra_nI {σ : SG} {a n k : Nat} {x : Int32} (hk : k < n) (hn : n < 2 ^ 31) : ra σ a n (nI k) x = up σ a k (σ a k + x) := by
  unfold ra
  rw [rs_nI hk hn, rg_nI hk hn]
theorem vin_nI {k n : Nat} (hk : k < n) (hn : n < 2 ^ 31) : vin (nI k) n = true := by
  unfold vin
  rw [Bool.and_eq_true, decide_eq_true_eq, decide_eq_true_eq, ix_nI (by omega)]
  exact ⟨nI_pos (by omega), hk⟩
theorem og_t {B : Type} {k : Option B} : og true k = k := rfl
def sR (σ : SG) (p : Nat) (g : Nat → Int32) : SG := fun q => if q = p then g else σ q
theorem up_sR (σ : SG) (q k : Nat) (x : Int32) : up σ q k x = sR σ q (upd (σ q) k x) := rfl
theorem sR_at (σ : SG) (p : Nat) (g : Nat → Int32) : sR σ p g p = g := if_pos rfl
theorem sR_ne (σ : SG) {p q : Nat} (g : Nat → Int32) (h : q ≠ p) : sR σ p g q = σ q := if_neg h
theorem sR_self (σ : SG) (p : Nat) : sR σ p (σ p) = σ := by
  funext q
  unfold sR
  by_cases h : q = p
  · rw [if_pos h, h]
  · rw [if_neg h]
theorem sR_sR (σ : SG) (p : Nat) (g g' : Nat → Int32) : sR (sR σ p g) p g' = sR σ p g' := by
  funext q
  unfold sR
  by_cases h : q = p <;> simp [h]
theorem sR_comm (σ : SG) {p q : Nat} (g g' : Nat → Int32) (h : p ≠ q) : sR (sR σ p g) q g' = sR (sR σ q g') p g := by
  funext r
  unfold sR
  by_cases h1 : r = q
  · by_cases h2 : r = p
    · exact absurd (h2.symm.trans h1) h
    · rw [if_pos h1, if_neg h2, if_pos h1]
  · by_cases h2 : r = p
    · rw [if_neg h1, if_pos h2, if_pos h2]
    · rw [if_neg h1, if_neg h2, if_neg h2, if_neg h1]
theorem upd_at (f : Nat → Int32) (k : Nat) (x : Int32) : upd f k x k = x := if_pos rfl
theorem upd_ne (f : Nat → Int32) {k j : Nat} (x : Int32) (h : j ≠ k) : upd f k x j = f j := if_neg h
theorem upd_self (f : Nat → Int32) (k : Nat) : upd f k (f k) = f := by
  funext j
  unfold upd
  by_cases h : j = k
  · rw [if_pos h, h]
  · rw [if_neg h]
theorem rf_sR (σ : SG) (a n : Nat) (x : Int32) : rf σ a n x = sR σ a (fun j => if j < n then x else σ a j) := rfl
theorem rc_sR (σ : SG) (a n a2 n2 : Nat) : rc σ a n a2 n2 = sR σ a (fun j => if j < n then rg σ a2 n2 (nI j) else σ a j) := rfl
/-- a row filled up to i -/
def rowF (g f : Nat → Int32) (i : Nat) : Nat → Int32 := fun j => if j < i then g j else f j
theorem rowF_0 (g f : Nat → Int32) : rowF g f 0 = f := rfl
theorem rowF_s (g f : Nat → Int32) (i : Nat) : upd (rowF g f i) i (g i) = rowF g f (i + 1) := by
  funext j
  unfold upd rowF
  by_cases h : j = i
  · rw [if_pos h, if_pos (by omega), h]
  · rw [if_neg h]
    by_cases h2 : j < i
    · rw [if_pos h2, if_pos (by omega)]
    · rw [if_neg h2, if_neg (by omega)]
theorem rowF_lt {g f : Nat → Int32} {i j : Nat} (h : j < i) : rowF g f i j = g j := if_pos h
theorem rowF_ge {g f : Nat → Int32} {i j : Nat} (h : i ≤ j) : rowF g f i j = f j := if_neg (Nat.not_lt.mpr h)
/-! numbers -/
theorem nI_sub1 {n : Nat} (h : 1 ≤ n) : nI n - 1 = nI (n - 1) := by
  obtain ⟨m, rfl⟩ : ∃ m, n = m + 1 := ⟨n - 1, by omega⟩
  rw [nI_pred]; rfl
theorem nI_mul (a b : Nat) : nI a * nI b = nI (a * b) := pk_mul a b
theorem l0 : (0 : Int32) = nI 0 := rfl
theorem l1 : (1 : Int32) = nI 1 := rfl
theorem l2 : (2 : Int32) = nI 2 := rfl
theorem l3 : (3 : Int32) = nI 3 := rfl
theorem l24 : (24 : Int32) = nI 24 := rfl
theorem nm1_ne {n : Nat} (h : n < 2 ^ 31) : ¬ nI n = -1 := by
  intro e
  have h1 := nI_pos h
  rw [e] at h1
  exact h1 (by decide)
theorem int_cases (x : Int32) : x < 0 ∨ ∃ j : Nat, j < 2 ^ 31 ∧ x = nI j := by
  by_cases h : x < 0
  · exact Or.inl h
  · exact Or.inr (nI_of h)
theorem wi_iff {p a b : Int32} : F_Shop_within p a b = true ↔ a ≤ p ∧ p ≤ b := by
  unfold F_Shop_within
  by_cases h1 : p < a
  · rw [if_pos h1]
    exact ⟨fun h => (by cases h), fun h => absurd h1 (k2_nlt h.1)⟩
  · rw [if_neg h1]
    by_cases h2 : b < p
    · rw [if_pos h2]
      exact ⟨fun h => (by cases h), fun h => absurd h2 (k2_nlt h.2)⟩
    · rw [if_neg h2]
      exact ⟨fun _ => ⟨k2_le h1, k2_le h2⟩, fun _ => rfl⟩
theorem in_wi (p a b : Int32) : F_Ref_in p a b = F_Shop_within p a b := rfl
theorem i_rng (x : Int32) : -2147483648 ≤ x.toInt ∧ x.toInt < 2147483648 := ⟨Int32.le_toInt x, Int32.toInt_lt x⟩
theorem nI_of_toInt {p : Int32} (h : 0 ≤ p.toInt) : p = nI p.toInt.toNat := by
  have h1 := i_rng p
  rw [← Int32.toInt_inj, nI_toInt (by omega)]
  omega
theorem lt_T (x y : Int32) : x < y ↔ x.toInt < y.toInt := Int32.lt_iff_toInt_lt
theorem le_T (x y : Int32) : x ≤ y ↔ x.toInt ≤ y.toInt := Int32.le_iff_toInt_le
theorem eq_T (x y : Int32) : x = y ↔ x.toInt = y.toInt := Int32.toInt_inj.symm
theorem wi_nI {p : Int32} {a b : Nat} (ha : a < 2 ^ 31) (hb : b < 2 ^ 31) (h : F_Shop_within p (nI a) (nI b) = true) : ∃ k, a ≤ k ∧ k ≤ b ∧ p = nI k := by
  obtain ⟨h1, h2⟩ := wi_iff.mp h
  rw [le_T, nI_toInt ha] at h1
  rw [le_T, nI_toInt hb] at h2
  exact ⟨p.toInt.toNat, by omega, by omega, nI_of_toInt (by omega)⟩
theorem wi_of {k a b : Nat} (h1 : a ≤ k) (h2 : k ≤ b) (hb : b < 2 ^ 31) : F_Shop_within (nI k) (nI a) (nI b) = true :=
  wi_iff.mpr ⟨nI_le h1 (by omega), nI_le h2 hb⟩
