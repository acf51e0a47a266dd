/-! dealings by their numbers -/
def dgt (q c k i : Nat) : Nat := c / q ^ (k - 1 - i) % q
theorem dgt_lt {q c k i : Nat} (hq : 0 < q) : dgt q c k i < q := Nat.mod_lt _ hq
theorem ext_div {q p j : Nat} (hj : j < q) : (p * q + j) / q = p := by
  rw [Nat.mul_comm, Nat.mul_add_div (by omega), Nat.div_eq_of_lt hj, Nat.add_zero]
theorem dgt_ext {q p j k i : Nat} (hj : j < q) (hi : i < k) : dgt q (p * q + j) (k + 1) i = dgt q p k i := by
  unfold dgt
  rw [show k + 1 - 1 - i = (k - 1 - i) + 1 by omega, Nat.pow_succ, Nat.mul_comm (q ^ (k - 1 - i)) q, ← Nat.div_div_eq_div_mul, ext_div hj]
theorem dgt_at {q p j k : Nat} (hj : j < q) : dgt q (p * q + j) (k + 1) k = j := by
  unfold dgt
  rw [show k + 1 - 1 - k = 0 by omega, Nat.pow_zero, Nat.div_one, Nat.mul_comm, Nat.mul_add_mod, Nat.mod_eq_of_lt hj]
theorem dgt_pre {q c p k d i : Nat} (hc : c / q ^ d = p) (hi : i < k) : dgt q c (k + d) i = dgt q p k i := by
  unfold dgt
  rw [show k + d - 1 - i = d + (k - 1 - i) by omega, Nat.pow_add, ← Nat.div_div_eq_div_mul, hc]
def sS (dy : Nat → Nat → Nat) (a : Nat → Nat) (k j : Nat) : Nat := sm (fun i => decide (a i = j)) (fun i => dy i j) k
def gS (dy : Nat → Nat → Nat) (a : Nat → Nat) (k : Nat) : Nat → Nat
  | 0 => 0
  | j + 1 => if gS dy a k j < sS dy a k j then sS dy a k j else gS dy a k j
theorem gS_le {dy : Nat → Nat → Nat} {a : Nat → Nat} {k x : Nat} : ∀ {q : Nat}, gS dy a k q ≤ x ↔ ∀ j, j < q → sS dy a k j ≤ x
  | 0 => ⟨fun _ j hj => by omega, fun _ => Nat.zero_le x⟩
  | q + 1 => by
    have ih := gS_le (dy := dy) (a := a) (k := k) (x := x) (q := q)
    rw [gS]
    constructor
    · intro h j hj
      by_cases hc : gS dy a k q < sS dy a k q
      · rw [if_pos hc] at h
        by_cases hjq : j = q
        · rw [hjq]; exact h
        · exact ih.mp (by omega) j (by omega)
      · rw [if_neg hc] at h
        by_cases hjq : j = q
        · rw [hjq]; omega
        · exact ih.mp h j (by omega)
    · intro h
      have h1 := ih.mpr (fun j hj => h j (by omega))
      have h2 := h q (by omega)
      by_cases hc : gS dy a k q < sS dy a k q
      · rw [if_pos hc]; exact h2
      · rw [if_neg hc]; exact h1
theorem sS_cong {dy : Nat → Nat → Nat} {a a' : Nat → Nat} {k j : Nat} (h : ∀ i, i < k → a i = a' i) : sS dy a k j = sS dy a' k j :=
  sm_cong (fun i hi => by rw [h i hi])
theorem gS_cong {dy : Nat → Nat → Nat} {a a' : Nat → Nat} {k q : Nat} (h : ∀ i, i < k → a i = a' i) : gS dy a k q = gS dy a' k q := by
  refine Nat.le_antisymm ?_ ?_
  · rw [gS_le]; intro j hj; rw [sS_cong h]; exact gS_le.mp (Nat.le_refl _) j hj
  · rw [gS_le]; intro j hj; rw [← sS_cong h]; exact gS_le.mp (Nat.le_refl _) j hj
theorem sS_s {dy : Nat → Nat → Nat} {a : Nat → Nat} {k j : Nat} : sS dy a (k + 1) j = sS dy a k j + if a k = j then dy k j else 0 := by
  unfold sS
  rw [sm]
  by_cases h : a k = j
  · rw [if_pos (decide_eq_true h), if_pos h]
  · rw [if_neg (show ¬ decide (a k = j) = true from fun e => h (of_decide_eq_true e)), if_neg h]
theorem sS_mono {dy : Nat → Nat → Nat} {a : Nat → Nat} {k j : Nat} : ∀ d, sS dy a k j ≤ sS dy a (k + d) j
  | 0 => Nat.le_refl _
  | d + 1 => by
    have := sS_mono (dy := dy) (a := a) (k := k) (j := j) d
    rw [show k + (d + 1) = k + d + 1 by omega, sS_s]
    omega
theorem gS_mono {dy : Nat → Nat → Nat} {a : Nat → Nat} {k d q : Nat} : gS dy a k q ≤ gS dy a (k + d) q := by
  rw [gS_le]
  intro j hj
  exact Nat.le_trans (sS_mono d) (gS_le.mp (Nat.le_refl _) j hj)
theorem sS_bd {dy : Nat → Nat → Nat} {a : Nat → Nat} {k j c : Nat} (h : ∀ i, i < k → dy i j ≤ c) : sS dy a k j ≤ k * c := sm_le h
theorem gS_ext {dy : Nat → Nat → Nat} {a : Nat → Nat} {k j q : Nat} (hj : j < q) (ha : a k = j) : gS dy a (k + 1) q = if gS dy a k q < sS dy a k j + dy k j then sS dy a k j + dy k j else gS dy a k q := by
  have hs : ∀ j', sS dy a (k + 1) j' = if j' = j then sS dy a k j + dy k j else sS dy a k j' := by
    intro j'
    rw [sS_s, ha]
    by_cases h : j' = j
    · rw [if_pos h, if_pos h.symm, h]
    · rw [if_neg h, if_neg (fun e => h e.symm), Nat.add_zero]
  refine Nat.le_antisymm ?_ ?_
  · rw [gS_le]
    intro j' hj'
    rw [hs]
    have h1 : sS dy a k j' ≤ gS dy a k q := gS_le.mp (Nat.le_refl _) j' hj'
    by_cases h : j' = j
    · rw [if_pos h]
      by_cases hc : gS dy a k q < sS dy a k j + dy k j
      · rw [if_pos hc]; exact Nat.le_refl _
      · rw [if_neg hc]; omega
    · rw [if_neg h]
      by_cases hc : gS dy a k q < sS dy a k j + dy k j
      · rw [if_pos hc]; omega
      · rw [if_neg hc]; exact h1
  · have h1 : sS dy a (k + 1) j ≤ gS dy a (k + 1) q := gS_le.mp (Nat.le_refl _) j hj
    rw [hs, if_pos rfl] at h1
    have h2 : gS dy a k q ≤ gS dy a (k + 1) q := gS_mono
    by_cases hc : gS dy a k q < sS dy a k j + dy k j
    · rw [if_pos hc]; exact h1
    · rw [if_neg hc]; exact h2
def vld (ok : Nat → Nat → Bool) (a : Nat → Nat) (k : Nat) : Prop := ∀ i, i < k → ok i (a i) = true
theorem vld_cong {ok : Nat → Nat → Bool} {a a' : Nat → Nat} {k : Nat} (h : ∀ i, i < k → a i = a' i) : vld ok a k ↔ vld ok a' k :=
  ⟨fun H i hi => by rw [← h i hi]; exact H i hi, fun H i hi => by rw [h i hi]; exact H i hi⟩
/-- the greatest sum of dealing number c -/
def gc (q M : Nat) (dy : Nat → Nat → Nat) (c : Nat) : Nat := gS dy (dgt q c M) M q
/-- b is the first best of the dealings before number e -/
def Best (q M : Nat) (dy : Nat → Nat → Nat) (ok : Nat → Nat → Bool) (e : Nat) : Option Nat → Prop
  | none => ∀ c, c < e → ¬ vld ok (dgt q c M) M
  | some b => b < e ∧ vld ok (dgt q b M) M ∧ ∀ c, c < e → vld ok (dgt q c M) M → gc q M dy b ≤ gc q M dy c ∧ (c < b → gc q M dy b < gc q M dy c)
theorem Best_u {q M : Nat} {dy : Nat → Nat → Nat} {ok : Nat → Nat → Bool} {e : Nat} {b b' : Option Nat} (h : Best q M dy ok e b) (h' : Best q M dy ok e b') : b = b' := by
  cases b with
  | none =>
    cases b' with
    | none => rfl
    | some c => exact absurd h'.2.1 (h c h'.1)
  | some d =>
    cases b' with
    | none => exact absurd h.2.1 (h' d h.1)
    | some c =>
      have h1 := h.2.2 c h'.1 h'.2.1
      have h2 := h'.2.2 d h.1 h.2.1
      have : d = c := by
        rcases Nat.lt_trichotomy c d with x | x | x
        · have := h1.2 x; omega
        · exact x.symm
        · have := h2.2 x; omega
      rw [this]
theorem Best_skip {q M : Nat} {dy : Nat → Nat → Nat} {ok : Nat → Nat → Bool} {e e' : Nat} {b : Option Nat} (h : Best q M dy ok e b) (hs : ∀ c, e ≤ c → c < e' → vld ok (dgt q c M) M → ∃ d, b = some d ∧ gc q M dy d ≤ gc q M dy c) (he : e ≤ e') : Best q M dy ok e' b := by
  cases b with
  | none =>
    intro c hc hv
    by_cases h1 : c < e
    · exact h c h1 hv
    · obtain ⟨d, hd, -⟩ := hs c (by omega) hc hv
      cases hd
  | some d =>
    refine ⟨by have := h.1; omega, h.2.1, fun c hc hv => ?_⟩
    by_cases h1 : c < e
    · exact h.2.2 c h1 hv
    · obtain ⟨d', hd, hle⟩ := hs c (by omega) hc hv
      cases hd
      have := h.1
      exact ⟨hle, fun h2 => by omega⟩
theorem Best_new {q M : Nat} {dy : Nat → Nat → Nat} {ok : Nat → Nat → Bool} {e : Nat} {b : Option Nat} (h : Best q M dy ok e b) (hv : vld ok (dgt q e M) M) (hl : ∀ d, b = some d → gc q M dy e < gc q M dy d) : Best q M dy ok (e + 1) (some e) := by
  refine ⟨by omega, hv, fun c hc hvc => ?_⟩
  by_cases h1 : c = e
  · subst h1
    exact ⟨Nat.le_refl _, fun h => by omega⟩
  · cases b with
    | none => exact absurd hvc (h c (by omega))
    | some d =>
      have h2 := (h.2.2 c (by omega) hvc).1
      have h3 := hl d rfl
      exact ⟨by omega, fun _ => by omega⟩
/-- one hand for all -/
def allJ (q j : Nat) : Nat → Nat
  | 0 => 0
  | k + 1 => allJ q j k * q + j
theorem allJ_dgt {q j : Nat} (hj : j < q) : ∀ {k i : Nat}, i < k → dgt q (allJ q j k) k i = j
  | 0, i, h => by omega
  | k + 1, i, h => by
    rw [allJ]
    by_cases h1 : i = k
    · rw [h1, dgt_at hj]
    · rw [dgt_ext hj (by omega)]; exact allJ_dgt hj (by omega)
theorem allJ_lt {q j : Nat} (hj : j < q) : ∀ k, allJ q j k < q ^ k
  | 0 => by rw [Nat.pow_zero]; exact Nat.zero_lt_one
  | k + 1 => by
    have h := allJ_lt hj k
    rw [allJ, Nat.pow_succ]
    have h2 : (allJ q j k + 1) * q ≤ q ^ k * q := Nat.mul_le_mul_right q h
    rw [Nat.succ_mul] at h2
    omega
theorem Best_some {q M : Nat} {dy : Nat → Nat → Nat} {ok : Nat → Nat → Bool} {b : Option Nat} (h : Best q M dy ok (q ^ M) b) {j : Nat} (hj : j < q) (hok : ∀ k, k < M → ok k j = true) : ∃ c, b = some c := by
  cases b with
  | none => exact absurd (fun i hi => by rw [allJ_dgt hj hi]; exact hok i hi) (h (allJ q j M) (allJ_lt hj M))
  | some c => exact ⟨c, rfl⟩
theorem lpInv {X Y : Type} {f : X → Option (X ⊕ Y)} {Inv : Nat → X → Prop} {Post : Y → Prop} (hs : ∀ k x, Inv k x → (∃ a k', k' < k ∧ f x = some (.inl a) ∧ Inv k' a) ∨ ∃ b, f x = some (.inr b) ∧ Post b) {k : Nat} {x : X} (h : Inv k x) (hk : k < 1000000) : ∃ b, lpW f FU x = some b ∧ Post b := by
  have key : ∀ m k, k < m → ∀ x, Inv k x → ∃ b, lpW f m x = some b ∧ Post b := by
    intro m
    induction m with
    | zero => intro k hk; omega
    | succ m ih =>
      intro k hk x hI
      rcases hs k x hI with ⟨a, k', h1, h2, h4⟩ | ⟨b, h2, h4⟩
      · obtain ⟨b, g1, g3⟩ := ih k' (by omega) a h4
        refine ⟨b, ?_, g3⟩
        rw [lpW, h2]; exact g1
      · refine ⟨b, ?_, h4⟩
        rw [lpW, h2]; rfl
  exact key FU k (FU_big hk) x h
