/-! pdefs: the words of the mirrors: cells as a function, partial functions, loops with fuel, rows of numbers -/
abbrev SG : Type := Nat → Nat → Int32
def up (σ : SG) (q k : Nat) (x : Int32) : SG := fun p => if p = q then upd (σ q) k x else σ p
def up0 (σ : SG) (q : Nat) : SG := fun p => if p = q then fun _ => 0 else σ p
def bI (z : Bool) : Int32 := match z with
  | true => 1
  | false => 0
theorem bI_0 (z : Bool) : bI z = 0 ↔ z = false := by cases z <;> simp [bI]
theorem bI_n (z : Bool) : ¬ bI z = 0 ↔ z = true := by cases z <;> simp [bI]
theorem bI_nar (z : Bool) : narrow .boolean (.int (bI z)) = .int (bI z) := by cases z <;> rfl
theorem bI_nar2 (z : Bool) : vp_nar .boolean (bI z) = bI z := by cases z <;> rfl
def ix (x : Int32) : Nat := x.toNatClampNeg
def mxI (x y : Int32) : Int32 := if x < y then y else x
def mnI (x y : Int32) : Int32 := if y < x then y else x
def ob {A B : Type} (o : Option A) (k : A → Option B) : Option B := match o with
  | none => none
  | some a => k a
theorem ob_some {A B : Type} {o : Option A} {k : A → Option B} {b : B} (h : ob o k = some b) : ∃ a, o = some a ∧ k a = some b := by
  cases o with
  | none => cases h
  | some a => exact ⟨a, rfl, h⟩
theorem ob_of {A B : Type} {o : Option A} {k : A → Option B} {a : A} (h : o = some a) : ob o k = k a := by rw [h]; rfl
def og {B : Type} (c : Bool) (k : Option B) : Option B := match c with
  | true => k
  | false => none
theorem og_some {B : Type} {c : Bool} {k : Option B} {b : B} (h : og c k = some b) : c = true ∧ k = some b := by
  cases c with
  | false => cases h
  | true => exact ⟨rfl, h⟩
theorem og_of {B : Type} {c : Bool} {k : Option B} (h : c = true) : og c k = k := by rw [h]; rfl
def lpW {X Y : Type} (f : X → Option (X ⊕ Y)) : Nat → X → Option Y
  | 0, _ => none
  | n + 1, x => ob (f x) (Sum.elim (lpW f n) some)
def FU : Nat := 1048576
def vin (i : Int32) (n : Nat) : Bool := decide (¬ i < 0) && decide (ix i < n)
theorem vin_of {i : Int32} {n : Nat} (h : vin i n = true) : vp_in i n := by
  simp only [vin, Bool.and_eq_true, decide_eq_true_eq] at h
  rintro (h1 | h1)
  · exact h.1 h1
  · have := h.2
    unfold ix at this
    omega
def nz (y : Int32) : Bool := decide (¬ y = 0)
theorem nz_of {y : Int32} (h : nz y = true) : ¬ y = 0 := of_decide_eq_true h
theorem bf {z : Bool} (h : z = false) : ¬ z = true := by rw [h]; exact Bool.false_ne_true
def rg (σ : SG) (a n : Nat) (i : Int32) : Int32 := if i < 0 then 0 else if nI n ≤ i then 0 else σ a (ix i)
def rs (σ : SG) (a n : Nat) (i x : Int32) : SG := if i < 0 then σ else if nI n ≤ i then σ else up σ a (ix i) x
def ra (σ : SG) (a n : Nat) (i x : Int32) : SG := rs σ a n i (rg σ a n i + x)
def rf (σ : SG) (a n : Nat) (x : Int32) : SG := fun p => if p = a then (fun j => if j < n then x else σ a j) else σ p
def rc (σ : SG) (a n a2 n2 : Nat) : SG := fun p => if p = a then (fun j => if j < n then rg σ a2 n2 (nI j) else σ a j) else σ p
theorem ix_nI {n : Nat} (h : n < 2 ^ 31) : ix (nI n) = n := nI_clamp h
def tsS {A : Type} (x : Int32) : Nat → List A → A → A
  | _, [], d => d
  | k, a :: r, d => if x = nI k then a else tsS x (k + 1) r d
theorem tsS_at {A : Type} {x : Int32} {d a : A} : ∀ {r : List A} {k j : Nat}, x = nI (k + j) → r[j]? = some a → Nat.ble (k + r.length) 1000 = true → tsS x k r d = a
  | [], k, j, _, h, _ => by simp at h
  | b :: r, k, 0, hx, h, hl => by
    simp at h
    subst h
    rw [tsS, if_pos (by rw [hx]; rfl)]
  | b :: r, k, j + 1, hx, h, hl => by
    have hl2 := Nat.le_of_ble_eq_true hl
    simp only [List.length_cons] at hl2
    have hj : j < r.length := (List.getElem?_eq_some_iff.mp (by simpa using h)).1
    rw [tsS, if_neg (fun e => by rw [hx, nI_eq (by omega) (by omega)] at e; omega)]
    exact tsS_at (k := k + 1) (j := j) (by rw [hx]; congr 1; omega) (by simpa using h) (Nat.ble_eq.mpr (by omega))
theorem tsS_out {A : Type} {x : Int32} {d : A} : ∀ {r : List A} {k : Nat}, (x < 0 ∨ nI (k + r.length) ≤ x) → Nat.ble (k + r.length) 1000 = true → tsS x k r d = d
  | [], k, _, _ => rfl
  | b :: r, k, h, hl => by
    have hl2 := Nat.le_of_ble_eq_true hl
    simp only [List.length_cons] at hl2
    have hne : ¬ x = nI k := by
      intro e
      rcases h with h | h
      · exact nI_pos (by omega) (e ▸ h)
      · rw [e] at h
        exact nI_ge (by simp) (by simp; omega) h
    rw [tsS, if_neg hne]
    refine tsS_out (k := k + 1) ?_ (Nat.ble_eq.mpr (by omega))
    rw [List.length_cons] at h
    rwa [Nat.add_assoc, Nat.add_comm 1]
def nbz (x : Int32) : Bool := decide (vp_nar .boolean x = x)
theorem nbz_of {x : Int32} (h : nbz x = true) : vp_nar .boolean x = x := of_decide_eq_true h
def nm {A B : Type} (a : A) (k : A → B) : B := k a
theorem nm_h {A B : Type} {a : A} {k : A → B} {b : B} (h : nm a k = b) : k a = b := h
