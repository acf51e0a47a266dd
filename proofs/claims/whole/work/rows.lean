section
/-! pdefs: the words of the mirrors: cells as a function, partial functions, loops with fuel, rows of numbers -/
abbrev SG : Type := Nat → Nat → Int32
def up (σ : SG) (q k : Nat) (x : Int32) : SG := fun p => if p = q then upd (σ q) k x else σ p
def up0 (σ : SG) (q : Nat) : SG := fun p => if p = q then fun _ => 0 else σ p
def bI (z : Bool) : Int32 := match z with
  | true => 1
  | false => 0
theorem bI_0 (z : Bool) : bI z = 0 ↔ z = false := by cases z <;> simp [bI]
theorem bI_n (z : Bool) : ¬ bI z = 0 ↔ z = true := by cases z <;> simp [bI]
theorem bI_nar (z : Bool) : narrow .boolean (.int (bI z)) = .int (bI z) := by cases z <;> rfl
theorem bI_nar2 (z : Bool) : vp_nar .boolean (bI z) = bI z := by cases z <;> rfl
def ix (x : Int32) : Nat := x.toNatClampNeg
def mxI (x y : Int32) : Int32 := if x < y then y else x
def mnI (x y : Int32) : Int32 := if y < x then y else x
def ob {A B : Type} (o : Option A) (k : A → Option B) : Option B := match o with
  | none => none
  | some a => k a
theorem ob_some {A B : Type} {o : Option A} {k : A → Option B} {b : B} (h : ob o k = some b) : ∃ a, o = some a ∧ k a = some b := by
  cases o with
  | none => cases h
  | some a => exact ⟨a, rfl, h⟩
theorem ob_of {A B : Type} {o : Option A} {k : A → Option B} {a : A} (h : o = some a) : ob o k = k a := by rw [h]; rfl
def og {B : Type} (c : Bool) (k : Option B) : Option B := match c with
  | true => k
  | false => none
theorem og_some {B : Type} {c : Bool} {k : Option B} {b : B} (h : og c k = some b) : c = true ∧ k = some b := by
  cases c with
  | false => cases h
  | true => exact ⟨rfl, h⟩
theorem og_of {B : Type} {c : Bool} {k : Option B} (h : c = true) : og c k = k := by rw [h]; rfl
def lpW {X Y : Type} (f : X → Option (X ⊕ Y)) : Nat → X → Option Y
  | 0, _ => none
  | n + 1, x => ob (f x) (Sum.elim (lpW f n) some)
def FU : Nat := 1048576
def vin (i : Int32) (n : Nat) : Bool := decide (¬ i < 0) && decide (ix i < n)
theorem vin_of {i : Int32} {n : Nat} (h : vin i n = true) : vp_in i n := by
  simp only [vin, Bool.and_eq_true, decide_eq_true_eq] at h
  rintro (h1 | h1)
  · exact h.1 h1
  · have := h.2
    unfold ix at this
    omega
def nz (y : Int32) : Bool := decide (¬ y = 0)
theorem nz_of {y : Int32} (h : nz y = true) : ¬ y = 0 := of_decide_eq_true h
theorem bf {z : Bool} (h : z = false) : ¬ z = true := by rw [h]; exact Bool.false_ne_true
def rg (σ : SG) (a n : Nat) (i : Int32) : Int32 := if i < 0 then 0 else if nI n ≤ i then 0 else σ a (ix i)
def rs (σ : SG) (a n : Nat) (i x : Int32) : SG := if i < 0 then σ else if nI n ≤ i then σ else up σ a (ix i) x
def ra (σ : SG) (a n : Nat) (i x : Int32) : SG := rs σ a n i (rg σ a n i + x)
def rf (σ : SG) (a n : Nat) (x : Int32) : SG := fun p => if p = a then (fun j => if j < n then x else σ a j) else σ p
def rc (σ : SG) (a n a2 n2 : Nat) : SG := fun p => if p = a then (fun j => if j < n then rg σ a2 n2 (nI j) else σ a j) else σ p
theorem ix_nI {n : Nat} (h : n < 2 ^ 31) : ix (nI n) = n := nI_clamp h
def tsS {A : Type} (x : Int32) : Nat → List A → A → A
  | _, [], d => d
  | k, a :: r, d => if x = nI k then a else tsS x (k + 1) r d
theorem tsS_at {A : Type} {x : Int32} {d a : A} : ∀ {r : List A} {k j : Nat}, x = nI (k + j) → r[j]? = some a → Nat.ble (k + r.length) 1000 = true → tsS x k r d = a
  | [], k, j, _, h, _ => by simp at h
  | b :: r, k, 0, hx, h, hl => by
    simp at h
    subst h
    rw [tsS, if_pos (by rw [hx]; rfl)]
  | b :: r, k, j + 1, hx, h, hl => by
    have hl2 := Nat.le_of_ble_eq_true hl
    simp only [List.length_cons] at hl2
    have hj : j < r.length := (List.getElem?_eq_some_iff.mp (by simpa using h)).1
    rw [tsS, if_neg (fun e => by rw [hx, nI_eq (by omega) (by omega)] at e; omega)]
    exact tsS_at (k := k + 1) (j := j) (by rw [hx]; congr 1; omega) (by simpa using h) (Nat.ble_eq.mpr (by omega))
theorem tsS_out {A : Type} {x : Int32} {d : A} : ∀ {r : List A} {k : Nat}, (x < 0 ∨ nI (k + r.length) ≤ x) → Nat.ble (k + r.length) 1000 = true → tsS x k r d = d
  | [], k, _, _ => rfl
  | b :: r, k, h, hl => by
    have hl2 := Nat.le_of_ble_eq_true hl
    simp only [List.length_cons] at hl2
    have hne : ¬ x = nI k := by
      intro e
      rcases h with h | h
      · exact nI_pos (by omega) (e ▸ h)
      · rw [e] at h
        exact nI_ge (by simp) (by simp; omega) h
    rw [tsS, if_neg hne]
    refine tsS_out (k := k + 1) ?_ (Nat.ble_eq.mpr (by omega))
    rw [List.length_cons] at h
    rwa [Nat.add_assoc, Nat.add_comm 1]
def nbz (x : Int32) : Bool := decide (vp_nar .boolean x = x)
theorem nbz_of {x : Int32} (h : nbz x = true) : vp_nar .boolean x = x := of_decide_eq_true h
def nm {A B : Type} (a : A) (k : A → B) : B := k a
theorem nm_h {A B : Type} {a : A} {k : A → B} {b : B} (h : nm a k = b) : k a = b := h
end
section
/-! mirrors of the methods, written by program out of the listing -/
def F_Shop_within (p0 : Int32) (p1 : Int32) (p2 : Int32) : Bool := (if p0 < p1 then false else (if p2 < p0 then false else true))
def F_Drawing_begin (σ : SG) (p0 : Int32) (p1 : Int32) : SG := (rf (up (up σ 1 0 p0) 1 1 p1) 3 240 0)
def F_Cubes_clear (σ : SG) : SG := (up σ 18 0 0)
def F_Shop_takeDown (σ : SG) : SG := (up (up (F_Cubes_clear σ) 52 0 0) 57 0 0)
def F_Shop_wall (σ : SG) (p0 : Int32) (p1 : Int32) : Int32 × SG := (if (F_Shop_within p0 1 24) = true then (if (F_Shop_within p1 1 10) = true then (1, (F_Shop_takeDown (F_Drawing_begin σ p0 p1))) else ((-2), σ)) else ((-2), σ))
def F_Drawing_has (σ : SG) (p0 : Int32) (p1 : Int32) : Bool := (if (F_Shop_within p0 0 ((σ 1 0) - 1)) = true then (if (F_Shop_within p1 0 ((σ 1 1) - 1)) = true then true else false) else false)
def F_Shop_isField (p0 : Int32) : Bool := (F_Shop_within p0 0 7)
def F_Drawing_place (p0 : Int32) (p1 : Int32) : Int32 := ((p1 * 24) + p0)
def F_Drawing_fieldAt (σ : SG) (p0 : Int32) (p1 : Int32) : Int32 := (rg σ 3 240 (F_Drawing_place p0 p1))
def L_Drawing_fill_16 (p2 : Int32) (p4 : Int32) (k7 : Int32) (x : Int32 × Int32 × SG) : Option ((Int32 × Int32 × SG) ⊕ (Int32 × SG)) := (if p2 < x.2.1 then some (.inr (x.1, x.2.2)) else (if (F_Drawing_fieldAt x.2.2 x.2.1 (k7)) = p4 then some (.inl (x.1, (x.2.1 + 1), x.2.2)) else (nm (rs x.2.2 3 240 (F_Drawing_place x.2.1 (k7)) p4) (fun s6 => some (.inl ((x.1 + 1), (x.2.1 + 1), s6))))))
def L_Drawing_fill_6 (p0 : Int32) (p2 : Int32) (p3 : Int32) (p4 : Int32) (x : Int32 × Int32 × SG) : Option ((Int32 × Int32 × SG) ⊕ (Int32 × SG)) := (if p3 < x.2.1 then some (.inr (x.1, x.2.2)) else (ob (lpW (L_Drawing_fill_16 p2 p4 x.2.1) FU (x.1, p0, x.2.2)) (fun y3 => some (.inl (y3.1, (x.2.1 + 1), y3.2)))))
def F_Drawing_fill (σ : SG) (p0 : Int32) (p1 : Int32) (p2 : Int32) (p3 : Int32) (p4 : Int32) : Option (Int32 × SG) := (ob (lpW (L_Drawing_fill_6 p0 p2 p3 p4) FU (0, p1, σ)) (fun y1 => some (y1.1, y1.2)))
def F_Shop_draw (σ : SG) (p0 : Int32) (p1 : Int32) (p2 : Int32) (p3 : Int32) (p4 : Int32) : Option (Int32 × SG) := (if (F_Drawing_has σ p0 p1) = true then (if (F_Drawing_has σ p2 p3) = true then (if p2 < p0 then some ((-2), σ) else (if p3 < p1 then some ((-2), σ) else (if (F_Shop_isField p4) = true then (ob (F_Drawing_fill σ p0 p1 p2 p3 p4) (fun v6 => (if v6.1 ≤ 0 then some (v6.1, v6.2) else some (v6.1, (F_Shop_takeDown v6.2))))) else some ((-2), σ)))) else some ((-2), σ)) else some ((-2), σ))
def F_Shop_field (σ : SG) (p0 : Int32) (p1 : Int32) : Int32 := (if (F_Drawing_has σ p0 p1) = true then (F_Drawing_fieldAt σ p0 p1) else (-2))
def F_Shop_isColour (p0 : Int32) (p1 : Int32) (p2 : Int32) : Bool := (if (F_Shop_within p0 0 255) = true then (if (F_Shop_within p1 0 255) = true then (if (F_Shop_within p2 0 255) = true then true else false) else false) else false)
def F_Colours_put_5 (σ : SG) (p0 : Int32) (p1 : Int32) (p2 : Int32) (p3 : Int32) : SG := (nm (rs (rs (rs σ 7 8 p0 p1) 9 8 p0 p2) 11 8 p0 p3) (fun s1 => s1))
def F_Shop_colour (σ : SG) (p0 : Int32) (p1 : Int32) (p2 : Int32) (p3 : Int32) : Int32 × SG := (if (F_Shop_isField p0) = true then (if (F_Shop_isColour p1 p2 p3) = true then (1, (F_Colours_put_5 σ p0 p1 p2 p3)) else ((-2), σ)) else ((-2), σ))
def F_Shop_mark (σ : SG) (p0 : Int32) (p1 : Int32) (p2 : Bool) (p3 : Bool) : Int32 × SG := (if (F_Shop_isField p0) = true then (if (F_Shop_within p1 1 3) = true then (if p2 = true then (if p3 = true then (nm (rs (rs (rs σ 13 8 p0 p1) 15 8 p0 1) 17 8 p0 1) (fun s9 => (1, s9))) else (nm (rs (rs (rs σ 13 8 p0 p1) 15 8 p0 1) 17 8 p0 0) (fun s8 => (1, s8)))) else (if p3 = true then (nm (rs (rs (rs σ 13 8 p0 p1) 15 8 p0 0) 17 8 p0 1) (fun s6 => (1, s6))) else (nm (rs (rs (rs σ 13 8 p0 p1) 15 8 p0 0) 17 8 p0 0) (fun s5 => (1, s5))))) else ((-2), σ)) else ((-2), σ))
def L_Drawing_stripEnd_4 (σ : SG) (p0 : Int32) (p1 : Int32) (x : Int32) : Option ((Int32) ⊕ (Int32)) := (if (σ 1 0) ≤ x then some (.inr x) else (if (F_Drawing_fieldAt σ x p1) = (F_Drawing_fieldAt σ p0 p1) then some (.inl (x + 1)) else some (.inr x)))
def F_Drawing_stripEnd (σ : SG) (p0 : Int32) (p1 : Int32) : Option (Int32) := (ob (lpW (L_Drawing_stripEnd_4 σ p0 p1) FU (p0 + 1)) (fun y1 => some y1))
def F_Layer_mayEnd (σ : SG) (p0 : Int32) (p1 : Int32) : Bool := (if p0 = p1 then true else (if p1 ≤ p0 then false else (if (rg σ 37 25 p0) = 0 then true else false)))
def L_Layer_countFewest_27 (p1 : Int32) (p2 : Int32) (x1 : Int32 × SG) (k4 : Int32) (x : Int32 × Int32) : Option ((Int32 × Int32) ⊕ (Int32)) := (if p2 < x.2 then some (.inr x.1) else (if (F_Layer_mayEnd x1.2 (k4 + x.2) p1) = true then some (.inl ((mnI x.1 ((rg x1.2 41 25 (k4 + x.2)) + 1)), (x.2 + 1))) else some (.inl (x.1, (x.2 + 1)))))
def L_Layer_countFewest_14 (p0 : Int32) (p1 : Int32) (p2 : Int32) (x : Int32 × SG) : Option ((Int32 × SG) ⊕ (SG)) := (if x.1 < p0 then some (.inr x.2) else (ob (lpW (L_Layer_countFewest_27 p1 p2 x x.1) FU (1000000, 1)) (fun y3 => some (.inl ((x.1 + (-1)), (rs x.2 41 25 x.1 y3))))))
def F_Layer_countFewest (σ : SG) (p0 : Int32) (p1 : Int32) (p2 : Int32) : Option (SG) := (ob (lpW (L_Layer_countFewest_14 p0 p1 p2) FU ((p1 - 1), (rs σ 41 25 p1 0))) (fun y1 => some y1))
def L_Layer_widestOfFewest_3 (σ : SG) (p0 : Int32) (p1 : Int32) (x : Int32) : Option ((Int32) ⊕ ((Unit) ⊕ (Int32))) := (if x ≤ 1 then some (.inr (.inl ())) else (if (F_Layer_mayEnd σ (p0 + x) p1) = true then (if (rg σ 41 25 (p0 + x)) = ((rg σ 41 25 p0) - 1) then some (.inr (.inr x)) else some (.inl (x + (-1)))) else some (.inl (x + (-1)))))
def F_Layer_widestOfFewest (σ : SG) (p0 : Int32) (p1 : Int32) (p2 : Int32) : Option (Int32) := (ob (lpW (L_Layer_widestOfFewest_3 σ p0 p1) FU p2) (fun y1 => Sum.elim (fun y1 : Unit => some 1) (fun q1 : Int32 => some q1) y1))
def L_Cubes_put_88 (p0 : Int32) (p1 : Int32) (p2 : Int32) (x : Int32 × SG) : Option ((Int32 × SG) ⊕ (SG)) := (if (p1 + p2) ≤ x.1 then some (.inr x.2) else (nm (rs x.2 34 240 (F_Drawing_place x.1 p0) (x.2 18 0)) (fun s6 => some (.inl ((x.1 + 1), s6)))))
def F_Cubes_put (σ : SG) (p0 : Int32) (p1 : Int32) (p2 : Int32) (p3 : Int32) : Option (SG) := (nm (rs (rs σ 20 240 (σ 18 0) p0) 22 240 ((rs σ 20 240 (σ 18 0) p0) 18 0) p1) (fun s1 => (nm (rs (rs s1 24 240 (s1 18 0) p2) 26 240 ((rs s1 24 240 (s1 18 0) p2) 18 0) p3) (fun s2 => (nm (rs (rs s2 28 240 (s2 18 0) (-1)) 30 240 ((rs s2 28 240 (s2 18 0) (-1)) 18 0) (-1)) (fun s3 => (ob (lpW (L_Cubes_put_88 p0 p1 p2) FU (p1, (rs s3 32 240 (s3 18 0) (-1)))) (fun y4 => some (up y4 18 0 ((y4 18 0) + 1))))))))))
def L_Layer_layStrip_54 (p0 : Int32) (p2 : Int32) (k4 : Int32) (k5 : Int32) (x : Int32 × SG) : Option ((Int32 × SG) ⊕ (SG)) := (if p2 ≤ x.1 then some (.inr x.2) else (ob (F_Layer_widestOfFewest x.2 x.1 p2 (k5)) (fun v5 => (ob (F_Cubes_put x.2 p0 x.1 (mxI 1 v5) (k4)) (fun v6 => (if p2 ≤ (x.1 + (mxI 1 v5)) then some (.inl ((x.1 + (mxI 1 v5)), v6)) else some (.inl ((x.1 + (mxI 1 v5)), (rs v6 39 25 (x.1 + (mxI 1 v5)) 1)))))))))
def F_Layer_layStrip (σ : SG) (p0 : Int32) (p1 : Int32) (p2 : Int32) : Option (Bool × SG) := (ob (F_Layer_countFewest σ p1 p2 (rg σ 13 8 (F_Drawing_fieldAt σ p1 p0))) (fun v1 => (if (rg v1 41 25 p1) < 1000000 then (ob (lpW (L_Layer_layStrip_54 p0 p2 (F_Drawing_fieldAt σ p1 p0) (rg σ 13 8 (F_Drawing_fieldAt σ p1 p0))) FU (p1, v1)) (fun y3 => some (true, y3))) else some (false, v1))))
def L_Layer_layRows_42 (k1 : Int32) (x : Int32 × SG) : Option ((Int32 × SG) ⊕ ((SG) ⊕ (Int32 × SG))) := (if (x.2 1 0) ≤ x.1 then some (.inr (.inl x.2)) else (ob (F_Drawing_stripEnd x.2 x.1 (k1)) (fun v5 => (ob (F_Layer_layStrip x.2 (k1) x.1 v5) (fun v6 => (if v6.1 = true then (ob (F_Drawing_stripEnd v6.2 x.1 (k1)) (fun v8 => some (.inl ((mxI (x.1 + 1) v8), v6.2)))) else some (.inr (.inr ((F_Drawing_place x.1 (k1)), v6.2)))))))))
def L_Layer_layRows_10 (x : Int32 × SG) : Option ((Int32 × SG) ⊕ ((SG) ⊕ (Int32 × SG))) := (if (x.2 1 1) ≤ x.1 then some (.inr (.inl x.2)) else (ob (lpW (L_Layer_layRows_42 x.1) FU (0, (rf (rc x.2 37 25 39 25) 39 25 0))) (fun y3 => Sum.elim (fun y3 : SG => some (.inl ((x.1 + 1), y3))) (fun q3 : Int32 × SG => some (.inr (.inr q3))) y3)))
def F_Layer_layRows (σ : SG) : Option (Int32 × SG) := (ob (lpW L_Layer_layRows_10 FU (0, (rf σ 39 25 0))) (fun y1 => Sum.elim (fun y1 : SG => some ((-1), y1)) (fun q1 : Int32 × SG => some q1) y1))
def F_Shop_lay (σ : SG) : Option (Int32 × SG) := (ob (F_Layer_layRows (F_Shop_takeDown σ)) (fun v1 => (if v1.1 = (-1) then some ((v1.2 18 0), v1.2) else some (((-1000) - v1.1), (F_Cubes_clear v1.2)))))
def F_Shop_isLaid (σ : SG) : Bool := (if (σ 18 0) ≤ 0 then false else true)
def F_Cubes_over (σ : SG) (p0 : Int32) (p1 : Int32) : Int32 := (rg σ 34 240 (F_Drawing_place p0 p1))
def F_Shop_at (σ : SG) (p0 : Int32) (p1 : Int32) : Int32 := (if (F_Drawing_has σ p0 p1) = true then (if (F_Shop_isLaid σ) = true then (F_Cubes_over σ p0 p1) else (-1)) else (-2))
def F_Cubes_has (σ : SG) (p0 : Int32) : Bool := (if p0 < 0 then false else (if (σ 18 0) ≤ p0 then false else true))
def F_Cubes_tell (σ : SG) (p0 : Int32) (p1 : Int32) : Int32 := (tsS p1 0 [(rg σ 20 240 p0), (rg σ 22 240 p0), (rg σ 24 240 p0), (rg σ 26 240 p0), (rg σ 28 240 p0), (rg σ 30 240 p0)] (rg σ 32 240 p0))
def F_Shop_cube (σ : SG) (p0 : Int32) (p1 : Int32) : Int32 := (if (F_Shop_within p1 0 6) = true then (if (F_Cubes_has σ p0) = true then (F_Cubes_tell σ p0 p1) else (-1)) else (-2))
def F_Colours_put_45 (σ : SG) (p0 : Int32) (p1 : Int32) (p2 : Int32) (p3 : Int32) : SG := (nm (rs (rs (rs σ 47 10 p0 p1) 49 10 p0 p2) 51 10 p0 p3) (fun s1 => s1))
def F_Lots_bring (σ : SG) (p0 : Int32) (p1 : Int32) (p2 : Int32) (p3 : Int32) : Int32 × SG := (nm (rs (F_Colours_put_45 σ (σ 42 0) p0 p1 p2) 44 10 ((F_Colours_put_45 σ (σ 42 0) p0 p1 p2) 42 0) p3) (fun s1 => ((((up s1 42 0 ((s1 42 0) + 1)) 42 0) - 1), (up s1 42 0 ((s1 42 0) + 1)))))
def F_Shop_lot (σ : SG) (p0 : Int32) (p1 : Int32) (p2 : Int32) (p3 : Int32) : Int32 × SG := (if (F_Shop_isColour p0 p1 p2) = true then (if (F_Shop_within p3 0 1000) = true then (if 10 ≤ (σ 42 0) then ((-4), σ) else ((F_Lots_bring σ p0 p1 p2 p3).1, (F_Lots_bring σ p0 p1 p2 p3).2)) else ((-2), σ)) else ((-2), σ))
def F_Lots_has (σ : SG) (p0 : Int32) : Bool := (if p0 < 0 then false else (if (σ 42 0) ≤ p0 then false else true))
def F_Shop_left (σ : SG) (p0 : Int32) : Int32 := (if (F_Lots_has σ p0) = true then (rg σ 44 10 p0) else (-2))
def F_Shop_more (σ : SG) (p0 : Int32) (p1 : Int32) : Int32 × SG := (if (F_Lots_has σ p0) = true then (if (F_Shop_within p1 0 1000) = true then (if ((rg σ 44 10 p0) + p1) ≤ 1000 then ((rg (ra σ 44 10 p0 p1) 44 10 p0), (ra σ 44 10 p0 p1)) else ((-3), σ)) else ((-2), σ)) else ((-2), σ))
def L_Drawing_placesOf_15 (σ : SG) (p0 : Int32) (k3 : Int32) (x : Int32 × Int32) : Option ((Int32 × Int32) ⊕ (Int32)) := (if (σ 1 0) ≤ x.2 then some (.inr x.1) else (if (F_Drawing_fieldAt σ x.2 (k3)) = p0 then some (.inl ((x.1 + 1), (x.2 + 1))) else some (.inl (x.1, (x.2 + 1)))))
def L_Drawing_placesOf_4 (σ : SG) (p0 : Int32) (x : Int32 × Int32) : Option ((Int32 × Int32) ⊕ (Int32)) := (if (σ 1 1) ≤ x.2 then some (.inr x.1) else (ob (lpW (L_Drawing_placesOf_15 σ p0 x.2) FU (x.1, 0)) (fun y3 => some (.inl (y3, (x.2 + 1))))))
def F_Drawing_placesOf (σ : SG) (p0 : Int32) : Option (Int32) := (ob (lpW (L_Drawing_placesOf_4 σ p0) FU (0, 0)) (fun y1 => some y1))
def F_Colours_apart (σ : SG) (p0 : Int32) (p1 : Int32) : Int32 := (((((rg σ 47 10 p0) - (rg σ 7 8 p1)) * ((rg σ 47 10 p0) - (rg σ 7 8 p1))) + (((rg σ 49 10 p0) - (rg σ 9 8 p1)) * ((rg σ 49 10 p0) - (rg σ 9 8 p1)))) + (((rg σ 51 10 p0) - (rg σ 11 8 p1)) * ((rg σ 51 10 p0) - (rg σ 11 8 p1))))
def L_Lots_nearest_10 (σ : SG) (p0 : Int32) (p1 : Int32) (x : Int32 × Int32 × Int32) : Option ((Int32 × Int32 × Int32) ⊕ (Int32)) := (if (σ 42 0) ≤ x.2.2 then some (.inr x.1) else (if (rg σ 44 10 x.2.2) < p1 then some (.inl (x.1, x.2.1, (x.2.2 + 1))) else (if x.2.1 ≤ (F_Colours_apart σ x.2.2 p0) then some (.inl (x.1, x.2.1, (x.2.2 + 1))) else some (.inl (x.2.2, (F_Colours_apart σ x.2.2 p0), (x.2.2 + 1))))))
def F_Lots_nearest (σ : SG) (p0 : Int32) (p1 : Int32) : Option (Int32) := (ob (lpW (L_Lots_nearest_10 σ p0 p1) FU ((-1), 1000000, 0)) (fun y1 => some y1))
def F_Painter_nearestFor (σ : SG) (p0 : Int32) : Option (Int32) := (ob (F_Lots_nearest σ (rg σ 26 240 p0) (rg σ 24 240 p0)) (fun v1 => some v1))
def F_Painter_give (σ : SG) (p0 : Int32) (p1 : Int32) : SG := (if p0 = (-1) then (rs σ 28 240 p1 p0) else (nm (ra (rs σ 28 240 p1 p0) 44 10 p0 (-(rg (rs σ 28 240 p1 p0) 24 240 p1))) (fun s2 => s2)))
def L_Painter_paintField_20 (p0 : Int32) (k3 : Int32) (x : Int32 × SG) : Option ((Int32 × SG) ⊕ (SG)) := (if (x.2 18 0) ≤ x.1 then some (.inr x.2) else (if (rg x.2 26 240 x.1) = p0 then (if k3 = (-1) then (ob (F_Painter_nearestFor x.2 x.1) (fun v6 => some (.inl ((x.1 + 1), (F_Painter_give x.2 v6 x.1))))) else some (.inl ((x.1 + 1), (F_Painter_give x.2 (k3) x.1)))) else some (.inl ((x.1 + 1), x.2))))
def F_Painter_paintField (σ : SG) (p0 : Int32) (p1 : Int32) : Option (SG) := (ob (F_Lots_nearest σ p0 p1) (fun v1 => (ob (lpW (L_Painter_paintField_20 p0 v1) FU (0, σ)) (fun y2 => some y2))))
def L_Painter_paintFields_2 (x : Int32 × SG) : Option ((Int32 × SG) ⊕ (SG)) := (if 8 ≤ x.1 then some (.inr x.2) else (ob (F_Drawing_placesOf x.2 x.1) (fun v3 => (ob (F_Painter_paintField x.2 x.1 v3) (fun v4 => some (.inl ((x.1 + 1), v4)))))))
def F_Painter_paintFields (σ : SG) : Option (SG) := (ob (lpW L_Painter_paintFields_2 FU (0, σ)) (fun y1 => some (up y1 52 0 1)))
def L_Painter_bareCubes_4 (σ : SG) (x : Int32 × Int32) : Option ((Int32 × Int32) ⊕ (Int32)) := (if (σ 18 0) ≤ x.2 then some (.inr x.1) else (if (rg σ 28 240 x.2) = (-1) then some (.inl ((x.1 + 1), (x.2 + 1))) else some (.inl (x.1, (x.2 + 1)))))
def F_Painter_bareCubes (σ : SG) : Option (Int32) := (ob (lpW (L_Painter_bareCubes_4 σ) FU (0, 0)) (fun y1 => some y1))
def F_Shop_paint (σ : SG) : Option (Int32 × SG) := (if (F_Shop_isLaid σ) = true then (if (σ 52 0) = 0 then (ob (F_Painter_paintFields σ) (fun v3 => (ob (F_Painter_bareCubes v3) (fun v4 => some (v4, v3))))) else some ((-3), σ)) else some ((-3), σ))
def L_Painter_giveBack_4 (x : Int32 × Int32 × SG) : Option ((Int32 × Int32 × SG) ⊕ (Int32 × SG)) := (if (x.2.2 18 0) ≤ x.2.1 then some (.inr (x.1, x.2.2)) else (if (rg x.2.2 28 240 x.2.1) = (-1) then some (.inl (x.1, (x.2.1 + 1), x.2.2)) else (nm (rs x.2.2 44 10 (rg x.2.2 28 240 x.2.1) (mnI 1000 ((rg x.2.2 44 10 (rg x.2.2 28 240 x.2.1)) + (rg x.2.2 24 240 x.2.1)))) (fun s4 => some (.inl ((x.1 + (rg x.2.2 24 240 x.2.1)), (x.2.1 + 1), (rs s4 28 240 x.2.1 (-1))))))))
def F_Painter_giveBack (σ : SG) : Option (Int32 × SG) := (ob (lpW L_Painter_giveBack_4 FU (0, 0, σ)) (fun y1 => some (y1.1, (up y1.2 52 0 0))))
def F_Shop_scrape (σ : SG) : Option (Int32 × SG) := (if (σ 52 0) = 0 then some ((-3), σ) else (ob (F_Painter_giveBack σ) (fun v2 => some (v2.1, v2.2))))
def L_Painter_changesOf_10 (σ : SG) (p0 : Int32) (x : Int32 × Int32 × Bool × Int32) : Option ((Int32 × Int32 × Bool × Int32) ⊕ (Int32)) := (if (σ 18 0) ≤ x.2.2.2 then some (.inr x.1) else (if (rg σ 26 240 x.2.2.2) = p0 then (if x.2.2.1 = true then some (.inl (x.1, (rg σ 28 240 x.2.2.2), false, (x.2.2.2 + 1))) else (if (rg σ 28 240 x.2.2.2) = x.2.1 then some (.inl (x.1, (rg σ 28 240 x.2.2.2), false, (x.2.2.2 + 1))) else some (.inl ((x.1 + 1), (rg σ 28 240 x.2.2.2), false, (x.2.2.2 + 1))))) else some (.inl (x.1, x.2.1, x.2.2.1, (x.2.2.2 + 1)))))
def F_Painter_changesOf (σ : SG) (p0 : Int32) : Option (Int32) := (ob (lpW (L_Painter_changesOf_10 σ p0) FU (0, (-1), true, 0)) (fun y1 => some y1))
def F_Shop_changes (σ : SG) (p0 : Int32) : Option (Int32) := (if (F_Shop_isField p0) = true then (if (σ 52 0) = 0 then some (-3) else (ob (F_Painter_changesOf σ p0) (fun v3 => some v3))) else some (-2))
def F_Shop_roundedUp (p0 : Int32) (p1 : Int32) : Option (Int32) := (if 1 ≤ p1 then (og (nz p1) (some (((p0 + p1) - 1) / p1))) else some 0)
def F_Sheets_isBorder (σ : SG) (p0 : Int32) (p1 : Int32) : Bool := (if p0 = (σ 1 0) then true else (if (F_Drawing_has σ p0 p1) = true then (if (rg σ 22 240 (F_Cubes_over σ p0 p1)) = p0 then true else false) else false))
def L_Sheets_cutNear_2 (σ : SG) (p0 : Int32) (p1 : Int32) (x : Int32) : Option ((Int32) ⊕ ((Unit) ⊕ (Int32))) := (if (σ 1 0) < x then some (.inr (.inl ())) else (if (F_Sheets_isBorder σ (p0 - x) p1) = true then some (.inr (.inr (p0 - x))) else (if (F_Sheets_isBorder σ (p0 + x) p1) = true then some (.inr (.inr (p0 + x))) else some (.inl (x + 1)))))
def F_Sheets_cutNear (σ : SG) (p0 : Int32) (p1 : Int32) : Option (Int32) := (ob (lpW (L_Sheets_cutNear_2 σ p0 p1) FU 0) (fun y1 => Sum.elim (fun y1 : Unit => some 0) (fun q1 : Int32 => some q1) y1))
def L_Sheets_cutsLeftOf_5 (σ : SG) (p0 : Int32) (p1 : Int32) (x : Int32 × Int32) : Option ((Int32 × Int32) ⊕ (Int32)) := (if (σ 1 0) ≤ x.2 then some (.inr x.1) else (ob (F_Sheets_cutNear σ x.2 (rg σ 20 240 p0)) (fun v3 => (if (rg σ 22 240 p0) < v3 then some (.inl (x.1, (x.2 + (mxI p1 1)))) else some (.inl ((x.1 + 1), (x.2 + (mxI p1 1))))))))
def F_Sheets_cutsLeftOf (σ : SG) (p0 : Int32) (p1 : Int32) : Option (Int32) := (ob (lpW (L_Sheets_cutsLeftOf_5 σ p0 p1) FU (0, p1)) (fun y1 => some y1))
def L_Sheets_turnOver_10 (x : Int32 × SG) : Option ((Int32 × SG) ⊕ (SG)) := (if x.1 < 0 then some (.inr x.2) else (if (x.2 18 0) ≤ (x.1 + 1) then (if false = true then (nm (rs x.2 32 240 x.1 ((rg x.2 32 240 (x.1 + 1)) + (rg x.2 24 240 (x.1 + 1)))) (fun s5 => some (.inl ((x.1 + (-1)), s5)))) else some (.inl ((x.1 + (-1)), (rs x.2 32 240 x.1 0)))) else (if (rg x.2 20 240 (x.1 + 1)) = (rg x.2 20 240 x.1) then (if (rg x.2 30 240 (x.1 + 1)) = (rg x.2 30 240 x.1) then (if true = true then (nm (rs x.2 32 240 x.1 ((rg x.2 32 240 (x.1 + 1)) + (rg x.2 24 240 (x.1 + 1)))) (fun s13 => some (.inl ((x.1 + (-1)), s13)))) else some (.inl ((x.1 + (-1)), (rs x.2 32 240 x.1 0)))) else (if false = true then (nm (rs x.2 32 240 x.1 ((rg x.2 32 240 (x.1 + 1)) + (rg x.2 24 240 (x.1 + 1)))) (fun s11 => some (.inl ((x.1 + (-1)), s11)))) else some (.inl ((x.1 + (-1)), (rs x.2 32 240 x.1 0))))) else (if false = true then (nm (rs x.2 32 240 x.1 ((rg x.2 32 240 (x.1 + 1)) + (rg x.2 24 240 (x.1 + 1)))) (fun s8 => some (.inl ((x.1 + (-1)), s8)))) else some (.inl ((x.1 + (-1)), (rs x.2 32 240 x.1 0)))))))
def F_Sheets_turnOver (σ : SG) : Option (SG) := (ob (lpW L_Sheets_turnOver_10 FU (((σ 18 0) - 1), σ)) (fun y1 => some y1))
def L_Sheets_cutWall_40 (p0 : Int32) (p1 : Int32) (k3 : Int32) (x : Int32 × SG) : Option ((Int32 × SG) ⊕ (SG)) := (if (x.2 18 0) ≤ x.1 then some (.inr x.2) else (ob (F_Shop_roundedUp ((rg x.2 20 240 x.1) + 1) p0) (fun v5 => (ob (F_Sheets_cutsLeftOf x.2 x.1 p1) (fun v6 => (nm (rs x.2 30 240 x.1 (((v5 - 1) * k3) + v6)) (fun s7 => (nm (ra s7 59 240 (((v5 - 1) * k3) + v6) (rg s7 24 240 x.1)) (fun s8 => some (.inl ((x.1 + 1), s8)))))))))))
def F_Sheets_cutWall (σ : SG) (p0 : Int32) (p1 : Int32) : Option (SG) := (ob (F_Shop_roundedUp (σ 1 0) p1) (fun v1 => (ob (F_Shop_roundedUp (σ 1 1) p0) (fun v2 => (ob (lpW (L_Sheets_cutWall_40 p0 p1 v1) FU (0, (rf (up σ 57 0 (v2 * v1)) 59 240 0))) (fun y3 => (ob (F_Sheets_turnOver y3) (fun v9 => some v9))))))))
def F_Shop_cut (σ : SG) (p0 : Int32) (p1 : Int32) : Option (Int32 × SG) := (if (F_Shop_within p0 1 10) = true then (if (F_Shop_within p1 1 24) = true then (if (F_Shop_isLaid σ) = true then (ob (F_Sheets_cutWall σ p0 p1) (fun v4 => some ((v4 57 0), v4))) else some ((-3), σ)) else some ((-2), σ)) else some ((-2), σ))
def F_Shop_isCut (σ : SG) : Bool := (if (σ 57 0) ≤ 0 then false else true)
def F_Shop_maySheet (σ : SG) (p0 : Int32) : Bool := (if p0 < 0 then false else (if (F_Shop_isCut σ) = true then (if (σ 57 0) ≤ p0 then false else true) else true))
def L_Sheets_cubesOn_4 (σ : SG) (p0 : Int32) (x : Int32 × Int32) : Option ((Int32 × Int32) ⊕ (Int32)) := (if (σ 18 0) ≤ x.2 then some (.inr x.1) else (if (rg σ 30 240 x.2) = p0 then some (.inl ((x.1 + 1), (x.2 + 1))) else some (.inl (x.1, (x.2 + 1)))))
def F_Sheets_cubesOn (σ : SG) (p0 : Int32) : Option (Int32) := (ob (lpW (L_Sheets_cubesOn_4 σ p0) FU (0, 0)) (fun y1 => some y1))
def L_Sheets_placesMarked_14_5 (σ : SG) (p0 : Int32) (x : Int32 × Int32) : Option ((Int32 × Int32) ⊕ (Int32)) := (if (σ 18 0) ≤ x.2 then some (.inr x.1) else (if (rg σ 30 240 x.2) = p0 then (if (rg σ 15 8 (rg σ 26 240 x.2)) = 1 then some (.inl ((x.1 + (rg σ 24 240 x.2)), (x.2 + 1))) else some (.inl (x.1, (x.2 + 1)))) else some (.inl (x.1, (x.2 + 1)))))
def F_Sheets_placesMarked_14 (σ : SG) (p0 : Int32) : Option (Int32) := (ob (lpW (L_Sheets_placesMarked_14_5 σ p0) FU (0, 0)) (fun y1 => some y1))
def L_Sheets_placesMarked_16_5 (σ : SG) (p0 : Int32) (x : Int32 × Int32) : Option ((Int32 × Int32) ⊕ (Int32)) := (if (σ 18 0) ≤ x.2 then some (.inr x.1) else (if (rg σ 30 240 x.2) = p0 then (if (rg σ 17 8 (rg σ 26 240 x.2)) = 1 then some (.inl ((x.1 + (rg σ 24 240 x.2)), (x.2 + 1))) else some (.inl (x.1, (x.2 + 1)))) else some (.inl (x.1, (x.2 + 1)))))
def F_Sheets_placesMarked_16 (σ : SG) (p0 : Int32) : Option (Int32) := (ob (lpW (L_Sheets_placesMarked_16_5 σ p0) FU (0, 0)) (fun y1 => some y1))
def F_Sheets_hasHead (σ : SG) (p0 : Int32) : Option (Bool) := (ob (F_Sheets_placesMarked_16 σ p0) (fun v1 => (if v1 ≤ 0 then some false else some true)))
def L_Sheets_leftEdge_4 (σ : SG) (p0 : Int32) (x : Int32 × Int32) : Option ((Int32 × Int32) ⊕ (Int32)) := (if (σ 18 0) ≤ x.2 then some (.inr x.1) else (if (rg σ 30 240 x.2) = p0 then (if x.1 = (-1) then some (.inl ((rg σ 22 240 x.2), (x.2 + 1))) else (if x.1 ≤ (rg σ 22 240 x.2) then some (.inl (x.1, (x.2 + 1))) else some (.inl ((rg σ 22 240 x.2), (x.2 + 1))))) else some (.inl (x.1, (x.2 + 1)))))
def F_Sheets_leftEdge (σ : SG) (p0 : Int32) : Option (Int32) := (ob (lpW (L_Sheets_leftEdge_4 σ p0) FU ((-1), 0)) (fun y1 => some y1))
def F_Cubes_rightOf (σ : SG) (p0 : Int32) : Int32 := ((rg σ 22 240 p0) + (rg σ 24 240 p0))
def L_Sheets_rightEdge_4 (σ : SG) (p0 : Int32) (x : Int32 × Int32) : Option ((Int32 × Int32) ⊕ (Int32)) := (if (σ 18 0) ≤ x.2 then some (.inr x.1) else (if (rg σ 30 240 x.2) = p0 then some (.inl ((mxI x.1 (F_Cubes_rightOf σ x.2)), (x.2 + 1))) else some (.inl (x.1, (x.2 + 1)))))
def F_Sheets_rightEdge (σ : SG) (p0 : Int32) : Option (Int32) := (ob (lpW (L_Sheets_rightEdge_4 σ p0) FU ((-1), 0)) (fun y1 => some y1))
def F_Sheets_tell (σ : SG) (p0 : Int32) (p1 : Int32) : Option (Int32) := (tsS p1 0 [(ob (F_Sheets_cubesOn σ p0) (fun v2 => some v2)), some (rg σ 59 240 p0), (ob (F_Sheets_placesMarked_14 σ p0) (fun v3 => some v3)), (ob (F_Sheets_hasHead σ p0) (fun v4 => (if v4 = true then some 1 else some 0))), (ob (F_Sheets_leftEdge σ p0) (fun v6 => some v6))] (ob (F_Sheets_rightEdge σ p0) (fun v7 => some v7)))
def F_Shop_sheet (σ : SG) (p0 : Int32) (p1 : Int32) : Option (Int32) := (if (F_Shop_maySheet σ p0) = true then (if (F_Shop_within p1 0 5) = true then (if (F_Shop_isCut σ) = true then (ob (F_Sheets_tell σ p0 p1) (fun v4 => some v4)) else some (-3)) else some (-2)) else some (-2))
def L_Painter_makeAnew_32 (p0 : Int32) (x : Int32 × Int32 × SG) : Option ((Int32 × Int32 × SG) ⊕ ((Int32 × SG) ⊕ (Int32 × SG))) := (if (x.2.2 18 0) ≤ x.2.1 then some (.inr (.inl (x.1, x.2.2))) else (if (rg x.2.2 30 240 x.2.1) = p0 then (if (rg x.2.2 28 240 x.2.1) = (-1) then some (.inl (x.1, (x.2.1 + 1), x.2.2)) else (if (rg x.2.2 44 10 (rg x.2.2 28 240 x.2.1)) < (rg x.2.2 24 240 x.2.1) then (ob (F_Painter_nearestFor x.2.2 x.2.1) (fun v6 => (if v6 = (-1) then some (.inr (.inr ((-3), (rc (rc x.2.2 44 10 54 10) 28 240 56 240)))) else (if v6 = (rg x.2.2 28 240 x.2.1) then some (.inl ((x.1 + 0), (x.2.1 + 1), (F_Painter_give x.2.2 v6 x.2.1))) else some (.inl ((x.1 + 1), (x.2.1 + 1), (F_Painter_give x.2.2 v6 x.2.1))))))) else (if (rg x.2.2 28 240 x.2.1) = (-1) then some (.inr (.inr ((-3), (rc (rc x.2.2 44 10 54 10) 28 240 56 240)))) else (nm (F_Painter_give x.2.2 (rg x.2.2 28 240 x.2.1) x.2.1) (fun s10 => (if (rg x.2.2 28 240 x.2.1) = (rg x.2.2 28 240 x.2.1) then some (.inl ((x.1 + 0), (x.2.1 + 1), s10)) else some (.inl ((x.1 + 1), (x.2.1 + 1), s10)))))))) else some (.inl (x.1, (x.2.1 + 1), x.2.2))))
def F_Painter_makeAnew (σ : SG) (p0 : Int32) : Option (Int32 × SG) := (ob (lpW (L_Painter_makeAnew_32 p0) FU (0, 0, (rc (rc σ 54 10 44 10) 56 240 28 240))) (fun y1 => Sum.elim (fun y1 : Int32 × SG => some (y1.1, y1.2)) (fun q1 : Int32 × SG => some q1) y1))
def F_Shop_broken (σ : SG) (p0 : Int32) : Option (Int32 × SG) := (if (F_Shop_maySheet σ p0) = true then (if (F_Shop_isCut σ) = true then (if (σ 52 0) = 0 then some ((-3), σ) else (ob (F_Painter_makeAnew σ p0) (fun v4 => some (v4.1, v4.2)))) else some ((-3), σ)) else some ((-2), σ))
def L_Sheets_latestCrate_8 (σ : SG) (p0 : Int32) (p1 : Int32) (x : Int32 × Int32 × Int32) : Option ((Int32 × Int32 × Int32) ⊕ (Int32)) := (if p1 < x.2.2 then some (.inr x.1) else (if (σ 57 0) ≤ x.2.2 then some (.inr x.1) else (if (rg σ 59 240 x.2.2) ≤ 0 then some (.inl (x.1, (x.2.1 + (rg σ 59 240 x.2.2)), (x.2.2 + 1))) else (if x.1 = (-1) then some (.inl ((x.1 + 1), (0 + (rg σ 59 240 x.2.2)), (x.2.2 + 1))) else (if (x.2.1 + (rg σ 59 240 x.2.2)) ≤ p0 then some (.inl (x.1, (x.2.1 + (rg σ 59 240 x.2.2)), (x.2.2 + 1))) else some (.inl ((x.1 + 1), (0 + (rg σ 59 240 x.2.2)), (x.2.2 + 1))))))))
def F_Sheets_latestCrate (σ : SG) (p0 : Int32) (p1 : Int32) : Option (Int32) := (ob (lpW (L_Sheets_latestCrate_8 σ p0 p1) FU ((-1), 0, 0)) (fun y1 => some y1))
def F_Shop_crates (σ : SG) (p0 : Int32) : Option (Int32) := (if (F_Shop_within p0 1 240) = true then (if (F_Shop_isCut σ) = true then (ob (F_Sheets_latestCrate σ p0 ((σ 57 0) - 1)) (fun v3 => some (v3 + 1))) else some (-3)) else some (-2))
def F_Shop_crate (σ : SG) (p0 : Int32) (p1 : Int32) : Option (Int32) := (if (F_Shop_within p0 1 240) = true then (if (F_Shop_maySheet σ p1) = true then (if (F_Shop_isCut σ) = true then (if (rg σ 59 240 p1) ≤ 0 then some (-1) else (ob (F_Sheets_latestCrate σ p0 p1) (fun v5 => some v5))) else some (-3)) else some (-2)) else some (-2))
def F_Hands_hire (σ : SG) (p0 : Int32) (p1 : Bool) : Int32 × SG := (if p1 = true then (nm (rs (rs σ 62 4 (σ 60 0) p0) 64 4 ((rs σ 62 4 (σ 60 0) p0) 60 0) 1) (fun s3 => ((((up s3 60 0 ((s3 60 0) + 1)) 60 0) - 1), (up s3 60 0 ((s3 60 0) + 1))))) else (nm (rs (rs σ 62 4 (σ 60 0) p0) 64 4 ((rs σ 62 4 (σ 60 0) p0) 60 0) 0) (fun s2 => ((((up s2 60 0 ((s2 60 0) + 1)) 60 0) - 1), (up s2 60 0 ((s2 60 0) + 1))))))
def F_Shop_hand (σ : SG) (p0 : Int32) (p1 : Bool) : Int32 × SG := (if (F_Shop_within p0 1 20) = true then (if 4 ≤ (σ 60 0) then ((-4), σ) else ((F_Hands_hire σ p0 p1).1, (F_Hands_hire σ p0 p1).2)) else ((-2), σ))
def F_Hands_isMaster (σ : SG) (p0 : Int32) : Bool := (if (rg σ 64 4 p0) = 1 then true else false)
def L_Hands_haveMaster_4 (σ : SG) (x : Bool × Int32) : Option ((Bool × Int32) ⊕ (Bool)) := (if (σ 60 0) ≤ x.2 then some (.inr x.1) else (if x.1 = true then some (.inl (true, (x.2 + 1))) else (if (F_Hands_isMaster σ x.2) = true then some (.inl (true, (x.2 + 1))) else some (.inl (false, (x.2 + 1))))))
def F_Hands_haveMaster (σ : SG) : Option (Bool) := (ob (lpW (L_Hands_haveMaster_4 σ) FU (false, 0)) (fun y1 => some y1))
def L_Dealer_gather_7 (x : Int32 × SG) : Option ((Int32 × SG) ⊕ ((SG) ⊕ (Bool × SG))) := (if (x.2 57 0) ≤ x.1 then some (.inr (.inl x.2)) else (if (rg x.2 59 240 x.1) ≤ 0 then some (.inl ((x.1 + 1), x.2)) else (ob (F_Sheets_hasHead x.2 x.1) (fun v4 => (if (x.2 65 3) = 9 then some (.inr (.inr (false, x.2))) else (if v4 = true then (ob (F_Hands_haveMaster x.2) (fun v10 => (if v10 = true then (if v4 = true then (nm (rs (rs x.2 67 9 (x.2 65 3) x.1) 69 9 ((rs x.2 67 9 (x.2 65 3) x.1) 65 3) 1) (fun s14 => some (.inl ((x.1 + 1), (up s14 65 3 ((s14 65 3) + 1)))))) else (nm (rs (rs x.2 67 9 (x.2 65 3) x.1) 69 9 ((rs x.2 67 9 (x.2 65 3) x.1) 65 3) 0) (fun s13 => some (.inl ((x.1 + 1), (up s13 65 3 ((s13 65 3) + 1))))))) else some (.inr (.inr (false, x.2)))))) else (if v4 = true then (nm (rs (rs x.2 67 9 (x.2 65 3) x.1) 69 9 ((rs x.2 67 9 (x.2 65 3) x.1) 65 3) 1) (fun s9 => some (.inl ((x.1 + 1), (up s9 65 3 ((s9 65 3) + 1)))))) else (nm (rs (rs x.2 67 9 (x.2 65 3) x.1) 69 9 ((rs x.2 67 9 (x.2 65 3) x.1) 65 3) 0) (fun s8 => some (.inl ((x.1 + 1), (up s8 65 3 ((s8 65 3) + 1)))))))))))))
def F_Dealer_gather (σ : SG) : Option (Bool × SG) := (ob (lpW L_Dealer_gather_7 FU (0, (up σ 65 3 0))) (fun y1 => Sum.elim (fun y1 : SG => some (true, y1)) (fun q1 : Bool × SG => some q1) y1))
def F_Hands_daysFor (σ : SG) (p0 : Int32) (p1 : Int32) : Option (Int32) := (ob (F_Shop_roundedUp p0 (rg σ 62 4 p1)) (fun v1 => some v1))
def L_Dealer_dealFrom_53 (R0 : SG → Int32 → Int32 → Option SG) (p0 : Int32) (p1 : Int32) (k3 : Int32) (x : Int32 × SG) : Option ((Int32 × SG) ⊕ (SG)) := (if (x.2 60 0) ≤ x.1 then some (.inr x.2) else (ob (F_Hands_daysFor x.2 (k3) x.1) (fun v5 => (if (rg x.2 69 9 p0) = 0 then (if true = true then (if (x.2 65 0) ≤ (mxI p1 ((rg x.2 75 4 x.1) + v5)) then some (.inl ((x.1 + 1), x.2)) else (nm (rs (rs x.2 71 9 p0 x.1) 75 4 x.1 ((rg x.2 75 4 x.1) + v5)) (fun s9 => (ob (R0 s9 (p0 + 1) (mxI p1 ((rg x.2 75 4 x.1) + v5))) (fun v10 => (nm (rs v10 75 4 x.1 (((rg x.2 75 4 x.1) + v5) - v5)) (fun s11 => some (.inl ((x.1 + 1), s11))))))))) else some (.inl ((x.1 + 1), x.2))) else (if (F_Hands_isMaster x.2 x.1) = true then (if true = true then (if (x.2 65 0) ≤ (mxI p1 ((rg x.2 75 4 x.1) + v5)) then some (.inl ((x.1 + 1), x.2)) else (nm (rs (rs x.2 71 9 p0 x.1) 75 4 x.1 ((rg x.2 75 4 x.1) + v5)) (fun s20 => (ob (R0 s20 (p0 + 1) (mxI p1 ((rg x.2 75 4 x.1) + v5))) (fun v21 => (nm (rs v21 75 4 x.1 (((rg x.2 75 4 x.1) + v5) - v5)) (fun s22 => some (.inl ((x.1 + 1), s22))))))))) else some (.inl ((x.1 + 1), x.2))) else (if false = true then (if (x.2 65 0) ≤ (mxI p1 ((rg x.2 75 4 x.1) + v5)) then some (.inl ((x.1 + 1), x.2)) else (nm (rs (rs x.2 71 9 p0 x.1) 75 4 x.1 ((rg x.2 75 4 x.1) + v5)) (fun s15 => (ob (R0 s15 (p0 + 1) (mxI p1 ((rg x.2 75 4 x.1) + v5))) (fun v16 => (nm (rs v16 75 4 x.1 (((rg x.2 75 4 x.1) + v5) - v5)) (fun s17 => some (.inl ((x.1 + 1), s17))))))))) else some (.inl ((x.1 + 1), x.2))))))))
def B_Dealer_dealFrom (R0 : SG → Int32 → Int32 → Option SG) (σ : SG) (p0 : Int32) (p1 : Int32) : Option (SG) := (if (σ 65 3) ≤ p0 then some (rc (up σ 65 0 p1) 73 9 71 9) else (if p0 < 9 then (ob (lpW (L_Dealer_dealFrom_53 R0 p0 p1 (rg σ 59 240 (rg σ 67 9 p0))) FU (0, σ)) (fun y3 => some y3)) else some (rc (up σ 65 0 p1) 73 9 71 9)))
def R_Dealer_dealFrom : Nat → SG → Int32 → Int32 → Option SG
  | 0, _, _, _ => none
  | n + 1, σ, p0, p1 => B_Dealer_dealFrom (R_Dealer_dealFrom n) σ p0 p1
def F_Dealer_dealFrom (σ : SG) (p0 p1 : Int32) : Option SG := R_Dealer_dealFrom 11 σ p0 p1
def F_Dealer_dealSheets (σ : SG) : Option (Bool × SG) := (if (σ 60 0) = 0 then some (false, σ) else (ob (F_Dealer_gather σ) (fun v2 => (if v2.1 = true then (ob (F_Dealer_dealFrom (rf (up v2.2 65 0 1000000) 75 4 0) 0 0) (fun v4 => some (true, v4))) else some (false, v2.2)))))
def F_Shop_days (σ : SG) : Option (Int32 × SG) := (if (F_Shop_isCut σ) = true then (ob (F_Dealer_dealSheets σ) (fun v2 => (if v2.1 = true then some ((v2.2 65 0), v2.2) else some ((-3), v2.2)))) else some ((-3), σ))
def L_Dealer_handOf_2 (σ : SG) (p0 : Int32) (x : Int32) : Option ((Int32) ⊕ ((Unit) ⊕ (Int32))) := (if (σ 65 3) ≤ x then some (.inr (.inl ())) else (if (rg σ 67 9 x) = p0 then some (.inr (.inr (rg σ 73 9 x))) else some (.inl (x + 1))))
def F_Dealer_handOf (σ : SG) (p0 : Int32) : Option (Int32) := (ob (lpW (L_Dealer_handOf_2 σ p0) FU 0) (fun y1 => Sum.elim (fun y1 : Unit => some (-1)) (fun q1 : Int32 => some q1) y1))
def F_Shop_dealt (σ : SG) (p0 : Int32) : Option (Int32 × SG) := (if (F_Shop_maySheet σ p0) = true then (if (F_Shop_isCut σ) = true then (ob (F_Dealer_dealSheets σ) (fun v3 => (if v3.1 = true then (ob (F_Dealer_handOf v3.2 p0) (fun v5 => some (v5, v3.2))) else some ((-3), v3.2)))) else some ((-3), σ)) else some ((-2), σ))
def L_Lots_leftInAll_4 (σ : SG) (x : Int32 × Int32) : Option ((Int32 × Int32) ⊕ (Int32)) := (if (σ 42 0) ≤ x.2 then some (.inr x.1) else some (.inl ((x.1 + (rg σ 44 10 x.2)), (x.2 + 1))))
def F_Lots_leftInAll (σ : SG) : Option (Int32) := (ob (lpW (L_Lots_leftInAll_4 σ) FU (0, 0)) (fun y1 => some y1))
def L_Drawing_placesOfAll_4 (σ : SG) (x : Int32 × Int32) : Option ((Int32 × Int32) ⊕ (Int32)) := (if 8 ≤ x.2 then some (.inr x.1) else (if (rg σ 15 8 x.2) = 1 then (ob (F_Drawing_placesOf σ x.2) (fun v4 => some (.inl ((x.1 + v4), (x.2 + 1))))) else some (.inl (x.1, (x.2 + 1)))))
def F_Drawing_placesOfAll (σ : SG) : Option (Int32) := (ob (lpW (L_Drawing_placesOfAll_4 σ) FU (0, 0)) (fun y1 => some y1))
def F_Shop_count (σ : SG) (p0 : Int32) : Option (Int32) := (if (F_Shop_within p0 0 8) = true then (tsS p0 0 [some (σ 1 0), some (σ 1 1), some (σ 18 0), (if (σ 52 0) = 0 then some (-3) else (ob (F_Painter_bareCubes σ) (fun v4 => some v4))), some (σ 42 0), some (σ 57 0), some (σ 60 0), (ob (F_Lots_leftInAll σ) (fun v5 => some v5))] (if (F_Shop_isLaid σ) = true then (ob (F_Drawing_placesOfAll σ) (fun v7 => some v7)) else some (-3))) else some (-2))
def L_Shop_digest_6 (σ : SG) (x : Int64 × Int32) : Option ((Int64 × Int32) ⊕ (Int64)) := (if 8 < x.2 then some (.inr x.1) else (ob (F_Shop_count σ x.2) (fun v3 => some (.inl (((31 * x.1) + v3.toInt64), (x.2 + 1))))))
def L_Shop_digest_47 (σ : SG) (k3 : Int32) (x : Int64 × Int32) : Option ((Int64 × Int32) ⊕ (Int64)) := (if (σ 1 0) ≤ x.2 then some (.inr x.1) else some (.inl (((31 * x.1) + (F_Drawing_fieldAt σ x.2 (k3)).toInt64), (x.2 + 1))))
def L_Shop_digest_33 (σ : SG) (x : Int64 × Int32) : Option ((Int64 × Int32) ⊕ (Int64)) := (if (σ 1 1) ≤ x.2 then some (.inr x.1) else (ob (lpW (L_Shop_digest_47 σ x.2) FU (x.1, 0)) (fun y6 => some (.inl (y6, (x.2 + 1))))))
def L_Shop_digest_105 (σ : SG) (k3 : Int32) (x : Int64 × Int32) : Option ((Int64 × Int32) ⊕ (Int64)) := (if 6 < x.2 then some (.inr x.1) else some (.inl (((31 * x.1) + (F_Cubes_tell σ (k3) x.2).toInt64), (x.2 + 1))))
def L_Shop_digest_91 (σ : SG) (x : Int64 × Int32) : Option ((Int64 × Int32) ⊕ (Int64)) := (if (σ 18 0) ≤ x.2 then some (.inr x.1) else (ob (lpW (L_Shop_digest_105 σ x.2) FU (x.1, 0)) (fun y10 => some (.inl (y10, (x.2 + 1))))))
def L_Shop_digest_144 (σ : SG) (x : Int64 × Int32) : Option ((Int64 × Int32) ⊕ (Int64)) := (if (σ 42 0) ≤ x.2 then some (.inr x.1) else some (.inl (((31 * x.1) + (rg σ 44 10 x.2).toInt64), (x.2 + 1))))
def F_Shop_digest (σ : SG) : Option (Int64) := (ob (lpW (L_Shop_digest_6 σ) FU (149, 0)) (fun y1 => (ob (lpW (L_Shop_digest_33 σ) FU (y1, 0)) (fun y4 => (ob (lpW (L_Shop_digest_91 σ) FU (y4, 0)) (fun y8 => (ob (lpW (L_Shop_digest_144 σ) FU (y8, 0)) (fun y12 => some y12))))))))
def F_Ref_in (p0 : Int32) (p1 : Int32) (p2 : Int32) : Bool := (if p0 < p1 then false else (if p2 < p0 then false else true))
def F_Ref_goes (σ : SG) : SG := (nm (up (up (up (up (up σ 76 7 0) 76 8 0) 76 9 0) 76 10 0) 76 17 0) (fun s1 => s1))
def L_Ref_wall_35 (x : Int32 × SG) : Option ((Int32 × SG) ⊕ (SG)) := (if 240 ≤ x.1 then some (.inr x.2) else (og (vin x.1 240) (some (.inl ((x.1 + 1), (up x.2 77 (ix x.1) 0))))))
def F_Ref_wall (σ : SG) (p0 : Int32) (p1 : Int32) : Option (Int32 × SG) := (if (F_Ref_in p0 1 24) = true then (if (F_Ref_in p1 1 10) = true then (ob (lpW L_Ref_wall_35 FU (0, (up (up σ 76 0 p0) 76 1 p1))) (fun y3 => some (1, (F_Ref_goes y3)))) else some ((-2), σ)) else some ((-2), σ))
def L_Ref_draw_87 (p2 : Int32) (p4 : Int32) (k7 : Int32) (x : Int32 × Int32 × SG) : Option ((Int32 × Int32 × SG) ⊕ (Int32 × SG)) := (if p2 < x.2.1 then some (.inr (x.1, x.2.2)) else (og (vin ((24 * k7) + x.2.1) 240) ((if (x.2.2 77 (ix ((24 * k7) + x.2.1))) = p4 then (og (vin ((24 * k7) + x.2.1) 240) ((nm (up x.2.2 77 (ix ((24 * k7) + x.2.1)) p4) (fun s13 => some (.inl ((x.1 + 0), (x.2.1 + 1), s13)))))) else (og (vin ((24 * k7) + x.2.1) 240) ((nm (up x.2.2 77 (ix ((24 * k7) + x.2.1)) p4) (fun s15 => some (.inl ((x.1 + 1), (x.2.1 + 1), s15))))))))))
def L_Ref_draw_77 (p0 : Int32) (p2 : Int32) (p3 : Int32) (p4 : Int32) (x : Int32 × Int32 × SG) : Option ((Int32 × Int32 × SG) ⊕ (Int32 × SG)) := (if p3 < x.2.1 then some (.inr (x.1, x.2.2)) else (ob (lpW (L_Ref_draw_87 p2 p4 x.2.1) FU (x.1, p0, x.2.2)) (fun y8 => some (.inl (y8.1, (x.2.1 + 1), y8.2)))))
def F_Ref_draw (σ : SG) (p0 : Int32) (p1 : Int32) (p2 : Int32) (p3 : Int32) (p4 : Int32) : Option (Int32 × SG) := (if (F_Ref_in p0 0 ((σ 76 0) - 1)) = true then (if (F_Ref_in p2 p0 ((σ 76 0) - 1)) = true then (if (F_Ref_in p1 0 ((σ 76 1) - 1)) = true then (if (F_Ref_in p3 p1 ((σ 76 1) - 1)) = true then (if (F_Ref_in p4 0 7) = true then (ob (lpW (L_Ref_draw_77 p0 p2 p3 p4) FU (0, p1, σ)) (fun y6 => (if y6.1 ≤ 0 then some (y6.1, y6.2) else some (y6.1, (F_Ref_goes y6.2))))) else some ((-2), σ)) else some ((-2), σ)) else some ((-2), σ)) else some ((-2), σ)) else some ((-2), σ))
def F_Ref_isPlace (σ : SG) (p0 : Int32) (p1 : Int32) : Bool := (if (F_Ref_in p0 0 ((σ 76 0) - 1)) = true then (if (F_Ref_in p1 0 ((σ 76 1) - 1)) = true then true else false) else false)
def F_Ref_field (σ : SG) (p0 : Int32) (p1 : Int32) : Option (Int32) := (if (F_Ref_isPlace σ p0 p1) = true then (og (vin ((24 * p1) + p0) 240) (some (σ 77 (ix ((24 * p1) + p0))))) else some (-2))
def F_Ref_isColour (p0 : Int32) (p1 : Int32) (p2 : Int32) : Bool := (if (F_Ref_in p0 0 255) = true then (if (F_Ref_in p1 0 255) = true then (if (F_Ref_in p2 0 255) = true then true else false) else false) else false)
def F_Ref_colour (σ : SG) (p0 : Int32) (p1 : Int32) (p2 : Int32) (p3 : Int32) : Option (Int32 × SG) := (if (F_Ref_in p0 0 7) = true then (if (F_Ref_isColour p1 p2 p3) = true then (og (vin (3 * p0) 24) ((og (vin ((3 * p0) + 1) 24) ((nm (up (up σ 78 (ix (3 * p0)) p1) 78 (ix ((3 * p0) + 1)) p2) (fun s5 => (og (vin ((3 * p0) + 2) 24) (some (1, (up s5 78 (ix ((3 * p0) + 2)) p3)))))))))) else some ((-2), σ)) else some ((-2), σ))
def F_Ref_mark (σ : SG) (p0 : Int32) (p1 : Int32) (p2 : Bool) (p3 : Bool) : Option (Int32 × SG) := (if (F_Ref_in p0 0 7) = true then (if (F_Ref_in p1 1 3) = true then (og (vin p0 8) ((og (vin p0 8) ((nm (up (up σ 79 (ix p0) (3 - p1)) 80 (ix p0) (bI p2)) (fun s5 => (og (vin p0 8) (some (1, (up s5 81 (ix p0) (bI p3))))))))))) else some ((-2), σ)) else some ((-2), σ))
def L_Ref_strip_56 (p2 : Int32) (k4 : Int32) (x : Int32 × SG) : Option ((Int32 × SG) ⊕ (SG)) := (if x.1 ≤ 0 then some (.inr x.2) else (if p2 < (k4 + x.1) then some (.inl ((x.1 + (-1)), x.2)) else (if (k4 + x.1) = p2 then (og (vin (k4 + x.1) 25) ((og (vin (k4) 25) ((if (x.2 94 (ix (k4))) ≤ ((x.2 94 (ix (k4 + x.1))) + 1) then some (.inl ((x.1 + (-1)), x.2)) else (og (vin (k4 + x.1) 25) ((og (vin (k4) 25) ((nm (up x.2 94 (ix (k4)) ((x.2 94 (ix (k4 + x.1))) + 1)) (fun s18 => (og (vin (k4) 25) (some (.inl ((x.1 + (-1)), (up s18 95 (ix (k4)) x.1)))))))))))))))) else (og (vin (k4 + x.1) 25) ((if (x.2 92 (ix (k4 + x.1))) = 0 then (og (vin (k4 + x.1) 25) ((og (vin (k4) 25) ((if (x.2 94 (ix (k4))) ≤ ((x.2 94 (ix (k4 + x.1))) + 1) then some (.inl ((x.1 + (-1)), x.2)) else (og (vin (k4 + x.1) 25) ((og (vin (k4) 25) ((nm (up x.2 94 (ix (k4)) ((x.2 94 (ix (k4 + x.1))) + 1)) (fun s27 => (og (vin (k4) 25) (some (.inl ((x.1 + (-1)), (up s27 95 (ix (k4)) x.1)))))))))))))))) else some (.inl ((x.1 + (-1)), x.2))))))))
def L_Ref_strip_12 (p0 : Int32) (p1 : Int32) (p2 : Int32) (x : Int32 × SG) : Option ((Int32 × SG) ⊕ (SG)) := (if x.1 < p1 then some (.inr x.2) else (og (vin x.1 25) ((og (vin x.1 25) ((nm (up (up x.2 94 (ix x.1) 999) 95 (ix x.1) 0) (fun s6 => (og (vin ((24 * p0) + p1) 240) ((og (vin (s6 77 (ix ((24 * p0) + p1))) 8) ((ob (lpW (L_Ref_strip_56 p2 x.1) FU ((3 - (s6 79 (ix (s6 77 (ix ((24 * p0) + p1)))))), s6)) (fun y9 => some (.inl ((x.1 + (-1)), y9)))))))))))))))
def L_Ref_strip_163 (p0 : Int32) (p2 : Int32) (x : Int32 × SG) : Option ((Int32 × SG) ⊕ (SG)) := (if p2 ≤ x.1 then some (.inr x.2) else (og (vin (x.2 76 10) 240) ((og (vin ((up x.2 82 (ix (x.2 76 10)) p0) 76 10) 240) ((nm (up (up x.2 82 (ix (x.2 76 10)) p0) 83 (ix ((up x.2 82 (ix (x.2 76 10)) p0) 76 10)) x.1) (fun s35 => (og (vin x.1 25) ((og (vin (s35 76 10) 240) ((nm (up s35 84 (ix (s35 76 10)) (s35 95 (ix x.1))) (fun s38 => (og (vin ((24 * p0) + x.1) 240) ((og (vin (s38 76 10) 240) ((nm (up s38 85 (ix (s38 76 10)) (s38 77 (ix ((24 * p0) + x.1)))) (fun s41 => (og (vin (s41 76 10) 240) ((og (vin ((up s41 86 (ix (s41 76 10)) (-1)) 76 10) 240) ((nm (up (up s41 86 (ix (s41 76 10)) (-1)) 87 (ix ((up s41 86 (ix (s41 76 10)) (-1)) 76 10)) (-1)) (fun s44 => (og (vin x.1 25) ((if p2 ≤ (x.1 + ((up s44 76 10 ((s44 76 10) + 1)) 95 (ix x.1))) then some (.inl ((x.1 + ((up s44 76 10 ((s44 76 10) + 1)) 95 (ix x.1))), (up s44 76 10 ((s44 76 10) + 1)))) else (og (vin (x.1 + ((up s44 76 10 ((s44 76 10) + 1)) 95 (ix x.1))) 25) ((nm (up (up s44 76 10 ((s44 76 10) + 1)) 93 (ix (x.1 + ((up s44 76 10 ((s44 76 10) + 1)) 95 (ix x.1)))) 1) (fun s48 => some (.inl ((x.1 + ((up s44 76 10 ((s44 76 10) + 1)) 95 (ix x.1))), s48))))))))))))))))))))))))))))))))))
def F_Ref_strip (σ : SG) (p0 : Int32) (p1 : Int32) (p2 : Int32) : Option (Bool × SG) := (og (vin p2 25) ((ob (lpW (L_Ref_strip_12 p0 p1 p2) FU ((p2 - 1), (up σ 94 (ix p2) 0))) (fun y2 => (og (vin p1 25) ((if (y2 94 (ix p1)) < 999 then (ob (lpW (L_Ref_strip_163 p0 p2) FU (p1, y2)) (fun y31 => some (true, y31))) else some (false, y2))))))))
def L_Ref_lay_6 (x : Int32 × SG) : Option ((Int32 × SG) ⊕ (SG)) := (if 25 ≤ x.1 then some (.inr x.2) else (og (vin x.1 25) (some (.inl ((x.1 + 1), (up x.2 92 (ix x.1) 0))))))
def L_Ref_lay_37 (x : Int32 × SG) : Option ((Int32 × SG) ⊕ (SG)) := (if 25 ≤ x.1 then some (.inr x.2) else (og (vin x.1 25) (some (.inl ((x.1 + 1), (up x.2 93 (ix x.1) 0))))))
def L_Ref_lay_68 (x9 : Int32 × SG) (k1 : Int32) (k2 : Int32) (x : Int32) : Option ((Int32) ⊕ (Int32)) := (if (x9.2 76 0) ≤ x then some (.inr x) else (og (vin ((24 * k1) + x) 240) ((og (vin ((24 * k1) + k2) 240) ((if (x9.2 77 (ix ((24 * k1) + x))) = (x9.2 77 (ix ((24 * k1) + k2))) then some (.inl (x + 1)) else some (.inr x)))))))
def L_Ref_lay_58 (k1 : Int32) (x : Int32 × SG) : Option ((Int32 × SG) ⊕ ((SG) ⊕ (Int32 × SG))) := (if (x.2 76 0) ≤ x.1 then some (.inr (.inl x.2)) else (ob (lpW (L_Ref_lay_68 x (k1) x.1) FU x.1) (fun y11 => (ob (F_Ref_strip x.2 (k1) x.1 y11) (fun v16 => (if v16.1 = true then some (.inl (y11, v16.2)) else some (.inr (.inr ((((-1000) - (24 * k1)) - x.1), (F_Ref_goes v16.2))))))))))
def L_Ref_lay_139 (x : Int32 × SG) : Option ((Int32 × SG) ⊕ (SG)) := (if 25 ≤ x.1 then some (.inr x.2) else (og (vin x.1 25) ((og (vin x.1 25) ((og (nbz (x.2 93 (ix x.1))) ((nm (up x.2 92 (ix x.1) (x.2 93 (ix x.1))) (fun s23 => some (.inl ((x.1 + 1), s23)))))))))))
def L_Ref_lay_27 (x : Int32 × SG) : Option ((Int32 × SG) ⊕ ((SG) ⊕ (Int32 × SG))) := (if (x.2 76 1) ≤ x.1 then some (.inr (.inl x.2)) else (ob (lpW L_Ref_lay_37 FU (0, x.2)) (fun y6 => (ob (lpW (L_Ref_lay_58 x.1) FU (0, y6)) (fun y9 => Sum.elim (fun y9 : SG => (ob (lpW L_Ref_lay_139 FU (0, y9)) (fun y18 => some (.inl ((x.1 + 1), y18))))) (fun q9 : Int32 × SG => some (.inr (.inr q9))) y9)))))
def F_Ref_lay (σ : SG) : Option (Int32 × SG) := (ob (lpW L_Ref_lay_6 FU (0, (F_Ref_goes σ))) (fun y1 => (ob (lpW L_Ref_lay_27 FU (0, y1)) (fun y4 => Sum.elim (fun y4 : SG => some (((up y4 76 7 1) 76 10), (up y4 76 7 1))) (fun q4 : Int32 × SG => some q4) y4))))
def L_Ref_at_14 (σ : SG) (p0 : Int32) (p1 : Int32) (x : Int32) : Option ((Int32) ⊕ ((Unit) ⊕ (Int32))) := (if (σ 76 10) ≤ x then some (.inr (.inl ())) else (og (vin x 240) ((if (σ 82 (ix x)) = p1 then (og (vin x 240) ((if p0 < (σ 83 (ix x)) then some (.inl (x + 1)) else (og (vin x 240) ((og (vin x 240) ((if ((σ 83 (ix x)) + (σ 84 (ix x))) ≤ p0 then some (.inl (x + 1)) else some (.inr (.inr x)))))))))) else some (.inl (x + 1))))))
def F_Ref_at (σ : SG) (p0 : Int32) (p1 : Int32) : Option (Int32) := (if (F_Ref_isPlace σ p0 p1) = true then (ob (lpW (L_Ref_at_14 σ p0 p1) FU 0) (fun y2 => Sum.elim (fun y2 : Unit => some (-1)) (fun q2 : Int32 => some q2) y2)) else some (-2))
def L_Ref_faceDown_18 (σ : SG) (p0 : Int32) (x : Int32 × Int32) : Option ((Int32 × Int32) ⊕ (Int32)) := (if (σ 76 10) ≤ x.2 then some (.inr x.1) else (og (vin x.2 240) ((og (vin p0 240) ((if (σ 82 (ix x.2)) = (σ 82 (ix p0)) then (og (vin x.2 240) ((og (vin p0 240) ((if (σ 87 (ix x.2)) = (σ 87 (ix p0)) then (og (vin x.2 240) (some (.inl ((x.1 + (σ 84 (ix x.2))), (x.2 + 1))))) else some (.inl ((x.1 + 0), (x.2 + 1)))))))) else some (.inl ((x.1 + 0), (x.2 + 1)))))))))
def F_Ref_faceDown (σ : SG) (p0 : Int32) : Option (Int32) := (og (vin p0 240) ((if (σ 87 (ix p0)) = (-1) then some (-1) else (ob (lpW (L_Ref_faceDown_18 σ p0) FU (0, (p0 + 1))) (fun y3 => some y3)))))
def F_Ref_cube (σ : SG) (p0 : Int32) (p1 : Int32) : Option (Int32) := (if (F_Ref_in p1 0 6) = true then (if (F_Ref_in p0 0 ((σ 76 10) - 1)) = true then (tsS p1 0 [(og (vin p0 240) (some (σ 82 (ix p0)))), (og (vin p0 240) (some (σ 83 (ix p0)))), (og (vin p0 240) (some (σ 84 (ix p0)))), (og (vin p0 240) (some (σ 85 (ix p0)))), (og (vin p0 240) (some (σ 86 (ix p0)))), (og (vin p0 240) (some (σ 87 (ix p0))))] (ob (F_Ref_faceDown σ p0) (fun v10 => some v10))) else some (-1)) else some (-2))
def F_Ref_lot (σ : SG) (p0 : Int32) (p1 : Int32) (p2 : Int32) (p3 : Int32) : Option (Int32 × SG) := (if (F_Ref_isColour p0 p1 p2) = true then (if (F_Ref_in p3 0 1000) = true then (if (σ 76 18) = 10 then some ((-4), σ) else (og (vin (3 * (σ 76 18)) 30) ((og (vin ((3 * ((up σ 88 (ix (3 * (σ 76 18))) p0) 76 18)) + 1) 30) ((nm (up (up σ 88 (ix (3 * (σ 76 18))) p0) 88 (ix ((3 * ((up σ 88 (ix (3 * (σ 76 18))) p0) 76 18)) + 1)) p1) (fun s6 => (og (vin ((3 * (s6 76 18)) + 2) 30) ((og (vin ((up s6 88 (ix ((3 * (s6 76 18)) + 2)) p2) 76 18) 10) ((nm (up (up s6 88 (ix ((3 * (s6 76 18)) + 2)) p2) 89 (ix ((up s6 88 (ix ((3 * (s6 76 18)) + 2)) p2) 76 18)) p3) (fun s9 => some ((((up s9 76 18 ((s9 76 18) + 1)) 76 18) - 1), (up s9 76 18 ((s9 76 18) + 1)))))))))))))))) else some ((-2), σ)) else some ((-2), σ))
def F_Ref_left (σ : SG) (p0 : Int32) : Option (Int32) := (if (F_Ref_in p0 0 ((σ 76 18) - 1)) = true then (og (vin p0 10) (some (σ 89 (ix p0)))) else some (-2))
def F_Ref_more (σ : SG) (p0 : Int32) (p1 : Int32) : Option (Int32 × SG) := (if (F_Ref_in p0 0 ((σ 76 18) - 1)) = true then (if (F_Ref_in p1 0 1000) = true then (og (vin p0 10) ((if ((σ 89 (ix p0)) + p1) ≤ 1000 then (og (vin p0 10) ((og (vin p0 10) ((og (vin p0 10) (some (((up σ 89 (ix p0) ((σ 89 (ix p0)) + p1)) 89 (ix p0)), (up σ 89 (ix p0) ((σ 89 (ix p0)) + p1))))))))) else some ((-3), σ)))) else some ((-2), σ)) else some ((-2), σ))
def L_Ref_nearest_89_24 (σ : SG) (p0 : Int32) (k6 : Int32) (x : Int32 × Int32) : Option ((Int32 × Int32) ⊕ (Int32)) := (if 3 ≤ x.2 then some (.inr x.1) else (og (vin ((3 * p0) + x.2) 24) ((og (vin ((3 * k6) + x.2) 30) (some (.inl ((x.1 + (((σ 78 (ix ((3 * p0) + x.2))) - (σ 88 (ix ((3 * k6) + x.2)))) * ((σ 78 (ix ((3 * p0) + x.2))) - (σ 88 (ix ((3 * k6) + x.2)))))), (x.2 + 1))))))))
def L_Ref_nearest_89_9 (σ : SG) (p0 : Int32) (p1 : Int32) (x : Int32 × Int32 × Int32) : Option ((Int32 × Int32 × Int32) ⊕ (Int32)) := (if (σ 76 18) ≤ x.2.2 then some (.inr x.1) else (ob (lpW (L_Ref_nearest_89_24 σ p0 x.2.2) FU (0, 0)) (fun y3 => (og (vin x.2.2 10) ((if (σ 89 (ix x.2.2)) < p1 then some (.inl (x.1, x.2.1, (x.2.2 + 1))) else (if x.1 = (-1) then some (.inl (x.2.2, y3, (x.2.2 + 1))) else (if x.2.1 ≤ y3 then some (.inl (x.1, x.2.1, (x.2.2 + 1))) else some (.inl (x.2.2, y3, (x.2.2 + 1)))))))))))
def F_Ref_nearest_89 (σ : SG) (p0 : Int32) (p1 : Int32) : Option (Int32) := (ob (lpW (L_Ref_nearest_89_9 σ p0 p1) FU ((-1), 0, 0)) (fun y1 => some y1))
def L_Ref_bare_4 (σ : SG) (x : Int32 × Int32) : Option ((Int32 × Int32) ⊕ (Int32)) := (if (σ 76 10) ≤ x.2 then some (.inr x.1) else (og (vin x.2 240) ((if (σ 86 (ix x.2)) = (-1) then some (.inl ((x.1 + 1), (x.2 + 1))) else some (.inl ((x.1 + 0), (x.2 + 1)))))))
def F_Ref_bare (σ : SG) : Option (Int32) := (ob (lpW (L_Ref_bare_4 σ) FU (0, 0)) (fun y1 => some y1))
def L_Ref_paint_29 (x3 : Int32 × SG) (k1 : Int32) (x : Int32 × Int32) : Option ((Int32 × Int32) ⊕ (Int32)) := (if (x3.2 76 10) ≤ x.2 then some (.inr x.1) else (og (vin x.2 240) ((if (x3.2 85 (ix x.2)) = k1 then (og (vin x.2 240) (some (.inl ((x.1 + (x3.2 84 (ix x.2))), (x.2 + 1))))) else some (.inl ((x.1 + 0), (x.2 + 1)))))))
def L_Ref_paint_88 (k1 : Int32) (k3 : Int32) (x : Int32 × SG) : Option ((Int32 × SG) ⊕ (SG)) := (if (x.2 76 10) ≤ x.1 then some (.inr x.2) else (og (vin x.1 240) ((if (x.2 85 (ix x.1)) = k1 then (if k3 = (-1) then (og (vin x.1 240) ((ob (F_Ref_nearest_89 x.2 (k1) (x.2 84 (ix x.1))) (fun v24 => (og (vin x.1 240) ((if v24 = (-1) then some (.inl ((x.1 + 1), (up x.2 86 (ix x.1) v24))) else (og (vin v24 10) ((og (vin x.1 240) ((og (vin v24 10) ((nm (up (up x.2 86 (ix x.1) v24) 89 (ix v24) (((up x.2 86 (ix x.1) v24) 89 (ix v24)) - ((up x.2 86 (ix x.1) v24) 84 (ix x.1)))) (fun s30 => some (.inl ((x.1 + 1), s30))))))))))))))))) else (og (vin x.1 240) ((if k3 = (-1) then some (.inl ((x.1 + 1), (up x.2 86 (ix x.1) (k3)))) else (og (vin (k3) 10) ((og (vin x.1 240) ((og (vin (k3) 10) ((nm (up (up x.2 86 (ix x.1) (k3)) 89 (ix (k3)) (((up x.2 86 (ix x.1) (k3)) 89 (ix (k3))) - ((up x.2 86 (ix x.1) (k3)) 84 (ix x.1)))) (fun s22 => some (.inl ((x.1 + 1), s22)))))))))))))) else some (.inl ((x.1 + 1), x.2))))))
def L_Ref_paint_19 (x : Int32 × SG) : Option ((Int32 × SG) ⊕ (SG)) := (if 8 ≤ x.1 then some (.inr x.2) else (ob (lpW (L_Ref_paint_29 x x.1) FU (0, 0)) (fun y5 => (if y5 = 0 then (ob (lpW (L_Ref_paint_88 x.1 (-1)) FU (0, x.2)) (fun y31 => some (.inl ((x.1 + 1), y31)))) else (ob (F_Ref_nearest_89 x.2 x.1 y5) (fun v11 => (ob (lpW (L_Ref_paint_88 x.1 v11) FU (0, x.2)) (fun y12 => some (.inl ((x.1 + 1), y12))))))))))
def F_Ref_paint (σ : SG) : Option (Int32 × SG) := (if (σ 76 7) = 0 then some ((-3), σ) else (if (σ 76 8) = 0 then (ob (lpW L_Ref_paint_19 FU (0, σ)) (fun y3 => (ob (F_Ref_bare (up y3 76 8 1)) (fun v50 => some (v50, (up y3 76 8 1)))))) else some ((-3), σ)))
def L_Ref_scrape_14 (x : Int32 × Int32 × SG) : Option ((Int32 × Int32 × SG) ⊕ (Int32 × SG)) := (if (x.2.2 76 10) ≤ x.2.1 then some (.inr (x.1, x.2.2)) else (og (vin x.2.1 240) ((if (x.2.2 86 (ix x.2.1)) = (-1) then some (.inl (x.1, (x.2.1 + 1), x.2.2)) else (og (vin x.2.1 240) ((og (vin (x.2.2 86 (ix x.2.1)) 10) ((og (vin x.2.1 240) ((if ((x.2.2 89 (ix (x.2.2 86 (ix x.2.1)))) + (x.2.2 84 (ix x.2.1))) ≤ 1000 then (og (vin (x.2.2 86 (ix x.2.1)) 10) ((og (vin x.2.1 240) ((og (vin (x.2.2 86 (ix x.2.1)) 10) ((nm (up x.2.2 89 (ix (x.2.2 86 (ix x.2.1))) ((x.2.2 89 (ix (x.2.2 86 (ix x.2.1)))) + (x.2.2 84 (ix x.2.1)))) (fun s13 => (og (vin x.2.1 240) (some (.inl ((x.1 + (x.2.2 84 (ix x.2.1))), (x.2.1 + 1), (up s13 86 (ix x.2.1) (-1)))))))))))))) else (og (vin (x.2.2 86 (ix x.2.1)) 10) ((nm (up x.2.2 89 (ix (x.2.2 86 (ix x.2.1))) 1000) (fun s16 => (og (vin x.2.1 240) (some (.inl ((x.1 + (x.2.2 84 (ix x.2.1))), (x.2.1 + 1), (up s16 86 (ix x.2.1) (-1)))))))))))))))))))))
def F_Ref_scrape (σ : SG) : Option (Int32 × SG) := (if (σ 76 8) = 0 then some ((-3), σ) else (ob (lpW L_Ref_scrape_14 FU (0, 0, σ)) (fun y2 => some (y2.1, (up y2.2 76 8 0)))))
def L_Ref_changes_31 (σ : SG) (p0 : Int32) (x : Int32 × Int32 × Int32) : Option ((Int32 × Int32 × Int32) ⊕ (Int32)) := (if (σ 76 10) ≤ x.2.2 then some (.inr x.1) else (og (vin x.2.2 240) ((if (σ 85 (ix x.2.2)) = p0 then (if x.2.1 = (-9) then (og (vin x.2.2 240) (some (.inl ((x.1 + 0), (σ 86 (ix x.2.2)), (x.2.2 + 1))))) else (og (vin x.2.2 240) ((if x.2.1 = (σ 86 (ix x.2.2)) then (og (vin x.2.2 240) (some (.inl ((x.1 + 0), (σ 86 (ix x.2.2)), (x.2.2 + 1))))) else (og (vin x.2.2 240) (some (.inl ((x.1 + 1), (σ 86 (ix x.2.2)), (x.2.2 + 1))))))))) else some (.inl (x.1, x.2.1, (x.2.2 + 1)))))))
def F_Ref_changes (σ : SG) (p0 : Int32) : Option (Int32) := (if (F_Ref_in p0 0 7) = true then (if (σ 76 8) = 0 then some (-3) else (ob (lpW (L_Ref_changes_31 σ p0) FU (0, (-9), 0)) (fun y3 => some y3))) else some (-2))
def L_Ref_nearestBorder_5 (σ : SG) (p0 : Int32) (p1 : Int32) (x : Int32 × Int32) : Option ((Int32 × Int32) ⊕ (Int32)) := (if (σ 76 10) ≤ x.2 then some (.inr x.1) else (og (vin x.2 240) ((if (σ 82 (ix x.2)) = p0 then (og (vin x.2 240) ((og (vin x.2 240) ((if ((σ 83 (ix x.2)) + (σ 84 (ix x.2))) ≤ p1 then (if x.1 ≤ p1 then (if (p1 - x.1) ≤ (p1 - ((σ 83 (ix x.2)) + (σ 84 (ix x.2)))) then some (.inl (x.1, (x.2 + 1))) else some (.inl (((σ 83 (ix x.2)) + (σ 84 (ix x.2))), (x.2 + 1)))) else (if (x.1 - p1) ≤ (p1 - ((σ 83 (ix x.2)) + (σ 84 (ix x.2)))) then some (.inl (x.1, (x.2 + 1))) else some (.inl (((σ 83 (ix x.2)) + (σ 84 (ix x.2))), (x.2 + 1))))) else (if x.1 ≤ p1 then (if (p1 - x.1) ≤ (((σ 83 (ix x.2)) + (σ 84 (ix x.2))) - p1) then some (.inl (x.1, (x.2 + 1))) else some (.inl (((σ 83 (ix x.2)) + (σ 84 (ix x.2))), (x.2 + 1)))) else (if (x.1 - p1) ≤ (((σ 83 (ix x.2)) + (σ 84 (ix x.2))) - p1) then some (.inl (x.1, (x.2 + 1))) else some (.inl (((σ 83 (ix x.2)) + (σ 84 (ix x.2))), (x.2 + 1)))))))))) else some (.inl (x.1, (x.2 + 1)))))))
def F_Ref_nearestBorder (σ : SG) (p0 : Int32) (p1 : Int32) : Option (Int32) := (ob (lpW (L_Ref_nearestBorder_5 σ p0 p1) FU (0, 0)) (fun y1 => some y1))
def L_Ref_cut_78 (p1 : Int32) (x7 : Int32 × SG) (k4 : Int32) (x : Int32 × Int32) : Option ((Int32 × Int32) ⊕ (Int32)) := (if (x7.2 76 0) ≤ x.2 then some (.inr x.1) else (og (vin (k4) 240) ((ob (F_Ref_nearestBorder x7.2 (x7.2 82 (ix (k4))) x.2) (fun v12 => (og (vin (k4) 240) ((if (x7.2 83 (ix (k4))) < v12 then some (.inl ((x.1 + 0), (x.2 + p1))) else some (.inl ((x.1 + 1), (x.2 + p1)))))))))))
def L_Ref_cut_63 (p0 : Int32) (p1 : Int32) (k3 : Int32) (x : Int32 × SG) : Option ((Int32 × SG) ⊕ (SG)) := (if (x.2 76 10) ≤ x.1 then some (.inr x.2) else (ob (lpW (L_Ref_cut_78 p1 x x.1) FU (0, p1)) (fun y9 => (og (vin x.1 240) ((og (nz p0) ((og (vin x.1 240) ((nm (up x.2 87 (ix x.1) ((((x.2 82 (ix x.1)) / p0) * k3) + y9)) (fun s18 => some (.inl ((x.1 + 1), s18)))))))))))))
def F_Ref_cut (σ : SG) (p0 : Int32) (p1 : Int32) : Option (Int32 × SG) := (if (F_Ref_in p0 1 10) = true then (if (F_Ref_in p1 1 24) = true then (if (σ 76 7) = 0 then some ((-3), σ) else (og (nz p1) ((og (nz p0) ((nm (up σ 76 17 (((((σ 76 1) + p0) - 1) / p0) * ((((σ 76 0) + p1) - 1) / p1))) (fun s6 => (ob (lpW (L_Ref_cut_63 p0 p1 ((((σ 76 0) + p1) - 1) / p1)) FU (0, s6)) (fun y7 => some (((up y7 76 9 1) 76 17), (up y7 76 9 1))))))))))) else some ((-2), σ)) else some ((-2), σ))
def F_Ref_noSheet (σ : SG) (p0 : Int32) : Int32 := (if p0 < 0 then (-2) else (if (σ 76 9) = 0 then (if (σ 76 9) = 0 then (-3) else 0) else (if p0 < (σ 76 17) then (if (σ 76 9) = 0 then (-3) else 0) else (-2))))
def L_Ref_sumOf_5 (σ : SG) (p0 : Int32) (p1 : Bool) (x : Int32 × Int32) : Option ((Int32 × Int32) ⊕ (Int32)) := (if (σ 76 10) ≤ x.2 then some (.inr x.1) else (og (vin x.2 240) ((if (σ 87 (ix x.2)) = p0 then (if p1 = true then (og (vin x.2 240) ((og (vin (σ 85 (ix x.2)) 8) ((if (σ 80 (ix (σ 85 (ix x.2)))) = 0 then some (.inl ((x.1 + 0), (x.2 + 1))) else (og (vin x.2 240) (some (.inl ((x.1 + (σ 84 (ix x.2))), (x.2 + 1)))))))))) else (og (vin x.2 240) (some (.inl ((x.1 + (σ 84 (ix x.2))), (x.2 + 1)))))) else some (.inl ((x.1 + 0), (x.2 + 1)))))))
def F_Ref_sumOf (σ : SG) (p0 : Int32) (p1 : Bool) : Option (Int32) := (ob (lpW (L_Ref_sumOf_5 σ p0 p1) FU (0, 0)) (fun y1 => some y1))
def L_Ref_hasFace_4 (σ : SG) (p0 : Int32) (x : Bool × Int32) : Option ((Bool × Int32) ⊕ (Bool)) := (if (σ 76 10) ≤ x.2 then some (.inr x.1) else (if x.1 = true then some (.inl (true, (x.2 + 1))) else (og (vin x.2 240) ((if (σ 87 (ix x.2)) = p0 then (og (vin x.2 240) ((og (vin (σ 85 (ix x.2)) 8) ((if (σ 81 (ix (σ 85 (ix x.2)))) = 0 then some (.inl (false, (x.2 + 1))) else some (.inl (true, (x.2 + 1)))))))) else some (.inl (false, (x.2 + 1))))))))
def F_Ref_hasFace (σ : SG) (p0 : Int32) : Option (Bool) := (ob (lpW (L_Ref_hasFace_4 σ p0) FU (false, 0)) (fun y1 => some y1))
def L_Ref_sheet_42 (σ : SG) (p0 : Int32) (x : Int32 × Int32 × Int32 × Int32) : Option ((Int32 × Int32 × Int32 × Int32) ⊕ (Int32 × Int32 × Int32)) := (if (σ 76 10) ≤ x.2.2.2 then some (.inr (x.1, x.2.1, x.2.2.1)) else (og (vin x.2.2.2 240) ((if (σ 87 (ix x.2.2.2)) = p0 then (if x.2.1 = (-1) then (og (vin x.2.2.2 240) ((og (vin x.2.2.2 240) ((og (vin x.2.2.2 240) ((if ((σ 83 (ix x.2.2.2)) + (σ 84 (ix x.2.2.2))) ≤ x.2.2.1 then some (.inl ((x.1 + 1), (σ 83 (ix x.2.2.2)), x.2.2.1, (x.2.2.2 + 1))) else (og (vin x.2.2.2 240) ((og (vin x.2.2.2 240) (some (.inl ((x.1 + 1), (σ 83 (ix x.2.2.2)), ((σ 83 (ix x.2.2.2)) + (σ 84 (ix x.2.2.2))), (x.2.2.2 + 1)))))))))))))) else (og (vin x.2.2.2 240) ((if x.2.1 ≤ (σ 83 (ix x.2.2.2)) then (og (vin x.2.2.2 240) ((og (vin x.2.2.2 240) ((if ((σ 83 (ix x.2.2.2)) + (σ 84 (ix x.2.2.2))) ≤ x.2.2.1 then some (.inl ((x.1 + 1), x.2.1, x.2.2.1, (x.2.2.2 + 1))) else (og (vin x.2.2.2 240) ((og (vin x.2.2.2 240) (some (.inl ((x.1 + 1), x.2.1, ((σ 83 (ix x.2.2.2)) + (σ 84 (ix x.2.2.2))), (x.2.2.2 + 1)))))))))))) else (og (vin x.2.2.2 240) ((og (vin x.2.2.2 240) ((og (vin x.2.2.2 240) ((if ((σ 83 (ix x.2.2.2)) + (σ 84 (ix x.2.2.2))) ≤ x.2.2.1 then some (.inl ((x.1 + 1), (σ 83 (ix x.2.2.2)), x.2.2.1, (x.2.2.2 + 1))) else (og (vin x.2.2.2 240) ((og (vin x.2.2.2 240) (some (.inl ((x.1 + 1), (σ 83 (ix x.2.2.2)), ((σ 83 (ix x.2.2.2)) + (σ 84 (ix x.2.2.2))), (x.2.2.2 + 1)))))))))))))))))) else some (.inl (x.1, x.2.1, x.2.2.1, (x.2.2.2 + 1)))))))
def F_Ref_sheet (σ : SG) (p0 : Int32) (p1 : Int32) : Option (Int32) := (if (F_Ref_noSheet σ p0) = (-2) then some (-2) else (if (F_Ref_in p1 0 5) = true then (if 0 ≤ (F_Ref_noSheet σ p0) then (ob (lpW (L_Ref_sheet_42 σ p0) FU (0, (-1), (-1), 0)) (fun y4 => (tsS p1 0 [some y4.1, (ob (F_Ref_sumOf σ p0 false) (fun v29 => some v29)), (ob (F_Ref_sumOf σ p0 true) (fun v30 => some v30)), (ob (F_Ref_hasFace σ p0) (fun v31 => (if v31 = true then some 1 else some 0))), some y4.2.1] (some y4.2.2)))) else some (F_Ref_noSheet σ p0)) else some (-2)))
def L_Ref_nearest_96_24 (σ : SG) (p0 : Int32) (k6 : Int32) (x : Int32 × Int32) : Option ((Int32 × Int32) ⊕ (Int32)) := (if 3 ≤ x.2 then some (.inr x.1) else (og (vin ((3 * p0) + x.2) 24) ((og (vin ((3 * k6) + x.2) 30) (some (.inl ((x.1 + (((σ 78 (ix ((3 * p0) + x.2))) - (σ 88 (ix ((3 * k6) + x.2)))) * ((σ 78 (ix ((3 * p0) + x.2))) - (σ 88 (ix ((3 * k6) + x.2)))))), (x.2 + 1))))))))
def L_Ref_nearest_96_9 (σ : SG) (p0 : Int32) (p1 : Int32) (x : Int32 × Int32 × Int32) : Option ((Int32 × Int32 × Int32) ⊕ (Int32)) := (if (σ 76 18) ≤ x.2.2 then some (.inr x.1) else (ob (lpW (L_Ref_nearest_96_24 σ p0 x.2.2) FU (0, 0)) (fun y3 => (og (vin x.2.2 10) ((if (σ 96 (ix x.2.2)) < p1 then some (.inl (x.1, x.2.1, (x.2.2 + 1))) else (if x.1 = (-1) then some (.inl (x.2.2, y3, (x.2.2 + 1))) else (if x.2.1 ≤ y3 then some (.inl (x.1, x.2.1, (x.2.2 + 1))) else some (.inl (x.2.2, y3, (x.2.2 + 1)))))))))))
def F_Ref_nearest_96 (σ : SG) (p0 : Int32) (p1 : Int32) : Option (Int32) := (ob (lpW (L_Ref_nearest_96_9 σ p0 p1) FU ((-1), 0, 0)) (fun y1 => some y1))
def L_Ref_broken_24 (x : Int32 × SG) : Option ((Int32 × SG) ⊕ (SG)) := (if 10 ≤ x.1 then some (.inr x.2) else (og (vin x.1 10) ((og (vin x.1 10) (some (.inl ((x.1 + 1), (up x.2 96 (ix x.1) (x.2 89 (ix x.1))))))))))
def L_Ref_broken_53 (p0 : Int32) (x : Int32 × Int32 × SG) : Option ((Int32 × Int32 × SG) ⊕ ((Int32 × SG) ⊕ (Int32 × SG))) := (if (x.2.2 76 10) ≤ x.2.1 then some (.inr (.inl (x.1, x.2.2))) else (og (vin x.2.1 240) ((og (vin x.2.1 240) ((nm (up x.2.2 97 (ix x.2.1) (x.2.2 86 (ix x.2.1))) (fun s11 => (og (vin x.2.1 240) ((if (s11 87 (ix x.2.1)) = p0 then (og (vin x.2.1 240) ((if (s11 86 (ix x.2.1)) = (-1) then some (.inl (x.1, (x.2.1 + 1), s11)) else (og (vin x.2.1 240) ((og (vin (s11 86 (ix x.2.1)) 10) ((og (vin x.2.1 240) ((if (s11 96 (ix (s11 86 (ix x.2.1)))) < (s11 84 (ix x.2.1)) then (og (vin x.2.1 240) ((og (vin x.2.1 240) ((ob (F_Ref_nearest_96 s11 (s11 85 (ix x.2.1)) (s11 84 (ix x.2.1))) (fun v22 => (if v22 = (-1) then some (.inr (.inr ((-3), s11))) else (og (vin v22 10) ((og (vin x.2.1 240) ((og (vin v22 10) ((nm (up s11 96 (ix v22) ((s11 96 (ix v22)) - (s11 84 (ix x.2.1)))) (fun s27 => (og (vin x.2.1 240) ((og (vin x.2.1 240) ((if v22 = ((up s27 97 (ix x.2.1) v22) 86 (ix x.2.1)) then some (.inl ((x.1 + 0), (x.2.1 + 1), (up s27 97 (ix x.2.1) v22))) else some (.inl ((x.1 + 1), (x.2.1 + 1), (up s27 97 (ix x.2.1) v22))))))))))))))))))))))) else (og (vin x.2.1 240) ((if (s11 86 (ix x.2.1)) = (-1) then some (.inr (.inr ((-3), s11))) else (og (vin (s11 86 (ix x.2.1)) 10) ((og (vin x.2.1 240) ((og (vin (s11 86 (ix x.2.1)) 10) ((nm (up s11 96 (ix (s11 86 (ix x.2.1))) ((s11 96 (ix (s11 86 (ix x.2.1)))) - (s11 84 (ix x.2.1)))) (fun s36 => (og (vin x.2.1 240) ((og (vin x.2.1 240) ((if (s11 86 (ix x.2.1)) = ((up s36 97 (ix x.2.1) (s11 86 (ix x.2.1))) 86 (ix x.2.1)) then some (.inl ((x.1 + 0), (x.2.1 + 1), (up s36 97 (ix x.2.1) (s11 86 (ix x.2.1))))) else some (.inl ((x.1 + 1), (x.2.1 + 1), (up s36 97 (ix x.2.1) (s11 86 (ix x.2.1))))))))))))))))))))))))))))))) else some (.inl (x.1, (x.2.1 + 1), s11))))))))))))
def L_Ref_broken_218 (x : Int32 × SG) : Option ((Int32 × SG) ⊕ (SG)) := (if 10 ≤ x.1 then some (.inr x.2) else (og (vin x.1 10) ((og (vin x.1 10) ((nm (up x.2 89 (ix x.1) (x.2 96 (ix x.1))) (fun s44 => some (.inl ((x.1 + 1), s44)))))))))
def L_Ref_broken_248 (x : Int32 × SG) : Option ((Int32 × SG) ⊕ (SG)) := (if (x.2 76 10) ≤ x.1 then some (.inr x.2) else (og (vin x.1 240) ((og (vin x.1 240) ((nm (up x.2 86 (ix x.1) (x.2 97 (ix x.1))) (fun s49 => some (.inl ((x.1 + 1), s49)))))))))
def F_Ref_broken (σ : SG) (p0 : Int32) : Option (Int32 × SG) := (if 0 ≤ (F_Ref_noSheet σ p0) then (if (σ 76 8) = 0 then some ((-3), σ) else (ob (lpW L_Ref_broken_24 FU (0, σ)) (fun y3 => (ob (lpW (L_Ref_broken_53 p0) FU (0, 0, y3)) (fun y7 => Sum.elim (fun y7 : Int32 × SG => (ob (lpW L_Ref_broken_218 FU (0, y7.2)) (fun y40 => (ob (lpW L_Ref_broken_248 FU (0, y40)) (fun y45 => some (y7.1, y45)))))) (fun q7 : Int32 × SG => some q7) y7))))) else some ((F_Ref_noSheet σ p0), σ))
def L_Ref_cratesTo_8 (σ : SG) (p0 : Int32) (p1 : Int32) (x : Int32 × Int32 × Int32) : Option ((Int32 × Int32 × Int32) ⊕ (Int32)) := (if p1 < x.2.2 then some (.inr x.1) else (ob (F_Ref_sumOf σ x.2.2 false) (fun v3 => (if v3 ≤ 0 then some (.inl (x.1, x.2.1, (x.2.2 + 1))) else (if x.1 ≤ 0 then (if false = true then (if false = true then some (.inl ((x.1 + 0), (x.2.1 + v3), (x.2.2 + 1))) else some (.inl ((x.1 + 0), v3, (x.2.2 + 1)))) else (if false = true then some (.inl ((x.1 + 1), (x.2.1 + v3), (x.2.2 + 1))) else some (.inl ((x.1 + 1), v3, (x.2.2 + 1))))) else (if p0 < (x.2.1 + v3) then (if false = true then (if false = true then some (.inl ((x.1 + 0), (x.2.1 + v3), (x.2.2 + 1))) else some (.inl ((x.1 + 0), v3, (x.2.2 + 1)))) else (if false = true then some (.inl ((x.1 + 1), (x.2.1 + v3), (x.2.2 + 1))) else some (.inl ((x.1 + 1), v3, (x.2.2 + 1))))) else (if true = true then (if true = true then some (.inl ((x.1 + 0), (x.2.1 + v3), (x.2.2 + 1))) else some (.inl ((x.1 + 0), v3, (x.2.2 + 1)))) else (if true = true then some (.inl ((x.1 + 1), (x.2.1 + v3), (x.2.2 + 1))) else some (.inl ((x.1 + 1), v3, (x.2.2 + 1)))))))))))
def F_Ref_cratesTo (σ : SG) (p0 : Int32) (p1 : Int32) : Option (Int32) := (ob (lpW (L_Ref_cratesTo_8 σ p0 p1) FU (0, 0, 0)) (fun y1 => some y1))
def F_Ref_crates (σ : SG) (p0 : Int32) : Option (Int32) := (if (F_Ref_in p0 1 240) = true then (if (σ 76 9) = 0 then some (-3) else (ob (F_Ref_cratesTo σ p0 ((σ 76 17) - 1)) (fun v3 => some v3))) else some (-2))
def F_Ref_crate (σ : SG) (p0 : Int32) (p1 : Int32) : Option (Int32) := (if (F_Ref_in p0 1 240) = true then (if (F_Ref_noSheet σ p1) = (-2) then some (-2) else (if 0 ≤ (F_Ref_noSheet σ p1) then (ob (F_Ref_sumOf σ p1 false) (fun v4 => (if v4 = 0 then some (-1) else (ob (F_Ref_cratesTo σ p0 p1) (fun v6 => some (v6 - 1)))))) else some (F_Ref_noSheet σ p1))) else some (-2))
def F_Ref_hand (σ : SG) (p0 : Int32) (p1 : Bool) : Option (Int32 × SG) := (if (F_Ref_in p0 1 20) = true then (if (σ 76 21) = 4 then some ((-4), σ) else (og (vin (σ 76 21) 4) ((og (vin ((up σ 90 (ix (σ 76 21)) p0) 76 21) 4) ((nm (up (up σ 90 (ix (σ 76 21)) p0) 91 (ix ((up σ 90 (ix (σ 76 21)) p0) 76 21)) (bI p1)) (fun s5 => some ((((up s5 76 21 ((s5 76 21) + 1)) 76 21) - 1), (up s5 76 21 ((s5 76 21) + 1)))))))))) else some ((-2), σ))
def L_Ref_greatestOf_2 (x : Int32 × SG) : Option ((Int32 × SG) ⊕ (SG)) := (if (x.2 76 21) ≤ x.1 then some (.inr x.2) else (og (vin x.1 4) (some (.inl ((x.1 + 1), (up x.2 102 (ix x.1) 0))))))
def L_Ref_greatestOf_28 (p0 : Int32) (x : Int32 × Int32 × SG) : Option ((Int32 × Int32 × SG) ⊕ ((SG) ⊕ (Int32 × SG))) := (if (x.2.2 76 31) ≤ x.2.1 then some (.inr (.inl x.2.2)) else (og (nz (x.2.2 76 21)) ((og (nz (x.1 / (x.2.2 76 21))) ((og (nz (x.2.2 76 21)) ((og (vin x.2.1 9) ((if (x.2.2 101 (ix x.2.1)) = 0 then (og (vin ((p0 / (x.1 / (x.2.2 76 21))) - (p0 / (x.1 / (x.2.2 76 21))) / (x.2.2 76 21) * (x.2.2 76 21)) 4) ((og (vin x.2.1 9) ((og (vin ((p0 / (x.1 / (x.2.2 76 21))) - (p0 / (x.1 / (x.2.2 76 21))) / (x.2.2 76 21) * (x.2.2 76 21)) 4) ((og (vin ((p0 / (x.1 / (x.2.2 76 21))) - (p0 / (x.1 / (x.2.2 76 21))) / (x.2.2 76 21) * (x.2.2 76 21)) 4) ((og (nz (x.2.2 90 (ix ((p0 / (x.1 / (x.2.2 76 21))) - (p0 / (x.1 / (x.2.2 76 21))) / (x.2.2 76 21) * (x.2.2 76 21))))) ((og (vin ((p0 / (x.1 / (x.2.2 76 21))) - (p0 / (x.1 / (x.2.2 76 21))) / (x.2.2 76 21) * (x.2.2 76 21)) 4) ((nm (up x.2.2 102 (ix ((p0 / (x.1 / (x.2.2 76 21))) - (p0 / (x.1 / (x.2.2 76 21))) / (x.2.2 76 21) * (x.2.2 76 21))) ((x.2.2 102 (ix ((p0 / (x.1 / (x.2.2 76 21))) - (p0 / (x.1 / (x.2.2 76 21))) / (x.2.2 76 21) * (x.2.2 76 21)))) + ((((x.2.2 100 (ix x.2.1)) + (x.2.2 90 (ix ((p0 / (x.1 / (x.2.2 76 21))) - (p0 / (x.1 / (x.2.2 76 21))) / (x.2.2 76 21) * (x.2.2 76 21))))) - 1) / (x.2.2 90 (ix ((p0 / (x.1 / (x.2.2 76 21))) - (p0 / (x.1 / (x.2.2 76 21))) / (x.2.2 76 21) * (x.2.2 76 21))))))) (fun s17 => some (.inl ((x.1 / (x.2.2 76 21)), (x.2.1 + 1), s17)))))))))))))))) else (og (vin ((p0 / (x.1 / (x.2.2 76 21))) - (p0 / (x.1 / (x.2.2 76 21))) / (x.2.2 76 21) * (x.2.2 76 21)) 4) ((if (x.2.2 91 (ix ((p0 / (x.1 / (x.2.2 76 21))) - (p0 / (x.1 / (x.2.2 76 21))) / (x.2.2 76 21) * (x.2.2 76 21)))) = 0 then some (.inr (.inr ((-1), x.2.2))) else (og (vin ((p0 / (x.1 / (x.2.2 76 21))) - (p0 / (x.1 / (x.2.2 76 21))) / (x.2.2 76 21) * (x.2.2 76 21)) 4) ((og (vin x.2.1 9) ((og (vin ((p0 / (x.1 / (x.2.2 76 21))) - (p0 / (x.1 / (x.2.2 76 21))) / (x.2.2 76 21) * (x.2.2 76 21)) 4) ((og (vin ((p0 / (x.1 / (x.2.2 76 21))) - (p0 / (x.1 / (x.2.2 76 21))) / (x.2.2 76 21) * (x.2.2 76 21)) 4) ((og (nz (x.2.2 90 (ix ((p0 / (x.1 / (x.2.2 76 21))) - (p0 / (x.1 / (x.2.2 76 21))) / (x.2.2 76 21) * (x.2.2 76 21))))) ((og (vin ((p0 / (x.1 / (x.2.2 76 21))) - (p0 / (x.1 / (x.2.2 76 21))) / (x.2.2 76 21) * (x.2.2 76 21)) 4) ((nm (up x.2.2 102 (ix ((p0 / (x.1 / (x.2.2 76 21))) - (p0 / (x.1 / (x.2.2 76 21))) / (x.2.2 76 21) * (x.2.2 76 21))) ((x.2.2 102 (ix ((p0 / (x.1 / (x.2.2 76 21))) - (p0 / (x.1 / (x.2.2 76 21))) / (x.2.2 76 21) * (x.2.2 76 21)))) + ((((x.2.2 100 (ix x.2.1)) + (x.2.2 90 (ix ((p0 / (x.1 / (x.2.2 76 21))) - (p0 / (x.1 / (x.2.2 76 21))) / (x.2.2 76 21) * (x.2.2 76 21))))) - 1) / (x.2.2 90 (ix ((p0 / (x.1 / (x.2.2 76 21))) - (p0 / (x.1 / (x.2.2 76 21))) / (x.2.2 76 21) * (x.2.2 76 21))))))) (fun s26 => some (.inl ((x.1 / (x.2.2 76 21)), (x.2.1 + 1), s26)))))))))))))))))))))))))))))
def L_Ref_greatestOf_123 (y4 : SG) (x : Int32 × Int32) : Option ((Int32 × Int32) ⊕ (Int32)) := (if (y4 76 21) ≤ x.2 then some (.inr x.1) else (og (vin x.2 4) ((if (y4 102 (ix x.2)) ≤ x.1 then some (.inl (x.1, (x.2 + 1))) else (og (vin x.2 4) (some (.inl ((y4 102 (ix x.2)), (x.2 + 1)))))))))
def F_Ref_greatestOf (σ : SG) (p0 : Int32) (p1 : Int32) : Option (Int32 × SG) := (ob (lpW L_Ref_greatestOf_2 FU (0, σ)) (fun y1 => (ob (lpW (L_Ref_greatestOf_28 p0) FU (p1, 0, y1)) (fun y4 => Sum.elim (fun y4 : SG => (ob (lpW (L_Ref_greatestOf_123 y4) FU (0, 0)) (fun y27 => some (y27, y4)))) (fun q4 : Int32 × SG => some q4) y4))))
def L_Ref_deal_9 (σ : SG) (x : Bool × Int32) : Option ((Bool × Int32) ⊕ (Bool)) := (if ((up σ 76 31 0) 76 21) ≤ x.2 then some (.inr x.1) else (if x.1 = true then some (.inl (true, (x.2 + 1))) else (og (vin x.2 4) ((if ((up σ 76 31 0) 91 (ix x.2)) = 0 then some (.inl (false, (x.2 + 1))) else some (.inl (true, (x.2 + 1))))))))
def L_Ref_deal_44 (k1 : Bool) (x : Int32 × SG) : Option ((Int32 × SG) ⊕ ((SG) ⊕ (Bool × SG))) := (if (x.2 76 17) ≤ x.1 then some (.inr (.inl x.2)) else (ob (F_Ref_sumOf x.2 x.1 false) (fun v8 => (if v8 ≤ 0 then some (.inl ((x.1 + 1), x.2)) else (if (x.2 76 31) = 9 then some (.inr (.inr (false, x.2))) else (ob (F_Ref_hasFace x.2 x.1) (fun v11 => (if v11 = true then (if k1 = true then (og (vin (x.2 76 31) 9) ((nm (up (up x.2 98 (ix (x.2 76 31)) x.1) 76 31 (((up x.2 98 (ix (x.2 76 31)) x.1) 76 31) + 1)) (fun s17 => some (.inl ((x.1 + 1), s17)))))) else some (.inr (.inr (false, x.2)))) else (og (vin (x.2 76 31) 9) ((nm (up (up x.2 98 (ix (x.2 76 31)) x.1) 76 31 (((up x.2 98 (ix (x.2 76 31)) x.1) 76 31) + 1)) (fun s14 => some (.inl ((x.1 + 1), s14))))))))))))))
def L_Ref_deal_130 (y6 : SG) (x : Int32 × Int32) : Option ((Int32 × Int32) ⊕ (Int32)) := (if (y6 76 31) ≤ x.2 then some (.inr x.1) else some (.inl ((x.1 * (y6 76 21)), (x.2 + 1))))
def L_Ref_deal_153 (x : Int32 × SG) : Option ((Int32 × SG) ⊕ (SG)) := (if (x.2 76 31) ≤ x.1 then some (.inr x.2) else (og (vin x.1 9) ((ob (F_Ref_sumOf x.2 (x.2 98 (ix x.1)) false) (fun v25 => (og (vin x.1 9) ((og (vin x.1 9) ((ob (F_Ref_hasFace (up x.2 100 (ix x.1) v25) ((up x.2 100 (ix x.1) v25) 98 (ix x.1))) (fun v28 => (og (vin x.1 9) ((nm (up (up x.2 100 (ix x.1) v25) 101 (ix x.1) (bI v28)) (fun s30 => some (.inl ((x.1 + 1), s30)))))))))))))))))
def L_Ref_deal_255 (k3 : Int32) (x : Int32 × Int32 × SG) : Option ((Int32 × Int32 × SG) ⊕ (SG)) := (if (x.2.2 76 31) ≤ x.2.1 then some (.inr x.2.2) else (og (nz (x.2.2 76 21)) ((og (nz (x.1 / (x.2.2 76 21))) ((og (nz (x.2.2 76 21)) ((og (vin x.2.1 9) ((nm (up x.2.2 99 (ix x.2.1) ((k3 / (x.1 / (x.2.2 76 21))) - (k3 / (x.1 / (x.2.2 76 21))) / (x.2.2 76 21) * (x.2.2 76 21))) (fun s42 => some (.inl ((x.1 / (x.2.2 76 21)), (x.2.1 + 1), s42)))))))))))))
def L_Ref_deal_207 (k2 : Int32) (x : Int32 × SG) : Option ((Int32 × SG) ⊕ (SG)) := (if k2 ≤ x.1 then some (.inr x.2) else (ob (F_Ref_greatestOf x.2 x.1 (k2)) (fun v33 => (if v33.1 = (-1) then some (.inl ((x.1 + 1), v33.2)) else (if (v33.2 76 33) = (-1) then (ob (lpW (L_Ref_deal_255 x.1) FU (k2, 0, (up v33.2 76 33 v33.1))) (fun y36 => some (.inl ((x.1 + 1), y36)))) else (if (v33.2 76 33) ≤ v33.1 then some (.inl ((x.1 + 1), v33.2)) else (ob (lpW (L_Ref_deal_255 x.1) FU (k2, 0, (up v33.2 76 33 v33.1))) (fun y44 => some (.inl ((x.1 + 1), y44))))))))))
def F_Ref_deal (σ : SG) : Option (Bool × SG) := (ob (lpW (L_Ref_deal_9 σ) FU (false, 0)) (fun y1 => (ob (lpW (L_Ref_deal_44 y1) FU (0, (up σ 76 31 0))) (fun y6 => Sum.elim (fun y6 : SG => (if (y6 76 9) = 0 then some (false, y6) else (if (y6 76 21) = 0 then some (false, y6) else (ob (lpW (L_Ref_deal_130 y6) FU (1, 0)) (fun y20 => (ob (lpW L_Ref_deal_153 FU (0, y6)) (fun y22 => (ob (lpW (L_Ref_deal_207 y20) FU (0, (up y22 76 33 (-1)))) (fun y31 => some (true, y31)))))))))) (fun q6 : Bool × SG => some q6) y6))))
def F_Ref_days (σ : SG) : Option (Int32 × SG) := (ob (F_Ref_deal σ) (fun v1 => (if v1.1 = true then some ((v1.2 76 33), v1.2) else some ((-3), v1.2))))
def L_Ref_dealt_25 (p0 : Int32) (v2 : Bool × SG) (x : Int32) : Option ((Int32) ⊕ ((Unit) ⊕ (Int32 × SG))) := (if (v2.2 76 31) ≤ x then some (.inr (.inl ())) else (og (vin x 9) ((if (v2.2 98 (ix x)) = p0 then (og (vin x 9) (some (.inr (.inr ((v2.2 99 (ix x)), v2.2))))) else some (.inl (x + 1))))))
def F_Ref_dealt (σ : SG) (p0 : Int32) : Option (Int32 × SG) := (if (F_Ref_noSheet σ p0) = (-2) then some ((-2), σ) else (ob (F_Ref_deal σ) (fun v2 => (if v2.1 = true then (ob (lpW (L_Ref_dealt_25 p0 v2) FU 0) (fun y4 => Sum.elim (fun y4 : Unit => some ((-1), v2.2)) (fun q4 : Int32 × SG => some q4) y4)) else some ((-3), v2.2)))))
def L_Ref_count_101 (σ : SG) (x : Int32 × Int32) : Option ((Int32 × Int32) ⊕ (Int32)) := (if (σ 76 18) ≤ x.2 then some (.inr x.1) else (og (vin x.2 10) (some (.inl ((x.1 + (σ 89 (ix x.2))), (x.2 + 1))))))
def L_Ref_count_128 (σ : SG) (x : Int32 × Int32) : Option ((Int32 × Int32) ⊕ (Int32)) := (if (σ 76 10) ≤ x.2 then some (.inr x.1) else (og (vin x.2 240) ((og (vin (σ 85 (ix x.2)) 8) ((if (σ 80 (ix (σ 85 (ix x.2)))) = 0 then some (.inl ((x.1 + 0), (x.2 + 1))) else (og (vin x.2 240) (some (.inl ((x.1 + (σ 84 (ix x.2))), (x.2 + 1)))))))))))
def F_Ref_count (σ : SG) (p0 : Int32) : Option (Int32) := (tsS p0 0 [some (σ 76 0), some (σ 76 1), some (σ 76 10), (if (σ 76 8) = 0 then some (-3) else (ob (F_Ref_bare σ) (fun v3 => some v3))), some (σ 76 18), some (σ 76 17), some (σ 76 21), (ob (lpW (L_Ref_count_101 σ) FU (0, 0)) (fun y4 => some y4)), (ob (lpW (L_Ref_count_128 σ) FU (0, 0)) (fun y7 => (if (σ 76 7) = 0 then some (-3) else some y7)))] (some (-2)))
def L_Ref_digest_6 (σ : SG) (x : Int64 × Int32) : Option ((Int64 × Int32) ⊕ (Int64)) := (if 9 ≤ x.2 then some (.inr x.1) else (ob (F_Ref_count σ x.2) (fun v3 => some (.inl (((31 * x.1) + v3.toInt64), (x.2 + 1))))))
def L_Ref_digest_44 (σ : SG) (k3 : Int32) (x : Int64 × Int32) : Option ((Int64 × Int32) ⊕ (Int64)) := (if (σ 76 0) ≤ x.2 then some (.inr x.1) else (og (vin ((24 * k3) + x.2) 240) (some (.inl (((31 * x.1) + (σ 77 (ix ((24 * k3) + x.2))).toInt64), (x.2 + 1))))))
def L_Ref_digest_33 (σ : SG) (x : Int64 × Int32) : Option ((Int64 × Int32) ⊕ (Int64)) := (if (σ 76 1) ≤ x.2 then some (.inr x.1) else (ob (lpW (L_Ref_digest_44 σ x.2) FU (x.1, 0)) (fun y6 => some (.inl (y6, (x.2 + 1))))))
def L_Ref_digest_98 (σ : SG) (k3 : Int32) (x : Int64 × Int32) : Option ((Int64 × Int32) ⊕ (Int64)) := (if 7 ≤ x.2 then some (.inr x.1) else (ob (F_Ref_cube σ (k3) x.2) (fun v13 => some (.inl (((31 * x.1) + v13.toInt64), (x.2 + 1))))))
def L_Ref_digest_87 (σ : SG) (x : Int64 × Int32) : Option ((Int64 × Int32) ⊕ (Int64)) := (if (σ 76 10) ≤ x.2 then some (.inr x.1) else (ob (lpW (L_Ref_digest_98 σ x.2) FU (x.1, 0)) (fun y11 => some (.inl (y11, (x.2 + 1))))))
def L_Ref_digest_134 (σ : SG) (x : Int64 × Int32) : Option ((Int64 × Int32) ⊕ (Int64)) := (if (σ 76 18) ≤ x.2 then some (.inr x.1) else (og (vin x.2 10) (some (.inl (((31 * x.1) + (σ 89 (ix x.2)).toInt64), (x.2 + 1))))))
def F_Ref_digest (σ : SG) : Option (Int64) := (ob (lpW (L_Ref_digest_6 σ) FU (149, 0)) (fun y1 => (ob (lpW (L_Ref_digest_33 σ) FU (y1, 0)) (fun y4 => (ob (lpW (L_Ref_digest_87 σ) FU (y4, 0)) (fun y9 => (ob (lpW (L_Ref_digest_134 σ) FU (y9, 0)) (fun y14 => some y14))))))))
end
section
/-! base of the pure part: loops by a run of states, rows set whole, numbers -/
theorem FU_big {n : Nat} (h : n < 1000000) : n < FU := Nat.lt_of_lt_of_le h (by unfold FU; decide)
theorem lpW_run {X Y : Type} {f : X → Option (X ⊕ Y)} {s : Nat → X} {y : Y} (N : Nat) (hs : ∀ i, i < N → f (s i) = some (.inl (s (i + 1)))) (he : f (s N) = some (.inr y)) (hF : N < 1000000) : lpW f FU (s 0) = some y := by
  have key : ∀ k i, i + k = N → ∀ m, k < m → lpW f m (s i) = some y := by
    intro k
    induction k with
    | zero =>
      intro i hi m hm
      obtain ⟨m, rfl⟩ : ∃ z, m = z + 1 := ⟨m - 1, by omega⟩
      have hi2 : i = N := by omega
      subst hi2
      rw [lpW, he]; rfl
    | succ k ih =>
      intro i hi m hm
      obtain ⟨m, rfl⟩ : ∃ z, m = z + 1 := ⟨m - 1, by omega⟩
      rw [lpW, hs i (by omega)]
      exact ih (i + 1) (by omega) m (by omega)
  exact key N 0 (by omega) FU (FU_big hF)
theorem lpW_at {X Y : Type} {f : X → Option (X ⊕ Y)} {s : Nat → X} {x0 : X} {y : Y} (N : Nat) (h0 : s 0 = x0) (hs : ∀ i, i < N → f (s i) = some (.inl (s (i + 1)))) (he : f (s N) = some (.inr y)) (hF : N < 1000000) : lpW f FU x0 = some y := by
  subst h0; exact lpW_run N hs he hF
theorem rg_nI {σ : SG} {a n k : Nat} (hk : k < n) (hn : n < 2 ^ 31) : rg σ a n (nI k) = σ a k := by
  unfold rg
  rw [if_neg (nI_pos (by omega)), if_neg (nI_ge hk hn), ix_nI (by omega)]
theorem rs_nI {σ : SG} {a n k : Nat} {x : Int32} (hk : k < n) (hn : n < 2 ^ 31) : rs σ a n (nI k) x = up σ a k x := by
  unfold rs
  rw [if_neg (nI_pos (by omega)), if_neg (nI_ge hk hn), ix_nI (by omega)]
theorem ra_nI {σ : SG} {a n k : Nat} {x : Int32} (hk : k < n) (hn : n < 2 ^ 31) : ra σ a n (nI k) x = up σ a k (σ a k + x) := by
  unfold ra
  rw [rs_nI hk hn, rg_nI hk hn]
theorem vin_nI {k n : Nat} (hk : k < n) (hn : n < 2 ^ 31) : vin (nI k) n = true := by
  unfold vin
  rw [Bool.and_eq_true, decide_eq_true_eq, decide_eq_true_eq, ix_nI (by omega)]
  exact ⟨nI_pos (by omega), hk⟩
theorem og_t {B : Type} {k : Option B} : og true k = k := rfl
def sR (σ : SG) (p : Nat) (g : Nat → Int32) : SG := fun q => if q = p then g else σ q
theorem up_sR (σ : SG) (q k : Nat) (x : Int32) : up σ q k x = sR σ q (upd (σ q) k x) := rfl
theorem sR_at (σ : SG) (p : Nat) (g : Nat → Int32) : sR σ p g p = g := if_pos rfl
theorem sR_ne (σ : SG) {p q : Nat} (g : Nat → Int32) (h : q ≠ p) : sR σ p g q = σ q := if_neg h
theorem sR_self (σ : SG) (p : Nat) : sR σ p (σ p) = σ := by
  funext q
  unfold sR
  by_cases h : q = p
  · rw [if_pos h, h]
  · rw [if_neg h]
theorem sR_sR (σ : SG) (p : Nat) (g g' : Nat → Int32) : sR (sR σ p g) p g' = sR σ p g' := by
  funext q
  unfold sR
  by_cases h : q = p <;> simp [h]
theorem sR_comm (σ : SG) {p q : Nat} (g g' : Nat → Int32) (h : p ≠ q) : sR (sR σ p g) q g' = sR (sR σ q g') p g := by
  funext r
  unfold sR
  by_cases h1 : r = q
  · by_cases h2 : r = p
    · exact absurd (h2.symm.trans h1) h
    · rw [if_pos h1, if_neg h2, if_pos h1]
  · by_cases h2 : r = p
    · rw [if_neg h1, if_pos h2, if_pos h2]
    · rw [if_neg h1, if_neg h2, if_neg h2, if_neg h1]
theorem upd_at (f : Nat → Int32) (k : Nat) (x : Int32) : upd f k x k = x := if_pos rfl
theorem upd_ne (f : Nat → Int32) {k j : Nat} (x : Int32) (h : j ≠ k) : upd f k x j = f j := if_neg h
theorem upd_self (f : Nat → Int32) (k : Nat) : upd f k (f k) = f := by
  funext j
  unfold upd
  by_cases h : j = k
  · rw [if_pos h, h]
  · rw [if_neg h]
theorem rf_sR (σ : SG) (a n : Nat) (x : Int32) : rf σ a n x = sR σ a (fun j => if j < n then x else σ a j) := rfl
theorem rc_sR (σ : SG) (a n a2 n2 : Nat) : rc σ a n a2 n2 = sR σ a (fun j => if j < n then rg σ a2 n2 (nI j) else σ a j) := rfl
/-- a row filled up to i -/
def rowF (g f : Nat → Int32) (i : Nat) : Nat → Int32 := fun j => if j < i then g j else f j
theorem rowF_0 (g f : Nat → Int32) : rowF g f 0 = f := rfl
theorem rowF_s (g f : Nat → Int32) (i : Nat) : upd (rowF g f i) i (g i) = rowF g f (i + 1) := by
  funext j
  unfold upd rowF
  by_cases h : j = i
  · rw [if_pos h, if_pos (by omega), h]
  · rw [if_neg h]
    by_cases h2 : j < i
    · rw [if_pos h2, if_pos (by omega)]
    · rw [if_neg h2, if_neg (by omega)]
theorem rowF_lt {g f : Nat → Int32} {i j : Nat} (h : j < i) : rowF g f i j = g j := if_pos h
theorem rowF_ge {g f : Nat → Int32} {i j : Nat} (h : i ≤ j) : rowF g f i j = f j := if_neg (Nat.not_lt.mpr h)
/-! numbers -/
theorem nI_sub1 {n : Nat} (h : 1 ≤ n) : nI n - 1 = nI (n - 1) := by
  obtain ⟨m, rfl⟩ : ∃ m, n = m + 1 := ⟨n - 1, by omega⟩
  rw [nI_pred]; rfl
theorem nI_mul (a b : Nat) : nI a * nI b = nI (a * b) := pk_mul a b
theorem l0 : (0 : Int32) = nI 0 := rfl
theorem l1 : (1 : Int32) = nI 1 := rfl
theorem l2 : (2 : Int32) = nI 2 := rfl
theorem l3 : (3 : Int32) = nI 3 := rfl
theorem l24 : (24 : Int32) = nI 24 := rfl
theorem nm1_ne {n : Nat} (h : n < 2 ^ 31) : ¬ nI n = -1 := by
  intro e
  have h1 := nI_pos h
  rw [e] at h1
  exact h1 (by decide)
theorem int_cases (x : Int32) : x < 0 ∨ ∃ j : Nat, j < 2 ^ 31 ∧ x = nI j := by
  by_cases h : x < 0
  · exact Or.inl h
  · exact Or.inr (nI_of h)
theorem wi_iff {p a b : Int32} : F_Shop_within p a b = true ↔ a ≤ p ∧ p ≤ b := by
  unfold F_Shop_within
  by_cases h1 : p < a
  · rw [if_pos h1]
    exact ⟨fun h => (by cases h), fun h => absurd h1 (k2_nlt h.1)⟩
  · rw [if_neg h1]
    by_cases h2 : b < p
    · rw [if_pos h2]
      exact ⟨fun h => (by cases h), fun h => absurd h2 (k2_nlt h.2)⟩
    · rw [if_neg h2]
      exact ⟨fun _ => ⟨k2_le h1, k2_le h2⟩, fun _ => rfl⟩
theorem in_wi (p a b : Int32) : F_Ref_in p a b = F_Shop_within p a b := rfl
theorem i_rng (x : Int32) : -2147483648 ≤ x.toInt ∧ x.toInt < 2147483648 := ⟨Int32.le_toInt x, Int32.toInt_lt x⟩
theorem nI_of_toInt {p : Int32} (h : 0 ≤ p.toInt) : p = nI p.toInt.toNat := by
  have h1 := i_rng p
  rw [← Int32.toInt_inj, nI_toInt (by omega)]
  omega
theorem lt_T (x y : Int32) : x < y ↔ x.toInt < y.toInt := Int32.lt_iff_toInt_lt
theorem le_T (x y : Int32) : x ≤ y ↔ x.toInt ≤ y.toInt := Int32.le_iff_toInt_le
theorem eq_T (x y : Int32) : x = y ↔ x.toInt = y.toInt := Int32.toInt_inj.symm
theorem wi_nI {p : Int32} {a b : Nat} (ha : a < 2 ^ 31) (hb : b < 2 ^ 31) (h : F_Shop_within p (nI a) (nI b) = true) : ∃ k, a ≤ k ∧ k ≤ b ∧ p = nI k := by
  obtain ⟨h1, h2⟩ := wi_iff.mp h
  rw [le_T, nI_toInt ha] at h1
  rw [le_T, nI_toInt hb] at h2
  exact ⟨p.toInt.toNat, by omega, by omega, nI_of_toInt (by omega)⟩
theorem wi_of {k a b : Nat} (h1 : a ≤ k) (h2 : k ≤ b) (hb : b < 2 ^ 31) : F_Shop_within (nI k) (nI a) (nI b) = true :=
  wi_iff.mpr ⟨nI_le h1 (by omega), nI_le h2 hb⟩
end
section
/-! rel: the relation between the class's cells and the reference's; the first calls -/
def RD (σ : SG) (w h : Nat) : Prop := σ 1 0 = nI w ∧ σ 1 1 = nI h ∧ σ 76 0 = nI w ∧ σ 76 1 = nI h ∧ 1 ≤ w ∧ w ≤ 24 ∧ 1 ≤ h ∧ h ≤ 10 ∧ σ 77 = σ 3 ∧ (∀ k, k < 240 → ∃ f, f < 8 ∧ σ 3 k = nI f)
def RF (σ : SG) : Prop := σ 80 = σ 15 ∧ σ 81 = σ 17 ∧ ∀ f, f < 8 → (∃ a b c, a ≤ 255 ∧ b ≤ 255 ∧ c ≤ 255 ∧ σ 7 f = nI a ∧ σ 78 (3 * f) = nI a ∧ σ 9 f = nI b ∧ σ 78 (3 * f + 1) = nI b ∧ σ 11 f = nI c ∧ σ 78 (3 * f + 2) = nI c) ∧ (∃ g, 1 ≤ g ∧ g ≤ 3 ∧ σ 13 f = nI g ∧ σ 79 f = nI (3 - g)) ∧ (∃ z : Bool, σ 15 f = bI z) ∧ (∃ z : Bool, σ 17 f = bI z)
def RLo (σ : SG) (m : Nat) : Prop := σ 42 0 = nI m ∧ σ 76 18 = nI m ∧ m ≤ 10 ∧ σ 89 = σ 44 ∧ ∀ l, l < 10 → ∃ a b c, a ≤ 255 ∧ b ≤ 255 ∧ c ≤ 255 ∧ σ 47 l = nI a ∧ σ 88 (3 * l) = nI a ∧ σ 49 l = nI b ∧ σ 88 (3 * l + 1) = nI b ∧ σ 51 l = nI c ∧ σ 88 (3 * l + 2) = nI c
def RH (σ : SG) (q : Nat) : Prop := σ 60 0 = nI q ∧ σ 76 21 = nI q ∧ q ≤ 4 ∧ σ 90 = σ 62 ∧ σ 91 = σ 64 ∧ ∀ k, k < q → (∃ s, 1 ≤ s ∧ s ≤ 20 ∧ σ 62 k = nI s) ∧ (∃ z : Bool, σ 64 k = bI z)
/-- the cubes lie on the wall in one line: row, left border, width, field of each -/
def Cov (σ : SG) (w h n : Nat) (r l z f : Nat → Nat) : Prop :=
  (∀ i, i < n → σ 20 i = nI (r i) ∧ σ 22 i = nI (l i) ∧ σ 24 i = nI (z i) ∧ σ 26 i = nI (f i) ∧ r i < h ∧ 1 ≤ z i ∧ z i ≤ 3 ∧ l i + z i ≤ w ∧ f i < 8 ∧ ∀ x, l i ≤ x → x < l i + z i → σ 3 (24 * r i + x) = nI (f i) ∧ σ 34 (24 * r i + x) = nI i) ∧
  r 0 = 0 ∧ l 0 = 0 ∧ (∀ i, i + 1 < n → (r (i + 1) = r i ∧ l (i + 1) = l i + z i) ∨ (r (i + 1) = r i + 1 ∧ l (i + 1) = 0 ∧ l i + z i = w)) ∧ r (n - 1) + 1 = h ∧ l (n - 1) + z (n - 1) = w
/-- a sum over i < n of what p holds of -/
def sm (p : Nat → Bool) (z : Nat → Nat) : Nat → Nat
  | 0 => 0
  | n + 1 => sm p z n + (if p n = true then z n else 0)
/-- what a cut says of the cubes -/
def CutI (σ : SG) (n S : Nat) (r z : Nat → Nat) : Prop := ∃ s : Nat → Nat, (∀ i, i < n → s i < S ∧ σ 30 i = nI (s i) ∧ σ 32 i = nI (sm (fun k => decide (i < k) && (decide (r k = r i) && decide (s k = s i))) z n)) ∧ ∀ t, t < S → σ 59 t = nI (sm (fun k => decide (s k = t)) z n)
def RC (σ : SG) (w h m n S : Nat) (pt : Bool) : Prop :=
  (σ 18 0 = nI n ∧ σ 76 10 = nI n ∧ n ≤ 240 ∧ σ 76 7 = bI (decide (0 < n))) ∧ (σ 52 0 = bI pt ∧ σ 76 8 = bI pt ∧ (pt = true → 0 < n)) ∧ (σ 57 0 = nI S ∧ σ 76 17 = nI S ∧ S ≤ 240 ∧ σ 76 9 = bI (decide (0 < S)) ∧ (0 < S → 0 < n)) ∧
  (σ 82 = σ 20 ∧ σ 83 = σ 22 ∧ σ 84 = σ 24 ∧ σ 85 = σ 26 ∧ σ 86 = σ 28 ∧ σ 87 = σ 30) ∧
  (0 < n → ∃ r l z f : Nat → Nat, Cov σ w h n r l z f ∧ (0 < S → CutI σ n S r z)) ∧
  (∀ i, i < n → σ 28 i = -1 ∨ (pt = true ∧ ∃ k, k < m ∧ σ 28 i = nI k)) ∧ (S = 0 → ∀ i, i < n → σ 30 i = -1 ∧ σ 32 i = -1)
def R (σ : SG) : Prop := ∃ w h m q n S pt, RD σ w h ∧ RF σ ∧ RLo σ m ∧ RH σ q ∧ RC σ w h m n S pt
theorem RD_c {σ σ' : SG} {w h : Nat} (hp : ∀ p, p = 1 ∨ p = 3 ∨ p = 77 → σ' p = σ p) (h0 : σ' 76 0 = σ 76 0) (h1 : σ' 76 1 = σ 76 1) (H : RD σ w h) : RD σ' w h := by
  unfold RD at H ⊢
  rw [h0, h1, hp 1 (by decide), hp 3 (by decide), hp 77 (by decide)]
  exact H
theorem RF_c {σ σ' : SG} (hp : ∀ p, p = 7 ∨ p = 9 ∨ p = 11 ∨ p = 13 ∨ p = 15 ∨ p = 17 ∨ p = 78 ∨ p = 79 ∨ p = 80 ∨ p = 81 → σ' p = σ p) (H : RF σ) : RF σ' := by
  unfold RF at H ⊢
  rw [hp 7 (by decide), hp 9 (by decide), hp 11 (by decide), hp 13 (by decide), hp 15 (by decide), hp 17 (by decide), hp 78 (by decide), hp 79 (by decide), hp 80 (by decide), hp 81 (by decide)]
  exact H
theorem RLo_c {σ σ' : SG} {m : Nat} (hp : ∀ p, p = 42 ∨ p = 44 ∨ p = 47 ∨ p = 49 ∨ p = 51 ∨ p = 88 ∨ p = 89 → σ' p = σ p) (h0 : σ' 76 18 = σ 76 18) (H : RLo σ m) : RLo σ' m := by
  unfold RLo at H ⊢
  rw [h0, hp 42 (by decide), hp 44 (by decide), hp 47 (by decide), hp 49 (by decide), hp 51 (by decide), hp 88 (by decide), hp 89 (by decide)]
  exact H
theorem RH_c {σ σ' : SG} {q : Nat} (hp : ∀ p, p = 60 ∨ p = 62 ∨ p = 64 ∨ p = 90 ∨ p = 91 → σ' p = σ p) (h0 : σ' 76 21 = σ 76 21) (H : RH σ q) : RH σ' q := by
  unfold RH at H ⊢
  rw [h0, hp 60 (by decide), hp 62 (by decide), hp 64 (by decide), hp 90 (by decide), hp 91 (by decide)]
  exact H
theorem Cov_c {σ σ' : SG} {w h n : Nat} {r l z f : Nat → Nat} (hp : ∀ p, p = 3 ∨ p = 20 ∨ p = 22 ∨ p = 24 ∨ p = 26 ∨ p = 34 → σ' p = σ p) (H : Cov σ w h n r l z f) : Cov σ' w h n r l z f := by
  unfold Cov at H ⊢
  rw [hp 3 (by decide), hp 20 (by decide), hp 22 (by decide), hp 24 (by decide), hp 26 (by decide), hp 34 (by decide)]
  exact H
theorem CutI_c {σ σ' : SG} {n S : Nat} {r z : Nat → Nat} (hp : ∀ p, p = 30 ∨ p = 32 ∨ p = 59 → σ' p = σ p) (H : CutI σ n S r z) : CutI σ' n S r z := by
  unfold CutI at H ⊢
  rw [hp 30 (by decide), hp 32 (by decide), hp 59 (by decide)]
  exact H
theorem RC_c {σ σ' : SG} {w h m n S : Nat} {pt : Bool} (hp : ∀ p, p = 3 ∨ p = 18 ∨ p = 20 ∨ p = 22 ∨ p = 24 ∨ p = 26 ∨ p = 28 ∨ p = 30 ∨ p = 32 ∨ p = 34 ∨ p = 52 ∨ p = 57 ∨ p = 59 ∨ p = 82 ∨ p = 83 ∨ p = 84 ∨ p = 85 ∨ p = 86 ∨ p = 87 → σ' p = σ p) (hq : ∀ k, k = 7 ∨ k = 8 ∨ k = 9 ∨ k = 10 ∨ k = 17 → σ' 76 k = σ 76 k) (H : RC σ w h m n S pt) : RC σ' w h m n S pt := by
  unfold RC Cov CutI at H ⊢
  rw [hq 7 (by decide), hq 8 (by decide), hq 9 (by decide), hq 10 (by decide), hq 17 (by decide), hp 3 (by decide), hp 18 (by decide), hp 20 (by decide), hp 22 (by decide), hp 24 (by decide), hp 26 (by decide), hp 28 (by decide), hp 30 (by decide), hp 32 (by decide), hp 34 (by decide), hp 52 (by decide), hp 57 (by decide), hp 59 (by decide), hp 82 (by decide), hp 83 (by decide), hp 84 (by decide), hp 85 (by decide), hp 86 (by decide), hp 87 (by decide)]
  exact H
theorem RC_m {σ : SG} {w h m m' n S : Nat} {pt : Bool} (hm : m ≤ m') (H : RC σ w h m n S pt) : RC σ w h m' n S pt := by
  obtain ⟨a, b, c, d, e, f, g⟩ := H
  refine ⟨a, b, c, d, e, fun i hi => ?_, g⟩
  rcases f i hi with h1 | ⟨h1, k, h2, h3⟩
  · exact Or.inl h1
  · exact Or.inr ⟨h1, k, by omega, h3⟩
/-- nothing is laid -/
theorem RC_0 {σ : SG} {w h m : Nat} (h18 : σ 18 0 = 0) (h52 : σ 52 0 = 0) (h57 : σ 57 0 = 0) (hq : ∀ k, k = 7 ∨ k = 8 ∨ k = 9 ∨ k = 10 ∨ k = 17 → σ 76 k = 0) (he : σ 82 = σ 20 ∧ σ 83 = σ 22 ∧ σ 84 = σ 24 ∧ σ 85 = σ 26 ∧ σ 86 = σ 28 ∧ σ 87 = σ 30) : RC σ w h m 0 0 false :=
  ⟨⟨h18, hq 10 (by decide), by omega, hq 7 (by decide)⟩, ⟨h52, hq 8 (by decide), by intro h; cases h⟩, ⟨h57, hq 17 (by decide), by omega, hq 9 (by decide), fun h => h⟩, he, fun h => absurd h (Nat.lt_irrefl 0), fun i hi => absurd hi (Nat.not_lt_zero i), fun _ i hi => absurd hi (Nat.not_lt_zero i)⟩
theorem wi_f {p a b : Int32} (h : ¬ F_Shop_within p a b = true) : F_Shop_within p a b = false := by
  cases e : F_Shop_within p a b with
  | true => exact absurd e h
  | false => rfl
theorem op_wall {σ : SG} (hR : R σ) (a b : Int32) : ∃ r σ1 σ2, F_Shop_wall σ a b = (r, σ1) ∧ F_Ref_wall σ1 a b = some (r, σ2) ∧ R σ2 := by
  by_cases ha : F_Shop_within a 1 24 = true
  rotate_left
  · refine ⟨-2, σ, σ, ?_, ?_, hR⟩
    · unfold F_Shop_wall; rw [if_neg ha]
    · unfold F_Ref_wall; rw [in_wi, if_neg ha]
  by_cases hb : F_Shop_within b 1 10 = true
  rotate_left
  · refine ⟨-2, σ, σ, ?_, ?_, hR⟩
    · unfold F_Shop_wall; rw [if_pos ha, if_neg hb]
    · unfold F_Ref_wall; rw [in_wi, if_pos ha, in_wi, if_neg hb]
  obtain ⟨w, hw1, hw2, rfl⟩ := wi_nI (a := 1) (b := 24) (by decide) (by decide) ha
  obtain ⟨h, hh1, hh2, rfl⟩ := wi_nI (a := 1) (b := 10) (by decide) (by decide) hb
  obtain ⟨w0, h0, m, q, n, S, pt, hD, hF, hL, hH, hC⟩ := hR
  have h1 : F_Shop_wall σ (nI w) (nI h) = (1, F_Shop_takeDown (F_Drawing_begin σ (nI w) (nI h))) := by
    unfold F_Shop_wall; rw [if_pos ha, if_pos hb]
  refine ⟨1, _, F_Ref_goes (sR (up (up (F_Shop_takeDown (F_Drawing_begin σ (nI w) (nI h))) 76 0 (nI w)) 76 1 (nI h)) 77 (rowF (fun _ => 0) (σ 77) 240)), h1, ?_, w, h, m, q, 0, 0, false, ?_, ?_, ?_, ?_, ?_⟩
  · unfold F_Ref_wall
    rw [in_wi, if_pos ha, in_wi, if_pos hb]
    generalize hs : up (up (F_Shop_takeDown (F_Drawing_begin σ (nI w) (nI h))) 76 0 (nI w)) 76 1 (nI h) = σ1
    have h77 : σ 77 = σ1 77 := by rw [← hs]; rfl
    have hl : lpW L_Ref_wall_35 FU (0, σ1) = some (sR σ1 77 (rowF (fun _ => 0) (σ1 77) 240)) := by
      refine lpW_at (s := fun i => (nI i, sR σ1 77 (rowF (fun _ => 0) (σ1 77) i))) 240 ?_ ?_ ?_ (by decide)
      · rw [rowF_0, sR_self]; rfl
      · intro i hi
        unfold L_Ref_wall_35
        dsimp only
        rw [if_neg (show ¬ (240 : Int32) ≤ nI i from nI_ge hi (by decide)), vin_nI hi (by decide), og_t, ix_nI (by omega), nI_1, up_sR, sR_at, sR_sR, ← rowF_s]
      · unfold L_Ref_wall_35
        dsimp only
        rw [if_pos (show (240 : Int32) ≤ nI 240 from nI_le (Nat.le_refl 240) (by decide))]
    rw [h77, ob_of hl]
  · exact ⟨rfl, rfl, rfl, rfl, hw1, hw2, hh1, hh2, by show rowF (fun _ => 0) (σ 77) 240 = (fun j => if j < 240 then 0 else σ 3 j); rw [hD.2.2.2.2.2.2.2.2.1]; rfl, fun k hk => ⟨0, by decide, if_pos hk⟩⟩
  · exact RF_c (fun p hp => by rcases hp with rfl | rfl | rfl | rfl | rfl | rfl | rfl | rfl | rfl | rfl <;> rfl) hF
  · exact RLo_c (fun p hp => by rcases hp with rfl | rfl | rfl | rfl | rfl | rfl | rfl <;> rfl) rfl hL
  · exact RH_c (fun p hp => by rcases hp with rfl | rfl | rfl | rfl | rfl <;> rfl) rfl hH
  · exact RC_0 rfl rfl rfl (fun k hk => by rcases hk with rfl | rfl | rfl | rfl | rfl <;> rfl) hC.2.2.2.1
end
section
/-! simple: field, draw, colour, mark, lot, left, more, hand -/
theorem wi_0w {σw : Int32} {w : Nat} {a : Int32} (hw : σw = nI w) (h1 : 1 ≤ w) (h2 : w < 2 ^ 31) (h : F_Shop_within a 0 (σw - 1) = true) : ∃ x, x < w ∧ a = nI x := by
  rw [hw, nI_sub1 h1] at h
  obtain ⟨x, hx1, hx2, rfl⟩ := wi_nI (a := 0) (by decide) (by omega) h
  exact ⟨x, by omega, rfl⟩
theorem wi_0 {k b : Nat} (h : k ≤ b) (hb : b < 2 ^ 31) : F_Shop_within (nI k) 0 (nI b) = true := wi_of (a := 0) (Nat.zero_le _) h hb
theorem has_nI {σ : SG} {w h : Nat} (hD : RD σ w h) {a b : Int32} (hh : F_Drawing_has σ a b = true) : ∃ x y, x < w ∧ y < h ∧ a = nI x ∧ b = nI y := by
  unfold F_Drawing_has at hh
  by_cases h1 : F_Shop_within a 0 (σ 1 0 - 1) = true
  · rw [if_pos h1] at hh
    by_cases h2 : F_Shop_within b 0 (σ 1 1 - 1) = true
    · obtain ⟨x, hx, rfl⟩ := wi_0w hD.1 hD.2.2.2.2.1 (by have := hD.2.2.2.2.2.1; omega) h1
      obtain ⟨y, hy, rfl⟩ := wi_0w hD.2.1 hD.2.2.2.2.2.2.1 (by have := hD.2.2.2.2.2.2.2.1; omega) h2
      exact ⟨x, y, hx, hy, rfl, rfl⟩
    · rw [if_neg h2] at hh; cases hh
  · rw [if_neg h1] at hh; cases hh
theorem has_of {σ : SG} {w h x y : Nat} (hD : RD σ w h) (hx : x < w) (hy : y < h) : F_Drawing_has σ (nI x) (nI y) = true := by
  unfold F_Drawing_has
  obtain ⟨e1, e2, -, -, g1, g2, g3, g4, -⟩ := hD
  rw [e1, e2, nI_sub1 g1, nI_sub1 g3, if_pos (wi_0 (by omega) (by omega)), if_pos (wi_0 (by omega) (by omega))]
theorem isPl {σ : SG} {w h : Nat} (hD : RD σ w h) (a b : Int32) : F_Ref_isPlace σ a b = F_Drawing_has σ a b := by
  unfold F_Ref_isPlace F_Drawing_has
  rw [hD.2.2.1, hD.2.2.2.1, hD.1, hD.2.1]
  rfl
theorem pl_nI (x y : Nat) : F_Drawing_place (nI x) (nI y) = nI (24 * y + x) := by
  unfold F_Drawing_place
  rw [l24, nI_mul, nI_add, Nat.mul_comm]
theorem pl_nI' (x y : Nat) : 24 * nI y + nI x = nI (24 * y + x) := by
  rw [l24, nI_mul, nI_add]
theorem fAt {σ : SG} {x y : Nat} (h : 24 * y + x < 240) : F_Drawing_fieldAt σ (nI x) (nI y) = σ 3 (24 * y + x) := by
  unfold F_Drawing_fieldAt
  rw [pl_nI, rg_nI h (by decide)]
theorem pl_lt {σ : SG} {w h : Nat} (hD : RD σ w h) {x y : Nat} (hx : x < w) (hy : y < h) : 24 * y + x < 240 := by
  obtain ⟨-, -, -, -, g1, g2, g3, g4, -⟩ := hD
  omega
theorem op_field {σ : SG} (hR : R σ) (a b : Int32) : F_Ref_field σ a b = some (F_Shop_field σ a b) := by
  obtain ⟨w, h, m, q, n, S, pt, hD, hF, hL, hH, hC⟩ := hR
  unfold F_Ref_field F_Shop_field
  rw [isPl hD]
  by_cases hh : F_Drawing_has σ a b = true
  · rw [if_pos hh, if_pos hh]
    obtain ⟨x, y, hx, hy, rfl, rfl⟩ := has_nI hD hh
    have hlt := pl_lt hD hx hy
    rw [pl_nI', vin_nI hlt (by decide), og_t, ix_nI (by omega), fAt hlt, hD.2.2.2.2.2.2.2.2.1]
  · rw [if_neg hh, if_neg hh]
theorem isF_nI {p : Int32} (h : F_Shop_within p 0 7 = true) : ∃ f, f < 8 ∧ p = nI f := by
  obtain ⟨k, -, h2, rfl⟩ := wi_nI (a := 0) (b := 7) (by decide) (by decide) h
  exact ⟨k, by omega, rfl⟩
theorem isC_nI {a b c : Int32} (h : F_Shop_isColour a b c = true) : ∃ x y z, x ≤ 255 ∧ y ≤ 255 ∧ z ≤ 255 ∧ a = nI x ∧ b = nI y ∧ c = nI z := by
  unfold F_Shop_isColour at h
  by_cases h1 : F_Shop_within a 0 255 = true
  rotate_left
  · rw [if_neg h1] at h; cases h
  rw [if_pos h1] at h
  by_cases h2 : F_Shop_within b 0 255 = true
  rotate_left
  · rw [if_neg h2] at h; cases h
  rw [if_pos h2] at h
  by_cases h3 : F_Shop_within c 0 255 = true
  rotate_left
  · rw [if_neg h3] at h; cases h
  obtain ⟨x, -, hx, rfl⟩ := wi_nI (a := 0) (b := 255) (by decide) (by decide) h1
  obtain ⟨y, -, hy, rfl⟩ := wi_nI (a := 0) (b := 255) (by decide) (by decide) h2
  obtain ⟨z, -, hz, rfl⟩ := wi_nI (a := 0) (b := 255) (by decide) (by decide) h3
  exact ⟨x, y, z, hx, hy, hz, rfl, rfl, rfl⟩
theorem isC_same (a b c : Int32) : F_Ref_isColour a b c = F_Shop_isColour a b c := rfl
theorem op_colour {σ : SG} (hR : R σ) (a b c d : Int32) : ∃ r σ1 σ2, F_Shop_colour σ a b c d = (r, σ1) ∧ F_Ref_colour σ1 a b c d = some (r, σ2) ∧ R σ2 := by
  by_cases ha : F_Shop_within a 0 7 = true
  rotate_left
  · refine ⟨-2, σ, σ, ?_, ?_, hR⟩
    · unfold F_Shop_colour F_Shop_isField; rw [if_neg ha]
    · unfold F_Ref_colour; rw [in_wi, if_neg ha]
  by_cases hb : F_Shop_isColour b c d = true
  rotate_left
  · refine ⟨-2, σ, σ, ?_, ?_, hR⟩
    · unfold F_Shop_colour F_Shop_isField; rw [if_pos ha, if_neg hb]
    · unfold F_Ref_colour; rw [in_wi, if_pos ha, isC_same, if_neg hb]
  obtain ⟨f, hf, rfl⟩ := isF_nI ha
  obtain ⟨x, y, z, hx, hy, hz, rfl, rfl, rfl⟩ := isC_nI hb
  obtain ⟨w, h, m, q, n, S, pt, hD, hF, hL, hH, hC⟩ := hR
  refine ⟨1, up (up (up σ 7 f (nI x)) 9 f (nI y)) 11 f (nI z), up (up (up (up (up (up σ 7 f (nI x)) 9 f (nI y)) 11 f (nI z)) 78 (3 * f) (nI x)) 78 (3 * f + 1) (nI y)) 78 (3 * f + 2) (nI z), ?_, ?_, w, h, m, q, n, S, pt, ?_, ?_, ?_, ?_, ?_⟩
  · unfold F_Shop_colour F_Shop_isField F_Colours_put_5 nm
    rw [if_pos ha, if_pos hb, rs_nI hf (by decide), rs_nI hf (by decide), rs_nI hf (by decide)]
  · unfold F_Ref_colour nm
    rw [in_wi, if_pos ha, isC_same, if_pos hb, l3, nI_mul, l1, l2, nI_add, nI_add, vin_nI (by omega) (by decide), og_t, vin_nI (by omega) (by decide), og_t, vin_nI (by omega) (by decide)]
    dsimp only
    rw [og_t, ix_nI (by omega), ix_nI (by omega), ix_nI (by omega)]
  · exact RD_c (fun p hp => by rcases hp with rfl | rfl | rfl <;> rfl) rfl rfl hD
  · refine ⟨hF.1, hF.2.1, fun g hg => ?_⟩
    obtain ⟨⟨a0, b0, c0, k1, k2, k3, e1, e2, e3, e4, e5, e6⟩, rest⟩ := hF.2.2 g hg
    refine ⟨?_, rest⟩
    by_cases hgf : g = f
    · subst hgf
      refine ⟨x, y, z, hx, hy, hz, upd_at _ _ _, ?_, upd_at _ _ _, ?_, upd_at _ _ _, upd_at _ _ _⟩
      · show upd (upd (upd (σ 78) (3 * g) (nI x)) (3 * g + 1) (nI y)) (3 * g + 2) (nI z) (3 * g) = nI x
        rw [upd_ne _ _ (by omega), upd_ne _ _ (by omega), upd_at]
      · show upd (upd (upd (σ 78) (3 * g) (nI x)) (3 * g + 1) (nI y)) (3 * g + 2) (nI z) (3 * g + 1) = nI y
        rw [upd_ne _ _ (by omega), upd_at]
    · refine ⟨a0, b0, c0, k1, k2, k3, (upd_ne _ _ hgf).trans e1, ?_, (upd_ne _ _ hgf).trans e3, ?_, (upd_ne _ _ hgf).trans e5, ?_⟩
      · show upd (upd (upd (σ 78) (3 * f) (nI x)) (3 * f + 1) (nI y)) (3 * f + 2) (nI z) (3 * g) = nI a0
        rw [upd_ne _ _ (by omega), upd_ne _ _ (by omega), upd_ne _ _ (by omega), e2]
      · show upd (upd (upd (σ 78) (3 * f) (nI x)) (3 * f + 1) (nI y)) (3 * f + 2) (nI z) (3 * g + 1) = nI b0
        rw [upd_ne _ _ (by omega), upd_ne _ _ (by omega), upd_ne _ _ (by omega), e4]
      · show upd (upd (upd (σ 78) (3 * f) (nI x)) (3 * f + 1) (nI y)) (3 * f + 2) (nI z) (3 * g + 2) = nI c0
        rw [upd_ne _ _ (by omega), upd_ne _ _ (by omega), upd_ne _ _ (by omega), e6]
  · exact RLo_c (fun p hp => by rcases hp with rfl | rfl | rfl | rfl | rfl | rfl | rfl <;> rfl) rfl hL
  · exact RH_c (fun p hp => by rcases hp with rfl | rfl | rfl | rfl | rfl <;> rfl) rfl hH
  · exact RC_c (fun p hp => by rcases hp with rfl | rfl | rfl | rfl | rfl | rfl | rfl | rfl | rfl | rfl | rfl | rfl | rfl | rfl | rfl | rfl | rfl | rfl | rfl <;> rfl) (fun k hk => rfl) hC
theorem bI_z (z : Bool) : (if z = true then (1 : Int32) else 0) = bI z := by cases z <;> rfl
theorem op_mark {σ : SG} (hR : R σ) (a b : Int32) (c d : Bool) : ∃ r σ1 σ2, F_Shop_mark σ a b c d = (r, σ1) ∧ F_Ref_mark σ1 a b c d = some (r, σ2) ∧ R σ2 := by
  by_cases ha : F_Shop_within a 0 7 = true
  rotate_left
  · refine ⟨-2, σ, σ, ?_, ?_, hR⟩
    · unfold F_Shop_mark F_Shop_isField; rw [if_neg ha]
    · unfold F_Ref_mark; rw [in_wi, if_neg ha]
  by_cases hb : F_Shop_within b 1 3 = true
  rotate_left
  · refine ⟨-2, σ, σ, ?_, ?_, hR⟩
    · unfold F_Shop_mark F_Shop_isField; rw [if_pos ha, if_neg hb]
    · unfold F_Ref_mark; rw [in_wi, if_pos ha, in_wi, if_neg hb]
  obtain ⟨f, hf, rfl⟩ := isF_nI ha
  obtain ⟨g, hg1, hg2, rfl⟩ := wi_nI (a := 1) (b := 3) (by decide) (by decide) hb
  obtain ⟨w, h, m, q, n, S, pt, hD, hF, hL, hH, hC⟩ := hR
  refine ⟨1, up (up (up σ 13 f (nI g)) 15 f (bI c)) 17 f (bI d), up (up (up (up (up (up σ 13 f (nI g)) 15 f (bI c)) 17 f (bI d)) 79 f (nI (3 - g))) 80 f (bI c)) 81 f (bI d), ?_, ?_, w, h, m, q, n, S, pt, ?_, ?_, ?_, ?_, ?_⟩
  · unfold F_Shop_mark F_Shop_isField nm
    rw [if_pos ha, if_pos hb]
    cases c <;> cases d <;> simp only [Bool.false_eq_true, if_false, if_true] <;> rw [rs_nI hf (by decide), rs_nI hf (by decide), rs_nI hf (by decide)] <;> rfl
  · unfold F_Ref_mark nm
    rw [in_wi, if_pos ha, in_wi, if_pos hb, vin_nI hf (by decide), og_t, og_t]
    dsimp only
    rw [og_t, ix_nI (by omega), l3, pk_sub hg2]
  · exact RD_c (fun p hp => by rcases hp with rfl | rfl | rfl <;> rfl) rfl rfl hD
  · refine ⟨?_, ?_, fun k hk => ?_⟩
    · show upd (σ 80) f (bI c) = upd (σ 15) f (bI c)
      rw [hF.1]
    · show upd (σ 81) f (bI d) = upd (σ 17) f (bI d)
      rw [hF.2.1]
    · obtain ⟨e1, ⟨g0, k1, k2, e2, e3⟩, ⟨z1, e4⟩, ⟨z2, e5⟩⟩ := hF.2.2 k hk
      refine ⟨e1, ?_, ?_, ?_⟩
      · by_cases hkf : k = f
        · subst hkf
          exact ⟨g, hg1, hg2, upd_at _ _ _, upd_at _ _ _⟩
        · exact ⟨g0, k1, k2, (upd_ne _ _ hkf).trans e2, (upd_ne _ _ hkf).trans e3⟩
      · by_cases hkf : k = f
        · subst hkf
          exact ⟨c, upd_at _ _ _⟩
        · exact ⟨z1, (upd_ne _ _ hkf).trans e4⟩
      · by_cases hkf : k = f
        · subst hkf
          exact ⟨d, upd_at _ _ _⟩
        · exact ⟨z2, (upd_ne _ _ hkf).trans e5⟩
  · exact RLo_c (fun p hp => by rcases hp with rfl | rfl | rfl | rfl | rfl | rfl | rfl <;> rfl) rfl hL
  · exact RH_c (fun p hp => by rcases hp with rfl | rfl | rfl | rfl | rfl <;> rfl) rfl hH
  · exact RC_c (fun p hp => by rcases hp with rfl | rfl | rfl | rfl | rfl | rfl | rfl | rfl | rfl | rfl | rfl | rfl | rfl | rfl | rfl | rfl | rfl | rfl | rfl <;> rfl) (fun k hk => rfl) hC
theorem op_lot {σ : SG} (hR : R σ) (a b c d : Int32) : ∃ r σ1 σ2, F_Shop_lot σ a b c d = (r, σ1) ∧ F_Ref_lot σ1 a b c d = some (r, σ2) ∧ R σ2 := by
  by_cases ha : F_Shop_isColour a b c = true
  rotate_left
  · refine ⟨-2, σ, σ, ?_, ?_, hR⟩
    · unfold F_Shop_lot; rw [if_neg ha]
    · unfold F_Ref_lot; rw [isC_same, if_neg ha]
  by_cases hb : F_Shop_within d 0 1000 = true
  rotate_left
  · refine ⟨-2, σ, σ, ?_, ?_, hR⟩
    · unfold F_Shop_lot; rw [if_pos ha, if_neg hb]
    · unfold F_Ref_lot; rw [isC_same, if_pos ha, in_wi, if_neg hb]
  obtain ⟨w, h, m, q, n, S, pt, hD, hF, hL, hH, hC⟩ := id hR
  obtain ⟨e1, e2, e3, e4, e5⟩ := hL
  by_cases hm : m = 10
  · refine ⟨-4, σ, σ, ?_, ?_, hR⟩
    · unfold F_Shop_lot; rw [if_pos ha, if_pos hb, e1, if_pos (show (10 : Int32) ≤ nI m by rw [hm]; exact nI_le (Nat.le_refl 10) (by decide))]
    · unfold F_Ref_lot; rw [isC_same, if_pos ha, in_wi, if_pos hb, e2, if_pos (by rw [hm]; rfl)]
  have hm2 : m < 10 := by omega
  obtain ⟨x, y, z, hx, hy, hz, rfl, rfl, rfl⟩ := isC_nI ha
  refine ⟨nI m, up (up (up (up (up σ 47 m (nI x)) 49 m (nI y)) 51 m (nI z)) 44 m d) 42 0 (nI (m + 1)), up (up (up (up (up (up (up (up (up (up σ 47 m (nI x)) 49 m (nI y)) 51 m (nI z)) 44 m d) 42 0 (nI (m + 1))) 88 (3 * m) (nI x)) 88 (3 * m + 1) (nI y)) 88 (3 * m + 2) (nI z)) 89 m d) 76 18 (nI (m + 1)), ?_, ?_, w, h, m + 1, q, n, S, pt, ?_, ?_, ?_, ?_, ?_⟩
  · unfold F_Shop_lot
    rw [if_pos ha, if_pos hb, e1, if_neg (show ¬ (10 : Int32) ≤ nI m from nI_ge hm2 (by decide))]
    unfold F_Lots_bring F_Colours_put_45 nm
    dsimp only
    rw [e1, rs_nI hm2 (by decide), rs_nI hm2 (by decide), rs_nI hm2 (by decide)]
    rw [show (up (up (up σ 47 m (nI x)) 49 m (nI y)) 51 m (nI z)) 42 0 = nI m from e1, rs_nI hm2 (by decide)]
    rw [show (up (up (up (up σ 47 m (nI x)) 49 m (nI y)) 51 m (nI z)) 44 m d) 42 0 = nI m from e1, nI_1]
    rw [show ∀ τ : SG, (up τ 42 0 (nI (m + 1))) 42 0 = nI (m + 1) from fun _ => rfl, nI_sub1 (by omega)]
    rfl
  · unfold F_Ref_lot
    rw [isC_same, if_pos ha, in_wi, if_pos hb]
    generalize hσ1 : up (up (up (up (up σ 47 m (nI x)) 49 m (nI y)) 51 m (nI z)) 44 m d) 42 0 (nI (m + 1)) = σ1
    have f2 : σ1 76 18 = nI m := by rw [← hσ1]; exact e2
    have f3 : ∀ (i j k : Nat) (u v t : Int32), up (up (up σ1 88 i u) 88 j v) 88 k t 76 18 = nI m := fun i j k u v t => f2
    have f4 : ∀ (i j : Nat) (u v : Int32), up (up σ1 88 i u) 88 j v 76 18 = nI m := fun i j u v => f2
    have f5 : ∀ (i : Nat) (u : Int32), up σ1 88 i u 76 18 = nI m := fun i u => f2
    have f6 : ∀ (i j k p : Nat) (u v t s : Int32), up (up (up (up σ1 88 i u) 88 j v) 88 k t) 89 p s 76 18 = nI m := fun i j k p u v t s => f2
    rw [f2, if_neg (show ¬ nI m = (10 : Int32) from fun e => hm ((nI_eq (by omega) (by decide)).mp e)), l3, nI_mul, ix_nI (by omega), f5, l1, l2, nI_mul, nI_add, vin_nI (by omega) (by decide), og_t, vin_nI (by omega) (by decide), og_t, ix_nI (by omega)]
    unfold nm
    dsimp only
    rw [f4, nI_mul, nI_add, vin_nI (by omega) (by decide), og_t, ix_nI (by omega), f3, vin_nI (by omega) (by decide), og_t, ix_nI (by omega), f6, nI_add]
    rw [show ∀ τ : SG, (up τ 76 18 (nI (m + 1))) 76 18 = nI (m + 1) from fun _ => rfl, show nI (m + 1) - nI 1 = nI m from nI_pred m]
  · exact RD_c (fun p hp => by rcases hp with rfl | rfl | rfl <;> rfl) rfl rfl hD
  · exact RF_c (fun p hp => by rcases hp with rfl | rfl | rfl | rfl | rfl | rfl | rfl | rfl | rfl | rfl <;> rfl) hF
  · refine ⟨rfl, rfl, by omega, ?_, fun l hl => ?_⟩
    · show upd (σ 89) m d = upd (σ 44) m d
      rw [e4]
    · obtain ⟨a0, b0, c0, k1, k2, k3, g1, g2, g3, g4, g5, g6⟩ := e5 l hl
      by_cases hlm : l = m
      · subst hlm
        refine ⟨x, y, z, hx, hy, hz, upd_at _ _ _, ?_, upd_at _ _ _, ?_, upd_at _ _ _, upd_at _ _ _⟩
        · show upd (upd (upd (σ 88) (3 * l) (nI x)) (3 * l + 1) (nI y)) (3 * l + 2) (nI z) (3 * l) = nI x
          rw [upd_ne _ _ (by omega), upd_ne _ _ (by omega), upd_at]
        · show upd (upd (upd (σ 88) (3 * l) (nI x)) (3 * l + 1) (nI y)) (3 * l + 2) (nI z) (3 * l + 1) = nI y
          rw [upd_ne _ _ (by omega), upd_at]
      · refine ⟨a0, b0, c0, k1, k2, k3, (upd_ne _ _ hlm).trans g1, ?_, (upd_ne _ _ hlm).trans g3, ?_, (upd_ne _ _ hlm).trans g5, ?_⟩
        · show upd (upd (upd (σ 88) (3 * m) (nI x)) (3 * m + 1) (nI y)) (3 * m + 2) (nI z) (3 * l) = nI a0
          rw [upd_ne _ _ (by omega), upd_ne _ _ (by omega), upd_ne _ _ (by omega), g2]
        · show upd (upd (upd (σ 88) (3 * m) (nI x)) (3 * m + 1) (nI y)) (3 * m + 2) (nI z) (3 * l + 1) = nI b0
          rw [upd_ne _ _ (by omega), upd_ne _ _ (by omega), upd_ne _ _ (by omega), g4]
        · show upd (upd (upd (σ 88) (3 * m) (nI x)) (3 * m + 1) (nI y)) (3 * m + 2) (nI z) (3 * l + 2) = nI c0
          rw [upd_ne _ _ (by omega), upd_ne _ _ (by omega), upd_ne _ _ (by omega), g6]
  · exact RH_c (fun p hp => by rcases hp with rfl | rfl | rfl | rfl | rfl <;> rfl) rfl hH
  · exact RC_m (Nat.le_succ m) (RC_c (fun p hp => by rcases hp with rfl | rfl | rfl | rfl | rfl | rfl | rfl | rfl | rfl | rfl | rfl | rfl | rfl | rfl | rfl | rfl | rfl | rfl | rfl <;> rfl) (fun k hk => by rcases hk with rfl | rfl | rfl | rfl | rfl <;> rfl) hC)
theorem lots_has {σ : SG} {m : Nat} (hL : RLo σ m) (a : Int32) : (F_Lots_has σ a = true ∧ F_Shop_within a 0 (σ 76 18 - 1) = true ∧ ∃ k, k < m ∧ a = nI k) ∨ (¬ F_Lots_has σ a = true ∧ ¬ F_Shop_within a 0 (σ 76 18 - 1) = true) := by
  obtain ⟨e1, e2, e3, -⟩ := hL
  unfold F_Lots_has
  rw [e1, e2]
  have hT : (nI m - 1).toInt = (m : Int) - 1 := by
    by_cases h0 : 1 ≤ m
    · rw [nI_sub1 h0, nI_toInt (by omega)]; omega
    · have : m = 0 := by omega
      subst this
      rfl
  by_cases h1 : a < 0
  · right
    rw [if_pos h1]
    refine ⟨fun h => (by cases h), fun h => ?_⟩
    have := (wi_iff.mp h).1
    exact k2_nlt this h1
  · obtain ⟨k, hk, rfl⟩ := nI_of h1
    rw [if_neg h1]
    by_cases h2 : k < m
    · left
      rw [if_neg (nI_ge h2 (by omega))]
      refine ⟨rfl, wi_iff.mpr ⟨nI_pos' hk, ?_⟩, k, h2, rfl⟩
      rw [le_T, hT, nI_toInt hk]
      omega
    · right
      rw [if_pos (nI_le (by omega) hk)]
      refine ⟨fun h => (by cases h), fun h => ?_⟩
      have := (wi_iff.mp h).2
      rw [le_T, hT, nI_toInt hk] at this
      omega
theorem op_left {σ : SG} (hR : R σ) (a : Int32) : F_Ref_left σ a = some (F_Shop_left σ a) := by
  obtain ⟨w, h, m, q, n, S, pt, hD, hF, hL, hH, hC⟩ := hR
  unfold F_Ref_left F_Shop_left
  rw [in_wi]
  rcases lots_has hL a with ⟨h1, h2, k, hk, rfl⟩ | ⟨h1, h2⟩
  · have := hL.2.2.1
    rw [if_pos h1, if_pos h2, vin_nI (by omega) (by decide), og_t, rg_nI (by omega) (by decide), ix_nI (by omega), hL.2.2.2.1]
  · rw [if_neg h1, if_neg h2]
theorem op_more {σ : SG} (hR : R σ) (a b : Int32) : ∃ r σ1 σ2, F_Shop_more σ a b = (r, σ1) ∧ F_Ref_more σ1 a b = some (r, σ2) ∧ R σ2 := by
  obtain ⟨w, h, m, q, n, S, pt, hD, hF, hL, hH, hC⟩ := id hR
  rcases lots_has hL a with ⟨h1, h2, k, hk, rfl⟩ | ⟨h1, h2⟩
  rotate_left
  · refine ⟨-2, σ, σ, ?_, ?_, hR⟩
    · unfold F_Shop_more; rw [if_neg h1]
    · unfold F_Ref_more; rw [in_wi, if_neg h2]
  by_cases hb : F_Shop_within b 0 1000 = true
  rotate_left
  · refine ⟨-2, σ, σ, ?_, ?_, hR⟩
    · unfold F_Shop_more; rw [if_pos h1, if_neg hb]
    · unfold F_Ref_more; rw [in_wi, if_pos h2, in_wi, if_neg hb]
  obtain ⟨e1, e2, e3, e4, e5⟩ := hL
  have hk10 : k < 10 := by omega
  by_cases hs : σ 44 k + b ≤ 1000
  rotate_left
  · refine ⟨-3, σ, σ, ?_, ?_, hR⟩
    · unfold F_Shop_more; rw [if_pos h1, if_pos hb, rg_nI hk10 (by decide), if_neg hs]
    · unfold F_Ref_more; rw [in_wi, if_pos h2, in_wi, if_pos hb, vin_nI hk10 (by decide), og_t, ix_nI (by omega), e4, if_neg hs]
  refine ⟨σ 44 k + b, up σ 44 k (σ 44 k + b), up (up σ 44 k (σ 44 k + b)) 89 k (σ 44 k + b), ?_, ?_, w, h, m, q, n, S, pt, ?_, ?_, ?_, ?_, ?_⟩
  · unfold F_Shop_more
    rw [if_pos h1, if_pos hb, rg_nI hk10 (by decide), if_pos hs, ra_nI hk10 (by decide), rg_nI hk10 (by decide)]
    refine congrArg (fun t => (t, _)) ?_
    exact upd_at _ _ _
  · unfold F_Ref_more
    rw [in_wi, show (up σ 44 k (σ 44 k + b)) 76 18 = σ 76 18 from rfl, if_pos h2, in_wi, if_pos hb, vin_nI hk10 (by decide), og_t, ix_nI (by omega), show (up σ 44 k (σ 44 k + b)) 89 = σ 44 from e4, if_pos hs, og_t, og_t, og_t]
    refine congrArg (fun t => some (t, _)) ?_
    exact upd_at _ _ _
  · exact RD_c (fun p hp => by rcases hp with rfl | rfl | rfl <;> rfl) rfl rfl hD
  · exact RF_c (fun p hp => by rcases hp with rfl | rfl | rfl | rfl | rfl | rfl | rfl | rfl | rfl | rfl <;> rfl) hF
  · refine ⟨e1, e2, e3, ?_, e5⟩
    show upd (σ 89) k (σ 44 k + b) = upd (σ 44) k (σ 44 k + b)
    rw [e4]
  · exact RH_c (fun p hp => by rcases hp with rfl | rfl | rfl | rfl | rfl <;> rfl) rfl hH
  · exact RC_c (fun p hp => by rcases hp with rfl | rfl | rfl | rfl | rfl | rfl | rfl | rfl | rfl | rfl | rfl | rfl | rfl | rfl | rfl | rfl | rfl | rfl | rfl <;> rfl) (fun k hk => by rcases hk with rfl | rfl | rfl | rfl | rfl <;> rfl) hC
theorem op_hand {σ : SG} (hR : R σ) (a : Int32) (b : Bool) : ∃ r σ1 σ2, F_Shop_hand σ a b = (r, σ1) ∧ F_Ref_hand σ1 a b = some (r, σ2) ∧ R σ2 := by
  by_cases ha : F_Shop_within a 1 20 = true
  rotate_left
  · refine ⟨-2, σ, σ, ?_, ?_, hR⟩
    · unfold F_Shop_hand; rw [if_neg ha]
    · unfold F_Ref_hand; rw [in_wi, if_neg ha]
  obtain ⟨w, h, m, q, n, S, pt, hD, hF, hL, hH, hC⟩ := id hR
  obtain ⟨e1, e2, e3, e4, e5, e6⟩ := hH
  by_cases hq : q = 4
  · refine ⟨-4, σ, σ, ?_, ?_, hR⟩
    · unfold F_Shop_hand; rw [if_pos ha, e1, if_pos (show (4 : Int32) ≤ nI q by rw [hq]; exact nI_le (Nat.le_refl 4) (by decide))]
    · unfold F_Ref_hand; rw [in_wi, if_pos ha, e2, if_pos (by rw [hq]; rfl)]
  have hq2 : q < 4 := by omega
  obtain ⟨k, hk1, hk2, rfl⟩ := wi_nI (a := 1) (b := 20) (by decide) (by decide) ha
  refine ⟨nI q, up (up (up σ 62 q (nI k)) 64 q (bI b)) 60 0 (nI (q + 1)), up (up (up (up (up (up σ 62 q (nI k)) 64 q (bI b)) 60 0 (nI (q + 1))) 90 q (nI k)) 91 q (bI b)) 76 21 (nI (q + 1)), ?_, ?_, w, h, m, q + 1, n, S, pt, ?_, ?_, ?_, ?_, ?_⟩
  · unfold F_Shop_hand
    rw [if_pos ha, e1, if_neg (show ¬ (4 : Int32) ≤ nI q from nI_ge hq2 (by decide))]
    unfold F_Hands_hire nm
    cases b <;> simp only [Bool.false_eq_true, if_false, if_true]
    all_goals rw [e1, rs_nI hq2 (by decide), show (up σ 62 q (nI k)) 60 0 = nI q from e1, rs_nI hq2 (by decide)]
    · rw [show (up (up σ 62 q (nI k)) 64 q 0) 60 0 = nI q from e1, nI_1, show ∀ τ : SG, (up τ 60 0 (nI (q + 1))) 60 0 = nI (q + 1) from fun _ => rfl, nI_sub1 (by omega)]
      rfl
    · rw [show (up (up σ 62 q (nI k)) 64 q 1) 60 0 = nI q from e1, nI_1, show ∀ τ : SG, (up τ 60 0 (nI (q + 1))) 60 0 = nI (q + 1) from fun _ => rfl, nI_sub1 (by omega)]
      rfl
  · unfold F_Ref_hand
    rw [in_wi, if_pos ha]
    generalize hσ1 : up (up (up σ 62 q (nI k)) 64 q (bI b)) 60 0 (nI (q + 1)) = σ1
    have f2 : σ1 76 21 = nI q := by rw [← hσ1]; exact e2
    have f5 : ∀ (i : Nat) (u : Int32), up σ1 90 i u 76 21 = nI q := fun i u => f2
    have f6 : ∀ (i j : Nat) (u v : Int32), up (up σ1 90 i u) 91 j v 76 21 = nI q := fun i j u v => f2
    rw [f2, if_neg (show ¬ nI q = (4 : Int32) from fun e => hq ((nI_eq (by omega) (by decide)).mp e)), ix_nI (by omega), f5, vin_nI hq2 (by decide), og_t, og_t]
    unfold nm
    dsimp only
    rw [ix_nI (by omega), f6, nI_1, show ∀ τ : SG, (up τ 76 21 (nI (q + 1))) 76 21 = nI (q + 1) from fun _ => rfl, nI_sub1 (by omega)]
    rfl
  · exact RD_c (fun p hp => by rcases hp with rfl | rfl | rfl <;> rfl) rfl rfl hD
  · exact RF_c (fun p hp => by rcases hp with rfl | rfl | rfl | rfl | rfl | rfl | rfl | rfl | rfl | rfl <;> rfl) hF
  · exact RLo_c (fun p hp => by rcases hp with rfl | rfl | rfl | rfl | rfl | rfl | rfl <;> rfl) rfl hL
  · refine ⟨rfl, rfl, by omega, ?_, ?_, fun j hj => ?_⟩
    · show upd (σ 90) q (nI k) = upd (σ 62) q (nI k)
      rw [e4]
    · show upd (σ 91) q (bI b) = upd (σ 64) q (bI b)
      rw [e5]
    · by_cases hjq : j = q
      · subst hjq
        exact ⟨⟨k, hk1, hk2, upd_at _ _ _⟩, ⟨b, upd_at _ _ _⟩⟩
      · obtain ⟨⟨s, g1, g2, g3⟩, ⟨z, g4⟩⟩ := e6 j (by omega)
        exact ⟨⟨s, g1, g2, (upd_ne _ _ hjq).trans g3⟩, ⟨z, (upd_ne _ _ hjq).trans g4⟩⟩
  · exact RC_c (fun p hp => by rcases hp with rfl | rfl | rfl | rfl | rfl | rfl | rfl | rfl | rfl | rfl | rfl | rfl | rfl | rfl | rfl | rfl | rfl | rfl | rfl <;> rfl) (fun k hk => by rcases hk with rfl | rfl | rfl | rfl | rfl <;> rfl) hC
/-! draw: both fill the same places, and count the same -/
def dst (f : Int32) (j : Nat) (p : Int32 × (Nat → Int32)) : Int32 × (Nat → Int32) := (if p.2 j = f then p.1 else p.1 + 1, upd p.2 j f)
def it {A : Type} (F : Nat → A → A) : Nat → A → A
  | 0, a => a
  | n + 1, a => F n (it F n a)
def dRow (f : Int32) (y a n : Nat) (p : Int32 × (Nat → Int32)) : Int32 × (Nat → Int32) := it (fun k p => dst f (24 * y + a + k) p) n p
def dAll (f : Int32) (y0 a m n : Nat) (p : Int32 × (Nat → Int32)) : Int32 × (Nat → Int32) := it (fun k p => dRow f (y0 + k) a n p) m p
theorem upd_eq {f : Nat → Int32} {k : Nat} {x : Int32} (h : f k = x) : upd f k x = f := by subst h; exact upd_self f k
theorem fillC {σ : SG} {f : Int32} {y a c : Nat} (hc : 24 * y + c < 240) (ha : a ≤ c) (p : Int32 × (Nat → Int32)) : lpW (L_Drawing_fill_16 (nI c) f (nI y)) FU (p.1, nI a, sR σ 3 p.2) = some ((dRow f y a (c + 1 - a) p).1, sR σ 3 (dRow f y a (c + 1 - a) p).2) := by
  refine lpW_at (s := fun k => ((dRow f y a k p).1, nI (a + k), sR σ 3 (dRow f y a k p).2)) (c + 1 - a) rfl ?_ ?_ (by omega)
  · intro k hk
    have hlt : 24 * y + (a + k) < 240 := by omega
    unfold L_Drawing_fill_16
    dsimp only
    rw [if_neg (nI_nlt (by omega) (by omega)), fAt hlt, sR_at, pl_nI, rs_nI hlt (by decide), nI_1]
    show _ = some (Sum.inl ((dst f (24 * y + a + k) (dRow f y a k p)).1, nI (a + k + 1), sR σ 3 (dst f (24 * y + a + k) (dRow f y a k p)).2))
    unfold dst nm
    rw [← Nat.add_assoc]
    dsimp only
    by_cases hg : (dRow f y a k p).2 (24 * y + a + k) = f
    · rw [if_pos hg, if_pos hg, upd_eq hg]
    · rw [if_neg hg, if_neg hg, up_sR, sR_at, sR_sR]
  · unfold L_Drawing_fill_16
    dsimp only
    rw [if_pos (nI_lt (by omega) (by omega))]
theorem fillR {σ : SG} {f : Int32} {y a c : Nat} (hc : 24 * y + c < 240) (ha : a ≤ c) (p : Int32 × (Nat → Int32)) : lpW (L_Ref_draw_87 (nI c) f (nI y)) FU (p.1, nI a, sR σ 77 p.2) = some ((dRow f y a (c + 1 - a) p).1, sR σ 77 (dRow f y a (c + 1 - a) p).2) := by
  refine lpW_at (s := fun k => ((dRow f y a k p).1, nI (a + k), sR σ 77 (dRow f y a k p).2)) (c + 1 - a) rfl ?_ ?_ (by omega)
  · intro k hk
    have hlt : 24 * y + (a + k) < 240 := by omega
    unfold L_Ref_draw_87
    dsimp only
    rw [if_neg (nI_nlt (by omega) (by omega)), pl_nI', vin_nI hlt (by decide), og_t, og_t, ix_nI (by omega), nI_1]
    simp only [sR_at]
    show _ = some (Sum.inl ((dst f (24 * y + a + k) (dRow f y a k p)).1, nI (a + k + 1), sR σ 77 (dst f (24 * y + a + k) (dRow f y a k p)).2))
    unfold dst nm
    rw [← Nat.add_assoc]
    dsimp only
    by_cases hg : (dRow f y a k p).2 (24 * y + a + k) = f
    · rw [if_pos hg, if_pos hg, up_sR, sR_at, sR_sR, Int32.add_zero]
    · rw [if_neg hg, if_neg hg, og_t, up_sR, sR_at, sR_sR]
  · unfold L_Ref_draw_87
    dsimp only
    rw [if_pos (nI_lt (by omega) (by omega))]
theorem fillAC {σ : SG} {f : Int32} {a b c d : Nat} (hc : 24 * d + c < 240) (ha : a ≤ c) (hb : b ≤ d) (p : Int32 × (Nat → Int32)) : lpW (L_Drawing_fill_6 (nI a) (nI c) (nI d) f) FU (p.1, nI b, sR σ 3 p.2) = some ((dAll f b a (d + 1 - b) (c + 1 - a) p).1, sR σ 3 (dAll f b a (d + 1 - b) (c + 1 - a) p).2) := by
  refine lpW_at (s := fun k => ((dAll f b a k (c + 1 - a) p).1, nI (b + k), sR σ 3 (dAll f b a k (c + 1 - a) p).2)) (d + 1 - b) rfl ?_ ?_ (by omega)
  · intro k hk
    unfold L_Drawing_fill_6
    dsimp only
    rw [if_neg (nI_nlt (by omega) (by omega)), ob_of (fillC (by omega) ha _), nI_1]
    rfl
  · unfold L_Drawing_fill_6
    dsimp only
    rw [if_pos (nI_lt (by omega) (by omega))]
theorem fillAR {σ : SG} {f : Int32} {a b c d : Nat} (hc : 24 * d + c < 240) (ha : a ≤ c) (hb : b ≤ d) (p : Int32 × (Nat → Int32)) : lpW (L_Ref_draw_77 (nI a) (nI c) (nI d) f) FU (p.1, nI b, sR σ 77 p.2) = some ((dAll f b a (d + 1 - b) (c + 1 - a) p).1, sR σ 77 (dAll f b a (d + 1 - b) (c + 1 - a) p).2) := by
  refine lpW_at (s := fun k => ((dAll f b a k (c + 1 - a) p).1, nI (b + k), sR σ 77 (dAll f b a k (c + 1 - a) p).2)) (d + 1 - b) rfl ?_ ?_ (by omega)
  · intro k hk
    unfold L_Ref_draw_77
    dsimp only
    rw [if_neg (nI_nlt (by omega) (by omega)), ob_of (fillR (by omega) ha _), nI_1]
    rfl
  · unfold L_Ref_draw_77
    dsimp only
    rw [if_pos (nI_lt (by omega) (by omega))]
end
section
/-! draw -/
theorem in_wi2 (p a b : Int32) : F_Ref_in p a b = F_Shop_within p a b := (in_wi p a b).trans (Eq.refl _)
theorem it_inv {A : Type} {F : Nat → A → A} {P : Nat → A → Prop} {a : A} (h0 : P 0 a) (hs : ∀ k a, P k a → P (k + 1) (F k a)) : ∀ n, P n (it F n a)
  | 0 => h0
  | n + 1 => hs n _ (it_inv h0 hs n)
def dOk (g0 : Nat → Int32) (B : Nat) (p : Int32 × (Nat → Int32)) : Prop := (∃ c, c ≤ B ∧ p.1 = nI c ∧ (c = 0 → p.2 = g0)) ∧ ∀ k, k < 240 → ∃ f, f < 8 ∧ p.2 k = nI f
theorem dst_ok {g0 : Nat → Int32} {B f j : Nat} (hf : f < 8) {p : Int32 × (Nat → Int32)} (h : dOk g0 B p) : dOk g0 (B + 1) (dst (nI f) j p) := by
  obtain ⟨⟨c, h1, h2, h3⟩, h4⟩ := h
  refine ⟨?_, fun k hk => ?_⟩
  · unfold dst
    by_cases hg : p.2 j = nI f
    · rw [if_pos hg]
      exact ⟨c, by omega, h2, fun h0 => (upd_eq hg).trans (h3 h0)⟩
    · rw [if_neg hg]
      exact ⟨c + 1, by omega, by show p.1 + 1 = _; rw [h2, nI_1], fun h0 => absurd h0 (by omega)⟩
  · show ∃ f1, f1 < 8 ∧ upd p.2 j (nI f) k = nI f1
    by_cases hk2 : k = j
    · rw [hk2, upd_at]; exact ⟨f, hf, rfl⟩
    · rw [upd_ne _ _ hk2]; exact h4 k hk
theorem dRow_ok {g0 : Nat → Int32} {B f y a n : Nat} (hf : f < 8) {p : Int32 × (Nat → Int32)} (h : dOk g0 B p) : dOk g0 (B + n) (dRow (nI f) y a n p) :=
  it_inv (P := fun k p => dOk g0 (B + k) p) h (fun k p hp => dst_ok hf hp) n
theorem dAll_ok {g0 : Nat → Int32} {B f y a m n : Nat} (hf : f < 8) {p : Int32 × (Nat → Int32)} (h : dOk g0 B p) : dOk g0 (B + m * n) (dAll (nI f) y a m n p) := by
  refine it_inv (P := fun k p => dOk g0 (B + k * n) p) (by rw [Nat.zero_mul]; exact h) (fun k p hp => ?_) m
  have := dRow_ok (y := y + k) (a := a) (n := n) hf hp
  rw [Nat.succ_mul, ← Nat.add_assoc]
  exact this
theorem draw_cond {σ : SG} {w h : Nat} (hD : RD σ w h) (x0 y0 x1 y1 f : Int32) :
    (∃ a b c d g, a ≤ c ∧ c < w ∧ b ≤ d ∧ d < h ∧ g < 8 ∧ x0 = nI a ∧ y0 = nI b ∧ x1 = nI c ∧ y1 = nI d ∧ f = nI g) ∨
    (F_Shop_draw σ x0 y0 x1 y1 f = some (-2, σ) ∧ F_Ref_draw σ x0 y0 x1 y1 f = some (-2, σ)) := by
  by_cases hv : ∃ a b c d g, a ≤ c ∧ c < w ∧ b ≤ d ∧ d < h ∧ g < 8 ∧ x0 = nI a ∧ y0 = nI b ∧ x1 = nI c ∧ y1 = nI d ∧ f = nI g
  · exact Or.inl hv
  right
  have hD2 := hD
  obtain ⟨e1, e2, e3, e4, g1, g2, g3, g4, -⟩ := hD2
  constructor
  · unfold F_Shop_draw
    by_cases c1 : F_Drawing_has σ x0 y0 = true
    rotate_left
    · rw [if_neg c1]
    rw [if_pos c1]
    by_cases c2 : F_Drawing_has σ x1 y1 = true
    rotate_left
    · rw [if_neg c2]
    rw [if_pos c2]
    by_cases c3 : x1 < x0
    · rw [if_pos c3]
    rw [if_neg c3]
    by_cases c4 : y1 < y0
    · rw [if_pos c4]
    rw [if_neg c4]
    by_cases c5 : F_Shop_isField f = true
    rotate_left
    · rw [if_neg c5]
    exfalso
    obtain ⟨a, b, ha, hb, rfl, rfl⟩ := has_nI hD c1
    obtain ⟨c, d, hc, hd, rfl, rfl⟩ := has_nI hD c2
    obtain ⟨g, hg, rfl⟩ := isF_nI c5
    refine hv ⟨a, b, c, d, g, ?_, hc, ?_, hd, hg, rfl, rfl, rfl, rfl, rfl⟩
    · rcases Nat.lt_or_ge c a with q | q
      · exact absurd (nI_lt q (by omega)) c3
      · exact q
    · rcases Nat.lt_or_ge d b with q | q
      · exact absurd (nI_lt q (by omega)) c4
      · exact q
  · unfold F_Ref_draw
    rw [e3, e4, nI_sub1 g1, nI_sub1 g3]
    simp only [in_wi2]
    by_cases c1 : F_Shop_within x0 0 (nI (w - 1)) = true
    rotate_left
    · rw [if_neg c1]
    rw [if_pos c1]
    by_cases c2 : F_Shop_within x1 x0 (nI (w - 1)) = true
    rotate_left
    · rw [if_neg c2]
    rw [if_pos c2]
    by_cases c3 : F_Shop_within y0 0 (nI (h - 1)) = true
    rotate_left
    · rw [if_neg c3]
    rw [if_pos c3]
    by_cases c4 : F_Shop_within y1 y0 (nI (h - 1)) = true
    rotate_left
    · rw [if_neg c4]
    rw [if_pos c4]
    by_cases c5 : F_Shop_within f 0 7 = true
    rotate_left
    · rw [if_neg c5]
    exfalso
    obtain ⟨a, -, ha, rfl⟩ := wi_nI (a := 0) (by decide) (by omega) c1
    obtain ⟨c, hac, hc, rfl⟩ := wi_nI (by omega) (by omega) c2
    obtain ⟨b, -, hb, rfl⟩ := wi_nI (a := 0) (by decide) (by omega) c3
    obtain ⟨d, hbd, hd, rfl⟩ := wi_nI (by omega) (by omega) c4
    obtain ⟨g, hg, rfl⟩ := isF_nI c5
    exact hv ⟨a, b, c, d, g, hac, by omega, hbd, by omega, hg, rfl, rfl, rfl, rfl, rfl⟩
theorem op_draw {σ : SG} (hR : R σ) (x0 y0 x1 y1 f : Int32) : ∃ r σ1 σ2, F_Shop_draw σ x0 y0 x1 y1 f = some (r, σ1) ∧ F_Ref_draw σ1 x0 y0 x1 y1 f = some (r, σ2) ∧ R σ2 := by
  obtain ⟨w, h, m, q, n, S, pt, hD, hF, hL, hH, hC⟩ := id hR
  rcases draw_cond hD x0 y0 x1 y1 f with ⟨a, b, c, d, g, hac, hcw, hbd, hdh, hg, rfl, rfl, rfl, rfl, rfl⟩ | ⟨h1, h2⟩
  rotate_left
  · exact ⟨-2, σ, σ, h1, h2, hR⟩
  have hD2 := hD
  obtain ⟨e1, e2, e3, e4, g1, g2, g3, g4, e5, e6⟩ := hD2
  have hok : dOk (σ 3) (0 + (d + 1 - b) * (c + 1 - a)) (dAll (nI g) b a (d + 1 - b) (c + 1 - a) (nI 0, σ 3)) := dAll_ok hg ⟨⟨0, Nat.le_refl 0, rfl, fun _ => rfl⟩, e6⟩
  have hc0 := fillAC (σ := σ) (f := nI g) (a := a) (b := b) (c := c) (d := d) (by omega) hac hbd (nI 0, σ 3)
  have hfield : F_Shop_isField (nI g) = true := wi_0 (b := 7) (by omega) (by decide)
  generalize hp : dAll (nI g) b a (d + 1 - b) (c + 1 - a) (nI 0, σ 3) = p at hok hc0
  obtain ⟨⟨k, hk1, hk2, hk3⟩, hk4⟩ := hok
  have hkB : k < 2 ^ 31 := by
    have : (d + 1 - b) * (c + 1 - a) ≤ 10 * 24 := Nat.mul_le_mul (by omega) (by omega)
    omega
  rw [sR_self] at hc0
  have hrow : sR (sR σ 3 p.2) 77 (sR σ 3 p.2 77) = sR σ 3 p.2 := sR_self _ _
  have hr0 := fillAR (σ := sR σ 3 p.2) (f := nI g) (a := a) (b := b) (c := c) (d := d) (by omega) hac hbd (nI 0, σ 3)
  rw [hp] at hr0
  have h77 : (sR σ 3 p.2) 77 = σ 3 := (sR_ne σ p.2 (by decide)).trans e5
  rw [show sR (sR σ 3 p.2) 77 (σ 3) = sR σ 3 p.2 by rw [← h77, sR_self]] at hr0
  have hcl : F_Drawing_fill σ (nI a) (nI b) (nI c) (nI d) (nI g) = some (p.1, sR σ 3 p.2) := by
    unfold F_Drawing_fill
    rw [show ((0 : Int32), nI b, σ) = (nI 0, nI b, σ) from rfl, ob_of hc0]
  have hclass : ∀ t, (if p.1 ≤ 0 then some (p.1, sR σ 3 p.2) else some (p.1, F_Shop_takeDown (sR σ 3 p.2))) = t → F_Shop_draw σ (nI a) (nI b) (nI c) (nI d) (nI g) = t := by
    intro t ht
    unfold F_Shop_draw
    rw [if_pos (has_of hD (by omega) (by omega)), if_pos (has_of hD hcw hdh), if_neg (nI_nlt hac (by omega)), if_neg (nI_nlt hbd (by omega)), if_pos hfield, ob_of hcl]
    exact ht
  have href : ∀ σ1 : SG, σ1 76 0 = nI w → σ1 76 1 = nI h → ∀ σ3, lpW (L_Ref_draw_77 (nI a) (nI c) (nI d) (nI g)) FU (0, nI b, σ1) = some (p.1, σ3) → F_Ref_draw σ1 (nI a) (nI b) (nI c) (nI d) (nI g) = (if p.1 ≤ 0 then some (p.1, σ3) else some (p.1, F_Ref_goes σ3)) := by
    intro σ1 k1 k2 σ3 k3
    unfold F_Ref_draw
    simp only [in_wi2]
    rw [k1, k2, nI_sub1 g1, nI_sub1 g3, if_pos (wi_0 (by omega) (by omega)), if_pos (wi_of (by omega) (by omega) (by omega)), if_pos (wi_0 (by omega) (by omega)), if_pos (wi_of (by omega) (by omega) (by omega)), if_pos (show F_Shop_within (nI g) 0 7 = true from hfield), ob_of k3]
  by_cases hk0 : k = 0
  · have hp2 : p.2 = σ 3 := hk3 hk0
    have hle : p.1 ≤ 0 := by rw [hk2, hk0]; decide
    rw [hp2] at hclass hr0
    rw [sR_self] at hclass hr0
    rw [show sR σ 77 (σ 3) = σ by rw [← e5, sR_self]] at hr0
    exact ⟨p.1, σ, σ, hclass _ (if_pos hle), (href σ e3 e4 σ hr0).trans (if_pos hle), hR⟩
  · have hnle : ¬ p.1 ≤ 0 := by rw [hk2]; exact nI_nle (by omega) hkB
    have hT : F_Shop_takeDown (sR σ 3 p.2) = up (up (up (sR σ 3 p.2) 18 0 0) 52 0 0) 57 0 0 := rfl
    have hr1 := fillAR (σ := F_Shop_takeDown (sR σ 3 p.2)) (f := nI g) (a := a) (b := b) (c := c) (d := d) (by omega) hac hbd (nI 0, σ 3)
    rw [hp] at hr1
    have h77' : (F_Shop_takeDown (sR σ 3 p.2)) 77 = σ 3 := e5
    rw [show sR (F_Shop_takeDown (sR σ 3 p.2)) 77 (σ 3) = F_Shop_takeDown (sR σ 3 p.2) by rw [← h77', sR_self]] at hr1
    refine ⟨p.1, _, _, hclass _ (if_neg hnle), (href (F_Shop_takeDown (sR σ 3 p.2)) e3 e4 _ hr1).trans (if_neg hnle), w, h, m, q, 0, 0, false, ?_, ?_, ?_, ?_, ?_⟩
    · exact ⟨e1, e2, e3, e4, g1, g2, g3, g4, rfl, hk4⟩
    · exact RF_c (fun p hp => by rcases hp with rfl | rfl | rfl | rfl | rfl | rfl | rfl | rfl | rfl | rfl <;> rfl) hF
    · exact RLo_c (fun p hp => by rcases hp with rfl | rfl | rfl | rfl | rfl | rfl | rfl <;> rfl) rfl hL
    · exact RH_c (fun p hp => by rcases hp with rfl | rfl | rfl | rfl | rfl <;> rfl) rfl hH
    · exact RC_0 rfl rfl rfl (fun k hk => by rcases hk with rfl | rfl | rfl | rfl | rfl <;> rfl) hC.2.2.2.1
end
section
/-! sums: what is summed and counted over the cubes -/
def CB (σ : SG) (n : Nat) (r l z f : Nat → Nat) : Prop := ∀ i, i < n → σ 20 i = nI (r i) ∧ σ 22 i = nI (l i) ∧ σ 24 i = nI (z i) ∧ σ 26 i = nI (f i) ∧ r i < 10 ∧ 1 ≤ z i ∧ z i ≤ 3 ∧ l i + z i ≤ 24 ∧ f i < 8
theorem RC_CB {σ : SG} {w h m n S : Nat} {pt : Bool} (hD : RD σ w h) (hC : RC σ w h m n S pt) : ∃ r l z f, CB σ n r l z f ∧ (0 < n → Cov σ w h n r l z f ∧ (0 < S → CutI σ n S r z)) := by
  by_cases h0 : 0 < n
  · obtain ⟨r, l, z, f, h1, h2⟩ := hC.2.2.2.2.1 h0
    refine ⟨r, l, z, f, fun i hi => ?_, fun _ => ⟨h1, h2⟩⟩
    obtain ⟨e1, e2, e3, e4, e5, e6, e7, e8, e9, -⟩ := h1.1 i hi
    obtain ⟨-, -, -, -, -, g2, -, g4, -⟩ := hD
    exact ⟨e1, e2, e3, e4, by omega, e6, e7, by omega, e9⟩
  · exact ⟨fun _ => 0, fun _ => 0, fun _ => 0, fun _ => 0, fun i hi => absurd hi (by omega), fun h => absurd h h0⟩
def sI (p : Nat → Bool) (g : Nat → Int32) : Nat → Int32
  | 0 => 0
  | n + 1 => if p n = true then sI p g n + g n else sI p g n
theorem sI_cong {p q : Nat → Bool} {g k : Nat → Int32} : ∀ {n : Nat}, (∀ i, i < n → p i = q i) → (∀ i, i < n → p i = true → g i = k i) → sI p g n = sI q k n
  | 0, _, _ => rfl
  | n + 1, h1, h2 => by
    rw [sI, sI, sI_cong (fun i hi => h1 i (by omega)) (fun i hi => h2 i (by omega)), ← h1 n (by omega)]
    by_cases hp : p n = true
    · rw [if_pos hp, if_pos hp, h2 n (by omega) hp]
    · rw [if_neg hp, if_neg hp]
theorem sI_sm {p : Nat → Bool} {g : Nat → Int32} {z : Nat → Nat} : ∀ {n : Nat}, (∀ i, i < n → g i = nI (z i)) → sI p g n = nI (sm p z n)
  | 0, _ => rfl
  | n + 1, h => by
    rw [sI, sm, sI_sm (fun i hi => h i (by omega))]
    by_cases hp : p n = true
    · rw [if_pos hp, if_pos hp, h n (by omega), nI_add]
    · rw [if_neg hp, if_neg hp, Nat.add_zero]
theorem sm_le {p : Nat → Bool} {z : Nat → Nat} {c : Nat} : ∀ {n : Nat}, (∀ i, i < n → z i ≤ c) → sm p z n ≤ n * c
  | 0, _ => by rw [sm]; omega
  | n + 1, h => by
    have h1 := sm_le (p := p) (fun i hi => h i (by omega) : ∀ i, i < n → z i ≤ c)
    have h2 := h n (by omega)
    rw [sm, Nat.succ_mul]
    by_cases hp : p n = true
    · rw [if_pos hp]; omega
    · rw [if_neg hp]; omega
theorem sm_pos {p : Nat → Bool} {z : Nat → Nat} : ∀ {n : Nat}, (∀ i, i < n → 1 ≤ z i) → (0 < sm p z n ↔ ∃ i, i < n ∧ p i = true)
  | 0, _ => by
    rw [sm]
    exact ⟨fun h => absurd h (by omega), fun ⟨i, hi, _⟩ => absurd hi (by omega)⟩
  | n + 1, h => by
    have ih := sm_pos (p := p) (fun i hi => h i (by omega) : ∀ i, i < n → 1 ≤ z i)
    have h2 := h n (by omega)
    rw [sm]
    by_cases hp : p n = true
    · rw [if_pos hp]
      exact ⟨fun _ => ⟨n, by omega, hp⟩, fun _ => by omega⟩
    · rw [if_neg hp, Nat.add_zero, ih]
      constructor
      · rintro ⟨i, hi, hpi⟩; exact ⟨i, by omega, hpi⟩
      · rintro ⟨i, hi, hpi⟩
        refine ⟨i, ?_, hpi⟩
        rcases Nat.lt_or_ge i n with q | q
        · exact q
        · have : i = n := by omega
          subst this
          exact absurd hpi hp
theorem sm_cong {p q : Nat → Bool} {z : Nat → Nat} : ∀ {n : Nat}, (∀ i, i < n → p i = q i) → sm p z n = sm q z n
  | 0, _ => rfl
  | n + 1, h => by rw [sm, sm, sm_cong (fun i hi => h i (by omega)), h n (by omega)]
/-- the reference's sum over a sheet -/
theorem sumOf_eq {σ : SG} {n : Nat} (hn : σ 76 10 = nI n) (h240 : n ≤ 240) (hf : ∀ i, i < n → ∃ f, f < 8 ∧ σ 85 i = nI f) (t : Int32) (leaf : Bool) :
    F_Ref_sumOf σ t leaf = some (sI (fun i => decide (σ 87 i = t) && (!leaf || decide (¬ σ 80 (ix (σ 85 i)) = 0))) (σ 84) n) := by
  have hl : lpW (L_Ref_sumOf_5 σ t leaf) FU (0, 0) = some (sI (fun i => decide (σ 87 i = t) && (!leaf || decide (¬ σ 80 (ix (σ 85 i)) = 0))) (σ 84) n) := by
    refine lpW_at (s := fun i => (sI (fun i => decide (σ 87 i = t) && (!leaf || decide (¬ σ 80 (ix (σ 85 i)) = 0))) (σ 84) i, nI i)) n rfl ?_ ?_ (by omega)
    · intro i hi
      obtain ⟨f, hf1, hf2⟩ := hf i hi
      unfold L_Ref_sumOf_5
      dsimp only
      rw [hn, if_neg (nI_ge hi (by omega)), vin_nI (show i < 240 by omega) (by decide), og_t, ix_nI (by omega), nI_1, sI]
      by_cases h1 : σ 87 i = t
      · rw [if_pos h1, hf2, vin_nI hf1 (by decide)]
        cases leaf
        · simp [h1, og_t]
        · simp only [if_true, og_t]
          by_cases h2 : σ 80 (ix (nI f)) = 0
          · simp [h2, h1]
          · simp [h2, h1]
      · rw [if_neg h1]
        simp [h1]
    · unfold L_Ref_sumOf_5
      dsimp only
      rw [hn, if_pos (nI_le (Nat.le_refl n) (by omega))]
  unfold F_Ref_sumOf
  rw [ob_of hl]
def anyB (p : Nat → Bool) : Nat → Bool
  | 0 => false
  | n + 1 => anyB p n || p n
theorem anyB_iff {p : Nat → Bool} : ∀ {n : Nat}, anyB p n = true ↔ ∃ i, i < n ∧ p i = true
  | 0 => ⟨fun h => (by cases h), fun ⟨i, hi, _⟩ => absurd hi (by omega)⟩
  | n + 1 => by
    rw [anyB, Bool.or_eq_true, anyB_iff]
    constructor
    · rintro (⟨i, hi, h⟩ | h)
      · exact ⟨i, by omega, h⟩
      · exact ⟨n, by omega, h⟩
    · rintro ⟨i, hi, h⟩
      rcases Nat.lt_or_ge i n with q | q
      · exact Or.inl ⟨i, q, h⟩
      · have : i = n := by omega
        subst this
        exact Or.inr h
theorem hasFace_eq {σ : SG} {n : Nat} (hn : σ 76 10 = nI n) (h240 : n ≤ 240) (hf : ∀ i, i < n → ∃ f, f < 8 ∧ σ 85 i = nI f) (t : Int32) :
    F_Ref_hasFace σ t = some (anyB (fun i => decide (σ 87 i = t) && decide (¬ σ 81 (ix (σ 85 i)) = 0)) n) := by
  have hl : lpW (L_Ref_hasFace_4 σ t) FU (false, 0) = some (anyB (fun i => decide (σ 87 i = t) && decide (¬ σ 81 (ix (σ 85 i)) = 0)) n) := by
    refine lpW_at (s := fun i => (anyB (fun i => decide (σ 87 i = t) && decide (¬ σ 81 (ix (σ 85 i)) = 0)) i, nI i)) n rfl ?_ ?_ (by omega)
    · intro i hi
      obtain ⟨f, hf1, hf2⟩ := hf i hi
      unfold L_Ref_hasFace_4
      dsimp only
      rw [hn, if_neg (nI_ge hi (by omega)), vin_nI (show i < 240 by omega) (by decide), og_t, og_t, ix_nI (by omega), nI_1, anyB, hf2, vin_nI hf1 (by decide), og_t]
      generalize anyB _ i = b0
      cases b0
      · simp only [Bool.false_eq_true, if_false, Bool.false_or]
        by_cases h1 : σ 87 i = t
        · by_cases h2 : σ 81 (ix (nI f)) = 0
          · simp [h1, h2, hf2]
          · simp [h1, h2, hf2]
        · simp [h1]
      · simp
    · unfold L_Ref_hasFace_4
      dsimp only
      rw [hn, if_pos (nI_le (Nat.le_refl n) (by omega))]
  unfold F_Ref_hasFace
  rw [ob_of hl]
theorem bare_eq {σ : SG} {n : Nat} (hn : σ 76 10 = nI n) (h240 : n ≤ 240) : F_Ref_bare σ = some (sI (fun i => decide (σ 86 i = -1)) (fun _ => 1) n) := by
  have hl : lpW (L_Ref_bare_4 σ) FU (0, 0) = some (sI (fun i => decide (σ 86 i = -1)) (fun _ => 1) n) := by
    refine lpW_at (s := fun i => (sI (fun i => decide (σ 86 i = -1)) (fun _ => 1) i, nI i)) n rfl ?_ ?_ (by omega)
    · intro i hi
      unfold L_Ref_bare_4
      dsimp only
      rw [hn, if_neg (nI_ge hi (by omega)), vin_nI (show i < 240 by omega) (by decide), og_t, ix_nI (by omega), nI_1, sI]
      by_cases h1 : σ 86 i = -1 <;> simp [h1]
    · unfold L_Ref_bare_4
      dsimp only
      rw [hn, if_pos (nI_le (Nat.le_refl n) (by omega))]
  unfold F_Ref_bare
  rw [ob_of hl]
theorem bareC_eq {σ : SG} {n : Nat} (hn : σ 18 0 = nI n) (h240 : n ≤ 240) : F_Painter_bareCubes σ = some (sI (fun i => decide (σ 28 i = -1)) (fun _ => 1) n) := by
  have hl : lpW (L_Painter_bareCubes_4 σ) FU (0, 0) = some (sI (fun i => decide (σ 28 i = -1)) (fun _ => 1) n) := by
    refine lpW_at (s := fun i => (sI (fun i => decide (σ 28 i = -1)) (fun _ => 1) i, nI i)) n rfl ?_ ?_ (by omega)
    · intro i hi
      unfold L_Painter_bareCubes_4
      dsimp only
      rw [hn, if_neg (nI_ge hi (by omega)), rg_nI (show i < 240 by omega) (by decide), nI_1, sI]
      by_cases h1 : σ 28 i = -1 <;> simp [h1]
    · unfold L_Painter_bareCubes_4
      dsimp only
      rw [hn, if_pos (nI_le (Nat.le_refl n) (by omega))]
  unfold F_Painter_bareCubes
  rw [ob_of hl]
theorem cubesOn_eq {σ : SG} {n : Nat} (hn : σ 18 0 = nI n) (h240 : n ≤ 240) (t : Int32) : F_Sheets_cubesOn σ t = some (sI (fun i => decide (σ 30 i = t)) (fun _ => 1) n) := by
  have hl : lpW (L_Sheets_cubesOn_4 σ t) FU (0, 0) = some (sI (fun i => decide (σ 30 i = t)) (fun _ => 1) n) := by
    refine lpW_at (s := fun i => (sI (fun i => decide (σ 30 i = t)) (fun _ => 1) i, nI i)) n rfl ?_ ?_ (by omega)
    · intro i hi
      unfold L_Sheets_cubesOn_4
      dsimp only
      rw [hn, if_neg (nI_ge hi (by omega)), rg_nI (show i < 240 by omega) (by decide), nI_1, sI]
      by_cases h1 : σ 30 i = t <;> simp [h1]
    · unfold L_Sheets_cubesOn_4
      dsimp only
      rw [hn, if_pos (nI_le (Nat.le_refl n) (by omega))]
  unfold F_Sheets_cubesOn
  rw [ob_of hl]
theorem marked14_eq {σ : SG} {n : Nat} (hn : σ 18 0 = nI n) (h240 : n ≤ 240) (hf : ∀ i, i < n → ∃ f, f < 8 ∧ σ 26 i = nI f) (t : Int32) :
    F_Sheets_placesMarked_14 σ t = some (sI (fun i => decide (σ 30 i = t) && decide (σ 15 (ix (σ 26 i)) = 1)) (σ 24) n) := by
  have hl : lpW (L_Sheets_placesMarked_14_5 σ t) FU (0, 0) = some (sI (fun i => decide (σ 30 i = t) && decide (σ 15 (ix (σ 26 i)) = 1)) (σ 24) n) := by
    refine lpW_at (s := fun i => (sI (fun i => decide (σ 30 i = t) && decide (σ 15 (ix (σ 26 i)) = 1)) (σ 24) i, nI i)) n rfl ?_ ?_ (by omega)
    · intro i hi
      obtain ⟨f, hf1, hf2⟩ := hf i hi
      have hi2 : i < 240 := by omega
      unfold L_Sheets_placesMarked_14_5
      dsimp only
      rw [hn, if_neg (nI_ge hi (by omega)), rg_nI hi2 (by decide), rg_nI hi2 (by decide), rg_nI hi2 (by decide), hf2, rg_nI hf1 (by decide), nI_1, sI, hf2, ix_nI (by omega)]
      by_cases h1 : σ 30 i = t
      · by_cases h2 : σ 15 f = 1 <;> simp [h1, h2]
      · simp [h1]
    · unfold L_Sheets_placesMarked_14_5
      dsimp only
      rw [hn, if_pos (nI_le (Nat.le_refl n) (by omega))]
  unfold F_Sheets_placesMarked_14
  rw [ob_of hl]
theorem marked16_eq {σ : SG} {n : Nat} (hn : σ 18 0 = nI n) (h240 : n ≤ 240) (hf : ∀ i, i < n → ∃ f, f < 8 ∧ σ 26 i = nI f) (t : Int32) :
    F_Sheets_placesMarked_16 σ t = some (sI (fun i => decide (σ 30 i = t) && decide (σ 17 (ix (σ 26 i)) = 1)) (σ 24) n) := by
  have hl : lpW (L_Sheets_placesMarked_16_5 σ t) FU (0, 0) = some (sI (fun i => decide (σ 30 i = t) && decide (σ 17 (ix (σ 26 i)) = 1)) (σ 24) n) := by
    refine lpW_at (s := fun i => (sI (fun i => decide (σ 30 i = t) && decide (σ 17 (ix (σ 26 i)) = 1)) (σ 24) i, nI i)) n rfl ?_ ?_ (by omega)
    · intro i hi
      obtain ⟨f, hf1, hf2⟩ := hf i hi
      have hi2 : i < 240 := by omega
      unfold L_Sheets_placesMarked_16_5
      dsimp only
      rw [hn, if_neg (nI_ge hi (by omega)), rg_nI hi2 (by decide), rg_nI hi2 (by decide), rg_nI hi2 (by decide), hf2, rg_nI hf1 (by decide), nI_1, sI, hf2, ix_nI (by omega)]
      by_cases h1 : σ 30 i = t
      · by_cases h2 : σ 17 f = 1 <;> simp [h1, h2]
      · simp [h1]
    · unfold L_Sheets_placesMarked_16_5
      dsimp only
      rw [hn, if_pos (nI_le (Nat.le_refl n) (by omega))]
  unfold F_Sheets_placesMarked_16
  rw [ob_of hl]
end
section
/-! sheet -/
theorem isLaid_iff {σ : SG} {n : Nat} (hn : σ 18 0 = nI n) (h : n ≤ 240) : F_Shop_isLaid σ = decide (0 < n) := by
  unfold F_Shop_isLaid
  rw [hn]
  by_cases h0 : 0 < n
  · rw [if_neg (nI_nle h0 (by omega))]; simp [h0]
  · have : n = 0 := by omega
    subst this
    rfl
theorem isCut_iff {σ : SG} {S : Nat} (hS : σ 57 0 = nI S) (h : S ≤ 240) : F_Shop_isCut σ = decide (0 < S) := by
  unfold F_Shop_isCut
  rw [hS]
  by_cases h0 : 0 < S
  · rw [if_neg (nI_nle h0 (by omega))]; simp [h0]
  · have : S = 0 := by omega
    subst this
    rfl
/-- a sheet's number: too small or too great; not cut; a sheet -/
theorem sheet_cases {σ : SG} {w h m n S : Nat} {pt : Bool} (hC : RC σ w h m n S pt) (a : Int32) :
    (¬ F_Shop_maySheet σ a = true ∧ F_Ref_noSheet σ a = -2) ∨ (S = 0 ∧ F_Shop_maySheet σ a = true ∧ F_Shop_isCut σ = false ∧ F_Ref_noSheet σ a = -3) ∨ (∃ s, s < S ∧ a = nI s ∧ F_Shop_maySheet σ a = true ∧ F_Shop_isCut σ = true ∧ F_Ref_noSheet σ a = 0) := by
  obtain ⟨-, -, ⟨e1, e2, e3, e4, -⟩, -⟩ := hC
  have hc := isCut_iff e1 e3
  unfold F_Shop_maySheet F_Ref_noSheet
  rw [e4, e2, e1]
  by_cases h1 : a < 0
  · left
    rw [if_pos h1, if_pos h1]
    exact ⟨Bool.false_ne_true, rfl⟩
  · obtain ⟨k, hk, rfl⟩ := nI_of h1
    rw [if_neg h1, if_neg h1, hc]
    by_cases h0 : 0 < S
    · by_cases hks : k < S
      · right; right
        refine ⟨k, hks, rfl, ?_, by simp [h0], ?_⟩
        · rw [if_pos (by simp [h0]), if_neg (nI_ge hks (by omega))]
        · rw [if_neg (by simp [h0, bI]), if_pos (nI_lt hks (by omega)), if_neg (by simp [h0, bI])]
      · left
        refine ⟨?_, ?_⟩
        · rw [if_pos (by simp [h0]), if_pos (nI_le (by omega) hk)]
          exact Bool.false_ne_true
        · rw [if_neg (by simp [h0, bI]), if_neg (nI_nlt (by omega) hk)]
    · right; left
      refine ⟨by omega, ?_, by simp [h0], ?_⟩
      · rw [if_neg (by simp [h0])]
      · rw [if_pos (by simp [h0, bI]), if_pos (by simp [h0, bI])]
def eL (p : Nat → Bool) (l : Nat → Int32) : Nat → Int32
  | 0 => -1
  | n + 1 => if p n = true then (if eL p l n = -1 then l n else if eL p l n ≤ l n then eL p l n else l n) else eL p l n
def eR (p : Nat → Bool) (u : Nat → Int32) : Nat → Int32
  | 0 => -1
  | n + 1 => if p n = true then (if u n ≤ eR p u n then eR p u n else u n) else eR p u n
theorem leftEdge_eq {σ : SG} {n : Nat} (hn : σ 18 0 = nI n) (h240 : n ≤ 240) (t : Int32) : F_Sheets_leftEdge σ t = some (eL (fun i => decide (σ 30 i = t)) (σ 22) n) := by
  have hl : lpW (L_Sheets_leftEdge_4 σ t) FU (-1, 0) = some (eL (fun i => decide (σ 30 i = t)) (σ 22) n) := by
    refine lpW_at (s := fun i => (eL (fun i => decide (σ 30 i = t)) (σ 22) i, nI i)) n rfl ?_ ?_ (by omega)
    · intro i hi
      have hi2 : i < 240 := by omega
      unfold L_Sheets_leftEdge_4
      dsimp only
      rw [hn, if_neg (nI_ge hi (by omega)), rg_nI hi2 (by decide), rg_nI hi2 (by decide), nI_1, eL]
      generalize eL (fun i => decide (σ 30 i = t)) (σ 22) i = A
      by_cases h1 : σ 30 i = t
      · by_cases h2 : A = -1
        · simp [h1, h2]
        · by_cases h3 : A ≤ σ 22 i <;> simp [h1, h2, h3]
      · simp [h1]
    · unfold L_Sheets_leftEdge_4
      dsimp only
      rw [hn, if_pos (nI_le (Nat.le_refl n) (by omega))]
  unfold F_Sheets_leftEdge
  rw [ob_of hl]
theorem mxI_le (x y : Int32) : mxI x y = if y ≤ x then x else y := by
  unfold mxI
  by_cases h : x < y
  · rw [if_pos h, if_neg (k2_nle h)]
  · rw [if_neg h, if_pos (k2_le h)]
theorem rightEdge_eq {σ : SG} {n : Nat} (hn : σ 18 0 = nI n) (h240 : n ≤ 240) (t : Int32) : F_Sheets_rightEdge σ t = some (eR (fun i => decide (σ 30 i = t)) (fun i => σ 22 i + σ 24 i) n) := by
  have hl : lpW (L_Sheets_rightEdge_4 σ t) FU (-1, 0) = some (eR (fun i => decide (σ 30 i = t)) (fun i => σ 22 i + σ 24 i) n) := by
    refine lpW_at (s := fun i => (eR (fun i => decide (σ 30 i = t)) (fun i => σ 22 i + σ 24 i) i, nI i)) n rfl ?_ ?_ (by omega)
    · intro i hi
      have hi2 : i < 240 := by omega
      unfold L_Sheets_rightEdge_4 F_Cubes_rightOf
      dsimp only
      rw [hn, if_neg (nI_ge hi (by omega)), rg_nI hi2 (by decide), rg_nI hi2 (by decide), rg_nI hi2 (by decide), nI_1, eR, mxI_le]
      by_cases h1 : σ 30 i = t <;> simp [h1]
    · unfold L_Sheets_rightEdge_4
      dsimp only
      rw [hn, if_pos (nI_le (Nat.le_refl n) (by omega))]
  unfold F_Sheets_rightEdge
  rw [ob_of hl]
theorem sheetLoop {σ : SG} {n : Nat} (hn : σ 76 10 = nI n) (h240 : n ≤ 240) (t : Int32) : lpW (L_Ref_sheet_42 σ t) FU (0, -1, -1, 0) = some (sI (fun i => decide (σ 87 i = t)) (fun _ => 1) n, eL (fun i => decide (σ 87 i = t)) (σ 83) n, eR (fun i => decide (σ 87 i = t)) (fun i => σ 83 i + σ 84 i) n) := by
  refine lpW_at (s := fun i => (sI (fun i => decide (σ 87 i = t)) (fun _ => 1) i, eL (fun i => decide (σ 87 i = t)) (σ 83) i, eR (fun i => decide (σ 87 i = t)) (fun i => σ 83 i + σ 84 i) i, nI i)) n rfl ?_ ?_ (by omega)
  · intro i hi
    have hi2 : i < 240 := by omega
    unfold L_Ref_sheet_42
    dsimp only
    rw [hn, if_neg (nI_ge hi (by omega)), vin_nI hi2 (by decide)]
    simp only [og_t]
    rw [ix_nI (by omega), nI_1, sI, eL, eR]
    generalize eL (fun i => decide (σ 87 i = t)) (σ 83) i = A
    generalize eR (fun i => decide (σ 87 i = t)) (fun i => σ 83 i + σ 84 i) i = B
    by_cases h1 : σ 87 i = t
    · by_cases h2 : A = -1
      · by_cases h3 : σ 83 i + σ 84 i ≤ B <;> simp [h1, h2, h3]
      · by_cases h4 : A ≤ σ 83 i
        · by_cases h3 : σ 83 i + σ 84 i ≤ B <;> simp [h1, h2, h3, h4]
        · by_cases h3 : σ 83 i + σ 84 i ≤ B <;> simp [h1, h2, h3, h4]
    · simp [h1]
  · unfold L_Ref_sheet_42
    dsimp only
    rw [hn, if_pos (nI_le (Nat.le_refl n) (by omega))]
theorem bI_eq1 {z : Bool} : decide (bI z = 1) = z := by cases z <;> decide
theorem bI_ne0 {z : Bool} : decide (¬ bI z = 0) = z := by cases z <;> decide
theorem tsS_map {A B : Type} (g : A → B) (x : Int32) : ∀ (k : Nat) (r : List A) (d : A), g (tsS x k r d) = tsS x k (r.map g) (g d)
  | k, [], d => rfl
  | k, a :: r, d => by
    rw [List.map_cons, tsS, tsS]
    by_cases h : x = nI k
    · rw [if_pos h, if_pos h]
    · rw [if_neg h, if_neg h, tsS_map g x (k + 1) r d]
/-- the two pictures of a sheet's facts -/
theorem sheet_facts {σ : SG} {w h m n S : Nat} {pt : Bool} (hD : RD σ w h) (hF : RF σ) (hC : RC σ w h m n S pt) : ∃ z f : Nat → Nat, (∀ i, i < n → σ 24 i = nI (z i) ∧ 1 ≤ z i ∧ z i ≤ 3) ∧ (∀ i, i < n → f i < 8 ∧ σ 26 i = nI (f i)) ∧ (∀ i, i < n → ∃ f, f < 8 ∧ σ 26 i = nI f) ∧ (∀ i, i < n → ∃ f, f < 8 ∧ σ 85 i = nI f) ∧
    (∀ t, sI (fun i => decide (σ 87 i = t) && (!true || decide (¬ σ 80 (ix (σ 85 i)) = 0))) (σ 84) n = sI (fun i => decide (σ 30 i = t) && decide (σ 15 (ix (σ 26 i)) = 1)) (σ 24) n) ∧
    (∀ t, anyB (fun i => decide (σ 87 i = t) && decide (¬ σ 81 (ix (σ 85 i)) = 0)) n = decide (0 < sm (fun i => decide (σ 30 i = t) && decide (σ 17 (ix (σ 26 i)) = 1)) z n)) ∧
    (0 < S → ∀ t, t < S → sI (fun i => decide (σ 87 i = nI t) && (!false || decide (¬ σ 80 (ix (σ 85 i)) = 0))) (σ 84) n = σ 59 t) := by
  obtain ⟨r, l, z, f, hB, hcov⟩ := RC_CB hD hC
  obtain ⟨⟨-, -, hn240, -⟩, -, ⟨-, -, hS, -, hSn⟩, ⟨k1, k2, k3, k4, k5, k6⟩, -⟩ := hC
  have hf26 : ∀ i, i < n → ∃ f, f < 8 ∧ σ 26 i = nI f := fun i hi => ⟨f i, (hB i hi).2.2.2.2.2.2.2.2, (hB i hi).2.2.2.1⟩
  refine ⟨z, f, fun i hi => ⟨(hB i hi).2.2.1, (hB i hi).2.2.2.2.2.1, (hB i hi).2.2.2.2.2.2.1⟩, fun i hi => ⟨(hB i hi).2.2.2.2.2.2.2.2, (hB i hi).2.2.2.1⟩, hf26, by rw [k4]; exact hf26, fun t => ?_, fun t => ?_, fun h0 t ht => ?_⟩
  · rw [k3, k4, k6, hF.1]
    refine sI_cong (fun i hi => ?_) (fun _ _ _ => rfl)
    obtain ⟨g, hg, e⟩ := hf26 i hi
    obtain ⟨-, -, ⟨zz, hz⟩, -⟩ := hF.2.2 g hg
    rw [e, ix_nI (by omega), hz, bI_eq1, bI_ne0]
    rfl
  · rw [k4, k6, hF.2.1]
    rw [Bool.eq_iff_iff, anyB_iff, decide_eq_true_eq, sm_pos (fun i hi => (hB i hi).2.2.2.2.2.1)]
    constructor
    · rintro ⟨i, hi, h1⟩
      refine ⟨i, hi, ?_⟩
      obtain ⟨g, hg, e⟩ := hf26 i hi
      obtain ⟨-, -, -, ⟨zz, hz⟩⟩ := hF.2.2 g hg
      rw [e, ix_nI (by omega), hz, bI_ne0] at h1
      rw [e, ix_nI (by omega), hz, bI_eq1]
      exact h1
    · rintro ⟨i, hi, h1⟩
      refine ⟨i, hi, ?_⟩
      obtain ⟨g, hg, e⟩ := hf26 i hi
      obtain ⟨-, -, -, ⟨zz, hz⟩⟩ := hF.2.2 g hg
      rw [e, ix_nI (by omega), hz, bI_eq1] at h1
      rw [e, ix_nI (by omega), hz, bI_ne0]
      exact h1
  · obtain ⟨hcv, hcut⟩ := hcov (hSn h0)
    obtain ⟨s, hs1, hs2⟩ := hcut h0
    rw [k3, k6, hs2 t ht, ← sI_sm (g := σ 24) (fun i hi => (hB i hi).2.2.1)]
    refine sI_cong (fun i hi => ?_) (fun _ _ _ => rfl)
    obtain ⟨g1, g2, -⟩ := hs1 i hi
    simp only [Bool.not_false, Bool.true_or, Bool.and_true]
    rw [g2]
    exact decide_eq_decide.mpr (nI_eq (by omega) (by omega))
theorem op_sheet {σ : SG} (hR : R σ) (a b : Int32) : ∃ r, F_Shop_sheet σ a b = some r ∧ F_Ref_sheet σ a b = some r := by
  obtain ⟨w, h, m, q, n, S, pt, hD, hF, hL, hH, hC⟩ := hR
  unfold F_Shop_sheet F_Ref_sheet
  rw [in_wi]
  rcases sheet_cases hC a with ⟨h1, h2⟩ | ⟨h0, h1, h2, h3⟩ | ⟨s, hs, rfl, h1, h2, h3⟩
  · exact ⟨-2, by rw [if_neg h1], by rw [h2, if_pos rfl]⟩
  · by_cases hb : F_Shop_within b 0 5 = true
    · exact ⟨-3, by rw [if_pos h1, if_pos hb, if_neg (bf h2)], by rw [h3, if_neg (show ¬ (-3 : Int32) = -2 by decide), if_pos hb, if_neg (show ¬ (0 : Int32) ≤ -3 by decide)]⟩
    · exact ⟨-2, by rw [if_pos h1, if_neg hb], by rw [h3, if_neg (show ¬ (-3 : Int32) = -2 by decide), if_neg hb]⟩
  rw [if_pos h1, h3, if_neg (show ¬ (0 : Int32) = -2 by decide), if_pos h2]
  by_cases hb : F_Shop_within b 0 5 = true
  rotate_left
  · exact ⟨-2, by rw [if_neg hb], by rw [if_neg hb]⟩
  rw [if_pos hb, if_pos hb, if_pos (show (0 : Int32) ≤ 0 by decide)]
  obtain ⟨z, f, hz, hf, hf26, hf85, e1, e2, e3⟩ := sheet_facts hD hF hC
  obtain ⟨⟨c1, c2, hn240, -⟩, -, ⟨-, -, hS240, -, -⟩, ⟨k1, k2, k3, k4, k5, k6⟩, -⟩ := hC
  rw [ob_of (sheetLoop c2 hn240 (nI s))]
  unfold F_Sheets_tell F_Sheets_hasHead
  rw [ob_of (cubesOn_eq c1 hn240 _), ob_of (marked14_eq c1 hn240 hf26 _), ob_of (marked16_eq c1 hn240 hf26 _), ob_of (leftEdge_eq c1 hn240 _), ob_of (rightEdge_eq c1 hn240 _), rg_nI (show s < 240 by omega) (by decide)]
  rw [ob_of (sumOf_eq c2 hn240 hf85 (nI s) false), ob_of (sumOf_eq c2 hn240 hf85 (nI s) true), ob_of (hasFace_eq c2 hn240 hf85 (nI s)), e1, e2, e3 (by omega) s hs]
  rw [sI_sm (p := fun i => decide (σ 30 i = nI s) && decide (σ 17 (ix (σ 26 i)) = 1)) (fun i hi => (hz i hi).1)]
  have hb720 : sm (fun i => decide (σ 30 i = nI s) && decide (σ 17 (ix (σ 26 i)) = 1)) z n ≤ n * 3 := sm_le (fun i hi => (hz i hi).2.2)
  generalize sm (fun i => decide (σ 30 i = nI s) && decide (σ 17 (ix (σ 26 i)) = 1)) z n = H at hb720
  rw [k2, k3, k6]
  have hH2 : ob (if nI H ≤ 0 then some false else some true) (fun v4 => if v4 = true then some (1 : Int32) else some 0) = (if decide (0 < H) = true then some 1 else some 0) := by
    by_cases h0 : 0 < H
    · rw [if_neg (nI_nle h0 (by omega))]; simp [h0, ob]
    · have : H = 0 := by omega
      subst this
      rfl
  rw [hH2]
  dsimp only
  have key : ∀ (x : Int32) (A B C D E G : Int32), ob (tsS x 0 [some A, some B, some C, some D, some E] (some G)) (fun v => some v) = some (tsS x 0 [A, B, C, D, E] G) := by
    intro x A B C D E G
    rw [show tsS x 0 [some A, some B, some C, some D, some E] (some G) = some (tsS x 0 [A, B, C, D, E] G) from (tsS_map some x 0 [A, B, C, D, E] G).symm]
    rfl
  have key2 : ∀ (x : Int32) (A B C D E G : Int32), tsS x 0 [some A, some B, some C, some D, some E] (some G) = some (tsS x 0 [A, B, C, D, E] G) := fun x A B C D E G => (tsS_map some x 0 [A, B, C, D, E] G).symm
  by_cases hHd : decide (0 < H) = true
  · rw [if_pos hHd]
    exact ⟨_, key _ _ _ _ _ _ _, key2 _ _ _ _ _ _ _⟩
  · rw [if_neg hHd]
    exact ⟨_, key _ _ _ _ _ _ _, key2 _ _ _ _ _ _ _⟩
end
section
/-! crates, crate, changes -/
/-- crates so far, and what is in the latest -/
def cr (m : Int32) (w : Nat → Int32) : Nat → Nat × Int32
  | 0 => (0, 0)
  | s + 1 => if w s ≤ 0 then cr m w s else if (cr m w s).1 = 0 then (1, w s) else if (cr m w s).2 + w s ≤ m then ((cr m w s).1, (cr m w s).2 + w s) else ((cr m w s).1 + 1, w s)
theorem cr_le (m : Int32) (w : Nat → Int32) : ∀ s, (cr m w s).1 ≤ s
  | 0 => Nat.le_refl 0
  | s + 1 => by
    have ih := cr_le m w s
    rw [cr]
    by_cases h1 : w s ≤ 0
    · rw [if_pos h1]; omega
    · rw [if_neg h1]
      by_cases h2 : (cr m w s).1 = 0
      · rw [if_pos h2]; show 1 ≤ s + 1; omega
      · rw [if_neg h2]
        by_cases h3 : (cr m w s).2 + w s ≤ m
        · rw [if_pos h3]; show (cr m w s).1 ≤ s + 1; omega
        · rw [if_neg h3]; show (cr m w s).1 + 1 ≤ s + 1; omega
theorem m1_iff {k : Nat} (h : k < 2 ^ 31) : nI k - 1 = -1 ↔ k = 0 := by
  constructor
  · intro e
    by_cases h0 : 1 ≤ k
    · rw [nI_sub1 h0] at e
      exact absurd e (nm1_ne (by omega))
    · omega
  · intro e; subst e; rfl
theorem m1_p (k : Nat) : nI k - 1 + 1 = nI (k + 1) - 1 := by
  rw [nI_pred, Int32.sub_add_cancel]
theorem crC {σ : SG} {S t : Nat} (hS : σ 57 0 = nI S) (h240 : S ≤ 240) (ht : t < S) (hw : ∀ s, s < S → ∃ k, k < 1000 ∧ σ 59 s = nI k) (m : Int32) : F_Sheets_latestCrate σ m (nI t) = some (nI (cr m (σ 59) (t + 1)).1 - 1) := by
  have hl : lpW (L_Sheets_latestCrate_8 σ m (nI t)) FU (-1, 0, 0) = some (nI (cr m (σ 59) (t + 1)).1 - 1) := by
    refine lpW_at (s := fun i => (nI (cr m (σ 59) i).1 - 1, (cr m (σ 59) i).2, nI i)) (t + 1) rfl ?_ ?_ (by omega)
    · intro i hi
      have hk := cr_le m (σ 59) i
      unfold L_Sheets_latestCrate_8
      dsimp only
      rw [hS, if_neg (nI_nlt (by omega) (by omega)), if_neg (nI_ge (by omega) (by omega)), rg_nI (show i < 240 by omega) (by decide), nI_1, cr]
      by_cases h1 : σ 59 i ≤ 0
      · rw [if_pos h1, if_pos h1]
        obtain ⟨k, hk2, hk3⟩ := hw i (by omega)
        have hk0 : k = 0 := by
          rcases Nat.eq_zero_or_pos k with q | q
          · exact q
          · exact absurd (hk3 ▸ h1) (nI_nle q (by omega))
        rw [hk3, hk0, ← l0, Int32.add_zero]
      · rw [if_neg h1, if_neg h1]
        by_cases h2 : (cr m (σ 59) i).1 = 0
        · rw [if_pos ((m1_iff (by omega)).mpr h2), if_pos h2, m1_p, h2, Int32.zero_add]
        · rw [if_neg (fun e => h2 ((m1_iff (by omega)).mp e)), if_neg h2]
          by_cases h3 : (cr m (σ 59) i).2 + σ 59 i ≤ m
          · rw [if_pos h3, if_pos h3]
          · rw [if_neg h3, if_neg h3, m1_p, Int32.zero_add]
    · unfold L_Sheets_latestCrate_8
      dsimp only
      rw [if_pos (nI_lt (by omega) (by omega))]
  unfold F_Sheets_latestCrate
  rw [ob_of hl]
theorem crR {σ : SG} {S t : Nat} (h240 : S ≤ 240) (ht : t < S) (hs : ∀ i, i < S → F_Ref_sumOf σ (nI i) false = some (σ 59 i)) (m : Int32) : F_Ref_cratesTo σ m (nI t) = some (nI (cr m (σ 59) (t + 1)).1) := by
  have hl : lpW (L_Ref_cratesTo_8 σ m (nI t)) FU (0, 0, 0) = some (nI (cr m (σ 59) (t + 1)).1) := by
    refine lpW_at (s := fun i => (nI (cr m (σ 59) i).1, (cr m (σ 59) i).2, nI i)) (t + 1) rfl ?_ ?_ (by omega)
    · intro i hi
      have hk := cr_le m (σ 59) i
      unfold L_Ref_cratesTo_8
      dsimp only
      rw [if_neg (nI_nlt (by omega) (by omega)), ob_of (hs i (by omega)), nI_1, cr]
      simp only [Bool.false_eq_true, if_false, if_true]
      by_cases h1 : σ 59 i ≤ 0
      · rw [if_pos h1, if_pos h1]
      · rw [if_neg h1, if_neg h1]
        by_cases h2 : (cr m (σ 59) i).1 = 0
        · rw [if_pos (by rw [h2]; decide), if_pos h2, h2, nI_1]
        · rw [if_neg (nI_nle (by omega) (by omega)), if_neg h2]
          by_cases h3 : (cr m (σ 59) i).2 + σ 59 i ≤ m
          · rw [if_neg (k2_nlt h3), if_pos h3, Int32.add_zero]
          · rw [if_pos (k2_lt h3), if_neg h3, nI_1]
    · unfold L_Ref_cratesTo_8
      dsimp only
      rw [if_pos (nI_lt (by omega) (by omega))]
  unfold F_Ref_cratesTo
  rw [ob_of hl]
theorem weights {σ : SG} {w h m n S : Nat} {pt : Bool} (hD : RD σ w h) (hF : RF σ) (hC : RC σ w h m n S pt) : (∀ s, s < S → ∃ k, k < 1000 ∧ σ 59 s = nI k) ∧ ∀ i, i < S → F_Ref_sumOf σ (nI i) false = some (σ 59 i) := by
  obtain ⟨z, f, hz, hf, hf26, hf85, e1, e2, e3⟩ := sheet_facts hD hF hC
  obtain ⟨⟨c1, c2, hn240, -⟩, -, ⟨-, -, hS240, -, hSn⟩, -, hcov, -⟩ := hC
  constructor
  · intro s hs
    obtain ⟨r, l, z, f, hcv, hcut⟩ := hcov (hSn (by omega))
    obtain ⟨t, -, ht2⟩ := hcut (by omega)
    refine ⟨_, ?_, ht2 s hs⟩
    have := sm_le (p := fun k => decide (t k = s)) (z := z) (c := 3) (n := n) (fun i hi => (hcv.1 i hi).2.2.2.2.2.2.1)
    omega
  · intro i hi
    rw [sumOf_eq c2 hn240 hf85 (nI i) false, e3 (by omega) i hi]
theorem op_crates {σ : SG} (hR : R σ) (a : Int32) : ∃ r, F_Shop_crates σ a = some r ∧ F_Ref_crates σ a = some r := by
  obtain ⟨w, h, m, q, n, S, pt, hD, hF, hL, hH, hC⟩ := hR
  obtain ⟨hw1, hw2⟩ := weights hD hF hC
  obtain ⟨-, -, ⟨e1, e2, e3, e4, -⟩, -⟩ := hC
  have hc := isCut_iff e1 e3
  unfold F_Shop_crates F_Ref_crates
  rw [in_wi]
  by_cases ha : F_Shop_within a 1 240 = true
  rotate_left
  · exact ⟨-2, by rw [if_neg ha], by rw [if_neg ha]⟩
  rw [if_pos ha, if_pos ha, hc, e4]
  by_cases h0 : 0 < S
  rotate_left
  · exact ⟨-3, by rw [if_neg (by simp [h0])], by rw [if_pos (by simp [h0, bI])]⟩
  rw [if_pos (by simp [h0]), if_neg (by simp [h0, bI]), e1, e2, nI_sub1 h0, ob_of (crC e1 e3 (by omega) hw1 a), ob_of (crR e3 (by omega) hw2 a)]
  exact ⟨_, by rw [Int32.sub_add_cancel], rfl⟩
theorem op_crate {σ : SG} (hR : R σ) (a b : Int32) : ∃ r, F_Shop_crate σ a b = some r ∧ F_Ref_crate σ a b = some r := by
  obtain ⟨w, h, m, q, n, S, pt, hD, hF, hL, hH, hC⟩ := hR
  obtain ⟨hw1, hw2⟩ := weights hD hF hC
  have hsc := sheet_cases hC b
  obtain ⟨-, -, ⟨e1, e2, e3, e4, -⟩, -⟩ := hC
  unfold F_Shop_crate F_Ref_crate
  rw [in_wi]
  by_cases ha : F_Shop_within a 1 240 = true
  rotate_left
  · exact ⟨-2, by rw [if_neg ha], by rw [if_neg ha]⟩
  rw [if_pos ha, if_pos ha]
  rcases hsc with ⟨h1, h2⟩ | ⟨h0, h1, h2, h3⟩ | ⟨s, hs, rfl, h1, h2, h3⟩
  · exact ⟨-2, by rw [if_neg h1], by rw [h2, if_pos rfl]⟩
  · exact ⟨-3, by rw [if_pos h1, if_neg (bf h2)], by rw [h3, if_neg (show ¬ (-3 : Int32) = -2 by decide), if_neg (show ¬ (0 : Int32) ≤ -3 by decide)]⟩
  rw [if_pos h1, if_pos h2, h3, if_neg (show ¬ (0 : Int32) = -2 by decide), if_pos (show (0 : Int32) ≤ 0 by decide), ob_of (hw2 s hs), rg_nI (show s < 240 by omega) (by decide)]
  obtain ⟨k, hk1, hk2⟩ := hw1 s hs
  rw [hk2]
  by_cases hk0 : k = 0
  · subst hk0
    exact ⟨-1, by rw [if_pos (by decide)], by rw [if_pos (by decide)]⟩
  · rw [if_neg (nI_nle (by omega) (by omega)), if_neg (nI_ne0 (by omega) (by omega)), ob_of (crC e1 e3 hs hw1 a), ob_of (crR e3 hs hw2 a)]
    exact ⟨_, rfl, rfl⟩
/-- changes: how many, the lot ahead, whether none was ahead -/
def chS (p : Nat → Bool) (g : Nat → Int32) : Nat → Int32 × Int32 × Bool
  | 0 => (0, -1, true)
  | n + 1 => if p n = true then ((if (chS p g n).2.2 = true ∨ g n = (chS p g n).2.1 then (chS p g n).1 else (chS p g n).1 + 1), g n, false) else chS p g n
theorem chS_a {p : Nat → Bool} {g : Nat → Int32} : ∀ {n : Nat}, (∀ i, i < n → ¬ g i = -9) → (chS p g n).2.2 = false → ¬ (chS p g n).2.1 = -9
  | 0, _, h => by cases h
  | n + 1, hg, h => by
    rw [chS] at h ⊢
    by_cases hp : p n = true
    · rw [if_pos hp]
      exact hg n (by omega)
    · rw [if_neg hp] at h ⊢
      exact chS_a (fun i hi => hg i (by omega)) h
theorem chC {σ : SG} {n : Nat} (hn : σ 18 0 = nI n) (h240 : n ≤ 240) (t : Int32) : F_Painter_changesOf σ t = some (chS (fun i => decide (σ 26 i = t)) (σ 28) n).1 := by
  have hl : lpW (L_Painter_changesOf_10 σ t) FU (0, -1, true, 0) = some (chS (fun i => decide (σ 26 i = t)) (σ 28) n).1 := by
    refine lpW_at (s := fun i => ((chS (fun i => decide (σ 26 i = t)) (σ 28) i).1, (chS (fun i => decide (σ 26 i = t)) (σ 28) i).2.1, (chS (fun i => decide (σ 26 i = t)) (σ 28) i).2.2, nI i)) n rfl ?_ ?_ (by omega)
    · intro i hi
      have hi2 : i < 240 := by omega
      unfold L_Painter_changesOf_10
      dsimp only
      rw [hn, if_neg (nI_ge hi (by omega)), rg_nI hi2 (by decide), rg_nI hi2 (by decide), nI_1, chS]
      generalize chS (fun i => decide (σ 26 i = t)) (σ 28) i = A
      obtain ⟨A1, A2, A3⟩ := A
      dsimp only
      by_cases h1 : σ 26 i = t
      · by_cases h2 : A3 = true
        · simp [h1, h2]
        · by_cases h3 : σ 28 i = A2 <;> simp [h1, h2, h3]
      · simp [h1]
    · unfold L_Painter_changesOf_10
      dsimp only
      rw [hn, if_pos (nI_le (Nat.le_refl n) (by omega))]
  unfold F_Painter_changesOf
  rw [ob_of hl]
theorem chR {σ : SG} {n : Nat} (hn : σ 76 10 = nI n) (h240 : n ≤ 240) (hg : ∀ i, i < n → ¬ σ 86 i = -9) (t : Int32) : lpW (L_Ref_changes_31 σ t) FU (0, -9, 0) = some (chS (fun i => decide (σ 85 i = t)) (σ 86) n).1 := by
  refine lpW_at (s := fun i => ((chS (fun i => decide (σ 85 i = t)) (σ 86) i).1, (if (chS (fun i => decide (σ 85 i = t)) (σ 86) i).2.2 = true then -9 else (chS (fun i => decide (σ 85 i = t)) (σ 86) i).2.1), nI i)) n rfl ?_ ?_ (by omega)
  · intro i hi
    have hi2 : i < 240 := by omega
    have ha := chS_a (p := fun i => decide (σ 85 i = t)) (fun j hj => hg j (by omega) : ∀ j, j < i → ¬ σ 86 j = -9)
    unfold L_Ref_changes_31
    dsimp only
    rw [hn, if_neg (nI_ge hi (by omega)), vin_nI hi2 (by decide)]
    simp only [og_t]
    rw [ix_nI (by omega), nI_1, chS]
    generalize chS (fun i => decide (σ 85 i = t)) (σ 86) i = A at ha
    obtain ⟨A1, A2, A3⟩ := A
    dsimp only at ha ⊢
    by_cases h1 : σ 85 i = t
    · cases A3
      · have h9 := ha rfl
        by_cases h3 : A2 = σ 86 i
        · simp [h1, h9, h3]
        · have h3' : ¬ σ 86 i = A2 := fun e => h3 e.symm
          simp [h1, h9, h3, h3']
      · simp [h1]
    · simp [h1]
  · unfold L_Ref_changes_31
    dsimp only
    rw [hn, if_pos (nI_le (Nat.le_refl n) (by omega))]
theorem lot_ne {σ : SG} {w h m n S : Nat} {pt : Bool} (hm : m ≤ 10) (hC : RC σ w h m n S pt) : ∀ i, i < n → ¬ σ 28 i = -9 := by
  intro i hi e
  rcases hC.2.2.2.2.2.1 i hi with h1 | ⟨-, k, hk, h1⟩
  · rw [h1] at e; exact absurd e (by decide)
  · rw [h1] at e
    have := nI_pos (n := k) (by omega)
    rw [e] at this
    exact this (by decide)
theorem op_changes {σ : SG} (hR : R σ) (a : Int32) : ∃ r, F_Shop_changes σ a = some r ∧ F_Ref_changes σ a = some r := by
  obtain ⟨w, h, m, q, n, S, pt, hD, hF, hL, hH, hC⟩ := hR
  have hne := lot_ne hL.2.2.1 hC
  obtain ⟨⟨c1, c2, hn240, -⟩, ⟨p1, p2, -⟩, -, ⟨k1, k2, k3, k4, k5, k6⟩, -⟩ := hC
  unfold F_Shop_changes F_Ref_changes F_Shop_isField
  rw [in_wi]
  by_cases ha : F_Shop_within a 0 7 = true
  rotate_left
  · exact ⟨-2, by rw [if_neg ha], by rw [if_neg ha]⟩
  rw [if_pos ha, if_pos ha, p1, p2]
  by_cases hp : bI pt = 0
  · exact ⟨-3, by rw [if_pos hp], by rw [if_pos hp]⟩
  rw [if_neg hp, if_neg hp, ob_of (chC c1 hn240 a), ob_of (chR c2 hn240 (by rw [k5]; exact hne) a), k4, k5]
  exact ⟨_, rfl, rfl⟩
end
section
/-! cover: the cubes lie on the wall one behind the other; at, cube -/
/-- where a cube begins, counted along the rows -/
def ps (w : Nat) (r l : Nat → Nat) (i : Nat) : Nat := w * r i + l i
theorem Cov_step {σ : SG} {w h n : Nat} {r l z f : Nat → Nat} (hv : Cov σ w h n r l z f) {i : Nat} (hi : i + 1 < n) : ps w r l (i + 1) = ps w r l i + z i := by
  obtain ⟨-, -, -, h4, -⟩ := hv
  unfold ps
  rcases h4 i hi with ⟨e1, e2⟩ | ⟨e1, e2, e3⟩
  · rw [e1, e2, Nat.add_assoc]
  · rw [e1, e2, Nat.mul_add]
    omega
theorem Cov_end {σ : SG} {w h n : Nat} {r l z f : Nat → Nat} (hv : Cov σ w h n r l z f) : ps w r l (n - 1) + z (n - 1) = w * h := by
  obtain ⟨-, -, -, -, h5, h6⟩ := hv
  unfold ps
  rw [← h5, Nat.mul_add]
  omega
theorem Cov_0 {σ : SG} {w h n : Nat} {r l z f : Nat → Nat} (hv : Cov σ w h n r l z f) : ps w r l 0 = 0 := by
  obtain ⟨-, h2, h3, -⟩ := hv
  unfold ps
  rw [h2, h3]; rfl
theorem Cov_find {σ : SG} {w h n : Nat} {r l z f : Nat → Nat} (hn : 0 < n) (hv : Cov σ w h n r l z f) {t : Nat} (ht : t < w * h) : ∃ i, i < n ∧ ps w r l i ≤ t ∧ t < ps w r l i + z i := by
  have key : ∀ k, k < n → t < ps w r l k + z k → ∃ i, i < n ∧ ps w r l i ≤ t ∧ t < ps w r l i + z i := by
    intro k
    induction k with
    | zero =>
      intro hk h1
      exact ⟨0, hk, by rw [Cov_0 hv]; omega, h1⟩
    | succ k ih =>
      intro hk h1
      by_cases h2 : ps w r l (k + 1) ≤ t
      · exact ⟨k + 1, hk, h2, h1⟩
      · exact ih (by omega) (by rw [← Cov_step hv hk]; omega)
  exact key (n - 1) (by omega) (by rw [Cov_end hv]; exact ht)
theorem div_eq {w a b x : Nat} (h1 : w * a ≤ w * b + x) (h2 : w * b + x < w * a + w) (hx : x < w) : a = b := by
  rcases Nat.lt_trichotomy a b with q | q | q
  · exfalso
    have := Nat.mul_le_mul_left w (show a + 1 ≤ b from q)
    rw [Nat.mul_add] at this
    omega
  · exact q
  · exfalso
    have := Nat.mul_le_mul_left w (show b + 1 ≤ a from q)
    rw [Nat.mul_add] at this
    omega
theorem lin_lt {w h x y : Nat} (hx : x < w) (hy : y < h) : w * y + x < w * h := by
  have := Nat.mul_le_mul_left w (show y + 1 ≤ h from hy)
  rw [Nat.mul_add] at this
  omega
theorem Cov_at {σ : SG} {w h n : Nat} {r l z f : Nat → Nat} (hn : 0 < n) (hv : Cov σ w h n r l z f) {x y : Nat} (hx : x < w) (hy : y < h) : ∃ i, i < n ∧ r i = y ∧ l i ≤ x ∧ x < l i + z i := by
  obtain ⟨i, hi, h1, h2⟩ := Cov_find hn hv (lin_lt hx hy)
  obtain ⟨-, -, -, -, -, -, -, h8, -⟩ := hv.1 i hi
  unfold ps at h1 h2
  have e : r i = y := div_eq (w := w) (x := x) (by omega) (by omega) hx
  subst e
  exact ⟨i, hi, rfl, by omega, by omega⟩
theorem op_at {σ : SG} (hR : R σ) (a b : Int32) : F_Ref_at σ a b = some (F_Shop_at σ a b) := by
  obtain ⟨w, h, m, q, n, S, pt, hD, hF, hL, hH, hC⟩ := hR
  unfold F_Ref_at F_Shop_at
  rw [isPl hD]
  by_cases hh : F_Drawing_has σ a b = true
  rotate_left
  · rw [if_neg hh, if_neg hh]
  rw [if_pos hh, if_pos hh]
  obtain ⟨x, y, hx, hy, rfl, rfl⟩ := has_nI hD hh
  have hlt := pl_lt hD hx hy
  obtain ⟨⟨c1, c2, hn240, -⟩, -, -, ⟨k1, k2, k3, -⟩, hcov, -⟩ := hC
  rw [isLaid_iff c1 hn240]
  by_cases h0 : 0 < n
  rotate_left
  · rw [if_neg (by simp [h0])]
    have hl : lpW (L_Ref_at_14 σ (nI x) (nI y)) FU 0 = some (Sum.inl ()) := by
      refine lpW_at (s := fun i => nI i) 0 rfl (fun i hi => absurd hi (by omega)) ?_ (by omega)
      unfold L_Ref_at_14
      rw [c2, if_pos (nI_le (by omega) (by omega))]
    rw [ob_of hl]
    rfl
  rw [if_pos (by simp [h0])]
  obtain ⟨r, l, z, f, hv, -⟩ := hcov h0
  obtain ⟨-, -, -, -, g1, g2, g3, g4, -⟩ := hD
  obtain ⟨i0, hi0, e1, e2, e3⟩ := Cov_at h0 hv hx hy
  -- the first that covers the place
  obtain ⟨i, ⟨hin, e1, e2, e3⟩, hmin⟩ := pk_least (fun i => i < n ∧ r i = y ∧ l i ≤ x ∧ x < l i + z i) ⟨i0, hi0, e1, e2, e3⟩
  have hov : σ 34 (24 * y + x) = nI i := by
    have := ((hv.1 i hin).2.2.2.2.2.2.2.2.2 x e2 e3).2
    rw [e1] at this
    exact this
  have hl : lpW (L_Ref_at_14 σ (nI x) (nI y)) FU 0 = some (Sum.inr (nI i)) := by
    refine lpW_at (s := fun i => nI i) i rfl ?_ ?_ (by omega)
    · intro j hj
      obtain ⟨u1, u2, u3, u4, u5, u6, u7, u8, u9, -⟩ := hv.1 j (by omega)
      unfold L_Ref_at_14
      rw [c2, if_neg (nI_ge (by omega) (by omega)), vin_nI (show j < 240 by omega) (by decide)]
      simp only [og_t]
      rw [ix_nI (by omega), k1, k2, k3, u1, u2, u3, nI_add, nI_1]
      by_cases q1 : r j = y
      · rw [if_pos (by rw [q1])]
        by_cases q2 : l j ≤ x
        · rw [if_neg (nI_nlt q2 (by omega)), if_pos]
          apply nI_le _ (by omega)
          rcases Nat.lt_or_ge x (l j + z j) with q | q
          · exact absurd ⟨by omega, q1, q2, q⟩ (hmin j hj)
          · exact q
        · rw [if_pos (nI_lt (by omega) (by omega))]
      · rw [if_neg (fun e => q1 ((nI_eq (by omega) (by omega)).mp e))]
    · obtain ⟨u1, u2, u3, u4, u5, u6, u7, u8, u9, -⟩ := hv.1 i hin
      unfold L_Ref_at_14
      rw [c2, if_neg (nI_ge hin (by omega)), vin_nI (show i < 240 by omega) (by decide)]
      simp only [og_t]
      rw [ix_nI (by omega), k1, k2, k3, u1, u2, u3, nI_add, e1, if_pos rfl, if_neg (nI_nlt e2 (by omega)), if_neg (nI_ge e3 (by omega))]
  rw [ob_of hl]
  unfold F_Cubes_over
  rw [pl_nI, rg_nI hlt (by decide), hov]
  rfl
theorem sI_zero {p : Nat → Bool} {g : Nat → Int32} : ∀ {n : Nat}, (∀ i, i < n → p i = false) → sI p g n = 0
  | 0, _ => rfl
  | n + 1, h => by
    rw [sI, if_neg (by rw [h n (by omega)]; exact Bool.false_ne_true), sI_zero (fun i hi => h i (by omega))]
theorem faceDown_eq {σ : SG} {n i : Nat} (hn : σ 76 10 = nI n) (h240 : n ≤ 240) (hi : i < n) : F_Ref_faceDown σ (nI i) = if σ 87 i = -1 then some (-1) else some (sI (fun k => decide (i < k) && (decide (σ 82 k = σ 82 i) && decide (σ 87 k = σ 87 i))) (σ 84) n) := by
  have hl : lpW (L_Ref_faceDown_18 σ (nI i)) FU (0, nI (i + 1)) = some (sI (fun k => decide (i < k) && (decide (σ 82 k = σ 82 i) && decide (σ 87 k = σ 87 i))) (σ 84) n) := by
    refine lpW_at (s := fun j => (sI (fun k => decide (i < k) && (decide (σ 82 k = σ 82 i) && decide (σ 87 k = σ 87 i))) (σ 84) (i + 1 + j), nI (i + 1 + j))) (n - (i + 1)) ?_ ?_ ?_ (by omega)
    · rw [Nat.add_zero, sI_zero (fun k hk => by simp; omega)]
    · intro j hj
      have hj2 : i + 1 + j < 240 := by omega
      unfold L_Ref_faceDown_18
      dsimp only
      rw [hn, if_neg (nI_ge (by omega) (by omega)), vin_nI hj2 (by decide), vin_nI (show i < 240 by omega) (by decide)]
      simp only [og_t]
      rw [ix_nI (by omega), ix_nI (by omega), nI_1, ← Nat.add_assoc, sI]
      have hlt : i < i + 1 + j := by omega
      by_cases q1 : σ 82 (i + 1 + j) = σ 82 i
      · by_cases q2 : σ 87 (i + 1 + j) = σ 87 i
        · simp [q1, q2, hlt]
        · simp [q1, q2]
      · simp [q1]
    · unfold L_Ref_faceDown_18
      dsimp only
      rw [hn, show i + 1 + (n - (i + 1)) = n by omega, if_pos (nI_le (Nat.le_refl n) (by omega))]
  unfold F_Ref_faceDown
  rw [vin_nI (show i < 240 by omega) (by decide), og_t, ix_nI (by omega), nI_1]
  by_cases h1 : σ 87 i = -1
  · rw [if_pos h1, if_pos h1]
  · rw [if_neg h1, if_neg h1, ob_of hl]
theorem turned {σ : SG} {w h m n S : Nat} {pt : Bool} (hh : h ≤ 10) (hC : RC σ w h m n S pt) {i : Nat} (hi : i < n) : F_Ref_faceDown σ (nI i) = some (σ 32 i) := by
  obtain ⟨⟨c1, c2, hn240, -⟩, -, ⟨-, -, hS240, -, -⟩, ⟨k1, k2, k3, k4, k5, k6⟩, hcov, -, h0⟩ := hC
  rw [faceDown_eq c2 hn240 hi, k1, k3, k6]
  by_cases hS : S = 0
  · obtain ⟨e1, e2⟩ := h0 hS i hi
    rw [if_pos e1, e2]
  · obtain ⟨r, l, z, f, hv, hcut⟩ := hcov (by omega)
    obtain ⟨s, hs1, -⟩ := hcut (by omega)
    obtain ⟨g1, g2, g3⟩ := hs1 i hi
    rw [if_neg (by rw [g2]; exact nm1_ne (by omega)), g3, ← sI_sm (g := σ 24) (fun k hk => (hv.1 k hk).2.2.1)]
    refine congrArg some (sI_cong (fun k hk => ?_) (fun _ _ _ => rfl))
    obtain ⟨e1, -, -, -, e5, -⟩ := hv.1 k hk
    obtain ⟨e1', -, -, -, e5', -⟩ := hv.1 i hi
    obtain ⟨g1', g2', -⟩ := hs1 k hk
    rw [e1, e1', g2, g2']
    congr 2
    · exact decide_eq_decide.mpr (nI_eq (by omega) (by omega))
    · exact decide_eq_decide.mpr (nI_eq (by omega) (by omega))
theorem cubes_has {σ : SG} {n : Nat} (c1 : σ 18 0 = nI n) (c2 : σ 76 10 = nI n) (hn : n ≤ 240) (a : Int32) : (F_Cubes_has σ a = true ∧ F_Shop_within a 0 (σ 76 10 - 1) = true ∧ ∃ k, k < n ∧ a = nI k) ∨ (¬ F_Cubes_has σ a = true ∧ ¬ F_Shop_within a 0 (σ 76 10 - 1) = true) := by
  unfold F_Cubes_has
  rw [c1, c2]
  have hT : (nI n - 1).toInt = (n : Int) - 1 := by
    by_cases h0 : 1 ≤ n
    · rw [nI_sub1 h0, nI_toInt (by omega)]; omega
    · have : n = 0 := by omega
      subst this
      rfl
  by_cases h1 : a < 0
  · right
    rw [if_pos h1]
    exact ⟨fun h => (by cases h), fun h => k2_nlt (wi_iff.mp h).1 h1⟩
  · obtain ⟨k, hk, rfl⟩ := nI_of h1
    rw [if_neg h1]
    by_cases h2 : k < n
    · left
      rw [if_neg (nI_ge h2 (by omega))]
      refine ⟨rfl, wi_iff.mpr ⟨nI_pos' hk, ?_⟩, k, h2, rfl⟩
      rw [le_T, hT, nI_toInt hk]
      omega
    · right
      rw [if_pos (nI_le (by omega) hk)]
      refine ⟨fun h => (by cases h), fun h => ?_⟩
      have := (wi_iff.mp h).2
      rw [le_T, hT, nI_toInt hk] at this
      omega
theorem cube_tell {σ : SG} {w h m n S : Nat} {pt : Bool} (hh : h ≤ 10) (hC : RC σ w h m n S pt) {i : Nat} (hi : i < n) (b : Int32) : (tsS b 0 [(og (vin (nI i) 240) (some (σ 82 (ix (nI i))))), (og (vin (nI i) 240) (some (σ 83 (ix (nI i))))), (og (vin (nI i) 240) (some (σ 84 (ix (nI i))))), (og (vin (nI i) 240) (some (σ 85 (ix (nI i))))), (og (vin (nI i) 240) (some (σ 86 (ix (nI i))))), (og (vin (nI i) 240) (some (σ 87 (ix (nI i)))))] (ob (F_Ref_faceDown σ (nI i)) (fun v10 => some v10))) = some (F_Cubes_tell σ (nI i) b) := by
  have ht := turned hh hC hi
  obtain ⟨⟨c1, c2, hn240, -⟩, -, -, ⟨k1, k2, k3, k4, k5, k6⟩, -⟩ := hC
  have hi2 : i < 240 := by omega
  unfold F_Cubes_tell
  rw [vin_nI hi2 (by decide), ob_of ht, ix_nI (by omega)]
  simp only [og_t]
  rw [rg_nI hi2 (by decide), rg_nI hi2 (by decide), rg_nI hi2 (by decide), rg_nI hi2 (by decide), rg_nI hi2 (by decide), rg_nI hi2 (by decide), rg_nI hi2 (by decide), k1, k2, k3, k4, k5, k6, tsS_map some]
  rfl
theorem op_cube {σ : SG} (hR : R σ) (a b : Int32) : F_Ref_cube σ a b = some (F_Shop_cube σ a b) := by
  obtain ⟨w, h, m, q, n, S, pt, hD, hF, hL, hH, hC⟩ := hR
  unfold F_Ref_cube F_Shop_cube
  rw [in_wi, in_wi]
  by_cases hb : F_Shop_within b 0 6 = true
  rotate_left
  · rw [if_neg hb, if_neg hb]
  rw [if_pos hb, if_pos hb]
  rcases cubes_has hC.1.1 hC.1.2.1 hC.1.2.2.1 a with ⟨h1, h2, k, hk, rfl⟩ | ⟨h1, h2⟩
  rotate_left
  · rw [if_neg h1, if_neg h2]
  rw [if_pos h1, if_pos h2, cube_tell hD.2.2.2.2.2.2.2.1 hC hk b]
end
section
/-! count, digest -/
theorem lin_dm {w y x : Nat} (hx : x < w) : (w * y + x) / w = y ∧ (w * y + x) % w = x := by
  have hw : 0 < w := by omega
  constructor
  · rw [Nat.mul_add_div hw, Nat.div_eq_of_lt hx, Nat.add_zero]
  · rw [Nat.mul_add_mod, Nat.mod_eq_of_lt hx]
def fG (σ : SG) (w : Nat) (F : Int32) (t : Nat) : Bool := decide (σ 3 (24 * (t / w) + t % w) = F)
theorem fG_at {σ : SG} {w y x : Nat} {F : Int32} (hx : x < w) : fG σ w F (w * y + x) = decide (σ 3 (24 * y + x) = F) := by
  unfold fG
  rw [(lin_dm hx).1, (lin_dm hx).2]
theorem placesOf_lin {σ : SG} {w h : Nat} (hD : RD σ w h) (F : Int32) : F_Drawing_placesOf σ F = some (nI (sm (fG σ w F) (fun _ => 1) (w * h))) := by
  have hD2 := hD
  obtain ⟨e1, e2, -, -, g1, g2, g3, g4, -⟩ := hD2
  have hin : ∀ y, y < h → lpW (L_Drawing_placesOf_15 σ F (nI y)) FU (nI (sm (fG σ w F) (fun _ => 1) (w * y)), 0) = some (nI (sm (fG σ w F) (fun _ => 1) (w * (y + 1)))) := by
    intro y hy
    refine lpW_at (s := fun x => (nI (sm (fG σ w F) (fun _ => 1) (w * y + x)), nI x)) w rfl ?_ ?_ (by omega)
    · intro x hx
      unfold L_Drawing_placesOf_15
      dsimp only
      rw [e1, if_neg (nI_ge hx (by omega)), fAt (pl_lt hD hx hy), nI_1, nI_1, ← Nat.add_assoc, sm, fG_at hx]
      by_cases q1 : σ 3 (24 * y + x) = F <;> simp [q1]
    · unfold L_Drawing_placesOf_15
      dsimp only
      rw [e1, if_pos (nI_le (Nat.le_refl w) (by omega)), Nat.mul_add, Nat.mul_one]
  have hl : lpW (L_Drawing_placesOf_4 σ F) FU (0, 0) = some (nI (sm (fG σ w F) (fun _ => 1) (w * h))) := by
    refine lpW_at (s := fun y => (nI (sm (fG σ w F) (fun _ => 1) (w * y)), nI y)) h rfl ?_ ?_ (by omega)
    · intro y hy
      unfold L_Drawing_placesOf_4
      dsimp only
      rw [e2, if_neg (nI_ge hy (by omega)), ob_of (hin y hy), nI_1]
    · unfold L_Drawing_placesOf_4
      dsimp only
      rw [e2, if_pos (nI_le (Nat.le_refl h) (by omega))]
  unfold F_Drawing_placesOf
  rw [ob_of hl]
theorem lin_cubes {σ : SG} {w h n : Nat} {r l z f : Nat → Nat} (hn : 0 < n) (hv : Cov σ w h n r l z f) {F : Nat} (hF : F < 2 ^ 31) : sm (fG σ w (nI F)) (fun _ => 1) (w * h) = sm (fun i => decide (f i = F)) z n := by
  have hin : ∀ i, i < n → ∀ j, j ≤ z i → sm (fG σ w (nI F)) (fun _ => 1) (ps w r l i + j) = sm (fG σ w (nI F)) (fun _ => 1) (ps w r l i) + (if f i = F then j else 0) := by
    intro i hi j
    obtain ⟨-, -, -, -, -, -, -, h8, h9, hpl⟩ := hv.1 i hi
    induction j with
    | zero => intro _; simp
    | succ j ih =>
      intro hj
      rw [← Nat.add_assoc, sm, ih (by omega)]
      have e : ps w r l i + j = w * r i + (l i + j) := by unfold ps; omega
      rw [e, fG_at (by omega), (hpl (l i + j) (by omega) (by omega)).1]
      by_cases q : f i = F
      · simp [q]; omega
      · rw [if_neg q, if_neg q, if_neg]
        simp only [decide_eq_true_eq]
        intro e2
        exact q ((nI_eq (by omega) hF).mp e2)
  have key : ∀ i, i < n → sm (fG σ w (nI F)) (fun _ => 1) (ps w r l i) = sm (fun i => decide (f i = F)) z i := by
    intro i
    induction i with
    | zero => intro _; rw [Cov_0 hv]; rfl
    | succ i ih =>
      intro hi
      rw [Cov_step hv hi, hin i (by omega) (z i) (Nat.le_refl _), ih (by omega), sm]
      by_cases q : f i = F <;> simp [q]
  rw [← Cov_end hv, hin (n - 1) (by omega) _ (Nat.le_refl _), key (n - 1) (by omega)]
  obtain ⟨k, rfl⟩ : ∃ k, n = k + 1 := ⟨n - 1, by omega⟩
  rw [Nat.add_sub_cancel, sm]
  by_cases q : f k = F <;> simp [q]
theorem placesOf_eq {σ : SG} {w h n : Nat} {r l z f : Nat → Nat} (hD : RD σ w h) (hn : 0 < n) (hv : Cov σ w h n r l z f) {F : Nat} (hF : F < 2 ^ 31) : F_Drawing_placesOf σ (nI F) = some (nI (sm (fun i => decide (f i = F)) z n)) := by
  rw [placesOf_lin hD, lin_cubes hn hv hF]
theorem sm_split {f : Nat → Nat} {G : Nat → Bool} {z : Nat → Nat} {k : Nat} : ∀ n, sm (fun i => decide (f i < k + 1) && G (f i)) z n = sm (fun i => decide (f i < k) && G (f i)) z n + (if G k = true then sm (fun i => decide (f i = k)) z n else 0)
  | 0 => by simp [sm]
  | n + 1 => by
    rw [sm, sm, sm, sm_split n]
    by_cases hG : G k = true
    · rw [if_pos hG, if_pos hG]
      by_cases q1 : f n = k
      · simp [q1, hG]; omega
      · by_cases q2 : f n < k
        · have : f n < k + 1 := by omega
          simp [q1, q2, this]
          by_cases q3 : G (f n) = true <;> simp [q3] <;> omega
        · have : ¬ f n < k + 1 := by omega
          simp [q1, q2, this]
    · rw [if_neg hG, if_neg hG]
      by_cases q1 : f n = k
      · simp [q1, hG]
      · by_cases q2 : f n < k
        · have : f n < k + 1 := by omega
          simp [q2, this]
        · have : ¬ f n < k + 1 := by omega
          simp [q2, this]
theorem placesOfAll_eq {σ : SG} {w h n : Nat} {r l z f : Nat → Nat} (hD : RD σ w h) (hF : RF σ) (hn : 0 < n) (hv : Cov σ w h n r l z f) : F_Drawing_placesOfAll σ = some (nI (sm (fun i => decide (σ 15 (f i) = 1)) z n)) := by
  have hl : lpW (L_Drawing_placesOfAll_4 σ) FU (0, 0) = some (nI (sm (fun i => decide (f i < 8) && decide (σ 15 (f i) = 1)) z n)) := by
    refine lpW_at (s := fun k => (nI (sm (fun i => decide (f i < k) && decide (σ 15 (f i) = 1)) z n), nI k)) 8 ?_ ?_ ?_ (by omega)
    · have h0 : ∀ n, sm (fun i => decide (f i < 0) && decide (σ 15 (f i) = 1)) z n = 0 := by
        intro n
        induction n with
        | zero => rfl
        | succ n ih => rw [sm, ih]; simp
      rw [h0]; rfl
    · intro k hk
      unfold L_Drawing_placesOfAll_4
      dsimp only
      rw [if_neg (show ¬ (8 : Int32) ≤ nI k from nI_ge hk (by decide)), rg_nI hk (by decide), ob_of (placesOf_eq hD hn hv (by omega)), nI_1, nI_add, sm_split (G := fun g => decide (σ 15 g = 1))]
      by_cases q : σ 15 k = 1 <;> simp [q]
    · unfold L_Drawing_placesOfAll_4
      dsimp only
      rw [if_pos (show (8 : Int32) ≤ nI 8 from nI_le (Nat.le_refl 8) (by decide))]
  unfold F_Drawing_placesOfAll
  rw [ob_of hl]
  refine congrArg (fun t => some (nI t)) (sm_cong fun i hi => ?_)
  obtain ⟨-, -, -, -, -, -, -, -, h9, -⟩ := hv.1 i hi
  simp [h9]
theorem leafR {σ : SG} {n : Nat} (hn : σ 76 10 = nI n) (h240 : n ≤ 240) (hf : ∀ i, i < n → ∃ f, f < 8 ∧ σ 85 i = nI f) : lpW (L_Ref_count_128 σ) FU (0, 0) = some (sI (fun i => decide (¬ σ 80 (ix (σ 85 i)) = 0)) (σ 84) n) := by
  refine lpW_at (s := fun i => (sI (fun i => decide (¬ σ 80 (ix (σ 85 i)) = 0)) (σ 84) i, nI i)) n rfl ?_ ?_ (by omega)
  · intro i hi
    obtain ⟨f, hf1, hf2⟩ := hf i hi
    unfold L_Ref_count_128
    dsimp only
    rw [hn, if_neg (nI_ge hi (by omega)), vin_nI (show i < 240 by omega) (by decide), og_t, og_t, ix_nI (by omega), hf2, vin_nI hf1 (by decide), og_t, nI_1, sI, hf2]
    by_cases h1 : σ 80 (ix (nI f)) = 0 <;> simp [h1]
  · unfold L_Ref_count_128
    dsimp only
    rw [hn, if_pos (nI_le (Nat.le_refl n) (by omega))]
theorem leftC {σ : SG} {m : Nat} (hL : RLo σ m) : F_Lots_leftInAll σ = some (sI (fun _ => true) (σ 44) m) := by
  obtain ⟨e1, -, e3, -⟩ := hL
  have hl : lpW (L_Lots_leftInAll_4 σ) FU (0, 0) = some (sI (fun _ => true) (σ 44) m) := by
    refine lpW_at (s := fun i => (sI (fun _ => true) (σ 44) i, nI i)) m rfl ?_ ?_ (by omega)
    · intro i hi
      unfold L_Lots_leftInAll_4
      dsimp only
      rw [e1, if_neg (nI_ge hi (by omega)), rg_nI (show i < 10 by omega) (by decide), nI_1]
      rfl
    · unfold L_Lots_leftInAll_4
      dsimp only
      rw [e1, if_pos (nI_le (Nat.le_refl m) (by omega))]
  unfold F_Lots_leftInAll
  rw [ob_of hl]
theorem leftR {σ : SG} {m : Nat} (hL : RLo σ m) : lpW (L_Ref_count_101 σ) FU (0, 0) = some (sI (fun _ => true) (σ 44) m) := by
  obtain ⟨-, e2, e3, e4, -⟩ := hL
  refine lpW_at (s := fun i => (sI (fun _ => true) (σ 44) i, nI i)) m rfl ?_ ?_ (by omega)
  · intro i hi
    unfold L_Ref_count_101
    dsimp only
    rw [e2, if_neg (nI_ge hi (by omega)), vin_nI (show i < 10 by omega) (by decide), og_t, ix_nI (by omega), nI_1, e4]
    rfl
  · unfold L_Ref_count_101
    dsimp only
    rw [e2, if_pos (nI_le (Nat.le_refl m) (by omega))]
theorem tsS_in {A : Type} {x : Int32} {r : List A} {d d' : A} (h1 : ¬ x < 0) (h2 : ¬ nI r.length ≤ x) (hl : r.length < 1000) : tsS x 0 r d = tsS x 0 r d' := by
  obtain ⟨k, hk, rfl⟩ := nI_of h1
  have hkr : k < r.length := by
    rcases Nat.lt_or_ge k r.length with q | q
    · exact q
    · exact absurd (nI_le q hk) h2
  have hg : r[k]? = some r[k] := List.getElem?_eq_getElem hkr
  rw [tsS_at (j := k) (a := r[k]) (by rw [Nat.zero_add]) hg (Nat.ble_eq.mpr (by omega)), tsS_at (j := k) (a := r[k]) (by rw [Nat.zero_add]) hg (Nat.ble_eq.mpr (by omega))]
theorem tsS_app {A : Type} {x : Int32} {d d2 : A} : ∀ (k : Nat) (r : List A), tsS x k (r ++ [d]) d2 = tsS x k r (if x = nI (k + r.length) then d else d2)
  | k, [] => rfl
  | k, a :: r => by
    rw [List.cons_append, tsS, tsS, tsS_app (k + 1) r, List.length_cons, Nat.add_assoc, Nat.add_comm 1]
theorem op_count {σ : SG} (hR : R σ) (a : Int32) : ∃ r, F_Shop_count σ a = some r ∧ F_Ref_count σ a = some r := by
  obtain ⟨w, h, m, q, n, S, pt, hD, hF, hL, hH, hC⟩ := hR
  obtain ⟨z, f, hz, hf, hf26, hf85, e1, e2, e3⟩ := sheet_facts hD hF hC
  have hlC := leftC hL
  have hlR := leftR hL
  obtain ⟨⟨c1, c2, hn240, c4⟩, ⟨p1, p2, -⟩, ⟨s1, s2, -⟩, ⟨k1, k2, k3, k4, k5, k6⟩, hcov, -⟩ := hC
  have hlv := leafR c2 hn240 hf85
  -- the leaf in all, on both sides
  have hleaf : ∃ v, (if F_Shop_isLaid σ = true then ob (F_Drawing_placesOfAll σ) (fun v7 => some v7) else some (-3)) = some v ∧ ob (lpW (L_Ref_count_128 σ) FU (0, 0)) (fun y7 => if σ 76 7 = 0 then some (-3) else some y7) = some v := by
    rw [isLaid_iff c1 hn240, ob_of hlv, c4]
    by_cases h0 : 0 < n
    · obtain ⟨r, l, z', f', hv, -⟩ := hcov h0
      rw [if_pos (by simp [h0]), if_neg (by simp [h0, bI]), ob_of (placesOfAll_eq hD hF h0 hv), k3, k4, hF.1, ← sI_sm (g := σ 24) (fun i hi => (hv.1 i hi).2.2.1)]
      refine ⟨_, rfl, congrArg some (sI_cong (fun i hi => ?_) (fun _ _ _ => rfl))⟩
      obtain ⟨-, -, -, g4, -, -, -, -, g9, -⟩ := hv.1 i hi
      obtain ⟨-, -, ⟨zz, hzz⟩, -⟩ := hF.2.2 (f' i) g9
      rw [g4, ix_nI (by omega), hzz, bI_ne0, bI_eq1]
    · rw [if_neg (by simp [h0]), if_pos (by simp [h0, bI])]
      exact ⟨_, rfl, rfl⟩
  obtain ⟨v, hv1, hv2⟩ := hleaf
  unfold F_Shop_count F_Ref_count
  rw [hv1, hv2, ob_of hlC, ob_of hlR, ob_of (bareC_eq c1 hn240), ob_of (bare_eq c2 hn240), hD.1, hD.2.1, hD.2.2.1, hD.2.2.2.1, c1, c2, p1, p2, hL.1, hL.2.1, s1, s2, hH.1, hH.2.1, k5]
  rw [show [some (nI w), some (nI h), some (nI n), (if bI pt = 0 then some (-3) else some (sI (fun i => decide (σ 28 i = -1)) (fun _ => 1) n)), some (nI m), some (nI S), some (nI q), some (sI (fun _ => true) (σ 44) m), some v] = [some (nI w), some (nI h), some (nI n), (if bI pt = 0 then some (-3) else some (sI (fun i => decide (σ 28 i = -1)) (fun _ => 1) n)), some (nI m), some (nI S), some (nI q), some (sI (fun _ => true) (σ 44) m)] ++ [some v] from rfl]
  obtain ⟨r8, hr8⟩ : ∃ r, r = [some (nI w), some (nI h), some (nI n), (if bI pt = 0 then some (-3) else some (sI (fun i => decide (σ 28 i = -1)) (fun _ => 1) n)), some (nI m), some (nI S), some (nI q), some (sI (fun _ => true) (σ 44) m)] := ⟨_, rfl⟩
  have h8 : r8.length = 8 := by rw [hr8]; rfl
  rw [← hr8]
  have happ := tsS_app (x := a) (d := some v) (d2 := some (-2)) 0 r8
  rw [happ, Nat.zero_add, h8]
  have hsome : ∀ (x : Int32) (r : List (Option Int32)) (d : Option Int32), (∀ o ∈ r, ∃ t, o = some t) → (∃ t, d = some t) → ∃ t, tsS x 0 r d = some t := by
    intro x r d
    generalize 0 = k
    induction r generalizing k with
    | nil => intro _ h; exact h
    | cons o r ih =>
      intro h1 h2
      rw [tsS]
      by_cases hx : x = nI k
      · rw [if_pos hx]; exact h1 o List.mem_cons_self
      · rw [if_neg hx]; exact ih (k + 1) (fun o ho => h1 o (List.mem_cons_of_mem _ ho)) h2
  by_cases ha : F_Shop_within a 0 8 = true
  · rw [if_pos ha]
    obtain ⟨k, -, hk8, rfl⟩ := wi_nI (a := 0) (b := 8) (by decide) (by decide) ha
    obtain ⟨t, ht⟩ := hsome (nI k) r8 (some v) (by
      intro o ho
      rw [hr8] at ho
      by_cases hb : bI pt = 0
      · rw [if_pos hb] at ho
        simp only [List.mem_cons, List.not_mem_nil, or_false] at ho
        rcases ho with rfl | rfl | rfl | rfl | rfl | rfl | rfl | rfl <;> exact ⟨_, rfl⟩
      · rw [if_neg hb] at ho
        simp only [List.mem_cons, List.not_mem_nil, or_false] at ho
        rcases ho with rfl | rfl | rfl | rfl | rfl | rfl | rfl | rfl <;> exact ⟨_, rfl⟩) ⟨v, rfl⟩
    refine ⟨t, ht, ?_⟩
    rw [← ht]
    by_cases hk : k = 8
    · subst hk
      rw [if_pos rfl]
    · exact tsS_in (nI_pos (by omega)) (by rw [h8]; exact nI_ge (by omega) (by decide)) (by omega)
  · rw [if_neg ha]
    refine ⟨-2, rfl, ?_⟩
    have hout : a < 0 ∨ nI 9 ≤ a := by
      by_cases q1 : a < 0
      · exact Or.inl q1
      · right
        obtain ⟨k, hk, rfl⟩ := nI_of q1
        rcases Nat.lt_or_ge k 9 with q2 | q2
        · exact absurd (wi_0 (b := 8) (by omega) (by decide)) ha
        · exact nI_le q2 hk
    rw [tsS_out (by
      rcases hout with q1 | q1
      · exact Or.inl q1
      · right
        rw [h8, le_T, nI_toInt (by decide)]
        rw [le_T, nI_toInt (by decide)] at q1
        omega) (by rw [h8]; rfl), if_neg]
    intro e
    rw [e] at hout
    revert hout
    decide
end
section
/-! digest -/
def dg (g : Nat → Int32) : Nat → Int64 → Int64
  | 0, h => h
  | k + 1, h => 31 * dg g k h + (g k).toInt64
def od (F : Nat → Int64 → Int64) : Nat → Int64 → Int64
  | 0, h => h
  | k + 1, h => F k (od F k h)
theorem dgC1 {σ : SG} {g : Nat → Int32} (hg : ∀ k, k < 9 → F_Shop_count σ (nI k) = some (g k)) (h : Int64) : lpW (L_Shop_digest_6 σ) FU (h, 0) = some (dg g 9 h) := by
  refine lpW_at (s := fun k => (dg g k h, nI k)) 9 rfl ?_ ?_ (by omega)
  · intro k hk
    unfold L_Shop_digest_6
    dsimp only
    rw [if_neg (show ¬ (8 : Int32) < nI k from nI_nlt (a := 8) (by omega) (by decide)), ob_of (hg k hk), nI_1]
    rfl
  · unfold L_Shop_digest_6
    dsimp only
    rw [if_pos (show (8 : Int32) < nI 9 from nI_lt (by decide) (by decide))]
theorem dgR1 {σ : SG} {g : Nat → Int32} (hg : ∀ k, k < 9 → F_Ref_count σ (nI k) = some (g k)) (h : Int64) : lpW (L_Ref_digest_6 σ) FU (h, 0) = some (dg g 9 h) := by
  refine lpW_at (s := fun k => (dg g k h, nI k)) 9 rfl ?_ ?_ (by omega)
  · intro k hk
    unfold L_Ref_digest_6
    dsimp only
    rw [if_neg (show ¬ (9 : Int32) ≤ nI k from nI_ge hk (by decide)), ob_of (hg k hk), nI_1]
    rfl
  · unfold L_Ref_digest_6
    dsimp only
    rw [if_pos (show (9 : Int32) ≤ nI 9 from nI_le (by decide) (by decide))]
theorem dgC2 {σ : SG} {w h : Nat} (hD : RD σ w h) (d : Int64) : lpW (L_Shop_digest_33 σ) FU (d, 0) = some (od (fun y => dg (fun x => σ 3 (24 * y + x)) w) h d) := by
  have hD2 := hD
  obtain ⟨e1, e2, -, -, g1, g2, g3, g4, -⟩ := hD2
  refine lpW_at (s := fun y => (od (fun y => dg (fun x => σ 3 (24 * y + x)) w) y d, nI y)) h rfl ?_ ?_ (by omega)
  · intro y hy
    have hin : ∀ d, lpW (L_Shop_digest_47 σ (nI y)) FU (d, 0) = some (dg (fun x => σ 3 (24 * y + x)) w d) := by
      intro d
      refine lpW_at (s := fun x => (dg (fun x => σ 3 (24 * y + x)) x d, nI x)) w rfl ?_ ?_ (by omega)
      · intro x hx
        unfold L_Shop_digest_47
        dsimp only
        rw [e1, if_neg (nI_ge hx (by omega)), fAt (pl_lt hD hx hy), nI_1]
        rfl
      · unfold L_Shop_digest_47
        dsimp only
        rw [e1, if_pos (nI_le (Nat.le_refl w) (by omega))]
    unfold L_Shop_digest_33
    dsimp only
    rw [e2, if_neg (nI_ge hy (by omega)), ob_of (hin _), nI_1]
    rfl
  · unfold L_Shop_digest_33
    dsimp only
    rw [e2, if_pos (nI_le (Nat.le_refl h) (by omega))]
theorem dgR2 {σ : SG} {w h : Nat} (hD : RD σ w h) (d : Int64) : lpW (L_Ref_digest_33 σ) FU (d, 0) = some (od (fun y => dg (fun x => σ 3 (24 * y + x)) w) h d) := by
  have hD2 := hD
  obtain ⟨-, -, e1, e2, g1, g2, g3, g4, e5, -⟩ := hD2
  refine lpW_at (s := fun y => (od (fun y => dg (fun x => σ 3 (24 * y + x)) w) y d, nI y)) h rfl ?_ ?_ (by omega)
  · intro y hy
    have hin : ∀ d, lpW (L_Ref_digest_44 σ (nI y)) FU (d, 0) = some (dg (fun x => σ 3 (24 * y + x)) w d) := by
      intro d
      refine lpW_at (s := fun x => (dg (fun x => σ 3 (24 * y + x)) x d, nI x)) w rfl ?_ ?_ (by omega)
      · intro x hx
        have hlt := pl_lt hD hx hy
        unfold L_Ref_digest_44
        dsimp only
        rw [e1, if_neg (nI_ge hx (by omega)), pl_nI', vin_nI hlt (by decide), og_t, ix_nI (by omega), nI_1, e5]
        rfl
      · unfold L_Ref_digest_44
        dsimp only
        rw [e1, if_pos (nI_le (Nat.le_refl w) (by omega))]
    unfold L_Ref_digest_33
    dsimp only
    rw [e2, if_neg (nI_ge hy (by omega)), ob_of (hin _), nI_1]
    rfl
  · unfold L_Ref_digest_33
    dsimp only
    rw [e2, if_pos (nI_le (Nat.le_refl h) (by omega))]
theorem dgC3 {σ : SG} {n : Nat} (hn : σ 18 0 = nI n) (h240 : n ≤ 240) (d : Int64) : lpW (L_Shop_digest_91 σ) FU (d, 0) = some (od (fun i => dg (fun b => F_Cubes_tell σ (nI i) (nI b)) 7) n d) := by
  refine lpW_at (s := fun i => (od (fun i => dg (fun b => F_Cubes_tell σ (nI i) (nI b)) 7) i d, nI i)) n rfl ?_ ?_ (by omega)
  · intro i hi
    have hin : ∀ d, lpW (L_Shop_digest_105 σ (nI i)) FU (d, 0) = some (dg (fun b => F_Cubes_tell σ (nI i) (nI b)) 7 d) := by
      intro d
      refine lpW_at (s := fun b => (dg (fun b => F_Cubes_tell σ (nI i) (nI b)) b d, nI b)) 7 rfl ?_ ?_ (by omega)
      · intro b hb
        unfold L_Shop_digest_105
        dsimp only
        rw [if_neg (show ¬ (6 : Int32) < nI b from nI_nlt (a := 6) (by omega) (by decide)), nI_1]
        rfl
      · unfold L_Shop_digest_105
        dsimp only
        rw [if_pos (show (6 : Int32) < nI 7 from nI_lt (by decide) (by decide))]
    unfold L_Shop_digest_91
    dsimp only
    rw [hn, if_neg (nI_ge hi (by omega)), ob_of (hin _), nI_1]
    rfl
  · unfold L_Shop_digest_91
    dsimp only
    rw [hn, if_pos (nI_le (Nat.le_refl n) (by omega))]
theorem dgR3 {σ : SG} {w h m n S : Nat} {pt : Bool} (hh : h ≤ 10) (hC : RC σ w h m n S pt) (d : Int64) : lpW (L_Ref_digest_87 σ) FU (d, 0) = some (od (fun i => dg (fun b => F_Cubes_tell σ (nI i) (nI b)) 7) n d) := by
  have hn := hC.1.2.1
  have h240 := hC.1.2.2.1
  refine lpW_at (s := fun i => (od (fun i => dg (fun b => F_Cubes_tell σ (nI i) (nI b)) 7) i d, nI i)) n rfl ?_ ?_ (by omega)
  · intro i hi
    have hin : ∀ d, lpW (L_Ref_digest_98 σ (nI i)) FU (d, 0) = some (dg (fun b => F_Cubes_tell σ (nI i) (nI b)) 7 d) := by
      intro d
      refine lpW_at (s := fun b => (dg (fun b => F_Cubes_tell σ (nI i) (nI b)) b d, nI b)) 7 rfl ?_ ?_ (by omega)
      · intro b hb
        have hcube : F_Ref_cube σ (nI i) (nI b) = some (F_Cubes_tell σ (nI i) (nI b)) := by
          unfold F_Ref_cube
          rw [in_wi, in_wi, if_pos (show F_Shop_within (nI b) 0 6 = true from wi_0 (b := 6) (by omega) (by decide)), hn, nI_sub1 (by omega), if_pos (wi_0 (by omega) (by omega)), cube_tell hh hC hi]
        unfold L_Ref_digest_98
        dsimp only
        rw [if_neg (show ¬ (7 : Int32) ≤ nI b from nI_ge hb (by decide)), ob_of hcube, nI_1]
        rfl
      · unfold L_Ref_digest_98
        dsimp only
        rw [if_pos (show (7 : Int32) ≤ nI 7 from nI_le (by decide) (by decide))]
    unfold L_Ref_digest_87
    dsimp only
    rw [hn, if_neg (nI_ge hi (by omega)), ob_of (hin _), nI_1]
    rfl
  · unfold L_Ref_digest_87
    dsimp only
    rw [hn, if_pos (nI_le (Nat.le_refl n) (by omega))]
theorem dgC4 {σ : SG} {m : Nat} (hL : RLo σ m) (d : Int64) : lpW (L_Shop_digest_144 σ) FU (d, 0) = some (dg (σ 44) m d) := by
  obtain ⟨e1, -, e3, -⟩ := hL
  refine lpW_at (s := fun k => (dg (σ 44) k d, nI k)) m rfl ?_ ?_ (by omega)
  · intro k hk
    unfold L_Shop_digest_144
    dsimp only
    rw [e1, if_neg (nI_ge hk (by omega)), rg_nI (show k < 10 by omega) (by decide), nI_1]
    rfl
  · unfold L_Shop_digest_144
    dsimp only
    rw [e1, if_pos (nI_le (Nat.le_refl m) (by omega))]
theorem dgR4 {σ : SG} {m : Nat} (hL : RLo σ m) (d : Int64) : lpW (L_Ref_digest_134 σ) FU (d, 0) = some (dg (σ 44) m d) := by
  obtain ⟨-, e2, e3, e4, -⟩ := hL
  refine lpW_at (s := fun k => (dg (σ 44) k d, nI k)) m rfl ?_ ?_ (by omega)
  · intro k hk
    unfold L_Ref_digest_134
    dsimp only
    rw [e2, if_neg (nI_ge hk (by omega)), vin_nI (show k < 10 by omega) (by decide), og_t, ix_nI (by omega), nI_1, e4]
    rfl
  · unfold L_Ref_digest_134
    dsimp only
    rw [e2, if_pos (nI_le (Nat.le_refl m) (by omega))]
theorem op_digest {σ : SG} (hR : R σ) : ∃ r, F_Shop_digest σ = some r ∧ F_Ref_digest σ = some r := by
  have hcnt : ∀ k, ∃ r, F_Shop_count σ (nI k) = some r ∧ F_Ref_count σ (nI k) = some r := fun k => op_count hR (nI k)
  obtain ⟨w, h, m, q, n, S, pt, hD, hF, hL, hH, hC⟩ := hR
  have hg1 : ∀ k, k < 9 → F_Shop_count σ (nI k) = some ((fun k => (F_Shop_count σ (nI k)).getD 0) k) := by
    intro k _
    obtain ⟨r, h1, -⟩ := hcnt k
    dsimp only
    rw [h1]; rfl
  have hg2 : ∀ k, k < 9 → F_Ref_count σ (nI k) = some ((fun k => (F_Shop_count σ (nI k)).getD 0) k) := by
    intro k _
    obtain ⟨r, h1, h2⟩ := hcnt k
    dsimp only
    rw [h1, h2]; rfl
  refine ⟨dg (σ 44) m (od (fun i => dg (fun b => F_Cubes_tell σ (nI i) (nI b)) 7) n (od (fun y => dg (fun x => σ 3 (24 * y + x)) w) h (dg (fun k => (F_Shop_count σ (nI k)).getD 0) 9 149))), ?_, ?_⟩
  · unfold F_Shop_digest
    rw [ob_of (dgC1 hg1 149), ob_of (dgC2 hD _), ob_of (dgC3 hC.1.1 hC.1.2.2.1 _), ob_of (dgC4 hL _)]
  · unfold F_Ref_digest
    rw [ob_of (dgR1 hg2 149), ob_of (dgR2 hD _), ob_of (dgR3 hD.2.2.2.2.2.2.2.1 hC _), ob_of (dgR4 hL _)]
end
section
/-! two rows at once; scrape -/
def w2 (σ : SG) (p q : Nat) (A B : Nat → Int32) : SG := sR (sR σ p A) q B
theorem w2_q (σ : SG) (p q : Nat) (A B : Nat → Int32) : w2 σ p q A B q = B := sR_at _ _ _
theorem w2_p (σ : SG) {p q : Nat} (A B : Nat → Int32) (h : p ≠ q) : w2 σ p q A B p = A := by
  unfold w2
  rw [sR_ne _ _ h, sR_at]
theorem w2_o (σ : SG) {p q r : Nat} (A B : Nat → Int32) (h1 : r ≠ p) (h2 : r ≠ q) : w2 σ p q A B r = σ r := by
  unfold w2
  rw [sR_ne _ _ h2, sR_ne _ _ h1]
theorem up_w2q (σ : SG) (p q : Nat) (A B : Nat → Int32) (k : Nat) (v : Int32) : up (w2 σ p q A B) q k v = w2 σ p q A (upd B k v) := by
  rw [up_sR, w2_q]
  unfold w2
  rw [sR_sR]
theorem up_w2p (σ : SG) {p q : Nat} (A B : Nat → Int32) (h : p ≠ q) (k : Nat) (v : Int32) : up (w2 σ p q A B) p k v = w2 σ p q (upd A k v) B := by
  rw [up_sR, w2_p _ _ _ h]
  unfold w2
  rw [sR_comm _ _ _ (fun e => h e.symm), sR_sR]
theorem w2_self (σ : SG) (p q : Nat) : w2 σ p q (σ p) (σ q) = σ := by
  unfold w2
  rw [sR_self, sR_self]
def cap (v : Int32) : Int32 := if v ≤ 1000 then v else 1000
theorem mnI_cap (v : Int32) : mnI 1000 v = cap v := by
  unfold mnI cap
  by_cases h : v < 1000
  · rw [if_pos h, if_pos (show v ≤ 1000 by rw [le_T]; rw [lt_T] at h; omega)]
  · rw [if_neg h]
    by_cases h2 : v ≤ 1000
    · rw [if_pos h2]
      rw [lt_T] at h
      rw [le_T] at h2
      rw [eq_T]
      omega
    · rw [if_neg h2]
/-- what is given back: how many places, and the lots -/
def scS (g z B : Nat → Int32) : Nat → Int32 × (Nat → Int32)
  | 0 => (0, B)
  | i + 1 => if g i = -1 then scS g z B i else ((scS g z B i).1 + z i, upd (scS g z B i).2 (ix (g i)) (cap ((scS g z B i).2 (ix (g i)) + z i)))
theorem rowF_m1 {g : Nat → Int32} {i : Nat} (h : g i = -1) : rowF (fun _ => -1) g (i + 1) = rowF (fun _ => -1) g i := by
  rw [← rowF_s]
  exact upd_eq ((rowF_ge (Nat.le_refl i)).trans h)
theorem scC {σ : SG} {n : Nat} (hn : σ 18 0 = nI n) (h240 : n ≤ 240) (hg : ∀ i, i < n → σ 28 i = -1 ∨ ∃ k, k < 10 ∧ σ 28 i = nI k) : lpW L_Painter_giveBack_4 FU (0, 0, σ) = some ((scS (σ 28) (σ 24) (σ 44) n).1, w2 σ 28 44 (rowF (fun _ => -1) (σ 28) n) (scS (σ 28) (σ 24) (σ 44) n).2) := by
  refine lpW_at (s := fun i => ((scS (σ 28) (σ 24) (σ 44) i).1, nI i, w2 σ 28 44 (rowF (fun _ => -1) (σ 28) i) (scS (σ 28) (σ 24) (σ 44) i).2)) n ?_ ?_ ?_ (by omega)
  · rw [rowF_0]
    show ((0 : Int32), nI 0, w2 σ 28 44 (σ 28) (σ 44)) = _
    rw [w2_self]; rfl
  · intro i hi
    have hi2 : i < 240 := by omega
    unfold L_Painter_giveBack_4
    dsimp only
    rw [scS, nI_1]
    generalize hA : rowF (fun _ => -1) (σ 28) i = A
    generalize scS (σ 28) (σ 24) (σ 44) i = B
    generalize hτ : w2 σ 28 44 A B.2 = τ
    have t18 : τ 18 0 = nI n := by rw [← hτ]; exact hn
    have t28 : τ 28 i = σ 28 i := by rw [← hτ, w2_p _ _ _ (by decide), ← hA, rowF_ge (Nat.le_refl i)]
    have t24 : τ 24 i = σ 24 i := by rw [← hτ]; rfl
    have t44 : ∀ k, τ 44 k = B.2 k := fun k => by rw [← hτ, w2_q]
    have t28' : rg τ 28 240 (nI i) = σ 28 i := by rw [rg_nI hi2 (by decide), t28]
    have t24' : rg τ 24 240 (nI i) = σ 24 i := by rw [rg_nI hi2 (by decide), t24]
    rw [if_neg (show ¬ τ 18 0 ≤ nI i by rw [t18]; exact nI_ge hi (by omega))]
    rcases hg i hi with h1 | ⟨k, hk, h1⟩
    · rw [if_pos (show rg τ 28 240 (nI i) = -1 by rw [t28']; exact h1), if_pos h1, rowF_m1 h1, hA, hτ]
    · rw [if_neg (show ¬ rg τ 28 240 (nI i) = -1 by rw [t28', h1]; exact nm1_ne (by omega)), if_neg (by rw [h1]; exact nm1_ne (by omega)), t28', t24', h1, rg_nI hk (by decide), rs_nI hk (by decide), t44, ← hτ, up_w2q, mnI_cap, ix_nI (by omega)]
      unfold nm
      dsimp only
      rw [rs_nI hi2 (by decide), up_w2p _ _ _ (by decide), ← hA, rowF_s]
  · unfold L_Painter_giveBack_4
    dsimp only
    rw [if_pos (show (w2 σ 28 44 _ _) 18 0 ≤ nI n by rw [show ∀ A B, (w2 σ 28 44 A B) 18 0 = nI n from fun _ _ => hn]; exact nI_le (Nat.le_refl n) (by omega))]
theorem scR {σ : SG} {n : Nat} (hn : σ 76 10 = nI n) (h240 : n ≤ 240) (hg : ∀ i, i < n → σ 86 i = -1 ∨ ∃ k, k < 10 ∧ σ 86 i = nI k) : lpW L_Ref_scrape_14 FU (0, 0, σ) = some ((scS (σ 86) (σ 84) (σ 89) n).1, w2 σ 86 89 (rowF (fun _ => -1) (σ 86) n) (scS (σ 86) (σ 84) (σ 89) n).2) := by
  refine lpW_at (s := fun i => ((scS (σ 86) (σ 84) (σ 89) i).1, nI i, w2 σ 86 89 (rowF (fun _ => -1) (σ 86) i) (scS (σ 86) (σ 84) (σ 89) i).2)) n ?_ ?_ ?_ (by omega)
  · rw [rowF_0]
    show ((0 : Int32), nI 0, w2 σ 86 89 (σ 86) (σ 89)) = _
    rw [w2_self]; rfl
  · intro i hi
    have hi2 : i < 240 := by omega
    unfold L_Ref_scrape_14
    dsimp only
    rw [scS, nI_1]
    generalize hA : rowF (fun _ => -1) (σ 86) i = A
    generalize scS (σ 86) (σ 84) (σ 89) i = B
    generalize hτ : w2 σ 86 89 A B.2 = τ
    have t18 : τ 76 10 = nI n := by rw [← hτ]; exact hn
    have t28 : τ 86 i = σ 86 i := by rw [← hτ, w2_p _ _ _ (by decide), ← hA, rowF_ge (Nat.le_refl i)]
    have t24 : τ 84 i = σ 84 i := by rw [← hτ]; rfl
    have t44 : ∀ k, τ 89 k = B.2 k := fun k => by rw [← hτ, w2_q]
    have hii : ix (nI i) = i := ix_nI (by omega)
    rw [if_neg (show ¬ τ 76 10 ≤ nI i by rw [t18]; exact nI_ge hi (by omega)), vin_nI hi2 (by decide), og_t]
    rcases hg i hi with h1 | ⟨k, hk, h1⟩
    · rw [if_pos (show τ 86 (ix (nI i)) = -1 by rw [hii, t28]; exact h1), if_pos h1, rowF_m1 h1, hA, hτ]
    · have h1' : τ 86 (ix (nI i)) = nI k := by rw [hii, t28]; exact h1
      have hkk : ix (nI k) = k := ix_nI (by omega)
      have h1n : ¬ σ 86 i = -1 := by rw [h1]; exact nm1_ne (by omega)
      rw [if_neg (show ¬ τ 86 (ix (nI i)) = -1 by rw [h1']; exact nm1_ne (by omega)), if_neg h1n, show vin (τ 86 (ix (nI i))) 10 = true by rw [h1', vin_nI hk (by decide)]]
      simp only [og_t]
      by_cases h2 : B.2 k + σ 84 i ≤ 1000
      · rw [if_pos (show τ 89 (ix (τ 86 (ix (nI i)))) + τ 84 (ix (nI i)) ≤ 1000 by rw [h1', hkk, hii, t44, t24]; exact h2)]
        rw [h1', hkk, hii, t44, t24, h1, hkk]
        unfold nm cap
        rw [if_pos h2, ← hτ, up_w2q]
        show some (Sum.inl (_, _, up (w2 σ 86 89 A _) 86 i (-1))) = _
        rw [up_w2p _ _ _ (show (86:Nat) ≠ 89 by decide), ← hA, rowF_s]
      · rw [if_neg (show ¬ τ 89 (ix (τ 86 (ix (nI i)))) + τ 84 (ix (nI i)) ≤ 1000 by rw [h1', hkk, hii, t44, t24]; exact h2)]
        rw [h1', hkk, hii, t24, h1, hkk]
        unfold nm cap
        rw [if_neg h2, ← hτ, up_w2q]
        show some (Sum.inl (_, _, up (w2 σ 86 89 A _) 86 i (-1))) = _
        rw [up_w2p _ _ _ (show (86:Nat) ≠ 89 by decide), ← hA, rowF_s]
  · unfold L_Ref_scrape_14
    dsimp only
    rw [if_pos (show (w2 σ 86 89 _ _) 76 10 ≤ nI n by rw [show ∀ A B, (w2 σ 86 89 A B) 76 10 = nI n from fun _ _ => hn]; exact nI_le (Nat.le_refl n) (by omega))]
theorem op_scrape {σ : SG} (hR : R σ) : ∃ r σ1 σ2, F_Shop_scrape σ = some (r, σ1) ∧ F_Ref_scrape σ1 = some (r, σ2) ∧ R σ2 := by
  obtain ⟨w, h, m, q, n, S, pt, hD, hF, hL, hH, hC⟩ := id hR
  obtain ⟨⟨c1, c2, hn240, c4⟩, ⟨p1, p2, p3⟩, hS, ⟨k1, k2, k3, k4, k5, k6⟩, hcov, hlot, h0⟩ := hC
  by_cases hp : bI pt = 0
  · refine ⟨-3, σ, σ, ?_, ?_, hR⟩
    · unfold F_Shop_scrape; rw [p1, if_pos hp]
    · unfold F_Ref_scrape; rw [p2, if_pos hp]
  have hg : ∀ i, i < n → σ 28 i = -1 ∨ ∃ k, k < 10 ∧ σ 28 i = nI k := by
    intro i hi
    rcases hlot i hi with h1 | ⟨-, k, h2, h3⟩
    · exact Or.inl h1
    · have := hL.2.2.1
      exact Or.inr ⟨k, by omega, h3⟩
  have hc := scC c1 hn240 hg
  generalize hA : rowF (fun _ => -1) (σ 28) n = A at hc
  generalize hB : scS (σ 28) (σ 24) (σ 44) n = B at hc
  refine ⟨B.1, up (w2 σ 28 44 A B.2) 52 0 0, up (w2 (up (w2 σ 28 44 A B.2) 52 0 0) 86 89 A B.2) 76 8 0, ?_, ?_, w, h, m, q, n, S, false, ?_, ?_, ?_, ?_, ?_⟩
  · unfold F_Shop_scrape F_Painter_giveBack
    rw [p1, if_neg hp, ob_of hc]
    rfl
  · have hr := scR (σ := up (w2 σ 28 44 A B.2) 52 0 0) (n := n) c2 hn240 (by
      intro i hi
      show σ 86 i = -1 ∨ ∃ k, k < 10 ∧ σ 86 i = nI k
      rw [k5]; exact hg i hi)
    rw [show (up (w2 σ 28 44 A B.2) 52 0 0) 86 = σ 28 from k5, show (up (w2 σ 28 44 A B.2) 52 0 0) 84 = σ 24 from k3, show (up (w2 σ 28 44 A B.2) 52 0 0) 89 = σ 44 from hL.2.2.2.1, hA, hB] at hr
    unfold F_Ref_scrape
    rw [show (up (w2 σ 28 44 A B.2) 52 0 0) 76 8 = bI pt from p2, if_neg hp, ob_of hr]
  · exact RD_c (fun p hp => by rcases hp with rfl | rfl | rfl <;> rfl) rfl rfl hD
  · exact RF_c (fun p hp => by rcases hp with rfl | rfl | rfl | rfl | rfl | rfl | rfl | rfl | rfl | rfl <;> rfl) hF
  · exact ⟨hL.1, hL.2.1, hL.2.2.1, rfl, hL.2.2.2.2⟩
  · exact RH_c (fun p hp => by rcases hp with rfl | rfl | rfl | rfl | rfl <;> rfl) rfl hH
  · refine ⟨⟨c1, c2, hn240, c4⟩, ⟨rfl, rfl, by intro h; cases h⟩, hS, ⟨k1, k2, k3, k4, rfl, k6⟩, hcov, fun i hi => Or.inl ?_, h0⟩
    show A i = -1
    rw [← hA, rowF_lt hi]
end
section
/-! the nearest lot with enough left -/
def sq (a b : Nat) : Nat := (a - b) * (a - b) + (b - a) * (b - a)
theorem sq_I (a b : Nat) : (nI a - nI b) * (nI a - nI b) = nI (sq a b) := by
  unfold sq
  rcases Nat.le_total a b with h | h
  · obtain ⟨k, rfl⟩ := Nat.le.dest h
    rw [show a - (a + k) = 0 by omega, show a + k - a = k by omega, Nat.zero_mul, Nat.zero_add, ← nI_mul, ← nI_add]
    generalize nI a = A
    generalize nI k = K
    grind
  · obtain ⟨k, rfl⟩ := Nat.le.dest h
    rw [show b - (b + k) = 0 by omega, show b + k - b = k by omega, Nat.zero_mul, Nat.add_zero, ← nI_mul, ← nI_add]
    generalize nI b = A
    generalize nI k = K
    grind
theorem sq_c (a b : Nat) : sq a b = sq b a := by
  unfold sq
  exact Nat.add_comm _ _
theorem sq_le {a b : Nat} (ha : a ≤ 255) (hb : b ≤ 255) : sq a b ≤ 65025 := by
  unfold sq
  rcases Nat.le_total a b with h | h
  · rw [show a - b = 0 by omega, Nat.zero_mul, Nat.zero_add]
    exact Nat.le_trans (Nat.mul_le_mul (show b - a ≤ 255 by omega) (show b - a ≤ 255 by omega)) (by decide)
  · rw [show b - a = 0 by omega, Nat.zero_mul, Nat.add_zero]
    exact Nat.le_trans (Nat.mul_le_mul (show a - b ≤ 255 by omega) (show a - b ≤ 255 by omega)) (by decide)
/-- lots, but for what is left of them -/
def LO (σ : SG) (m : Nat) : Prop := σ 42 0 = nI m ∧ σ 76 18 = nI m ∧ m ≤ 10 ∧ ∀ l, l < 10 → ∃ a b c, a ≤ 255 ∧ b ≤ 255 ∧ c ≤ 255 ∧ σ 47 l = nI a ∧ σ 88 (3 * l) = nI a ∧ σ 49 l = nI b ∧ σ 88 (3 * l + 1) = nI b ∧ σ 51 l = nI c ∧ σ 88 (3 * l + 2) = nI c
theorem RLo_LO {σ : SG} {m : Nat} (h : RLo σ m) : LO σ m := ⟨h.1, h.2.1, h.2.2.1, h.2.2.2.2⟩
theorem LO_c {σ σ' : SG} {m : Nat} (hp : ∀ p, p = 42 ∨ p = 47 ∨ p = 49 ∨ p = 51 ∨ p = 88 → σ' p = σ p) (h0 : σ' 76 18 = σ 76 18) (H : LO σ m) : LO σ' m := by
  unfold LO at H ⊢
  rw [h0, hp 42 (by decide), hp 47 (by decide), hp 49 (by decide), hp 51 (by decide), hp 88 (by decide)]
  exact H
def dC (σ : SG) (f l : Nat) : Nat := sq (ix (σ 47 l)) (ix (σ 7 f)) + sq (ix (σ 49 l)) (ix (σ 9 f)) + sq (ix (σ 51 l)) (ix (σ 11 f))
theorem dC_c {σ σ' : SG} (hp : ∀ p, p = 7 ∨ p = 9 ∨ p = 11 ∨ p = 47 ∨ p = 49 ∨ p = 51 → σ' p = σ p) (f : Nat) : dC σ' f = dC σ f := by
  unfold dC
  rw [hp 7 (by decide), hp 9 (by decide), hp 11 (by decide), hp 47 (by decide), hp 49 (by decide), hp 51 (by decide)]
theorem apartC {σ : SG} {m f l : Nat} (hF : RF σ) (hL : LO σ m) (hf : f < 8) (hl : l < 10) : F_Colours_apart σ (nI l) (nI f) = nI (dC σ f l) ∧ dC σ f l < 1000000 := by
  obtain ⟨⟨a, b, c, ha, hb, hc, e1, -, e2, -, e3, -⟩, -⟩ := hF.2.2 f hf
  obtain ⟨a', b', c', ha', hb', hc', g1, -, g2, -, g3, -⟩ := hL.2.2.2 l hl
  have hd : dC σ f l = sq a' a + sq b' b + sq c' c := by
    unfold dC
    rw [e1, e2, e3, g1, g2, g3, ix_nI (by omega), ix_nI (by omega), ix_nI (by omega), ix_nI (by omega), ix_nI (by omega), ix_nI (by omega)]
  refine ⟨?_, ?_⟩
  · unfold F_Colours_apart
    rw [rg_nI hl (by decide), rg_nI hl (by decide), rg_nI hl (by decide), rg_nI hf (by decide), rg_nI hf (by decide), rg_nI hf (by decide), e1, e2, e3, g1, g2, g3, sq_I, sq_I, sq_I, nI_add, nI_add, hd]
  · rw [hd]
    have := sq_le ha' ha
    have := sq_le hb' hb
    have := sq_le hc' hc
    omega
theorem apartR {σ : SG} {m f l : Nat} (hF : RF σ) (hL : LO σ m) (hf : f < 8) (hl : l < 10) : lpW (L_Ref_nearest_89_24 σ (nI f) (nI l)) FU (0, 0) = some (nI (dC σ f l)) := by
  obtain ⟨⟨a, b, c, ha, hb, hc, i1, e1, i2, e2, i3, e3⟩, -⟩ := hF.2.2 f hf
  obtain ⟨a', b', c', ha', hb', hc', j1, g1, j2, g2, j3, g3⟩ := hL.2.2.2 l hl
  have hd : dC σ f l = sq a' a + sq b' b + sq c' c := by
    unfold dC
    rw [i1, i2, i3, j1, j2, j3, ix_nI (by omega), ix_nI (by omega), ix_nI (by omega), ix_nI (by omega), ix_nI (by omega), ix_nI (by omega)]
  rw [hd]
  have hx : ∀ x, x < 3 → 3 * nI f + nI x = nI (3 * f + x) ∧ 3 * nI l + nI x = nI (3 * l + x) := fun x hx => by
    rw [l3, nI_mul, nI_mul, nI_add, nI_add]
    exact ⟨rfl, rfl⟩
  refine lpW_at (s := fun i => (match i with | 0 => nI 0 | 1 => nI (sq a' a) | 2 => nI (sq a' a + sq b' b) | _ => nI (sq a' a + sq b' b + sq c' c), nI i)) 3 rfl ?_ ?_ (by decide)
  · intro i hi
    unfold L_Ref_nearest_89_24
    dsimp only
    rw [if_neg (show ¬ (3 : Int32) ≤ nI i from nI_ge (b := 3) hi (by decide)), (hx i hi).1, (hx i hi).2, vin_nI (by omega) (by decide), vin_nI (by omega) (by decide), og_t, og_t, ix_nI (by omega), ix_nI (by omega), nI_1]
    obtain rfl | rfl | rfl : i = 0 ∨ i = 1 ∨ i = 2 := by omega
    · rw [Nat.add_zero, Nat.add_zero, e1, g1, sq_I, sq_c a a']
      show some (Sum.inl (nI 0 + nI _, nI 1)) = _
      rw [nI_add, Nat.zero_add]
      rfl
    · rw [e2, g2, sq_I, sq_c b b']
      show some (Sum.inl (nI _ + nI _, nI 2)) = _
      rw [nI_add]
      rfl
    · rw [e3, g3, sq_I, sq_c c c']
      show some (Sum.inl (nI _ + nI _, nI 3)) = _
      rw [nI_add]
      rfl
  · unfold L_Ref_nearest_89_24
    dsimp only
    rw [if_pos (show (3 : Int32) ≤ nI 3 from nI_le (Nat.le_refl 3) (by decide))]
    rfl
def oI : Option Nat → Int32
  | none => -1
  | some b => nI b
def oD (e : Int32) (d : Nat → Nat) : Option Nat → Int32
  | none => e
  | some b => nI (d b)
/-- the first of the nearest of the first k -/
def nst (st : Nat → Int32) (d : Nat → Nat) (need : Int32) : Nat → Option Nat
  | 0 => none
  | k + 1 => if st k < need then nst st d need k else match nst st d need k with
    | none => some k
    | some b => if d b ≤ d k then some b else some k
theorem nst_lt {st : Nat → Int32} {d : Nat → Nat} {need : Int32} : ∀ {k b : Nat}, nst st d need k = some b → b < k
  | 0, _, h => by cases h
  | k + 1, b, h => by
    rw [nst] at h
    by_cases hs : st k < need
    · rw [if_pos hs] at h
      exact Nat.lt_succ_of_lt (nst_lt h)
    · rw [if_neg hs] at h
      cases hq : nst st d need k with
      | none =>
        rw [hq] at h
        cases h
        exact Nat.lt_succ_self _
      | some c =>
        rw [hq] at h
        dsimp only at h
        by_cases hc : d c ≤ d k
        · rw [if_pos hc] at h
          cases h
          exact Nat.lt_succ_of_lt (nst_lt hq)
        · rw [if_neg hc] at h
          cases h
          exact Nat.lt_succ_self _
theorem nearC {σ : SG} {m f : Nat} (hF : RF σ) (hL : LO σ m) (hf : f < 8) (need : Int32) : F_Lots_nearest σ (nI f) need = some (oI (nst (σ 44) (dC σ f) need m)) := by
  obtain ⟨h1, h2, h3, -⟩ := id hL
  have hl : lpW (L_Lots_nearest_10 σ (nI f) need) FU ((-1), 1000000, 0) = some (oI (nst (σ 44) (dC σ f) need m)) := by
    refine lpW_at (s := fun k => (oI (nst (σ 44) (dC σ f) need k), oD 1000000 (dC σ f) (nst (σ 44) (dC σ f) need k), nI k)) m rfl ?_ ?_ (by omega)
    · intro k hk
      obtain ⟨ha, hd⟩ := apartC (l := k) hF hL hf (by omega)
      have hg : rg σ 44 10 (nI k) = σ 44 k := rg_nI (by omega) (by decide)
      unfold L_Lots_nearest_10
      dsimp only
      rw [if_neg (show ¬ σ 42 0 ≤ nI k by rw [h1]; exact nI_ge hk (by omega)), nI_1, nst]
      by_cases hs : σ 44 k < need
      · rw [if_pos (show rg σ 44 10 (nI k) < need by rw [hg]; exact hs), if_pos hs]
      · rw [if_neg (show ¬ rg σ 44 10 (nI k) < need by rw [hg]; exact hs), if_neg hs]
        cases hq : nst (σ 44) (dC σ f) need k with
        | none =>
          rw [if_neg (show ¬ oD 1000000 (dC σ f) none ≤ F_Colours_apart σ (nI k) (nI f) by rw [ha]; exact nI_ge (b := 1000000) hd (by decide)), ha]
          rfl
        | some b =>
          dsimp only
          have hb := nst_lt hq
          have hdb := (apartC (l := b) hF hL hf (by omega)).2
          by_cases hc : dC σ f b ≤ dC σ f k
          · rw [if_pos (show oD 1000000 (dC σ f) (some b) ≤ F_Colours_apart σ (nI k) (nI f) by rw [ha]; exact nI_le hc (by omega)), if_pos hc]
          · rw [if_neg (show ¬ oD 1000000 (dC σ f) (some b) ≤ F_Colours_apart σ (nI k) (nI f) by rw [ha]; exact nI_ge (by omega) (by omega)), if_neg hc, ha]
            rfl
    · unfold L_Lots_nearest_10
      dsimp only
      rw [if_pos (show σ 42 0 ≤ nI m by rw [h1]; exact nI_le (Nat.le_refl m) (by omega))]
  unfold F_Lots_nearest
  rw [ob_of hl]
theorem nearR89 {σ : SG} {m f : Nat} (hF : RF σ) (hL : LO σ m) (hf : f < 8) (need : Int32) : F_Ref_nearest_89 σ (nI f) need = some (oI (nst (σ 89) (dC σ f) need m)) := by
  obtain ⟨h1, h2, h3, -⟩ := id hL
  have hl : lpW (L_Ref_nearest_89_9 σ (nI f) need) FU ((-1), 0, 0) = some (oI (nst (σ 89) (dC σ f) need m)) := by
    refine lpW_at (s := fun k => (oI (nst (σ 89) (dC σ f) need k), oD 0 (dC σ f) (nst (σ 89) (dC σ f) need k), nI k)) m rfl ?_ ?_ (by omega)
    · intro k hk
      have ha := (apartC (l := k) hF hL hf (by omega)).2
      have hr : lpW (L_Ref_nearest_89_24 σ (nI f) (nI k)) FU (0, 0) = some (nI (dC σ f k)) := apartR (l := k) hF hL hf (by omega)
      have hii : ix (nI k) = k := ix_nI (by omega)
      unfold L_Ref_nearest_89_9
      dsimp only
      rw [if_neg (show ¬ σ 76 18 ≤ nI k by rw [h2]; exact nI_ge hk (by omega)), ob_of hr, vin_nI (show k < 10 by omega) (by decide), og_t, nI_1, nst]
      by_cases hs : σ 89 k < need
      · rw [if_pos (show σ 89 (ix (nI k)) < need by rw [hii]; exact hs), if_pos hs]
      · rw [if_neg (show ¬ σ 89 (ix (nI k)) < need by rw [hii]; exact hs), if_neg hs]
        cases hq : nst (σ 89) (dC σ f) need k with
        | none => rfl
        | some b =>
          dsimp only
          have hb := nst_lt hq
          have hdb := (apartC (l := b) hF hL hf (by omega)).2
          rw [if_neg (show ¬ oI (some b) = -1 from nm1_ne (by omega))]
          by_cases hc : dC σ f b ≤ dC σ f k
          · rw [if_pos (show oD 0 (dC σ f) (some b) ≤ nI (dC σ f k) from nI_le hc (by omega)), if_pos hc]
          · rw [if_neg (show ¬ oD 0 (dC σ f) (some b) ≤ nI (dC σ f k) from nI_ge (by omega) (by omega)), if_neg hc]
            rfl
    · unfold L_Ref_nearest_89_9
      dsimp only
      rw [if_pos (show σ 76 18 ≤ nI m by rw [h2]; exact nI_le (Nat.le_refl m) (by omega))]
  unfold F_Ref_nearest_89
  rw [ob_of hl]
theorem nearR96 {σ : SG} {m f : Nat} (hF : RF σ) (hL : LO σ m) (hf : f < 8) (need : Int32) : F_Ref_nearest_96 σ (nI f) need = some (oI (nst (σ 96) (dC σ f) need m)) := by
  obtain ⟨h1, h2, h3, -⟩ := id hL
  have hl : lpW (L_Ref_nearest_96_9 σ (nI f) need) FU ((-1), 0, 0) = some (oI (nst (σ 96) (dC σ f) need m)) := by
    refine lpW_at (s := fun k => (oI (nst (σ 96) (dC σ f) need k), oD 0 (dC σ f) (nst (σ 96) (dC σ f) need k), nI k)) m rfl ?_ ?_ (by omega)
    · intro k hk
      have ha := (apartC (l := k) hF hL hf (by omega)).2
      have hr : lpW (L_Ref_nearest_96_24 σ (nI f) (nI k)) FU (0, 0) = some (nI (dC σ f k)) := apartR (l := k) hF hL hf (by omega)
      have hii : ix (nI k) = k := ix_nI (by omega)
      unfold L_Ref_nearest_96_9
      dsimp only
      rw [if_neg (show ¬ σ 76 18 ≤ nI k by rw [h2]; exact nI_ge hk (by omega)), ob_of hr, vin_nI (show k < 10 by omega) (by decide), og_t, nI_1, nst]
      by_cases hs : σ 96 k < need
      · rw [if_pos (show σ 96 (ix (nI k)) < need by rw [hii]; exact hs), if_pos hs]
      · rw [if_neg (show ¬ σ 96 (ix (nI k)) < need by rw [hii]; exact hs), if_neg hs]
        cases hq : nst (σ 96) (dC σ f) need k with
        | none => rfl
        | some b =>
          dsimp only
          have hb := nst_lt hq
          have hdb := (apartC (l := b) hF hL hf (by omega)).2
          rw [if_neg (show ¬ oI (some b) = -1 from nm1_ne (by omega))]
          by_cases hc : dC σ f b ≤ dC σ f k
          · rw [if_pos (show oD 0 (dC σ f) (some b) ≤ nI (dC σ f k) from nI_le hc (by omega)), if_pos hc]
          · rw [if_neg (show ¬ oD 0 (dC σ f) (some b) ≤ nI (dC σ f k) from nI_ge (by omega) (by omega)), if_neg hc]
            rfl
    · unfold L_Ref_nearest_96_9
      dsimp only
      rw [if_pos (show σ 76 18 ≤ nI m by rw [h2]; exact nI_le (Nat.le_refl m) (by omega))]
  unfold F_Ref_nearest_96
  rw [ob_of hl]
end
section
/-! paint -/
abbrev RW2 : Type := (Nat → Int32) × (Nat → Int32)
/-- cube i is given lot u (or none) -/
def giv (P : RW2) (i : Nat) (u : Option Nat) (x : Int32) : RW2 := (upd P.1 i (oI u), match u with
  | none => P.2
  | some b => upd P.2 b (P.2 b - x))
def orE : Option Nat → Option Nat → Option Nat
  | none, u => u
  | some b, _ => some b
def pcS (g z : Nat → Int32) (d : Nat → Nat) (m : Nat) (F : Int32) (v : Option Nat) (P : RW2) : Nat → RW2
  | 0 => P
  | i + 1 => if g i = F then giv (pcS g z d m F v P i) i (orE v (nst (pcS g z d m F v P i).2 d (z i) m)) (z i) else pcS g z d m F v P i
theorem pcS_none {g z : Nat → Int32} {d : Nat → Nat} {m : Nat} {F : Int32} {v : Option Nat} {P : RW2} : ∀ {n : Nat}, (∀ i, i < n → ¬ g i = F) → pcS g z d m F v P n = P
  | 0, _ => rfl
  | n + 1, h => by
    rw [pcS, if_neg (h n (Nat.lt_succ_self n))]
    exact pcS_none (fun i hi => h i (Nat.lt_succ_of_lt hi))
theorem orE_lt {v : Option Nat} {st : Nat → Int32} {d : Nat → Nat} {x : Int32} {m : Nat} (hv : ∀ b, v = some b → b < m) {b : Nat} (h : orE v (nst st d x m) = some b) : b < m := by
  cases v with
  | none => exact nst_lt h
  | some c =>
    cases h
    exact hv _ rfl
def lotOk (m : Nat) (x : Int32) : Prop := x = -1 ∨ ∃ k, k < m ∧ x = nI k
theorem oI_ok {m : Nat} {u : Option Nat} (h : ∀ b, u = some b → b < m) : lotOk m (oI u) := by
  cases u with
  | none => exact Or.inl rfl
  | some b => exact Or.inr ⟨b, h b rfl, rfl⟩
theorem pcS_ok {g z : Nat → Int32} {d : Nat → Nat} {m : Nat} {F : Int32} {v : Option Nat} {P : RW2} {j : Nat} (hv : ∀ b, v = some b → b < m) (hP : lotOk m (P.1 j)) : ∀ n, lotOk m ((pcS g z d m F v P n).1 j)
  | 0 => hP
  | n + 1 => by
    rw [pcS]
    by_cases h : g n = F
    · rw [if_pos h]
      unfold giv
      dsimp only
      by_cases hj : j = n
      · rw [hj, upd_at]
        exact oI_ok (fun b hb => orE_lt hv hb)
      · rw [upd_ne _ _ hj]
        exact pcS_ok hv hP n
    · rw [if_neg h]
      exact pcS_ok hv hP n
theorem oI_none {u : Option Nat} {m : Nat} (hm : m ≤ 10) (h : ∀ b, u = some b → b < m) : oI u = -1 ↔ u = none := by
  cases u with
  | none => exact ⟨fun _ => rfl, fun _ => rfl⟩
  | some b => exact ⟨fun e => absurd e (nm1_ne (show b < 2 ^ 31 by have := h b rfl; omega)), fun e => by cases e⟩
theorem giveC {σ : SG} {P : RW2} {i m : Nat} {u : Option Nat} (hm : m ≤ 10) (hu : ∀ b, u = some b → b < m) (hi : i < 240) : F_Painter_give (w2 σ 28 44 P.1 P.2) (oI u) (nI i) = w2 σ 28 44 (giv P i u (σ 24 i)).1 (giv P i u (σ 24 i)).2 := by
  unfold F_Painter_give giv
  cases u with
  | none =>
    rw [if_pos (show oI none = -1 from rfl), rs_nI hi (by decide), up_w2p _ _ _ (by decide)]
  | some b =>
    have hb := hu b rfl
    rw [if_neg (show ¬ oI (some b) = -1 from nm1_ne (by omega)), rs_nI hi (by decide), up_w2p _ _ _ (by decide)]
    unfold nm
    rw [show oI (some b) = nI b from rfl, ra_nI (by omega) (by decide), rg_nI hi (by decide), w2_q, up_w2q, show (w2 σ 28 44 (upd P.1 i (nI b)) P.2) 24 i = σ 24 i from rfl, ← Int32.sub_eq_add_neg]
theorem pcC {σ : SG} {m n f : Nat} {v : Option Nat} (P : RW2) (hF : RF σ) (hL : LO σ m) (hf : f < 8) (hn : σ 18 0 = nI n) (h240 : n ≤ 240) (hv : ∀ b, v = some b → b < m) : lpW (L_Painter_paintField_20 (nI f) (oI v)) FU (0, w2 σ 28 44 P.1 P.2) = some (w2 σ 28 44 (pcS (σ 26) (σ 24) (dC σ f) m (nI f) v P n).1 (pcS (σ 26) (σ 24) (dC σ f) m (nI f) v P n).2) := by
  have hm := hL.2.2.1
  refine lpW_at (s := fun i => (nI i, w2 σ 28 44 (pcS (σ 26) (σ 24) (dC σ f) m (nI f) v P i).1 (pcS (σ 26) (σ 24) (dC σ f) m (nI f) v P i).2)) n rfl ?_ ?_ (by omega)
  · intro i hi
    have hi2 : i < 240 := by omega
    unfold L_Painter_paintField_20
    dsimp only
    rw [nI_1, pcS]
    generalize pcS (σ 26) (σ 24) (dC σ f) m (nI f) v P i = Q
    have hF' : RF (w2 σ 28 44 Q.1 Q.2) := RF_c (fun p hp => by rcases hp with rfl | rfl | rfl | rfl | rfl | rfl | rfl | rfl | rfl | rfl <;> rfl) hF
    have hL' : LO (w2 σ 28 44 Q.1 Q.2) m := LO_c (fun p hp => by rcases hp with rfl | rfl | rfl | rfl | rfl <;> rfl) rfl hL
    have hd : dC (w2 σ 28 44 Q.1 Q.2) f = dC σ f := funext fun l => rfl
    rw [if_neg (show ¬ (w2 σ 28 44 Q.1 Q.2) 18 0 ≤ nI i by rw [show (w2 σ 28 44 Q.1 Q.2) 18 0 = nI n from hn]; exact nI_ge hi (by omega))]
    have hg : rg (w2 σ 28 44 Q.1 Q.2) 26 240 (nI i) = σ 26 i := by rw [rg_nI hi2 (by decide)]; rfl
    have hz : rg (w2 σ 28 44 Q.1 Q.2) 24 240 (nI i) = σ 24 i := by rw [rg_nI hi2 (by decide)]; rfl
    by_cases h1 : σ 26 i = nI f
    · rw [if_pos (show rg (w2 σ 28 44 Q.1 Q.2) 26 240 (nI i) = nI f by rw [hg]; exact h1), if_pos h1]
      cases v with
      | none =>
        have hk : F_Painter_nearestFor (w2 σ 28 44 Q.1 Q.2) (nI i) = some (oI (nst Q.2 (dC σ f) (σ 24 i) m)) := by
          unfold F_Painter_nearestFor
          rw [hg, hz, h1, ob_of (nearC hF' hL' hf _), hd, w2_q]
        rw [if_pos (show oI none = -1 from rfl), ob_of hk, giveC hm (fun b hb => nst_lt hb) hi2]
        rfl
      | some b =>
        have hb := hv b rfl
        rw [if_neg (show ¬ oI (some b) = -1 from nm1_ne (by omega)), giveC hm hv hi2]
        rfl
    · rw [if_neg (show ¬ rg (w2 σ 28 44 Q.1 Q.2) 26 240 (nI i) = nI f by rw [hg]; exact h1), if_neg h1]
  · unfold L_Painter_paintField_20
    dsimp only
    rw [if_pos (show (w2 σ 28 44 _ _) 18 0 ≤ nI n by rw [show ∀ A B, (w2 σ 28 44 A B) 18 0 = nI n from fun _ _ => hn]; exact nI_le (Nat.le_refl n) (by omega))]
theorem pcR {σ : SG} {m n f : Nat} {v : Option Nat} (P : RW2) (hF : RF σ) (hL : LO σ m) (hf : f < 8) (hn : σ 76 10 = nI n) (h240 : n ≤ 240) (hv : ∀ b, v = some b → b < m) : lpW (L_Ref_paint_88 (nI f) (oI v)) FU (0, w2 σ 86 89 P.1 P.2) = some (w2 σ 86 89 (pcS (σ 85) (σ 84) (dC σ f) m (nI f) v P n).1 (pcS (σ 85) (σ 84) (dC σ f) m (nI f) v P n).2) := by
  have hm := hL.2.2.1
  refine lpW_at (s := fun i => (nI i, w2 σ 86 89 (pcS (σ 85) (σ 84) (dC σ f) m (nI f) v P i).1 (pcS (σ 85) (σ 84) (dC σ f) m (nI f) v P i).2)) n rfl ?_ ?_ (by omega)
  · intro i hi
    have hi2 : i < 240 := by omega
    have hii : ix (nI i) = i := ix_nI (by omega)
    unfold L_Ref_paint_88
    dsimp only
    rw [nI_1, pcS]
    generalize pcS (σ 85) (σ 84) (dC σ f) m (nI f) v P i = Q
    have hF' : RF (w2 σ 86 89 Q.1 Q.2) := RF_c (fun p hp => by rcases hp with rfl | rfl | rfl | rfl | rfl | rfl | rfl | rfl | rfl | rfl <;> rfl) hF
    have hL' : LO (w2 σ 86 89 Q.1 Q.2) m := LO_c (fun p hp => by rcases hp with rfl | rfl | rfl | rfl | rfl <;> rfl) rfl hL
    have hd : dC (w2 σ 86 89 Q.1 Q.2) f = dC σ f := funext fun l => rfl
    rw [if_neg (show ¬ (w2 σ 86 89 Q.1 Q.2) 76 10 ≤ nI i by rw [show (w2 σ 86 89 Q.1 Q.2) 76 10 = nI n from hn]; exact nI_ge hi (by omega)), vin_nI hi2 (by decide)]
    simp only [og_t]
    have hg : (w2 σ 86 89 Q.1 Q.2) 85 (ix (nI i)) = σ 85 i := by rw [hii]; rfl
    have hz : (w2 σ 86 89 Q.1 Q.2) 84 (ix (nI i)) = σ 84 i := by rw [hii]; rfl
    by_cases h1 : σ 85 i = nI f
    · rw [if_pos (show (w2 σ 86 89 Q.1 Q.2) 85 (ix (nI i)) = nI f by rw [hg]; exact h1), if_pos h1]
      cases v with
      | none =>
        have hk : F_Ref_nearest_89 (w2 σ 86 89 Q.1 Q.2) (nI f) ((w2 σ 86 89 Q.1 Q.2) 84 (ix (nI i))) = some (oI (nst Q.2 (dC σ f) (σ 84 i) m)) := by
          rw [hz, nearR89 hF' hL' hf, hd, w2_q]
        rw [if_pos (show oI none = -1 from rfl), ob_of hk]
        rw [show orE none (nst Q.2 (dC σ f) (σ 84 i) m) = nst Q.2 (dC σ f) (σ 84 i) m from rfl]
        cases hq : nst Q.2 (dC σ f) (σ 84 i) m with
        | none =>
          rw [if_pos (show oI none = -1 from rfl), hii, up_w2p _ _ _ (by decide)]
          rfl
        | some b =>
          have hb := nst_lt hq
          rw [if_neg (show ¬ oI (some b) = -1 from nm1_ne (by omega)), show oI (some b) = nI b from rfl, vin_nI (show b < 10 by omega) (by decide), hii, ix_nI (show b < 2 ^ 31 by omega), up_w2p _ _ _ (by decide), w2_q, up_w2q]
          rfl
      | some b =>
        have hb := hv b rfl
        rw [if_neg (show ¬ oI (some b) = -1 from nm1_ne (by omega)), if_neg (show ¬ oI (some b) = -1 from nm1_ne (by omega)), show oI (some b) = nI b from rfl, vin_nI (show b < 10 by omega) (by decide), hii, ix_nI (show b < 2 ^ 31 by omega), up_w2p _ _ _ (by decide), w2_q, up_w2q]
        rfl
    · rw [if_neg (show ¬ (w2 σ 86 89 Q.1 Q.2) 85 (ix (nI i)) = nI f by rw [hg]; exact h1), if_neg h1]
  · unfold L_Ref_paint_88
    dsimp only
    rw [if_pos (show (w2 σ 86 89 _ _) 76 10 ≤ nI n by rw [show ∀ A B, (w2 σ 86 89 A B) 76 10 = nI n from fun _ _ => hn]; exact nI_le (Nat.le_refl n) (by omega))]
/-- all fields -/
def pfS (g z : Nat → Int32) (d : Nat → Nat → Nat) (W : Nat → Int32) (m n : Nat) (P : RW2) : Nat → RW2
  | 0 => P
  | f + 1 => pcS g z (d f) m (nI f) (nst (pfS g z d W m n P f).2 (d f) (W f) m) (pfS g z d W m n P f) n
theorem pfC {σ : SG} {w h m n : Nat} {r l z f : Nat → Nat} (P : RW2) (hD : RD σ w h) (hF : RF σ) (hL : LO σ m) (hn : σ 18 0 = nI n) (h240 : n ≤ 240) (h0 : 0 < n) (hv : Cov σ w h n r l z f) : lpW L_Painter_paintFields_2 FU (0, w2 σ 28 44 P.1 P.2) = some (w2 σ 28 44 (pfS (σ 26) (σ 24) (dC σ) (fun F => nI (sm (fun i => decide (f i = F)) z n)) m n P 8).1 (pfS (σ 26) (σ 24) (dC σ) (fun F => nI (sm (fun i => decide (f i = F)) z n)) m n P 8).2) := by
  refine lpW_at (s := fun i => (nI i, w2 σ 28 44 (pfS (σ 26) (σ 24) (dC σ) (fun F => nI (sm (fun i => decide (f i = F)) z n)) m n P i).1 (pfS (σ 26) (σ 24) (dC σ) (fun F => nI (sm (fun i => decide (f i = F)) z n)) m n P i).2)) 8 rfl ?_ ?_ (by omega)
  · intro F hF8
    unfold L_Painter_paintFields_2
    dsimp only
    rw [nI_1, pfS]
    generalize pfS (σ 26) (σ 24) (dC σ) (fun F => nI (sm (fun i => decide (f i = F)) z n)) m n P F = Q
    have hF' : RF (w2 σ 28 44 Q.1 Q.2) := RF_c (fun p hp => by rcases hp with rfl | rfl | rfl | rfl | rfl | rfl | rfl | rfl | rfl | rfl <;> rfl) hF
    have hL' : LO (w2 σ 28 44 Q.1 Q.2) m := LO_c (fun p hp => by rcases hp with rfl | rfl | rfl | rfl | rfl <;> rfl) rfl hL
    have hD' : RD (w2 σ 28 44 Q.1 Q.2) w h := RD_c (fun p hp => by rcases hp with rfl | rfl | rfl <;> rfl) rfl rfl hD
    have hv' : Cov (w2 σ 28 44 Q.1 Q.2) w h n r l z f := Cov_c (fun p hp => by rcases hp with rfl | rfl | rfl | rfl | rfl | rfl <;> rfl) hv
    have hd : dC (w2 σ 28 44 Q.1 Q.2) F = dC σ F := funext fun l => rfl
    have hp := placesOf_eq hD' h0 hv' (F := F) (by omega)
    have hk := nearC hF' hL' hF8 (nI (sm (fun i => decide (f i = F)) z n))
    rw [hd, w2_q] at hk
    rw [if_neg (show ¬ (8 : Int32) ≤ nI F from nI_ge (b := 8) hF8 (by decide)), ob_of hp]
    unfold F_Painter_paintField
    rw [ob_of hk, ob_of (pcC Q hF hL hF8 hn h240 (fun b hb => nst_lt hb))]
    rfl
  · unfold L_Painter_paintFields_2
    dsimp only
    rw [if_pos (show (8 : Int32) ≤ nI 8 from nI_le (Nat.le_refl 8) (by decide))]
theorem wholeR {σ : SG} {n : Nat} (hn : σ 76 10 = nI n) (h240 : n ≤ 240) {x : Int32} (F : Int32) : lpW (L_Ref_paint_29 (x, σ) F) FU (0, 0) = some (sI (fun i => decide (σ 85 i = F)) (σ 84) n) := by
  refine lpW_at (s := fun i => (sI (fun i => decide (σ 85 i = F)) (σ 84) i, nI i)) n rfl ?_ ?_ (by omega)
  · intro i hi
    have hii : ix (nI i) = i := ix_nI (by omega)
    unfold L_Ref_paint_29
    dsimp only
    rw [nI_1, sI, if_neg (show ¬ σ 76 10 ≤ nI i by rw [hn]; exact nI_ge hi (by omega)), vin_nI (show i < 240 by omega) (by decide)]
    simp only [og_t]
    by_cases h1 : σ 85 i = F
    · rw [if_pos (show σ 85 (ix (nI i)) = F by rw [hii]; exact h1), if_pos (decide_eq_true h1), hii]
    · rw [if_neg (show ¬ σ 85 (ix (nI i)) = F by rw [hii]; exact h1), if_neg (by rw [decide_eq_false h1]; decide), Int32.add_zero]
  · unfold L_Ref_paint_29
    dsimp only
    rw [if_pos (show σ 76 10 ≤ nI n by rw [hn]; exact nI_le (Nat.le_refl n) (by omega))]
theorem pfR {σ : SG} {w h m n : Nat} {r l z f : Nat → Nat} (P : RW2) (hF : RF σ) (hL : LO σ m) (hn : σ 76 10 = nI n) (h240 : n ≤ 240) (h85 : σ 85 = σ 26) (h84 : σ 84 = σ 24) (hv : Cov σ w h n r l z f) : lpW L_Ref_paint_19 FU (0, w2 σ 86 89 P.1 P.2) = some (w2 σ 86 89 (pfS (σ 26) (σ 24) (dC σ) (fun F => nI (sm (fun i => decide (f i = F)) z n)) m n P 8).1 (pfS (σ 26) (σ 24) (dC σ) (fun F => nI (sm (fun i => decide (f i = F)) z n)) m n P 8).2) := by
  refine lpW_at (s := fun i => (nI i, w2 σ 86 89 (pfS (σ 26) (σ 24) (dC σ) (fun F => nI (sm (fun i => decide (f i = F)) z n)) m n P i).1 (pfS (σ 26) (σ 24) (dC σ) (fun F => nI (sm (fun i => decide (f i = F)) z n)) m n P i).2)) 8 rfl ?_ ?_ (by omega)
  · intro F hF8
    unfold L_Ref_paint_19
    dsimp only
    rw [nI_1, pfS]
    generalize pfS (σ 26) (σ 24) (dC σ) (fun F => nI (sm (fun i => decide (f i = F)) z n)) m n P F = Q
    have hF' : RF (w2 σ 86 89 Q.1 Q.2) := RF_c (fun p hp => by rcases hp with rfl | rfl | rfl | rfl | rfl | rfl | rfl | rfl | rfl | rfl <;> rfl) hF
    have hL' : LO (w2 σ 86 89 Q.1 Q.2) m := LO_c (fun p hp => by rcases hp with rfl | rfl | rfl | rfl | rfl <;> rfl) rfl hL
    have hd : dC (w2 σ 86 89 Q.1 Q.2) F = dC σ F := funext fun l => rfl
    have hs : sI (fun i => decide (σ 85 i = nI F)) (σ 84) n = nI (sm (fun i => decide (f i = F)) z n) := by
      rw [h85, h84, sI_sm (z := z) (fun i hi => (hv.1 i hi).2.2.1)]
      congr 1
      refine sm_cong fun i hi => ?_
      have h8 := (hv.1 i hi).2.2.2
      rw [h8.1, decide_eq_decide, nI_eq (by omega) (by omega)]
    have hw := wholeR (σ := w2 σ 86 89 Q.1 Q.2) (n := n) hn h240 (x := nI F) (nI F)
    rw [show (w2 σ 86 89 Q.1 Q.2) 85 = σ 85 from rfl, show (w2 σ 86 89 Q.1 Q.2) 84 = σ 84 from rfl, hs] at hw
    rw [if_neg (show ¬ (8 : Int32) ≤ nI F from nI_ge (b := 8) hF8 (by decide)), ob_of hw]
    by_cases h0 : sm (fun i => decide (f i = F)) z n = 0
    · have hz : ∀ i, i < n → ¬ σ 26 i = nI F := by
        intro i hi e
        have h8 := (hv.1 i hi).2.2.2
        rw [h8.1, nI_eq (by omega) (by omega)] at e
        have := (sm_pos (p := fun i => decide (f i = F)) (z := z) (n := n) (fun i hi => (hv.1 i hi).2.2.2.2.2.1)).mpr ⟨i, hi, decide_eq_true e⟩
        omega
      rw [h0, if_pos (show nI 0 = 0 from rfl), pcS_none hz]
      have hp := pcR (v := none) Q hF hL hF8 hn h240 (fun b hb => by cases hb)
      rw [h85, pcS_none hz] at hp
      rw [show (-1 : Int32) = oI none from rfl, ob_of hp]
    · have hk := nearR89 hF' hL' hF8 (nI (sm (fun i => decide (f i = F)) z n))
      rw [hd, w2_q] at hk
      have hle := sm_le (p := fun i => decide (f i = F)) (z := z) (c := 3) (n := n) (fun i hi => (hv.1 i hi).2.2.2.2.2.2.1)
      rw [if_neg (show ¬ nI (sm (fun i => decide (f i = F)) z n) = 0 from fun e => h0 ((nI_eq (b := 0) (by omega) (by omega)).mp e)), ob_of hk]
      have hp := pcR (v := nst Q.2 (dC σ F) (nI (sm (fun i => decide (f i = F)) z n)) m) Q hF hL hF8 hn h240 (fun b hb => nst_lt hb)
      rw [h85, h84] at hp
      rw [ob_of hp]
  · unfold L_Ref_paint_19
    dsimp only
    rw [if_pos (show (8 : Int32) ≤ nI 8 from nI_le (Nat.le_refl 8) (by decide))]
theorem pfS_ok {g z : Nat → Int32} {d : Nat → Nat → Nat} {W : Nat → Int32} {m n : Nat} {P : RW2} {j : Nat} (hP : lotOk m (P.1 j)) : ∀ k, lotOk m ((pfS g z d W m n P k).1 j)
  | 0 => hP
  | k + 1 => by
    rw [pfS]
    exact pcS_ok (fun b hb => nst_lt hb) (pfS_ok hP k) n
theorem op_paint {σ : SG} (hR : R σ) : ∃ r σ1 σ2, F_Shop_paint σ = some (r, σ1) ∧ F_Ref_paint σ1 = some (r, σ2) ∧ R σ2 := by
  obtain ⟨w, h, m, q, n, S, pt, hD, hF, hL, hH, hC⟩ := id hR
  obtain ⟨⟨c1, c2, hn240, c4⟩, ⟨p1, p2, p3⟩, hS, ⟨k1, k2, k3, k4, k5, k6⟩, hcov, hlot, h0⟩ := hC
  by_cases hn : 0 < n
  rotate_left
  · refine ⟨-3, σ, σ, ?_, ?_, hR⟩
    · unfold F_Shop_paint; rw [isLaid_iff c1 hn240, decide_eq_false hn, if_neg (by decide)]
    · unfold F_Ref_paint; rw [c4, decide_eq_false hn, if_pos (by rfl)]
  cases pt with
  | true =>
    refine ⟨-3, σ, σ, ?_, ?_, hR⟩
    · unfold F_Shop_paint; rw [isLaid_iff c1 hn240, decide_eq_true hn, if_pos rfl, if_neg (by rw [p1]; decide)]
    · unfold F_Ref_paint; rw [if_neg (by rw [c4, decide_eq_true hn]; decide), if_neg (by rw [p2]; decide)]
  | false =>
    obtain ⟨r, l, z, f, hv, hcut⟩ := hcov hn
    have hLO := RLo_LO hL
    have hc := pfC (σ 28, σ 44) hD hF hLO c1 hn240 hn hv
    rw [w2_self] at hc
    have hok : ∀ i, i < n → lotOk m ((pfS (σ 26) (σ 24) (dC σ) (fun F => nI (sm (fun i => decide (f i = F)) z n)) m n (σ 28, σ 44) 8).1 i) := by
      intro i hi
      refine pfS_ok ?_ 8
      rcases hlot i hi with h1 | ⟨h1, -⟩
      · exact Or.inl h1
      · cases h1
    generalize hA : (pfS (σ 26) (σ 24) (dC σ) (fun F => nI (sm (fun i => decide (f i = F)) z n)) m n (σ 28, σ 44) 8).1 = A at hc hok
    generalize hB : (pfS (σ 26) (σ 24) (dC σ) (fun F => nI (sm (fun i => decide (f i = F)) z n)) m n (σ 28, σ 44) 8).2 = B at hc
    generalize hτ : up (w2 σ 28 44 A B) 52 0 1 = τ
    have hr : lpW L_Ref_paint_19 FU (0, τ) = some (w2 τ 86 89 A B) := by
      have hF' : RF τ := by rw [← hτ]; exact RF_c (fun p hp => by rcases hp with rfl | rfl | rfl | rfl | rfl | rfl | rfl | rfl | rfl | rfl <;> rfl) hF
      have hL' : LO τ m := by rw [← hτ]; exact LO_c (fun p hp => by rcases hp with rfl | rfl | rfl | rfl | rfl <;> rfl) rfl hLO
      have hv' : Cov τ w h n r l z f := by rw [← hτ]; exact Cov_c (fun p hp => by rcases hp with rfl | rfl | rfl | rfl | rfl | rfl <;> rfl) hv
      have hp := pfR (m := m) (τ 86, τ 89) hF' hL' (by rw [← hτ]; exact c2) hn240 (by rw [← hτ]; exact k4) (by rw [← hτ]; exact k3) hv'
      rw [w2_self] at hp
      have e1 : τ 26 = σ 26 := by rw [← hτ]; rfl
      have e2 : τ 24 = σ 24 := by rw [← hτ]; rfl
      have e3 : dC τ = dC σ := by rw [← hτ]; rfl
      have e4 : τ 86 = σ 28 := by rw [← hτ]; exact k5
      have e5 : τ 89 = σ 44 := by rw [← hτ]; exact hL.2.2.2.1
      rw [hp, e1, e2, e3, e4, e5, hA, hB]
    have hbC := bareC_eq (σ := τ) (n := n) (by rw [← hτ]; exact c1) hn240
    have hbR := bare_eq (σ := up (w2 τ 86 89 A B) 76 8 1) (n := n) (by rw [← hτ]; exact c2) hn240
    have hrow : (up (w2 τ 86 89 A B) 76 8 1) 86 = τ 28 := by rw [← hτ]; rfl
    rw [hrow] at hbR
    refine ⟨sI (fun i => decide (τ 28 i = -1)) (fun _ => 1) n, τ, up (w2 τ 86 89 A B) 76 8 1, ?_, ?_, w, h, m, q, n, S, true, ?_, ?_, ?_, ?_, ?_⟩
    rotate_left
    · unfold F_Ref_paint
      rw [if_neg (show ¬ τ 76 7 = 0 by rw [← hτ, show (up (w2 σ 28 44 A B) 52 0 1) 76 7 = σ 76 7 from rfl, c4, decide_eq_true hn]; decide), if_pos (show τ 76 8 = 0 by rw [← hτ]; exact p2), ob_of hr, ob_of hbR]
    · rw [← hτ]; exact RD_c (fun p hp => by rcases hp with rfl | rfl | rfl <;> rfl) rfl rfl hD
    · rw [← hτ]; exact RF_c (fun p hp => by rcases hp with rfl | rfl | rfl | rfl | rfl | rfl | rfl | rfl | rfl | rfl <;> rfl) hF
    · rw [← hτ]; exact ⟨hL.1, hL.2.1, hL.2.2.1, rfl, hL.2.2.2.2⟩
    · rw [← hτ]; exact RH_c (fun p hp => by rcases hp with rfl | rfl | rfl | rfl | rfl <;> rfl) rfl hH
    · rw [← hτ]
      refine ⟨⟨c1, c2, hn240, c4⟩, ⟨rfl, rfl, fun _ => hn⟩, hS, ⟨k1, k2, k3, k4, rfl, k6⟩, fun _ => ⟨r, l, z, f, hv, hcut⟩, fun i hi => ?_, h0⟩
      rcases hok i hi with h1 | h1
      · exact Or.inl h1
      · exact Or.inr ⟨rfl, h1⟩
    · unfold F_Shop_paint F_Painter_paintFields
      rw [isLaid_iff c1 hn240, decide_eq_true hn, if_pos rfl, if_pos (by rw [p1]; rfl), ob_of hc]
      dsimp only [ob]
      rw [hτ, hbC]
end
section
/-! broken -/
theorem opt_back {X : Type} {s : Nat → Option X} (hn : ∀ i, s i = none → s (i + 1) = none) : ∀ {j : Nat} {x : X}, s j = some x → ∀ i, i ≤ j → ∃ y, s i = some y := by
  intro j
  induction j with
  | zero =>
    intro x h i hi
    have : i = 0 := by omega
    subst this
    exact ⟨x, h⟩
  | succ j ih =>
    intro x h i hi
    by_cases h1 : i = j + 1
    · subst h1; exact ⟨x, h⟩
    · cases hq : s j with
      | none => rw [hn j hq] at h; cases h
      | some y => exact ih hq i (by omega)
theorem lpW_opt {X Y : Type} {f : X → Option (X ⊕ Y)} {s : Nat → Option X} {x0 x : X} {y : Y} (N : Nat) (h0 : s 0 = some x0) (hn : ∀ i, s i = none → s (i + 1) = none) (hs : ∀ i x x', i < N → s i = some x → s (i + 1) = some x' → f x = some (.inl x')) (hx : s N = some x) (he : f x = some (.inr y)) (hF : N < 1000000) : lpW f FU x0 = some y := by
  refine lpW_at (s := fun i => (s i).getD x0) N (by show (s 0).getD x0 = x0; rw [h0]; rfl) ?_ (by show f ((s N).getD x0) = _; rw [hx]; exact he) hF
  intro i hi
  obtain ⟨a, ha⟩ := opt_back hn hx i (by omega)
  obtain ⟨b, hb⟩ := opt_back hn hx (i + 1) (by omega)
  show f ((s i).getD x0) = some (.inl ((s (i + 1)).getD x0))
  rw [ha, hb]
  exact hs i a b hi ha hb
theorem lpW_opt2 {X Y : Type} {f : X → Option (X ⊕ Y)} {s : Nat → Option X} {x0 : X} {P : Y → Prop} (N : Nat) (h0 : s 0 = some x0) (hn : ∀ i, s i = none → s (i + 1) = none) (hs : ∀ i x x', i < N → s i = some x → s (i + 1) = some x' → f x = some (.inl x')) (hx : s N = none) (he : ∀ i x, i < N → s i = some x → s (i + 1) = none → ∃ y, f x = some (.inr y) ∧ P y) (hF : N < 1000000) : ∃ y, lpW f FU x0 = some y ∧ P y := by
  have key : ∀ k, s k = none → ∃ j x, j < k ∧ s j = some x ∧ s (j + 1) = none := by
    intro k
    induction k with
    | zero => intro h; rw [h0] at h; cases h
    | succ k ih =>
      intro h
      cases hq : s k with
      | none =>
        obtain ⟨j, x, a, b, c⟩ := ih hq
        exact ⟨j, x, by omega, b, c⟩
      | some x => exact ⟨k, x, Nat.lt_succ_self k, hq, h⟩
  obtain ⟨j, x, hj, h1, h2⟩ := key N hx
  obtain ⟨y, hy, hP⟩ := he j x hj h1 h2
  exact ⟨y, lpW_opt j h0 hn (fun i a b hi => hs i a b (by omega)) h1 hy (by omega), hP⟩
/-- sheet t is made anew: how many changed, and the rows; none if a cube finds no lot -/
def bkU (A z : Nat → Int32) (d : Nat → Nat → Nat) (g : Nat → Nat) (m : Nat) (B : Nat → Int32) (i : Nat) : Option Nat :=
  if B (ix (A i)) < z i then nst B (d (g i)) (z i) m else some (ix (A i))
def bkS (A z sh : Nat → Int32) (d : Nat → Nat → Nat) (g : Nat → Nat) (m : Nat) (t : Int32) (P : RW2) : Nat → Option (Int32 × RW2)
  | 0 => some (0, P)
  | i + 1 => match bkS A z sh d g m t P i with
    | none => none
    | some c => if sh i = t then (if A i = -1 then some c else match bkU A z d g m c.2.2 i with
      | none => none
      | some b => some (if nI b = A i then c.1 + 0 else c.1 + 1, giv c.2 i (some b) (z i))) else some c
theorem bkS_n {A z sh : Nat → Int32} {d : Nat → Nat → Nat} {g : Nat → Nat} {m : Nat} {t : Int32} {P : RW2} (i : Nat) (h : bkS A z sh d g m t P i = none) : bkS A z sh d g m t P (i + 1) = none := by
  rw [bkS, h]
theorem bkU_lt {A z : Nat → Int32} {d : Nat → Nat → Nat} {g : Nat → Nat} {m : Nat} {B : Nat → Int32} {i b : Nat} (hA : ∃ k, k < m ∧ A i = nI k) (hm : m ≤ 10) (h : bkU A z d g m B i = some b) : b < m := by
  obtain ⟨k, hk, e⟩ := hA
  unfold bkU at h
  by_cases hc : B (ix (A i)) < z i
  · rw [if_pos hc] at h
    exact nst_lt h
  · rw [if_neg hc] at h
    cases h
    rw [e, ix_nI (by omega)]
    exact hk
/-- what holds of the rows on the way -/
theorem bkS_inv {A z sh : Nat → Int32} {d : Nat → Nat → Nat} {g : Nat → Nat} {m : Nat} {t : Int32} {P : RW2} (hm : m ≤ 10) : ∀ {i : Nat} {c : Int32 × RW2}, (∀ k, k < i → lotOk m (A k)) → bkS A z sh d g m t P i = some c → (∀ j, i ≤ j → c.2.1 j = P.1 j) ∧ (∀ j, lotOk m (P.1 j) → lotOk m (c.2.1 j)) ∧ ∀ j, 10 ≤ j → c.2.2 j = P.2 j := by
  intro i
  induction i with
  | zero =>
    intro c _ h
    cases h
    exact ⟨fun _ _ => rfl, fun _ h => h, fun _ _ => rfl⟩
  | succ i ih =>
    intro c hA h
    rw [bkS] at h
    cases hq : bkS A z sh d g m t P i with
    | none => rw [hq] at h; cases h
    | some e =>
      rw [hq] at h
      dsimp only at h
      obtain ⟨i1, i2, i3⟩ := ih (fun k hk => hA k (by omega)) hq
      by_cases h1 : sh i = t
      · rw [if_pos h1] at h
        by_cases h2 : A i = -1
        · rw [if_pos h2] at h
          cases h
          exact ⟨fun j hj => i1 j (by omega), i2, i3⟩
        · rw [if_neg h2] at h
          have hk : ∃ k, k < m ∧ A i = nI k := (hA i (by omega)).resolve_left h2
          cases hu : bkU A z d g m e.2.2 i with
          | none => rw [hu] at h; cases h
          | some b =>
            rw [hu] at h
            have hb := bkU_lt hk hm hu
            cases h
            refine ⟨fun j hj => ?_, fun j hj => ?_, fun j hj => ?_⟩
            · show upd e.2.1 i _ j = _
              rw [upd_ne _ _ (by omega)]
              exact i1 j (by omega)
            · show lotOk m (upd e.2.1 i _ j)
              by_cases hji : j = i
              · rw [hji, upd_at]; exact Or.inr ⟨b, hb, rfl⟩
              · rw [upd_ne _ _ hji]; exact i2 j hj
            · show upd e.2.2 b _ j = _
              rw [upd_ne _ _ (by omega)]
              exact i3 j hj
      · rw [if_neg h1] at h
        cases h
        exact ⟨fun j hj => i1 j (by omega), i2, i3⟩
theorem rcback {σ : SG} {Q : RW2} (h1 : ∀ k, 240 ≤ k → Q.1 k = σ 28 k) (h2 : ∀ k, 10 ≤ k → Q.2 k = σ 44 k) : rc (rc (w2 (rc (rc σ 54 10 44 10) 56 240 28 240) 28 44 Q.1 Q.2) 44 10 54 10) 28 240 56 240 = rc (rc σ 54 10 44 10) 56 240 28 240 := by
  funext p j
  by_cases h28 : p = 28
  · subst h28
    show (if j < 240 then rg _ 56 240 (nI j) else Q.1 j) = σ 28 j
    by_cases hj : j < 240
    · rw [if_pos hj, rg_nI hj (by decide)]
      show (if j < 240 then rg _ 28 240 (nI j) else _) = σ 28 j
      rw [if_pos hj, rg_nI hj (by decide)]
      rfl
    · rw [if_neg hj, h1 j (by omega)]
  · by_cases h44 : p = 44
    · subst h44
      show (if j < 10 then rg _ 54 10 (nI j) else Q.2 j) = σ 44 j
      by_cases hj : j < 10
      · rw [if_pos hj, rg_nI hj (by decide)]
        show (if j < 10 then rg _ 44 10 (nI j) else _) = σ 44 j
        rw [if_pos hj, rg_nI hj (by decide)]
      · rw [if_neg hj, h2 j (by omega)]
    · rw [rc_sR, sR_ne _ _ h28, rc_sR, sR_ne _ _ h44, w2_o _ _ _ h28 h44]
theorem nst_or {st : Nat → Int32} {d : Nat → Nat} {x : Int32} {m : Nat} (hm : m ≤ 10) : ∀ {u : Option Nat}, u = nst st d x m → (oI u = -1 ↔ u = none) := fun h => oI_none hm (fun b hb => nst_lt (h ▸ hb))
/-- one step of the class -/
theorem bkCs {τ : SG} {m n i s : Nat} {g : Nat → Nat} {c : Int32 × RW2} (hF : RF τ) (hL : LO τ m) (hn : τ 18 0 = nI n) (h240 : n ≤ 240) (hg : ∀ i, i < n → g i < 8 ∧ τ 26 i = nI (g i)) (hA : ∀ i, i < n → lotOk m (τ 28 i)) (hi : i < n) (hc : bkS (τ 28) (τ 24) (τ 30) (dC τ) g m (nI s) (τ 28, τ 44) i = some c) :
    (∀ c', bkS (τ 28) (τ 24) (τ 30) (dC τ) g m (nI s) (τ 28, τ 44) (i + 1) = some c' → L_Painter_makeAnew_32 (nI s) (c.1, nI i, w2 τ 28 44 c.2.1 c.2.2) = some (.inl (c'.1, nI (i + 1), w2 τ 28 44 c'.2.1 c'.2.2))) ∧
    (bkS (τ 28) (τ 24) (τ 30) (dC τ) g m (nI s) (τ 28, τ 44) (i + 1) = none → L_Painter_makeAnew_32 (nI s) (c.1, nI i, w2 τ 28 44 c.2.1 c.2.2) = some (.inr (.inr (-3, rc (rc (w2 τ 28 44 c.2.1 c.2.2) 44 10 54 10) 28 240 56 240)))) := by
  have hm := hL.2.2.1
  have hi2 : i < 240 := by omega
  have hrow : c.2.1 i = τ 28 i := (bkS_inv hm (fun k hk => hA k (by omega)) hc).1 i (Nat.le_refl i)
  obtain ⟨hgf, hg26⟩ := hg i hi
  have e18 : (w2 τ 28 44 c.2.1 c.2.2) 18 0 = nI n := hn
  have e30 : rg (w2 τ 28 44 c.2.1 c.2.2) 30 240 (nI i) = τ 30 i := by rw [rg_nI hi2 (by decide)]; rfl
  have e26 : rg (w2 τ 28 44 c.2.1 c.2.2) 26 240 (nI i) = nI (g i) := by rw [rg_nI hi2 (by decide)]; exact hg26
  have e24 : rg (w2 τ 28 44 c.2.1 c.2.2) 24 240 (nI i) = τ 24 i := by rw [rg_nI hi2 (by decide)]; rfl
  have e28 : rg (w2 τ 28 44 c.2.1 c.2.2) 28 240 (nI i) = τ 28 i := by rw [rg_nI hi2 (by decide), w2_p _ _ _ (by decide)]; exact hrow
  have hF' : RF (w2 τ 28 44 c.2.1 c.2.2) := RF_c (fun p hp => by rcases hp with rfl | rfl | rfl | rfl | rfl | rfl | rfl | rfl | rfl | rfl <;> rfl) hF
  have hL' : LO (w2 τ 28 44 c.2.1 c.2.2) m := LO_c (fun p hp => by rcases hp with rfl | rfl | rfl | rfl | rfl <;> rfl) rfl hL
  have hnr : F_Painter_nearestFor (w2 τ 28 44 c.2.1 c.2.2) (nI i) = some (oI (nst c.2.2 (dC τ (g i)) (τ 24 i) m)) := by
    unfold F_Painter_nearestFor
    rw [e26, e24, ob_of (nearC hF' hL' hgf _), w2_q]
    rfl
  have hgv : ∀ u : Option Nat, (∀ b, u = some b → b < m) → F_Painter_give (w2 τ 28 44 c.2.1 c.2.2) (oI u) (nI i) = w2 τ 28 44 (giv c.2 i u (τ 24 i)).1 (giv c.2 i u (τ 24 i)).2 := fun u hu => giveC hm hu hi2
  rw [bkS, hc]
  unfold L_Painter_makeAnew_32
  dsimp only
  rw [if_neg (show ¬ (w2 τ 28 44 c.2.1 c.2.2) 18 0 ≤ nI i by rw [e18]; exact nI_ge hi (by omega)), e30, e28, e24, nI_1]
  by_cases h1 : τ 30 i = nI s
  rotate_left
  · rw [if_neg h1, if_neg h1]
    exact ⟨fun c' h => by cases h; rfl, fun h => by cases h⟩
  rw [if_pos h1, if_pos h1]
  by_cases h2 : τ 28 i = -1
  · rw [if_pos h2, if_pos h2]
    exact ⟨fun c' h => by cases h; rfl, fun h => by cases h⟩
  rw [if_neg h2, if_neg h2]
  obtain ⟨k, hk, hk2⟩ := (hA i hi).resolve_left h2
  have hkk : ix (τ 28 i) = k := by rw [hk2, ix_nI (by omega)]
  have e44 : rg (w2 τ 28 44 c.2.1 c.2.2) 44 10 (τ 28 i) = c.2.2 (ix (τ 28 i)) := by rw [hkk, hk2, rg_nI (show k < 10 by omega) (by decide), w2_q]
  rw [e44]
  unfold bkU
  by_cases h3 : c.2.2 (ix (τ 28 i)) < τ 24 i
  · rw [if_pos h3, if_pos h3, ob_of hnr]
    cases hq : nst c.2.2 (dC τ (g i)) (τ 24 i) m with
    | none => exact ⟨fun c' h => (by cases h), fun _ => (by rw [if_pos (show oI none = -1 from rfl)])⟩
    | some b =>
      have hb := nst_lt hq
      dsimp only
      rw [if_neg (show ¬ oI (some b) = -1 from nm1_ne (by omega)), hgv (some b) (fun b' h => by cases h; exact hb)]
      refine ⟨fun c' h => ?_, fun h => by cases h⟩
      cases h
      by_cases h4 : nI b = τ 28 i
      · rw [if_pos (show oI (some b) = τ 28 i from h4), if_pos h4]
      · rw [if_neg (show ¬ oI (some b) = τ 28 i from h4), if_neg h4]
  · rw [if_neg h3, if_neg h3]
    dsimp only
    refine ⟨fun c' h => ?_, fun h => by cases h⟩
    cases h
    have ho : oI (some k) = τ 28 i := hk2.symm
    have hgk := hgv (some k) (fun b' h => by cases h; exact hk)
    rw [ho] at hgk
    unfold nm
    rw [if_neg h2]
    dsimp only
    rw [if_pos rfl, hgk, hkk, if_pos (show nI k = τ 28 i from hk2.symm)]
theorem bkC {τ : SG} {m n s : Nat} {g : Nat → Nat} (hF : RF τ) (hL : LO τ m) (hn : τ 18 0 = nI n) (h240 : n ≤ 240) (hg : ∀ i, i < n → g i < 8 ∧ τ 26 i = nI (g i)) (hA : ∀ i, i < n → lotOk m (τ 28 i)) :
    (∀ c, bkS (τ 28) (τ 24) (τ 30) (dC τ) g m (nI s) (τ 28, τ 44) n = some c → lpW (L_Painter_makeAnew_32 (nI s)) FU (0, 0, τ) = some (.inl (c.1, w2 τ 28 44 c.2.1 c.2.2))) ∧
    (bkS (τ 28) (τ 24) (τ 30) (dC τ) g m (nI s) (τ 28, τ 44) n = none → ∃ y, lpW (L_Painter_makeAnew_32 (nI s)) FU (0, 0, τ) = some y ∧ ∃ Q : RW2, (∀ k, 240 ≤ k → Q.1 k = τ 28 k) ∧ (∀ k, 10 ≤ k → Q.2 k = τ 44 k) ∧ y = .inr (-3, rc (rc (w2 τ 28 44 Q.1 Q.2) 44 10 54 10) 28 240 56 240)) := by
  have hm := hL.2.2.1
  have h0 : (bkS (τ 28) (τ 24) (τ 30) (dC τ) g m (nI s) (τ 28, τ 44) 0).map (fun c => (c.1, nI 0, w2 τ 28 44 c.2.1 c.2.2)) = some (0, 0, τ) := by
    show some ((0 : Int32), nI 0, w2 τ 28 44 (τ 28) (τ 44)) = _
    rw [w2_self]; rfl
  have hnn : ∀ i, (bkS (τ 28) (τ 24) (τ 30) (dC τ) g m (nI s) (τ 28, τ 44) i).map (fun c => (c.1, nI i, w2 τ 28 44 c.2.1 c.2.2)) = none → (bkS (τ 28) (τ 24) (τ 30) (dC τ) g m (nI s) (τ 28, τ 44) (i + 1)).map (fun c => (c.1, nI (i + 1), w2 τ 28 44 c.2.1 c.2.2)) = none := by
    intro i h
    rw [Option.map_eq_none_iff] at h ⊢
    exact bkS_n i h
  have hss : ∀ i x x', i < n → (bkS (τ 28) (τ 24) (τ 30) (dC τ) g m (nI s) (τ 28, τ 44) i).map (fun c => (c.1, nI i, w2 τ 28 44 c.2.1 c.2.2)) = some x → (bkS (τ 28) (τ 24) (τ 30) (dC τ) g m (nI s) (τ 28, τ 44) (i + 1)).map (fun c => (c.1, nI (i + 1), w2 τ 28 44 c.2.1 c.2.2)) = some x' → L_Painter_makeAnew_32 (nI s) x = some (.inl x') := by
    intro i x x' hi h1 h2
    rw [Option.map_eq_some_iff] at h1 h2
    obtain ⟨c, hc, rfl⟩ := h1
    obtain ⟨c', hc', rfl⟩ := h2
    exact (bkCs hF hL hn h240 hg hA hi hc).1 c' hc'
  refine ⟨fun c hc => ?_, fun hc => ?_⟩
  · refine lpW_opt n h0 hnn hss (x := (c.1, nI n, w2 τ 28 44 c.2.1 c.2.2)) (by rw [hc]; rfl) ?_ (by omega)
    unfold L_Painter_makeAnew_32
    dsimp only
    rw [if_pos (show (w2 τ 28 44 _ _) 18 0 ≤ nI n by rw [show ∀ A B, (w2 τ 28 44 A B) 18 0 = nI n from fun _ _ => hn]; exact nI_le (Nat.le_refl n) (by omega))]
  · refine lpW_opt2 n h0 hnn hss (by rw [hc]; rfl) ?_ (by omega)
    intro i x hi h1 h2
    rw [Option.map_eq_some_iff] at h1
    rw [Option.map_eq_none_iff] at h2
    obtain ⟨c, hc, rfl⟩ := h1
    obtain ⟨i1, -, i3⟩ := bkS_inv hm (fun k hk => hA k (by omega)) hc
    exact ⟨_, (bkCs hF hL hn h240 hg hA hi hc).2 h2, c.2, fun k hk => i1 k (by omega), i3, rfl⟩
theorem nst_cong {st st' : Nat → Int32} {d : Nat → Nat} {x : Int32} : ∀ {k : Nat}, (∀ l, l < k → st l = st' l) → nst st d x k = nst st' d x k
  | 0, _ => rfl
  | k + 1, h => by
    rw [nst, nst, h k (Nat.lt_succ_self k), nst_cong (fun l hl => h l (Nat.lt_succ_of_lt hl))]
theorem rowF_upd {g f : Nat → Int32} {i : Nat} {x : Int32} : upd (rowF g f i) i x = rowF (upd g i x) f (i + 1) := by
  funext j
  unfold upd rowF
  dsimp only
  by_cases h : j = i
  · rw [if_pos h, if_pos (by omega), if_pos h]
  · rw [if_neg h, if_neg h]
    by_cases h2 : j < i
    · rw [if_pos h2, if_pos (by omega)]
    · rw [if_neg h2, if_neg (by omega)]
theorem rowF_updl {g f : Nat → Int32} {N i : Nat} {x : Int32} (hi : i < N) : upd (rowF g f N) i x = rowF (upd g i x) f N := by
  funext j
  unfold upd rowF
  dsimp only
  by_cases h : j = i
  · rw [if_pos h, if_pos (by omega), if_pos h]
  · rw [if_neg h, if_neg h]
/-- one step of the reference -/
theorem bkRs {τ : SG} {m n i s : Nat} {g : Nat → Nat} {B0 : Nat → Int32} {c : Int32 × RW2} (hF : RF τ) (hL : LO τ m) (hn : τ 76 10 = nI n) (h240 : n ≤ 240) (hg : ∀ i, i < n → g i < 8 ∧ τ 85 i = nI (g i)) (hA : ∀ i, i < n → lotOk m (τ 86 i)) (hi : i < n) (hc : bkS (τ 86) (τ 84) (τ 87) (dC τ) g m (nI s) (τ 86, B0) i = some c) :
    (∀ c', bkS (τ 86) (τ 84) (τ 87) (dC τ) g m (nI s) (τ 86, B0) (i + 1) = some c' → L_Ref_broken_53 (nI s) (c.1, nI i, w2 τ 97 96 (rowF c.2.1 (τ 97) i) (rowF c.2.2 (τ 96) 10)) = some (.inl (c'.1, nI (i + 1), w2 τ 97 96 (rowF c'.2.1 (τ 97) (i + 1)) (rowF c'.2.2 (τ 96) 10)))) ∧
    (bkS (τ 86) (τ 84) (τ 87) (dC τ) g m (nI s) (τ 86, B0) (i + 1) = none → ∃ A B, L_Ref_broken_53 (nI s) (c.1, nI i, w2 τ 97 96 (rowF c.2.1 (τ 97) i) (rowF c.2.2 (τ 96) 10)) = some (.inr (.inr (-3, w2 τ 97 96 A B)))) := by
  have hm := hL.2.2.1
  have hi2 : i < 240 := by omega
  have hii : ix (nI i) = i := ix_nI (by omega)
  have hrow : c.2.1 i = τ 86 i := (bkS_inv hm (fun k hk => hA k (by omega)) hc).1 i (Nat.le_refl i)
  obtain ⟨hgf, hg26⟩ := hg i hi
  have hup : rowF c.2.1 (τ 97) (i + 1) = upd (rowF c.2.1 (τ 97) i) i (τ 86 i) := by rw [← hrow, rowF_s]
  rw [bkS, hc]
  unfold L_Ref_broken_53 nm
  dsimp only
  rw [if_neg (show ¬ (w2 τ 97 96 (rowF c.2.1 (τ 97) i) (rowF c.2.2 (τ 96) 10)) 76 10 ≤ nI i by rw [show ∀ A B, (w2 τ 97 96 A B) 76 10 = nI n from fun _ _ => hn]; exact nI_ge hi (by omega)), vin_nI hi2 (by decide), nI_1]
  simp only [og_t]
  rw [hii, show (w2 τ 97 96 (rowF c.2.1 (τ 97) i) (rowF c.2.2 (τ 96) 10)) 86 i = τ 86 i from rfl, up_w2p _ _ _ (by decide), ← hup]
  generalize hσ : w2 τ 97 96 (rowF c.2.1 (τ 97) (i + 1)) (rowF c.2.2 (τ 96) 10) = σ
  have e87 : σ 87 i = τ 87 i := by rw [← hσ]; rfl
  have e86 : σ 86 = τ 86 := by rw [← hσ]; rfl
  have e85 : σ 85 i = nI (g i) := by rw [← hσ]; exact hg26
  have e84 : σ 84 i = τ 84 i := by rw [← hσ]; rfl
  have e96 : σ 96 = rowF c.2.2 (τ 96) 10 := by rw [← hσ, w2_q]
  have hF' : RF σ := by rw [← hσ]; exact RF_c (fun p hp => by rcases hp with rfl | rfl | rfl | rfl | rfl | rfl | rfl | rfl | rfl | rfl <;> rfl) hF
  have hL' : LO σ m := by rw [← hσ]; exact LO_c (fun p hp => by rcases hp with rfl | rfl | rfl | rfl | rfl <;> rfl) rfl hL
  have hnr : F_Ref_nearest_96 σ (σ 85 i) (σ 84 i) = some (oI (nst c.2.2 (dC τ (g i)) (τ 84 i) m)) := by
    rw [e85, e84, nearR96 hF' hL' hgf, e96, show dC σ = dC τ by rw [← hσ]; rfl]
    congr 2
    exact nst_cong (fun l hl => rowF_lt (by omega))
  have hgv : ∀ b, b < m → up (up σ 96 b (σ 96 b - τ 84 i)) 97 i (nI b) = w2 τ 97 96 (rowF (upd c.2.1 i (nI b)) (τ 97) (i + 1)) (rowF (upd c.2.2 b (c.2.2 b - τ 84 i)) (τ 96) 10) := by
    intro b hb
    rw [e96, rowF_lt (by omega), ← hσ, up_w2q, up_w2p _ _ _ (by decide), rowF_updl (show b < 10 by omega), rowF_updl (Nat.lt_succ_self i)]
  have x86 : ∀ b v, (up (up σ 96 b v) 97 i (nI b)) 86 i = τ 86 i := by
    intro b v; rw [← e86]; rfl
  by_cases h1 : τ 87 i = nI s
  rotate_left
  · rw [if_neg (show ¬ σ 87 i = nI s by rw [e87]; exact h1), if_neg h1]
    exact ⟨fun c' h => (by cases h; rw [hσ]), fun h => (by cases h)⟩
  rw [if_pos (show σ 87 i = nI s by rw [e87]; exact h1), if_pos h1]
  by_cases h2 : τ 86 i = -1
  · rw [if_pos (show σ 86 i = -1 by rw [e86]; exact h2), if_pos h2]
    exact ⟨fun c' h => (by cases h; rw [hσ]), fun h => (by cases h)⟩
  rw [if_neg (show ¬ σ 86 i = -1 by rw [e86]; exact h2), if_neg h2]
  obtain ⟨k, hk, hk2⟩ := (hA i hi).resolve_left h2
  have hkk : ix (τ 86 i) = k := by rw [hk2, ix_nI (by omega)]
  have hk2' : σ 86 i = nI k := by rw [e86]; exact hk2
  have hkk' : ix (σ 86 i) = k := by rw [e86]; exact hkk
  have e44 : σ 96 (ix (σ 86 i)) = c.2.2 (ix (τ 86 i)) := by rw [hkk', hkk, e96, rowF_lt (by omega)]
  rw [show vin (σ 86 i) 10 = true by rw [hk2']; exact vin_nI (by omega) (by decide)]
  simp only [og_t]
  unfold bkU
  by_cases h3 : c.2.2 (ix (τ 86 i)) < τ 84 i
  · rw [if_pos (show σ 96 (ix (σ 86 i)) < σ 84 i by rw [e44, e84]; exact h3), if_pos h3, ob_of hnr]
    cases hq : nst c.2.2 (dC τ (g i)) (τ 84 i) m with
    | none => exact ⟨fun c' h => (by cases h), fun _ => ⟨_, _, by rw [if_pos (show oI none = -1 from rfl), ← hσ]⟩⟩
    | some b =>
      have hb := nst_lt hq
      dsimp only
      rw [if_neg (show ¬ oI (some b) = -1 from nm1_ne (by omega)), show oI (some b) = nI b from rfl, vin_nI (show b < 10 by omega) (by decide), ix_nI (show b < 2 ^ 31 by omega), e84]
      simp only [og_t]
      refine ⟨fun c' h => ?_, fun h => by cases h⟩
      cases h
      by_cases h4 : nI b = τ 86 i
      · rw [if_pos (show nI b = (up (up σ 96 b (σ 96 b - τ 84 i)) 97 i (nI b)) 86 i by rw [x86]; exact h4), if_pos h4, hgv b hb]
        rfl
      · rw [if_neg (show ¬ nI b = (up (up σ 96 b (σ 96 b - τ 84 i)) 97 i (nI b)) 86 i by rw [x86]; exact h4), if_neg h4, hgv b hb]
        rfl
  · rw [if_neg (show ¬ σ 96 (ix (σ 86 i)) < σ 84 i by rw [e44, e84]; exact h3), if_neg h3]
    rw [if_neg (show ¬ σ 86 i = -1 by rw [e86]; exact h2), hk2', ix_nI (show k < 2 ^ 31 by omega), e84, hkk]
    refine ⟨fun c' h => ?_, fun h => by cases h⟩
    cases h
    rw [if_pos (show nI k = (up (up σ 96 k (σ 96 k - τ 84 i)) 97 i (nI k)) 86 i by rw [x86]; exact hk2.symm), if_pos hk2.symm, hgv k hk]
    rfl
theorem bkR {τ : SG} {m n s : Nat} {g : Nat → Nat} {B0 : Nat → Int32} (hF : RF τ) (hL : LO τ m) (hn : τ 76 10 = nI n) (h240 : n ≤ 240) (hg : ∀ i, i < n → g i < 8 ∧ τ 85 i = nI (g i)) (hA : ∀ i, i < n → lotOk m (τ 86 i)) (h96 : rowF B0 (τ 96) 10 = τ 96) :
    (∀ c, bkS (τ 86) (τ 84) (τ 87) (dC τ) g m (nI s) (τ 86, B0) n = some c → lpW (L_Ref_broken_53 (nI s)) FU (0, 0, τ) = some (.inl (c.1, w2 τ 97 96 (rowF c.2.1 (τ 97) n) (rowF c.2.2 (τ 96) 10)))) ∧
    (bkS (τ 86) (τ 84) (τ 87) (dC τ) g m (nI s) (τ 86, B0) n = none → ∃ y, lpW (L_Ref_broken_53 (nI s)) FU (0, 0, τ) = some y ∧ ∃ A B, y = .inr (-3, w2 τ 97 96 A B)) := by
  have hm := hL.2.2.1
  have h0 : (bkS (τ 86) (τ 84) (τ 87) (dC τ) g m (nI s) (τ 86, B0) 0).map (fun c => (c.1, nI 0, w2 τ 97 96 (rowF c.2.1 (τ 97) 0) (rowF c.2.2 (τ 96) 10))) = some (0, 0, τ) := by
    show some ((0 : Int32), nI 0, w2 τ 97 96 (rowF (τ 86) (τ 97) 0) (rowF B0 (τ 96) 10)) = _
    rw [h96, rowF_0, w2_self]; rfl
  have hnn : ∀ i, (bkS (τ 86) (τ 84) (τ 87) (dC τ) g m (nI s) (τ 86, B0) i).map (fun c => (c.1, nI i, w2 τ 97 96 (rowF c.2.1 (τ 97) i) (rowF c.2.2 (τ 96) 10))) = none → (bkS (τ 86) (τ 84) (τ 87) (dC τ) g m (nI s) (τ 86, B0) (i + 1)).map (fun c => (c.1, nI (i + 1), w2 τ 97 96 (rowF c.2.1 (τ 97) (i + 1)) (rowF c.2.2 (τ 96) 10))) = none := by
    intro i h
    rw [Option.map_eq_none_iff] at h ⊢
    exact bkS_n i h
  have hss : ∀ i x x', i < n → (bkS (τ 86) (τ 84) (τ 87) (dC τ) g m (nI s) (τ 86, B0) i).map (fun c => (c.1, nI i, w2 τ 97 96 (rowF c.2.1 (τ 97) i) (rowF c.2.2 (τ 96) 10))) = some x → (bkS (τ 86) (τ 84) (τ 87) (dC τ) g m (nI s) (τ 86, B0) (i + 1)).map (fun c => (c.1, nI (i + 1), w2 τ 97 96 (rowF c.2.1 (τ 97) (i + 1)) (rowF c.2.2 (τ 96) 10))) = some x' → L_Ref_broken_53 (nI s) x = some (.inl x') := by
    intro i x x' hi h1 h2
    rw [Option.map_eq_some_iff] at h1 h2
    obtain ⟨c, hc, rfl⟩ := h1
    obtain ⟨c', hc', rfl⟩ := h2
    exact (bkRs hF hL hn h240 hg hA hi hc).1 c' hc'
  refine ⟨fun c hc => ?_, fun hc => ?_⟩
  · refine lpW_opt n h0 hnn hss (x := (c.1, nI n, w2 τ 97 96 (rowF c.2.1 (τ 97) n) (rowF c.2.2 (τ 96) 10))) (by rw [hc]; rfl) ?_ (by omega)
    unfold L_Ref_broken_53
    dsimp only
    rw [if_pos (show (w2 τ 97 96 _ _) 76 10 ≤ nI n by rw [show ∀ A B, (w2 τ 97 96 A B) 76 10 = nI n from fun _ _ => hn]; exact nI_le (Nat.le_refl n) (by omega))]
  · refine lpW_opt2 n h0 hnn hss (by rw [hc]; rfl) ?_ (by omega)
    intro i x hi h1 h2
    rw [Option.map_eq_some_iff] at h1
    rw [Option.map_eq_none_iff] at h2
    obtain ⟨c, hc, rfl⟩ := h1
    obtain ⟨A, B, e⟩ := (bkRs hF hL hn h240 hg hA hi hc).2 h2
    exact ⟨_, e, A, B, rfl⟩
theorem bk24 {σ : SG} : lpW L_Ref_broken_24 FU (0, σ) = some (sR σ 96 (rowF (σ 89) (σ 96) 10)) := by
  refine lpW_at (s := fun i => (nI i, sR σ 96 (rowF (σ 89) (σ 96) i))) 10 ?_ ?_ ?_ (by decide)
  · rw [rowF_0, sR_self]; rfl
  · intro i hi
    unfold L_Ref_broken_24
    dsimp only
    rw [if_neg (show ¬ (10 : Int32) ≤ nI i from nI_ge (b := 10) hi (by decide)), vin_nI hi (by decide)]
    simp only [og_t]
    rw [ix_nI (by omega), nI_1, up_sR, sR_at, sR_sR, ← rowF_s]
    rfl
  · unfold L_Ref_broken_24
    dsimp only
    rw [if_pos (show (10 : Int32) ≤ nI 10 from nI_le (Nat.le_refl 10) (by decide))]
theorem bk218 {σ : SG} : lpW L_Ref_broken_218 FU (0, σ) = some (sR σ 89 (rowF (σ 96) (σ 89) 10)) := by
  refine lpW_at (s := fun i => (nI i, sR σ 89 (rowF (σ 96) (σ 89) i))) 10 ?_ ?_ ?_ (by decide)
  · rw [rowF_0, sR_self]; rfl
  · intro i hi
    unfold L_Ref_broken_218 nm
    dsimp only
    rw [if_neg (show ¬ (10 : Int32) ≤ nI i from nI_ge (b := 10) hi (by decide)), vin_nI hi (by decide)]
    simp only [og_t]
    rw [ix_nI (by omega), nI_1, up_sR, sR_at, sR_sR, ← rowF_s]
    rfl
  · unfold L_Ref_broken_218
    dsimp only
    rw [if_pos (show (10 : Int32) ≤ nI 10 from nI_le (Nat.le_refl 10) (by decide))]
theorem bk248 {σ : SG} {n : Nat} (hn : σ 76 10 = nI n) (h240 : n ≤ 240) : lpW L_Ref_broken_248 FU (0, σ) = some (sR σ 86 (rowF (σ 97) (σ 86) n)) := by
  refine lpW_at (s := fun i => (nI i, sR σ 86 (rowF (σ 97) (σ 86) i))) n ?_ ?_ ?_ (by omega)
  · rw [rowF_0, sR_self]; rfl
  · intro i hi
    unfold L_Ref_broken_248 nm
    dsimp only
    rw [if_neg (show ¬ (sR σ 86 (rowF (σ 97) (σ 86) i)) 76 10 ≤ nI i by rw [show (sR σ 86 (rowF (σ 97) (σ 86) i)) 76 10 = nI n from hn]; exact nI_ge hi (by omega)), vin_nI (show i < 240 by omega) (by decide)]
    simp only [og_t]
    rw [ix_nI (by omega), nI_1, up_sR, sR_at, sR_sR, ← rowF_s]
    rfl
  · unfold L_Ref_broken_248
    dsimp only
    rw [if_pos (show (sR σ 86 (rowF (σ 97) (σ 86) n)) 76 10 ≤ nI n by rw [show (sR σ 86 (rowF (σ 97) (σ 86) n)) 76 10 = nI n from hn]; exact nI_le (Nat.le_refl n) (by omega))]
theorem rowF_rowF {g g' f : Nat → Int32} {n : Nat} (h : ∀ j, j < n → g j = g' j) : rowF g (rowF g' f n) n = rowF g' f n := by
  funext j
  unfold rowF
  by_cases hj : j < n
  · rw [if_pos hj, if_pos hj, h j hj]
  · rw [if_neg hj, if_neg hj]
theorem rowF_back {g f f' : Nat → Int32} {n : Nat} (h : ∀ j, n ≤ j → g j = f' j) : rowF (rowF g f n) f' n = g := by
  funext j
  unfold rowF
  by_cases hj : j < n
  · rw [if_pos hj, if_pos hj]
  · rw [if_neg hj, h j (by omega)]
theorem op_broken {σ : SG} (hR : R σ) (a : Int32) : ∃ r σ1 σ2, F_Shop_broken σ a = some (r, σ1) ∧ F_Ref_broken σ1 a = some (r, σ2) ∧ R σ2 := by
  obtain ⟨w, h, m, q, n, S, pt, hD, hF, hL, hH, hC⟩ := id hR
  rcases sheet_cases hC a with ⟨h1, h2⟩ | ⟨h0, h1, h2, h3⟩ | ⟨s, hs, rfl, h1, h2, h3⟩
  · exact ⟨-2, σ, σ, by unfold F_Shop_broken; rw [if_neg h1], by unfold F_Ref_broken; rw [h2, if_neg (show ¬ (0 : Int32) ≤ -2 by decide)], hR⟩
  · exact ⟨-3, σ, σ, by unfold F_Shop_broken; rw [if_pos h1, if_neg (bf h2)], by unfold F_Ref_broken; rw [h3, if_neg (show ¬ (0 : Int32) ≤ -3 by decide)], hR⟩
  obtain ⟨r, l, z, f, hB, hcov⟩ := RC_CB hD hC
  obtain ⟨⟨c1, c2, hn240, c4⟩, ⟨p1, p2, p3⟩, hS, ⟨k1, k2, k3, k4, k5, k6⟩, hcv, hlot, h0⟩ := id hC
  by_cases hpt : bI pt = 0
  · refine ⟨-3, σ, σ, ?_, ?_, hR⟩
    · unfold F_Shop_broken; rw [if_pos h1, if_pos h2, if_pos (show σ 52 0 = 0 by rw [p1]; exact hpt)]
    · unfold F_Ref_broken; rw [h3, if_pos (show (0 : Int32) ≤ 0 by decide), if_pos (show σ 76 8 = 0 by rw [p2]; exact hpt)]
  have hm := hL.2.2.1
  have hg : ∀ i, i < n → f i < 8 ∧ σ 26 i = nI (f i) := fun i hi => ⟨(hB i hi).2.2.2.2.2.2.2.2, (hB i hi).2.2.2.1⟩
  have hA : ∀ i, i < n → lotOk m (σ 28 i) := by
    intro i hi
    rcases hlot i hi with h1 | ⟨-, k, h2, h3⟩
    · exact Or.inl h1
    · exact Or.inr ⟨k, h2, h3⟩
  generalize hτ : rc (rc σ 54 10 44 10) 56 240 28 240 = τ
  have t : ∀ p, p ≠ 54 → p ≠ 56 → τ p = σ p := by
    intro p h1 h2
    rw [← hτ, rc_sR, sR_ne _ _ h2, rc_sR, sR_ne _ _ h1]
  have tD : dC τ = dC σ := by rw [← hτ]; rfl
  have hF' : RF τ := RF_c (fun p hp => by rcases hp with rfl | rfl | rfl | rfl | rfl | rfl | rfl | rfl | rfl | rfl <;> exact t _ (by decide) (by decide)) hF
  have hLO := RLo_LO hL
  have hL' : LO τ m := LO_c (fun p hp => by rcases hp with rfl | rfl | rfl | rfl | rfl <;> exact t _ (by decide) (by decide)) (by rw [t 76 (by decide) (by decide)]) hLO
  have hbc := bkC (s := s) hF' hL' (by rw [t 18 (by decide) (by decide)]; exact c1) hn240 (by rw [t 26 (by decide) (by decide)]; exact hg) (by rw [t 28 (by decide) (by decide)]; exact hA)
  rw [t 28 (by decide) (by decide), t 24 (by decide) (by decide), t 30 (by decide) (by decide), t 44 (by decide) (by decide), tD] at hbc
  -- the reference, from any state that differs in 28, 44, 54, 56
  have ref : ∀ σ1 : SG, (∀ p, p ≠ 28 → p ≠ 44 → p ≠ 54 → p ≠ 56 → σ1 p = σ p) → ∃ τ2 : SG, (∀ p, p ≠ 96 → τ2 p = σ1 p) ∧ lpW L_Ref_broken_24 FU (0, σ1) = some τ2 ∧
      (∀ c, bkS (σ 28) (σ 24) (σ 30) (dC σ) f m (nI s) (σ 28, σ 44) n = some c → lpW (L_Ref_broken_53 (nI s)) FU (0, 0, τ2) = some (.inl (c.1, w2 τ2 97 96 (rowF c.2.1 (τ2 97) n) (rowF c.2.2 (τ2 96) 10)))) ∧
      (bkS (σ 28) (σ 24) (σ 30) (dC σ) f m (nI s) (σ 28, σ 44) n = none → ∃ y, lpW (L_Ref_broken_53 (nI s)) FU (0, 0, τ2) = some y ∧ ∃ A B, y = .inr (-3, w2 τ2 97 96 A B)) := by
    intro σ1 u
    have v : ∀ p, p ≠ 28 → p ≠ 44 → p ≠ 54 → p ≠ 56 → p ≠ 96 → (sR σ1 96 (rowF (σ1 89) (σ1 96) 10)) p = σ p := fun p a b c d e => by rw [sR_ne _ _ e, u p a b c d]
    refine ⟨sR σ1 96 (rowF (σ1 89) (σ1 96) 10), fun p hp => sR_ne _ _ hp, bk24, ?_⟩
    have hb := bkR (τ := sR σ1 96 (rowF (σ1 89) (σ1 96) 10)) (s := s) (m := m) (n := n) (g := f) (B0 := σ 44)
      (RF_c (fun p hp => by rcases hp with rfl | rfl | rfl | rfl | rfl | rfl | rfl | rfl | rfl | rfl <;> exact v _ (by decide) (by decide) (by decide) (by decide) (by decide)) hF)
      (LO_c (fun p hp => by rcases hp with rfl | rfl | rfl | rfl | rfl <;> exact v _ (by decide) (by decide) (by decide) (by decide) (by decide)) (by rw [v 76 (by decide) (by decide) (by decide) (by decide) (by decide)]) hLO)
      (by rw [v 76 (by decide) (by decide) (by decide) (by decide) (by decide)]; exact c2) hn240
      (by rw [v 85 (by decide) (by decide) (by decide) (by decide) (by decide), k4]; exact hg)
      (by rw [v 86 (by decide) (by decide) (by decide) (by decide) (by decide), k5]; exact hA)
      (by rw [sR_at]; refine rowF_rowF (fun j _ => ?_); rw [u 89 (by decide) (by decide) (by decide) (by decide), hL.2.2.2.1])
    rw [v 86 (by decide) (by decide) (by decide) (by decide) (by decide), v 84 (by decide) (by decide) (by decide) (by decide) (by decide), v 87 (by decide) (by decide) (by decide) (by decide) (by decide), k5, k3, k6] at hb
    rw [show dC (sR σ1 96 (rowF (σ1 89) (σ1 96) 10)) = dC σ from funext fun F => dC_c (fun p hp => by rcases hp with rfl | rfl | rfl | rfl | rfl | rfl <;> exact v _ (by decide) (by decide) (by decide) (by decide) (by decide)) F] at hb
    exact hb
  cases hq : bkS (σ 28) (σ 24) (σ 30) (dC σ) f m (nI s) (σ 28, σ 44) n with
  | none =>
    obtain ⟨y, hy, Q, hQ1, hQ2, rfl⟩ := hbc.2 hq
    have hbk : rc (rc (w2 τ 28 44 Q.1 Q.2) 44 10 54 10) 28 240 56 240 = τ := by
      rw [← hτ]
      exact rcback hQ1 hQ2
    rw [hbk] at hy
    obtain ⟨τ2, u2, e24, -, e53⟩ := ref τ (fun p a b c d => t p c d)
    obtain ⟨y2, hy2, A, B, rfl⟩ := e53 hq
    have v : ∀ p, p ≠ 54 → p ≠ 56 → p ≠ 96 → p ≠ 97 → (w2 τ2 97 96 A B) p = σ p := fun p a b c d => by rw [w2_o _ _ _ d c, u2 p c, t p a b]
    refine ⟨-3, τ, w2 τ2 97 96 A B, ?_, ?_, w, h, m, q, n, S, pt, ?_, ?_, ?_, ?_, ?_⟩
    · unfold F_Shop_broken F_Painter_makeAnew
      rw [if_pos h1, if_pos h2, if_neg (show ¬ σ 52 0 = 0 by rw [p1]; exact hpt), hτ, ob_of hy]
      rfl
    · unfold F_Ref_broken
      have e0 : F_Ref_noSheet τ (nI s) = 0 := by rw [← h3]; unfold F_Ref_noSheet; rw [t 76 (by decide) (by decide)]
      rw [e0, if_pos (show (0 : Int32) ≤ 0 by decide), if_neg (show ¬ τ 76 8 = 0 by rw [t 76 (by decide) (by decide), p2]; exact hpt), ob_of e24, ob_of hy2]
      rfl
    · exact RD_c (fun p hp => by rcases hp with rfl | rfl | rfl <;> exact v _ (by decide) (by decide) (by decide) (by decide)) (by rw [v _ (by decide) (by decide) (by decide) (by decide)]) (by rw [v _ (by decide) (by decide) (by decide) (by decide)]) hD
    · exact RF_c (fun p hp => by rcases hp with rfl | rfl | rfl | rfl | rfl | rfl | rfl | rfl | rfl | rfl <;> exact v _ (by decide) (by decide) (by decide) (by decide)) hF
    · exact RLo_c (fun p hp => by rcases hp with rfl | rfl | rfl | rfl | rfl | rfl | rfl <;> exact v _ (by decide) (by decide) (by decide) (by decide)) (by rw [v _ (by decide) (by decide) (by decide) (by decide)]) hL
    · exact RH_c (fun p hp => by rcases hp with rfl | rfl | rfl | rfl | rfl <;> exact v _ (by decide) (by decide) (by decide) (by decide)) (by rw [v _ (by decide) (by decide) (by decide) (by decide)]) hH
    · exact RC_c (fun p hp => by rcases hp with rfl | rfl | rfl | rfl | rfl | rfl | rfl | rfl | rfl | rfl | rfl | rfl | rfl | rfl | rfl | rfl | rfl | rfl | rfl <;> exact v _ (by decide) (by decide) (by decide) (by decide)) (fun k _ => by rw [v _ (by decide) (by decide) (by decide) (by decide)]) hC
  | some c =>
    have hy := hbc.1 c hq
    obtain ⟨i1, i2, i3⟩ := bkS_inv hm hA hq
    obtain ⟨τ2, u2, e24, e53, -⟩ := ref (w2 τ 28 44 c.2.1 c.2.2) (fun p a b c d => by rw [w2_o _ _ _ a b, t p c d])
    have hy2 := e53 c hq
    generalize hτ3 : w2 τ2 97 96 (rowF c.2.1 (τ2 97) n) (rowF c.2.2 (τ2 96) 10) = τ3 at hy2
    have v3 : ∀ p, p ≠ 54 → p ≠ 56 → p ≠ 96 → p ≠ 97 → p ≠ 28 → p ≠ 44 → τ3 p = σ p := fun p a b c d e f => by rw [← hτ3, w2_o _ _ _ d c, u2 p c, w2_o _ _ _ e f, t p a b]
    have h89 : rowF (τ3 96) (τ3 89) 10 = c.2.2 := by
      rw [v3 89 (by decide) (by decide) (by decide) (by decide) (by decide) (by decide), ← hτ3, w2_q]
      exact rowF_back (fun j hj => by rw [i3 j hj, hL.2.2.2.1])
    have h86 : rowF (τ3 97) (τ3 86) n = c.2.1 := by
      rw [v3 86 (by decide) (by decide) (by decide) (by decide) (by decide) (by decide), ← hτ3, w2_p _ _ _ (by decide)]
      exact rowF_back (fun j hj => by rw [i1 j hj, k5])
    have e218 := bk218 (σ := τ3)
    rw [h89] at e218
    have e248 := bk248 (σ := sR τ3 89 c.2.2) (n := n) (by rw [sR_ne _ _ (by decide), v3 76 (by decide) (by decide) (by decide) (by decide) (by decide) (by decide)]; exact c2) hn240
    rw [show (sR τ3 89 c.2.2) 97 = τ3 97 from rfl, show (sR τ3 89 c.2.2) 86 = τ3 86 from rfl, h86] at e248
    have e28 : τ3 28 = c.2.1 := by rw [← hτ3, w2_o _ _ _ (by decide) (by decide), u2 28 (by decide), w2_p _ _ _ (by decide)]
    have e44 : τ3 44 = c.2.2 := by rw [← hτ3, w2_o _ _ _ (by decide) (by decide), u2 44 (by decide), w2_q]
    generalize hτ4 : sR (sR τ3 89 c.2.2) 86 c.2.1 = τ4 at e248
    have v : ∀ p, p ≠ 54 → p ≠ 56 → p ≠ 96 → p ≠ 97 → p ≠ 28 → p ≠ 44 → p ≠ 86 → p ≠ 89 → τ4 p = σ p := fun p a b c d e f g h => by rw [← hτ4, sR_ne _ _ g, sR_ne _ _ h, v3 p a b c d e f]
    have x28 : τ4 28 = c.2.1 := by rw [← hτ4, sR_ne _ _ (by decide), sR_ne _ _ (by decide), e28]
    have x44 : τ4 44 = c.2.2 := by rw [← hτ4, sR_ne _ _ (by decide), sR_ne _ _ (by decide), e44]
    have x86 : τ4 86 = c.2.1 := by rw [← hτ4, sR_at]
    have x89 : τ4 89 = c.2.2 := by rw [← hτ4, sR_ne _ _ (by decide), sR_at]
    have v8 : ∀ p, p = 18 ∨ p = 20 ∨ p = 22 ∨ p = 24 ∨ p = 26 ∨ p = 30 ∨ p = 32 ∨ p = 34 ∨ p = 3 ∨ p = 42 ∨ p = 47 ∨ p = 49 ∨ p = 51 ∨ p = 52 ∨ p = 57 ∨ p = 59 ∨ p = 76 ∨ p = 82 ∨ p = 83 ∨ p = 84 ∨ p = 85 ∨ p = 87 ∨ p = 88 → τ4 p = σ p := fun p hp => by rcases hp with rfl | rfl | rfl | rfl | rfl | rfl | rfl | rfl | rfl | rfl | rfl | rfl | rfl | rfl | rfl | rfl | rfl | rfl | rfl | rfl | rfl | rfl | rfl <;> exact v _ (by decide) (by decide) (by decide) (by decide) (by decide) (by decide) (by decide) (by decide)
    refine ⟨c.1, w2 τ 28 44 c.2.1 c.2.2, τ4, ?_, ?_, w, h, m, q, n, S, pt, ?_, ?_, ?_, ?_, ?_⟩
    · unfold F_Shop_broken F_Painter_makeAnew
      rw [if_pos h1, if_pos h2, if_neg (show ¬ σ 52 0 = 0 by rw [p1]; exact hpt), hτ, ob_of hy]
      rfl
    · unfold F_Ref_broken
      have t76 : (w2 τ 28 44 c.2.1 c.2.2) 76 = σ 76 := by rw [w2_o _ _ _ (by decide) (by decide), t 76 (by decide) (by decide)]
      have e0 : F_Ref_noSheet (w2 τ 28 44 c.2.1 c.2.2) (nI s) = 0 := by rw [← h3]; unfold F_Ref_noSheet; rw [t76]
      rw [e0, if_pos (show (0 : Int32) ≤ 0 by decide), if_neg (show ¬ (w2 τ 28 44 c.2.1 c.2.2) 76 8 = 0 by rw [t76, p2]; exact hpt), ob_of e24, ob_of hy2]
      rw [Sum.elim_inl]
      dsimp only
      rw [ob_of e218, ob_of e248]
    · exact RD_c (fun p hp => by rcases hp with rfl | rfl | rfl <;> exact v _ (by decide) (by decide) (by decide) (by decide) (by decide) (by decide) (by decide) (by decide)) (by rw [v8 76 (by decide)]) (by rw [v8 76 (by decide)]) hD
    · exact RF_c (fun p hp => by rcases hp with rfl | rfl | rfl | rfl | rfl | rfl | rfl | rfl | rfl | rfl <;> exact v _ (by decide) (by decide) (by decide) (by decide) (by decide) (by decide) (by decide) (by decide)) hF
    · obtain ⟨g1, g2, g3, g4, g5⟩ := hL
      refine ⟨by rw [v8 42 (by decide)]; exact g1, by rw [v8 76 (by decide)]; exact g2, g3, by rw [x89, x44], ?_⟩
      rw [v8 47 (by decide), v8 49 (by decide), v8 51 (by decide), v8 88 (by decide)]
      exact g5
    · exact RH_c (fun p hp => by rcases hp with rfl | rfl | rfl | rfl | rfl <;> exact v _ (by decide) (by decide) (by decide) (by decide) (by decide) (by decide) (by decide) (by decide)) (by rw [v8 76 (by decide)]) hH
    · refine ⟨?_, ?_, ?_, ?_, ?_, ?_, ?_⟩
      · rw [v8 18 (by decide), v8 76 (by decide)]; exact ⟨c1, c2, hn240, c4⟩
      · rw [v8 52 (by decide), v8 76 (by decide)]; exact ⟨p1, p2, p3⟩
      · rw [v8 57 (by decide), v8 76 (by decide)]; exact hS
      · rw [v8 82 (by decide), v8 83 (by decide), v8 84 (by decide), v8 85 (by decide), v8 87 (by decide), v8 20 (by decide), v8 22 (by decide), v8 24 (by decide), v8 26 (by decide), v8 30 (by decide), x86, x28]
        exact ⟨k1, k2, k3, k4, rfl, k6⟩
      · intro hn
        obtain ⟨r, l, z, f, hv, hcut⟩ := hcv hn
        exact ⟨r, l, z, f, Cov_c (fun p hp => by rcases hp with rfl | rfl | rfl | rfl | rfl | rfl <;> exact v8 _ (by decide)) hv, fun hS => CutI_c (fun p hp => by rcases hp with rfl | rfl | rfl <;> exact v8 _ (by decide)) (hcut hS)⟩
      · intro i hi
        rw [x28]
        have hpt2 : pt = true := by cases pt with
          | true => rfl
          | false => exact absurd rfl hpt
        rcases i2 i (hA i hi) with h1 | h1
        · exact Or.inl h1
        · exact Or.inr ⟨hpt2, h1⟩
      · rw [v8 30 (by decide), v8 32 (by decide)]; exact h0
end
section
/-! cut: borders, the nearest border -/
theorem Cov_ps {σ : SG} {w h n : Nat} {r l z f : Nat → Nat} (hv : Cov σ w h n r l z f) : ∀ {d i : Nat}, i + d + 1 < n → ps w r l i + z i ≤ ps w r l (i + d + 1) := by
  intro d
  induction d with
  | zero =>
    intro i hi
    rw [Nat.add_zero, Cov_step hv (by omega)]
    exact Nat.le_refl _
  | succ d ih =>
    intro i hi
    have h1 := ih (i := i) (by omega)
    have h2 := Cov_step hv (i := i + d + 1) (by omega)
    rw [show i + (d + 1) + 1 = i + d + 1 + 1 by omega, h2]
    omega
theorem Cov_mono {σ : SG} {w h n : Nat} {r l z f : Nat → Nat} (hv : Cov σ w h n r l z f) {k i : Nat} (hk : k < i) (hi : i < n) (hr : r k = r i) : l k + z k ≤ l i := by
  obtain ⟨d, rfl⟩ : ∃ d, i = k + d + 1 := ⟨i - k - 1, by omega⟩
  have h1 := Cov_ps hv hi
  unfold ps at h1
  rw [hr] at h1
  omega
theorem Cov_r {σ : SG} {w h n : Nat} {r l z f : Nat → Nat} (hv : Cov σ w h n r l z f) : ∀ {d i : Nat}, i + d < n → r i ≤ r (i + d) := by
  intro d
  induction d with
  | zero => intro i _; exact Nat.le_refl _
  | succ d ih =>
    intro i hi
    have h1 := ih (i := i) (by omega)
    rcases hv.2.2.2.1 (i + d) (by omega) with ⟨h2, -⟩ | ⟨h2, -⟩
    · rw [show i + (d + 1) = i + d + 1 by omega, h2]; exact h1
    · rw [show i + (d + 1) = i + d + 1 by omega, h2]; omega
/-- a border of row y -/
def bord (n : Nat) (r l z : Nat → Nat) (y b : Nat) : Prop := b = 0 ∨ ∃ i, i < n ∧ r i = y ∧ l i + z i = b
theorem Cov_w {σ : SG} {w h n : Nat} {r l z f : Nat → Nat} (hn : 0 < n) (hv : Cov σ w h n r l z f) (hw : 1 ≤ w) {y : Nat} (hy : y < h) : bord n r l z y w := by
  obtain ⟨i, hi, h1, h2, h3⟩ := Cov_at hn hv (x := w - 1) (by omega) hy
  have := (hv.1 i hi).2.2.2.2.2.2.2.1
  exact Or.inr ⟨i, hi, h1, by omega⟩
theorem isB_iff {σ : SG} {w h n : Nat} {r l z f : Nat → Nat} (hD : RD σ w h) (hn : 0 < n) (h240 : n ≤ 240) (hv : Cov σ w h n r l z f) {y : Nat} (hy : y < h) (x : Int32) : F_Sheets_isBorder σ x (nI y) = true ↔ ∃ b, x = nI b ∧ bord n r l z y b := by
  obtain ⟨d1, d2, -, -, hw1, hw2, hh1, hh2, -, -⟩ := id hD
  have hov : ∀ b i, b < w → i < n → r i = y → l i ≤ b → b < l i + z i → rg σ 22 240 (F_Cubes_over σ (nI b) (nI y)) = nI (l i) := by
    intro b i hb hi hr h1 h2
    have hc := (hv.1 i hi)
    have h34 := (hc.2.2.2.2.2.2.2.2.2 b h1 h2).2
    have hp := pl_lt hD hb hy
    unfold F_Cubes_over
    rw [pl_nI, rg_nI hp (by decide), ← hr, h34, rg_nI (by omega) (by decide), hc.2.1]
  unfold F_Sheets_isBorder
  rw [d1]
  by_cases hx : x = nI w
  · rw [if_pos hx]
    exact ⟨fun _ => ⟨w, hx, Cov_w hn hv hw1 hy⟩, fun _ => rfl⟩
  · rw [if_neg hx]
    constructor
    · intro h1
      by_cases hh : F_Drawing_has σ x (nI y) = true
      · rw [if_pos hh] at h1
        obtain ⟨b, y', hb, hy', rfl, e⟩ := has_nI hD hh
        obtain ⟨i, hi, h2, h3, h4⟩ := Cov_at hn hv hb hy
        rw [hov b i hb hi h2 h3 h4] at h1
        refine ⟨b, rfl, ?_⟩
        by_cases hl : nI (l i) = nI b
        · rw [nI_eq (by omega) (by omega)] at hl
          by_cases hb0 : b = 0
          · exact Or.inl hb0
          · obtain ⟨k, hk, g2, g3, g4⟩ := Cov_at hn hv (x := b - 1) (by omega) hy
            rcases Nat.lt_trichotomy k i with c | c | c
            · have := Cov_mono hv c hi (by omega)
              exact Or.inr ⟨k, hk, g2, by omega⟩
            · subst c; omega
            · have := Cov_mono hv c hk (by omega)
              omega
        · rw [if_neg hl] at h1
          cases h1
      · rw [if_neg hh] at h1
        cases h1
    · rintro ⟨b, rfl, hb⟩
      have hbw : b ≠ w := fun e => hx (by rw [e])
      have hbl : b < w := by
        rcases hb with rfl | ⟨i, hi, -, e⟩
        · omega
        · have := (hv.1 i hi).2.2.2.2.2.2.2.1
          omega
      rw [if_pos (has_of hD hbl hy)]
      obtain ⟨i, hi, h2, h3, h4⟩ := Cov_at hn hv hbl hy
      rw [hov b i hbl hi h2 h3 h4]
      have : l i = b := by
        rcases hb with rfl | ⟨k, hk, g2, g3⟩
        · omega
        · rcases Nat.lt_trichotomy k i with c | c | c
          · have := Cov_mono hv c hi (by omega)
            omega
          · subst c; omega
          · have := Cov_mono hv c hk (by omega)
            omega
      rw [this, if_pos rfl]
def dst2 (g x : Nat) : Nat := (g - x) + (x - g)
/-- v is the nearest border, the left of two -/
def NB (n : Nat) (r l z : Nat → Nat) (y g v : Nat) : Prop := bord n r l z y v ∧ ∀ x, bord n r l z y x → dst2 g v < dst2 g x ∨ (dst2 g v = dst2 g x ∧ v ≤ x)
theorem NB_u {n : Nat} {r l z : Nat → Nat} {y g v v' : Nat} (h : NB n r l z y g v) (h' : NB n r l z y g v') : v = v' := by
  rcases h.2 v' h'.1 with h1 | ⟨h1, h2⟩ <;> rcases h'.2 v h.1 with h3 | ⟨h3, h4⟩ <;> omega
/-- the reference's way -/
def nbS (r l z : Nat → Nat) (y g : Nat) : Nat → Nat
  | 0 => 0
  | i + 1 => if r i = y then (if dst2 g (nbS r l z y g i) ≤ dst2 g (l i + z i) then nbS r l z y g i else l i + z i) else nbS r l z y g i
theorem nbS_bord {n : Nat} {r l z : Nat → Nat} {y g : Nat} : ∀ {i : Nat}, i ≤ n → bord n r l z y (nbS r l z y g i)
  | 0, _ => Or.inl rfl
  | i + 1, h => by
    rw [nbS]
    by_cases h1 : r i = y
    · rw [if_pos h1]
      by_cases h2 : dst2 g (nbS r l z y g i) ≤ dst2 g (l i + z i)
      · rw [if_pos h2]; exact nbS_bord (by omega)
      · rw [if_neg h2]; exact Or.inr ⟨i, by omega, h1, rfl⟩
    · rw [if_neg h1]; exact nbS_bord (by omega)
theorem nbS_inv {σ : SG} {w h n : Nat} {r l z f : Nat → Nat} (hv : Cov σ w h n r l z f) {y g : Nat} : ∀ {i : Nat}, i ≤ n → (nbS r l z y g i = 0 ∨ ∃ k, k < i ∧ r k = y ∧ nbS r l z y g i = l k + z k) ∧ ∀ x, (x = 0 ∨ ∃ k, k < i ∧ r k = y ∧ l k + z k = x) → dst2 g (nbS r l z y g i) < dst2 g x ∨ (dst2 g (nbS r l z y g i) = dst2 g x ∧ nbS r l z y g i ≤ x) := by
  intro i
  induction i with
  | zero =>
    intro _
    refine ⟨Or.inl rfl, ?_⟩
    rintro x (rfl | ⟨k, hk, -⟩)
    · exact Or.inr ⟨rfl, Nat.le_refl _⟩
    · omega
  | succ i ih =>
    intro hi
    obtain ⟨i1, i2⟩ := ih (by omega)
    rw [nbS]
    by_cases h1 : r i = y
    · rw [if_pos h1]
      have hle : nbS r l z y g i ≤ l i + z i := by
        rcases i1 with e | ⟨k, hk, hr, e⟩
        · omega
        · have := Cov_mono hv hk (by omega) (by omega)
          omega
      by_cases h2 : dst2 g (nbS r l z y g i) ≤ dst2 g (l i + z i)
      · rw [if_pos h2]
        refine ⟨?_, ?_⟩
        · rcases i1 with e | ⟨k, hk, hr, e⟩
          · exact Or.inl e
          · exact Or.inr ⟨k, by omega, hr, e⟩
        · rintro x (rfl | ⟨k, hk, hr, e⟩)
          · exact i2 0 (Or.inl rfl)
          · by_cases hki : k = i
            · subst hki
              rw [← e]
              omega
            · exact i2 x (Or.inr ⟨k, by omega, hr, e⟩)
      · rw [if_neg h2]
        refine ⟨Or.inr ⟨i, by omega, h1, rfl⟩, ?_⟩
        rintro x (rfl | ⟨k, hk, hr, e⟩)
        · rcases i2 0 (Or.inl rfl) with c | ⟨c, -⟩ <;> omega
        · by_cases hki : k = i
          · subst hki
            rw [← e]
            exact Or.inr ⟨rfl, Nat.le_refl _⟩
          · rcases i2 x (Or.inr ⟨k, by omega, hr, e⟩) with c | ⟨c, -⟩ <;> omega
    · rw [if_neg h1]
      refine ⟨?_, ?_⟩
      · rcases i1 with e | ⟨k, hk, hr, e⟩
        · exact Or.inl e
        · exact Or.inr ⟨k, by omega, hr, e⟩
      · rintro x (rfl | ⟨k, hk, hr, e⟩)
        · exact i2 0 (Or.inl rfl)
        · have : k ≠ i := fun e => h1 (by rw [← e]; exact hr)
          exact i2 x (Or.inr ⟨k, by omega, hr, e⟩)
theorem nbS_NB {σ : SG} {w h n : Nat} {r l z f : Nat → Nat} (hv : Cov σ w h n r l z f) (y g : Nat) : NB n r l z y g (nbS r l z y g n) :=
  ⟨nbS_bord (Nat.le_refl n), fun x hx => (nbS_inv hv (Nat.le_refl n)).2 x hx⟩
theorem nbR {σ : SG} {w h n : Nat} {r l z f : Nat → Nat} (hw2 : w ≤ 24) (hh : h ≤ 10) (c2 : σ 76 10 = nI n) (h240 : n ≤ 240) (k1 : σ 82 = σ 20) (k2 : σ 83 = σ 22) (k3 : σ 84 = σ 24) (hv : Cov σ w h n r l z f) {y g : Nat} (hy : y < h) (hg : g ≤ w) : F_Ref_nearestBorder σ (nI y) (nI g) = some (nI (nbS r l z y g n)) := by
  have hl : lpW (L_Ref_nearestBorder_5 σ (nI y) (nI g)) FU (0, 0) = some (nI (nbS r l z y g n)) := by
    refine lpW_at (s := fun i => (nI (nbS r l z y g i), nI i)) n rfl ?_ ?_ (by omega)
    · intro i hi
      obtain ⟨g1, g2, g3, g4, g5, g6, g7, g8, -⟩ := hv.1 i hi
      have hii : ix (nI i) = i := ix_nI (by omega)
      have hb : nbS r l z y g i ≤ w := by
        rcases nbS_bord (n := n) (r := r) (l := l) (z := z) (y := y) (g := g) (i := i) (by omega) with e | ⟨k, hk, -, e⟩
        · omega
        · have := (hv.1 k hk).2.2.2.2.2.2.2.1
          omega
      unfold L_Ref_nearestBorder_5
      dsimp only
      rw [c2, if_neg (nI_ge hi (by omega)), vin_nI (show i < 240 by omega) (by decide), nI_1, nbS]
      simp only [og_t]
      rw [hii, k1, k2, k3, g1, g2, g3, nI_add]
      generalize nbS r l z y g i = B at hb
      by_cases h1 : r i = y
      rotate_left
      · rw [if_neg (show ¬ nI (r i) = nI y by rw [nI_eq (by omega) (by omega)]; exact h1), if_neg h1]
      rw [if_pos (show nI (r i) = nI y by rw [h1]), if_pos h1]
      unfold dst2
      by_cases h2 : l i + z i ≤ g
      · rw [if_pos (nI_le h2 (by omega))]
        by_cases h3 : B ≤ g
        · rw [if_pos (nI_le h3 (by omega)), pk_sub h3, pk_sub h2]
          by_cases h4 : g - B ≤ g - (l i + z i)
          · rw [if_pos (nI_le h4 (by omega)), if_pos (by omega)]
          · rw [if_neg (nI_ge (by omega) (by omega)), if_neg (by omega)]
        · rw [if_neg (nI_ge (by omega) (by omega)), pk_sub (show g ≤ B by omega), pk_sub h2]
          by_cases h4 : B - g ≤ g - (l i + z i)
          · rw [if_pos (nI_le h4 (by omega)), if_pos (by omega)]
          · rw [if_neg (nI_ge (by omega) (by omega)), if_neg (by omega)]
      · rw [if_neg (nI_ge (by omega) (by omega))]
        by_cases h3 : B ≤ g
        · rw [if_pos (nI_le h3 (by omega)), pk_sub h3, pk_sub (show g ≤ l i + z i by omega)]
          by_cases h4 : g - B ≤ l i + z i - g
          · rw [if_pos (nI_le h4 (by omega)), if_pos (by omega)]
          · rw [if_neg (nI_ge (by omega) (by omega)), if_neg (by omega)]
        · rw [if_neg (nI_ge (by omega) (by omega)), pk_sub (show g ≤ B by omega), pk_sub (show g ≤ l i + z i by omega)]
          by_cases h4 : B - g ≤ l i + z i - g
          · rw [if_pos (nI_le h4 (by omega)), if_pos (by omega)]
          · rw [if_neg (nI_ge (by omega) (by omega)), if_neg (by omega)]
    · unfold L_Ref_nearestBorder_5
      dsimp only
      rw [c2, if_pos (nI_le (Nat.le_refl n) (by omega))]
  unfold F_Ref_nearestBorder
  rw [ob_of hl]
theorem least_of {P : Nat → Prop} : ∀ {N : Nat}, P N → ∃ d, d ≤ N ∧ P d ∧ ∀ e, e < d → ¬ P e := by
  intro N
  induction N using Nat.strongRecOn with
  | _ N ih =>
    intro hN
    by_cases h : ∃ k, k < N ∧ P k
    · obtain ⟨k, hk, hP⟩ := h
      obtain ⟨d, a, b, c⟩ := ih k hk hP
      exact ⟨d, by omega, b, c⟩
    · exact ⟨N, Nat.le_refl _, hN, fun e he hP => h ⟨e, he, hP⟩⟩
theorem nbC {σ : SG} {w h n : Nat} {r l z f : Nat → Nat} (hD : RD σ w h) (hn : 0 < n) (h240 : n ≤ 240) (hv : Cov σ w h n r l z f) {y g : Nat} (hy : y < h) (hg : g ≤ w) : F_Sheets_cutNear σ (nI g) (nI y) = some (nI (nbS r l z y g n)) := by
  obtain ⟨d1, d2, -, -, hw1, hw2, hh1, hh2, -, -⟩ := id hD
  obtain ⟨d, hd, hP, hmin⟩ := least_of (P := fun d => bord n r l z y (g - d) ∨ bord n r l z y (g + d)) (N := g) (Or.inl (Or.inl (by omega)))
  have hbw : ∀ b, bord n r l z y b → b ≤ w := by
    rintro b (e | ⟨k, hk, -, e⟩)
    · omega
    · have := (hv.1 k hk).2.2.2.2.2.2.2.1
      omega
  have hfar : ∀ x, bord n r l z y x → d ≤ dst2 g x := by
    intro x hx
    have : ¬ dst2 g x < d := by
      intro hlt
      refine hmin _ hlt ?_
      unfold dst2 at hlt ⊢
      rcases Nat.le_total x g with c | c
      · left
        rw [show g - (g - x + (x - g)) = x by omega]; exact hx
      · right
        rw [show g + (g - x + (x - g)) = x by omega]; exact hx
    omega
  have hl : ∀ {v : Nat}, F_Sheets_isBorder σ (nI g - nI d) (nI y) = true ∧ v = g - d ∨ ¬ F_Sheets_isBorder σ (nI g - nI d) (nI y) = true ∧ F_Sheets_isBorder σ (nI g + nI d) (nI y) = true ∧ v = g + d → lpW (L_Sheets_cutNear_2 σ (nI g) (nI y)) FU 0 = some (.inr (nI v)) := by
    intro v hv2
    refine lpW_at (s := fun i => nI i) d rfl ?_ ?_ (by omega)
    · intro i hi
      have hno := hmin i hi
      unfold L_Sheets_cutNear_2
      rw [d1, if_neg (nI_nlt (by omega) (by omega)), if_neg ?_, if_neg ?_, nI_1]
      · intro hb
        rw [nI_add, isB_iff hD hn h240 hv hy] at hb
        obtain ⟨b, e, hb⟩ := hb
        have := hbw b hb
        rw [nI_eq (by omega) (by omega)] at e
        exact hno (Or.inr (e ▸ hb))
      · intro hb
        rw [pk_sub (by omega), isB_iff hD hn h240 hv hy] at hb
        obtain ⟨b, e, hb⟩ := hb
        have := hbw b hb
        rw [nI_eq (by omega) (by omega)] at e
        exact hno (Or.inl (e ▸ hb))
    · unfold L_Sheets_cutNear_2
      rw [d1, if_neg (nI_nlt (by omega) (by omega))]
      rcases hv2 with ⟨h1, rfl⟩ | ⟨h1, h2, rfl⟩
      · rw [if_pos h1, pk_sub hd]
      · rw [if_neg h1, if_pos h2, nI_add]
  have hfin : ∀ v, NB n r l z y g v → lpW (L_Sheets_cutNear_2 σ (nI g) (nI y)) FU 0 = some (.inr (nI v)) → F_Sheets_cutNear σ (nI g) (nI y) = some (nI (nbS r l z y g n)) := by
    intro v h1 h2
    unfold F_Sheets_cutNear
    rw [ob_of h2, NB_u h1 (nbS_NB hv y g)]
    rfl
  by_cases hb : bord n r l z y (g - d)
  · refine hfin (g - d) ⟨hb, fun x hx => ?_⟩ (hl (Or.inl ⟨?_, rfl⟩))
    · have := hfar x hx
      unfold dst2 at this ⊢
      omega
    · rw [pk_sub hd, isB_iff hD hn h240 hv hy]
      exact ⟨_, rfl, hb⟩
  · have hb2 := hP.resolve_left hb
    have := hbw _ hb2
    refine hfin (g + d) ⟨hb2, fun x hx => ?_⟩ (hl (Or.inr ⟨?_, ?_, rfl⟩))
    · have := hfar x hx
      have hne : x ≠ g - d := fun e => hb (e ▸ hx)
      unfold dst2 at this ⊢
      omega
    · rw [pk_sub hd, isB_iff hD hn h240 hv hy]
      rintro ⟨b, e, h2⟩
      have := hbw b h2
      rw [nI_eq (by omega) (by omega)] at e
      exact hb (e ▸ h2)
    · rw [nI_add, isB_iff hD hn h240 hv hy]
      exact ⟨_, rfl, hb2⟩
/-! how many cuts are not right of x -/
def cj (V : Nat → Nat) (x b : Nat) : Nat → Nat
  | 0 => 0
  | j + 1 => if V ((j + 1) * b) ≤ x then cj V x b j + 1 else cj V x b j
theorem cj_le {V : Nat → Nat} {x b : Nat} : ∀ j, cj V x b j ≤ j
  | 0 => Nat.le_refl 0
  | j + 1 => by
    have := cj_le (V := V) (x := x) (b := b) j
    rw [cj]
    by_cases h : V ((j + 1) * b) ≤ x
    · rw [if_pos h]; omega
    · rw [if_neg h]; omega
theorem cj_mono {V : Nat → Nat} {x x' b : Nat} (hx : x ≤ x') : ∀ j, cj V x b j ≤ cj V x' b j
  | 0 => Nat.le_refl 0
  | j + 1 => by
    have := cj_mono (V := V) (b := b) hx j
    rw [cj, cj]
    by_cases h : V ((j + 1) * b) ≤ x
    · rw [if_pos h, if_pos (by omega)]; omega
    · rw [if_neg h]
      by_cases h2 : V ((j + 1) * b) ≤ x'
      · rw [if_pos h2]; omega
      · rw [if_neg h2]; omega
theorem goal_lt {w b j : Nat} (hw : 1 ≤ w) (hb : 1 ≤ b) : j < (w - 1) / b ↔ (j + 1) * b < w := by
  rw [Nat.lt_iff_add_one_le, Nat.le_div_iff_mul_le (by omega)]
  omega
theorem clC {σ : SG} {w h n : Nat} {r l z f : Nat → Nat} (hD : RD σ w h) (hn : 0 < n) (h240 : n ≤ 240) (hv : Cov σ w h n r l z f) {i b : Nat} (hi : i < n) (hb1 : 1 ≤ b) (hb : b ≤ 24) : F_Sheets_cutsLeftOf σ (nI i) (nI b) = some (nI (cj (fun g => nbS r l z (r i) g n) (l i) b ((w - 1) / b))) := by
  obtain ⟨d1, d2, -, -, hw1, hw2, hh1, hh2, -, -⟩ := id hD
  obtain ⟨g1, g2, g3, g4, g5, g6, g7, g8, -⟩ := hv.1 i hi
  have hN : (w - 1) / b ≤ w := by have := Nat.div_le_self (w - 1) b; omega
  have hl : lpW (L_Sheets_cutsLeftOf_5 σ (nI i) (nI b)) FU (0, nI b) = some (nI (cj (fun g => nbS r l z (r i) g n) (l i) b ((w - 1) / b))) := by
    refine lpW_at (s := fun j => (nI (cj (fun g => nbS r l z (r i) g n) (l i) b j), nI ((j + 1) * b))) ((w - 1) / b) ?_ ?_ ?_ (by omega)
    · show (nI 0, nI ((0 + 1) * b)) = _
      rw [Nat.zero_add, Nat.one_mul]; rfl
    · intro j hj
      have hj2 := (goal_lt hw1 hb1).mp hj
      have hV : nbS r l z (r i) ((j + 1) * b) n ≤ w := by
        rcases nbS_bord (n := n) (r := r) (l := l) (z := z) (y := r i) (g := (j + 1) * b) (Nat.le_refl n) with e | ⟨k, hk, -, e⟩
        · omega
        · have := (hv.1 k hk).2.2.2.2.2.2.2.1
          omega
      unfold L_Sheets_cutsLeftOf_5
      dsimp only
      rw [d1, if_neg (nI_ge hj2 (by omega)), rg_nI (show i < 240 by omega) (by decide), rg_nI (show i < 240 by omega) (by decide), g1, g2, ob_of (nbC hD hn h240 hv g5 (by omega)), cj, show mxI (nI b) 1 = nI b from ?_]
      · rw [nI_add, show (j + 1) * b + b = (j + 1 + 1) * b by rw [Nat.succ_mul (j + 1) b]]
        by_cases h1 : nbS r l z (r i) ((j + 1) * b) n ≤ l i
        · rw [if_neg (nI_nlt h1 (by omega)), if_pos h1, nI_1]
        · rw [if_pos (nI_lt (by omega) (by omega)), if_neg h1]
      · unfold mxI
        rw [if_neg (show ¬ nI b < 1 from nI_nlt (b := 1) hb1 (by omega))]
    · have : ¬ ((w - 1) / b + 1) * b < w := fun h => absurd ((goal_lt hw1 hb1).mpr h) (Nat.lt_irrefl _)
      have h2 : ((w - 1) / b + 1) * b < 1000 := by
        have := Nat.div_mul_le_self (w - 1) b
        rw [Nat.succ_mul]
        omega
      unfold L_Sheets_cutsLeftOf_5
      dsimp only
      rw [d1, if_pos (nI_le (by omega) (by omega))]
  unfold F_Sheets_cutsLeftOf
  rw [ob_of hl]
theorem clR {σ : SG} {w h n : Nat} {r l z f : Nat → Nat} (hD : RD σ w h) (c2 : σ 76 10 = nI n) (h240 : n ≤ 240) (k1 : σ 82 = σ 20) (k2 : σ 83 = σ 22) (k3 : σ 84 = σ 24) (hv : Cov σ w h n r l z f) {i b : Nat} {x0 : Int32} (hi : i < n) (hb1 : 1 ≤ b) (hb : b ≤ 24) : lpW (L_Ref_cut_78 (nI b) (x0, σ) (nI i)) FU (0, nI b) = some (nI (cj (fun g => nbS r l z (r i) g n) (l i) b ((w - 1) / b))) := by
  obtain ⟨-, -, d1, d2, hw1, hw2, hh1, hh2, -, -⟩ := id hD
  obtain ⟨g1, g2, g3, g4, g5, g6, g7, g8, -⟩ := hv.1 i hi
  have hN : (w - 1) / b ≤ w := by have := Nat.div_le_self (w - 1) b; omega
  have hii : ix (nI i) = i := ix_nI (by omega)
  refine lpW_at (s := fun j => (nI (cj (fun g => nbS r l z (r i) g n) (l i) b j), nI ((j + 1) * b))) ((w - 1) / b) ?_ ?_ ?_ (by omega)
  · show (nI 0, nI ((0 + 1) * b)) = _
    rw [Nat.zero_add, Nat.one_mul]; rfl
  · intro j hj
    have hj2 := (goal_lt hw1 hb1).mp hj
    have hV : nbS r l z (r i) ((j + 1) * b) n ≤ w := by
      rcases nbS_bord (n := n) (r := r) (l := l) (z := z) (y := r i) (g := (j + 1) * b) (Nat.le_refl n) with e | ⟨k, hk, -, e⟩
      · omega
      · have := (hv.1 k hk).2.2.2.2.2.2.2.1
        omega
    unfold L_Ref_cut_78
    dsimp only
    rw [if_neg (show ¬ σ 76 0 ≤ nI ((j + 1) * b) by rw [d1]; exact nI_ge hj2 (by omega)), vin_nI (show i < 240 by omega) (by decide)]
    simp only [og_t]
    rw [hii, show σ 82 i = nI (r i) by rw [k1]; exact g1, ob_of (nbR hw2 hh2 c2 h240 k1 k2 k3 hv g5 (by omega)), cj, nI_add, show (j + 1) * b + b = (j + 1 + 1) * b by rw [Nat.succ_mul (j + 1) b]]
    have e83 : σ 83 i = nI (l i) := by rw [k2]; exact g2
    by_cases h1 : nbS r l z (r i) ((j + 1) * b) n ≤ l i
    · rw [if_neg (show ¬ σ 83 i < _ by rw [e83]; exact nI_nlt h1 (by omega)), if_pos h1, nI_1]
    · rw [if_pos (show σ 83 i < nI (nbS r l z (r i) ((j + 1) * b) n) by rw [e83]; exact nI_lt (by omega) (by omega)), if_neg h1, Int32.add_zero]
  · have : ¬ ((w - 1) / b + 1) * b < w := fun h => absurd ((goal_lt hw1 hb1).mpr h) (Nat.lt_irrefl _)
    have h2 : ((w - 1) / b + 1) * b < 1000 := by
      have := Nat.div_mul_le_self (w - 1) b
      rw [Nat.succ_mul]
      omega
    unfold L_Ref_cut_78
    dsimp only
    rw [if_pos (show σ 76 0 ≤ nI (((w - 1) / b + 1) * b) by rw [d1]; exact nI_le (by omega) (by omega))]
theorem rU {x b : Nat} (hx : x < 1000000) (hb1 : 1 ≤ b) (hb : b < 1000) : F_Shop_roundedUp (nI x) (nI b) = some (nI ((x + b - 1) / b)) := by
  unfold F_Shop_roundedUp
  rw [if_pos (show (1 : Int32) ≤ nI b from nI_le (a := 1) hb1 (by omega)), show nz (nI b) = true from decide_eq_true (nI_ne0 hb1 (by omega)), og_t, nI_add, nI_sub1 (by omega), pk_div (by omega) hb1 (by omega)]
/-! the sheet of a cube -/
def shN (n : Nat) (r l z : Nat → Nat) (w a b i : Nat) : Nat := r i / a * ((w + b - 1) / b) + cj (fun g => nbS r l z (r i) g n) (l i) b ((w - 1) / b)
theorem cols_eq {w b : Nat} (hw : 1 ≤ w) (hb : 1 ≤ b) : (w + b - 1) / b = (w - 1) / b + 1 := by
  rw [show w + b - 1 = (w - 1) + b by omega, Nat.add_div_right _ hb]
theorem shN_lt {n : Nat} {r l z : Nat → Nat} {w h a b i : Nat} (hw : 1 ≤ w) (hh : 1 ≤ h) (ha : 1 ≤ a) (hb : 1 ≤ b) (hr : r i < h) : shN n r l z w a b i < (h + a - 1) / a * ((w + b - 1) / b) := by
  unfold shN
  rw [cols_eq hw hb, cols_eq hh ha]
  have h1 := cj_le (V := fun g => nbS r l z (r i) g n) (x := l i) (b := b) ((w - 1) / b)
  have h2 : r i / a ≤ (h - 1) / a := Nat.div_le_div_right (by omega)
  have h3 := Nat.mul_le_mul_right ((w - 1) / b + 1) h2
  rw [Nat.succ_mul]
  omega
theorem band_le {h a m : Nat} (hh1 : 1 ≤ h) (hh : h ≤ m) (ha : 1 ≤ a) : (h + a - 1) / a ≤ m ∧ 1 ≤ (h + a - 1) / a := by
  rw [cols_eq hh1 ha]
  have := Nat.div_le_self (h - 1) a
  generalize (h - 1) / a = q at this ⊢
  omega
/-- the class's row of weights on the way -/
def wtS (s z : Nat → Nat) (g : Nat → Int32) (i : Nat) : Nat → Int32 := fun t => if t < 240 then nI (sm (fun k => decide (s k = t)) z i) else g t
theorem wtS_s {s z : Nat → Nat} {g : Nat → Int32} {i : Nat} (hs : s i < 240) : upd (wtS s z g i) (s i) (wtS s z g i (s i) + nI (z i)) = wtS s z g (i + 1) := by
  funext t
  unfold upd wtS
  by_cases h : t = s i
  · rw [if_pos h, if_pos hs, if_pos (by omega), sm, if_pos (by rw [h]; exact decide_eq_true rfl), nI_add, h]
  · rw [if_neg h, sm, if_neg (show ¬ decide (s i = t) = true from fun e => h (of_decide_eq_true e).symm), Nat.add_zero]
theorem cutC {σ : SG} {w h n : Nat} {r l z f : Nat → Nat} (hD : RD σ w h) (hn : 0 < n) (c1 : σ 18 0 = nI n) (h240 : n ≤ 240) (hv : Cov σ w h n r l z f) {a b : Nat} (ha1 : 1 ≤ a) (ha : a ≤ 10) (hb1 : 1 ≤ b) (hb : b ≤ 24) (hs : ∀ i, i < n → shN n r l z w a b i < 240) : lpW (L_Sheets_cutWall_40 (nI a) (nI b) (nI ((w + b - 1) / b))) FU (0, rf σ 59 240 0) = some (w2 σ 30 59 (rowF (fun k => nI (shN n r l z w a b k)) (σ 30) n) (wtS (shN n r l z w a b) z (σ 59) n)) := by
  obtain ⟨d1, d2, -, -, hw1, hw2, hh1, hh2, -, -⟩ := id hD
  refine lpW_at (s := fun i => (nI i, w2 σ 30 59 (rowF (fun k => nI (shN n r l z w a b k)) (σ 30) i) (wtS (shN n r l z w a b) z (σ 59) i))) n ?_ ?_ ?_ (by omega)
  · rw [rowF_0]
    unfold w2
    rw [sR_self, rf_sR]
    rfl
  · intro i hi
    obtain ⟨g1, g2, g3, g4, g5, g6, g7, g8, -⟩ := hv.1 i hi
    have hi2 : i < 240 := by omega
    unfold L_Sheets_cutWall_40
    dsimp only
    rw [nI_1, ← rowF_s, ← wtS_s (hs i hi)]
    generalize rowF (fun k => nI (shN n r l z w a b k)) (σ 30) i = A
    generalize wtS (shN n r l z w a b) z (σ 59) i = B
    have hD' : RD (w2 σ 30 59 A B) w h := RD_c (fun p hp => by rcases hp with rfl | rfl | rfl <;> rfl) rfl rfl hD
    have hv' : Cov (w2 σ 30 59 A B) w h n r l z f := Cov_c (fun p hp => by rcases hp with rfl | rfl | rfl | rfl | rfl | rfl <;> rfl) hv
    rw [if_neg (show ¬ (w2 σ 30 59 A B) 18 0 ≤ nI i by rw [show (w2 σ 30 59 A B) 18 0 = nI n from c1]; exact nI_ge hi (by omega))]
    have e20 : rg (w2 σ 30 59 A B) 20 240 (nI i) = nI (r i) := by rw [rg_nI hi2 (by decide)]; exact g1
    have hband : F_Shop_roundedUp (rg (w2 σ 30 59 A B) 20 240 (nI i) + 1) (nI a) = some (nI (r i / a + 1)) := by
      rw [e20, nI_1, rU (by omega) ha1 (by omega), cols_eq (by omega) ha1]
      rfl
    rw [ob_of hband, ob_of (clC hD' hn h240 hv' hi hb1 hb), nI_pred, nI_mul, nI_add]
    unfold nm
    rw [show r i / a * ((w + b - 1) / b) + cj (fun g => nbS r l z (r i) g n) (l i) b ((w - 1) / b) = shN n r l z w a b i from rfl, rs_nI hi2 (by decide), up_w2p _ _ _ (by decide)]
    dsimp only
    rw [ra_nI (hs i hi) (by decide), w2_q, up_w2q, rg_nI hi2 (by decide), show ∀ A', (w2 σ 30 59 A' B) 24 i = nI (z i) from fun _ => g3]
  · unfold L_Sheets_cutWall_40
    dsimp only
    rw [if_pos (show (w2 σ 30 59 _ _) 18 0 ≤ nI n by rw [show ∀ A B, (w2 σ 30 59 A B) 18 0 = nI n from fun _ _ => c1]; exact nI_le (Nat.le_refl n) (by omega))]
theorem cutR {σ : SG} {w h n : Nat} {r l z f : Nat → Nat} (hD : RD σ w h) (c2 : σ 76 10 = nI n) (h240 : n ≤ 240) (k1 : σ 82 = σ 20) (k2 : σ 83 = σ 22) (k3 : σ 84 = σ 24) (hv : Cov σ w h n r l z f) {a b : Nat} (ha1 : 1 ≤ a) (ha : a ≤ 10) (hb1 : 1 ≤ b) (hb : b ≤ 24) : lpW (L_Ref_cut_63 (nI a) (nI b) (nI ((w + b - 1) / b))) FU (0, σ) = some (sR σ 87 (rowF (fun k => nI (shN n r l z w a b k)) (σ 87) n)) := by
  obtain ⟨-, -, d1, d2, hw1, hw2, hh1, hh2, -, -⟩ := id hD
  refine lpW_at (s := fun i => (nI i, sR σ 87 (rowF (fun k => nI (shN n r l z w a b k)) (σ 87) i))) n ?_ ?_ ?_ (by omega)
  · rw [rowF_0, sR_self]; rfl
  · intro i hi
    obtain ⟨g1, g2, g3, g4, g5, g6, g7, g8, -⟩ := hv.1 i hi
    have hi2 : i < 240 := by omega
    have hii : ix (nI i) = i := ix_nI (by omega)
    unfold L_Ref_cut_63
    dsimp only
    rw [nI_1, ← rowF_s]
    generalize rowF (fun k => nI (shN n r l z w a b k)) (σ 87) i = A
    have hD' : RD (sR σ 87 A) w h := RD_c (fun p hp => by rcases hp with rfl | rfl | rfl <;> rfl) rfl rfl hD
    have hv' : Cov (sR σ 87 A) w h n r l z f := Cov_c (fun p hp => by rcases hp with rfl | rfl | rfl | rfl | rfl | rfl <;> rfl) hv
    have hcl := clR (x0 := nI i) hD' c2 h240 k1 k2 k3 hv' hi hb1 hb
    rw [if_neg (show ¬ (sR σ 87 A) 76 10 ≤ nI i by rw [show (sR σ 87 A) 76 10 = nI n from c2]; exact nI_ge hi (by omega)), ob_of hcl, vin_nI hi2 (by decide), show nz (nI a) = true from decide_eq_true (nI_ne0 ha1 (by omega))]
    simp only [og_t]
    unfold nm
    rw [hii, show (sR σ 87 A) 82 i = nI (r i) by rw [← g1, ← k1]; rfl, pk_div (by omega) ha1 (by omega), nI_mul, nI_add, up_sR, sR_at, sR_sR]
    rfl
  · unfold L_Ref_cut_63
    dsimp only
    rw [if_pos (show (sR σ 87 _) 76 10 ≤ nI n by rw [show ∀ A, (sR σ 87 A) 76 10 = nI n from fun _ => c2]; exact nI_le (Nat.le_refl n) (by omega))]
/-! turned over -/
theorem sm_one {z : Nat → Nat} {j : Nat} : ∀ {n : Nat}, sm (fun k => decide (k = j)) z n = if j < n then z j else 0
  | 0 => rfl
  | n + 1 => by
    rw [sm, sm_one]
    by_cases h : n = j
    · subst h
      rw [if_neg (Nat.lt_irrefl n), if_pos (decide_eq_true rfl), if_pos (Nat.lt_succ_self n), Nat.zero_add]
    · rw [if_neg (show ¬ decide (n = j) = true from fun e => h (of_decide_eq_true e)), Nat.add_zero]
      by_cases h2 : j < n
      · rw [if_pos h2, if_pos (by omega)]
      · rw [if_neg h2, if_neg (by omega)]
theorem sm_or {p q t : Nat → Bool} {z : Nat → Nat} : ∀ {n : Nat}, (∀ i, i < n → t i = (p i || q i) ∧ (p i = true → q i = false)) → sm t z n = sm p z n + sm q z n
  | 0, _ => rfl
  | n + 1, h => by
    obtain ⟨h1, h2⟩ := h n (Nat.lt_succ_self n)
    rw [sm, sm, sm, sm_or (fun i hi => h i (Nat.lt_succ_of_lt hi)), h1]
    cases hp : p n with
    | true => rw [h2 hp]; simp; omega
    | false => cases hq : q n <;> simp <;> omega
def toT (n : Nat) (r s z : Nat → Nat) (i : Nat) : Nat := sm (fun k => decide (i < k) && (decide (r k = r i) && decide (s k = s i))) z n
theorem sm_none {p : Nat → Bool} {z : Nat → Nat} : ∀ {n : Nat}, (∀ i, i < n → p i = false) → sm p z n = 0
  | 0, _ => rfl
  | n + 1, h => by
    rw [sm, sm_none (fun i hi => h i (Nat.lt_succ_of_lt hi)), h n (Nat.lt_succ_self n)]
    rfl
theorem toT_next {n : Nat} {r s z : Nat → Nat} {i : Nat} (hi : i + 1 < n) (hr : r (i + 1) = r i) (hs : s (i + 1) = s i) : toT n r s z i = toT n r s z (i + 1) + z (i + 1) := by
  have h := sm_or (p := fun k => decide (i + 1 < k) && (decide (r k = r (i + 1)) && decide (s k = s (i + 1)))) (q := fun k => decide (k = i + 1)) (t := fun k => decide (i < k) && (decide (r k = r i) && decide (s k = s i))) (z := z) (n := n) (fun k hk => by
    rw [hr, hs]
    refine ⟨?_, ?_⟩
    · by_cases h1 : k = i + 1
      · subst h1
        simp [hr, hs]
      · by_cases h2 : i < k
        · have : i + 1 < k := by omega
          simp [h1, h2, this]
        · have : ¬ i + 1 < k := by omega
          simp [h1, h2, this]
    · intro h
      simp at h
      rw [decide_eq_false_iff_not]
      omega)
  unfold toT
  rw [h, sm_one, if_pos hi]
theorem toT_0 {n : Nat} {r s z : Nat → Nat} {i : Nat} (h : ∀ k, i < k → k < n → ¬ (r k = r i ∧ s k = s i)) : toT n r s z i = 0 := by
  unfold toT
  refine sm_none (fun k hk => ?_)
  by_cases h1 : i < k
  · have := h k h1 hk
    by_cases h2 : r k = r i
    · have h3 : ¬ s k = s i := fun e => this ⟨h2, e⟩
      simp [h3]
    · simp [h2]
  · simp [h1]
/-- a row filled from its end -/
def rowE (T f : Nat → Int32) (n j : Nat) : Nat → Int32 := fun k => if n ≤ k + j ∧ k < n then T k else f k
theorem rowE_s {T f : Nat → Int32} {n j : Nat} (hj : j < n) : upd (rowE T f n j) (n - 1 - j) (T (n - 1 - j)) = rowE T f n (j + 1) := by
  funext k
  unfold upd rowE
  by_cases h : k = n - 1 - j
  · rw [if_pos h, if_pos (by omega), h]
  · rw [if_neg h]
    by_cases h2 : n ≤ k + j ∧ k < n
    · rw [if_pos h2, if_pos (by omega)]
    · rw [if_neg h2, if_neg (by omega)]
theorem shN_mono {σ : SG} {w h n : Nat} {r l z f : Nat → Nat} (hv : Cov σ w h n r l z f) {a b i k : Nat} (hik : i < k) (hk : k < n) (hr : r i = r k) : shN n r l z w a b i ≤ shN n r l z w a b k := by
  unfold shN
  have h1 := Cov_mono hv hik hk hr
  have h2 := cj_mono (V := fun g => nbS r l z (r k) g n) (x := l i) (x' := l k) (b := b) (by omega) ((w - 1) / b)
  rw [hr]
  omega
theorem toC {σ : SG} {w h n : Nat} {r l z f s : Nat → Nat} (c1 : σ 18 0 = nI n) (h240 : n ≤ 240) (hh : h ≤ 10) (hv : Cov σ w h n r l z f) (hs : ∀ i, i < n → s i < 240 ∧ σ 30 i = nI (s i)) (hm : ∀ i k, i < k → k < n → r i = r k → s i ≤ s k) : F_Sheets_turnOver σ = some (sR σ 32 (rowE (fun i => nI (toT n r s z i)) (σ 32) n n)) := by
  have hl : lpW L_Sheets_turnOver_10 FU ((σ 18 0 - 1), σ) = some (sR σ 32 (rowE (fun i => nI (toT n r s z i)) (σ 32) n n)) := by
    refine lpW_at (s := fun j => (nI (n - j) - 1, sR σ 32 (rowE (fun i => nI (toT n r s z i)) (σ 32) n j))) n ?_ ?_ ?_ (by omega)
    · show (nI n - 1, sR σ 32 (rowE _ (σ 32) n 0)) = _
      rw [c1, show rowE (fun i => nI (toT n r s z i)) (σ 32) n 0 = σ 32 from funext fun k => if_neg (by omega), sR_self]
    · intro j hj
      obtain ⟨i, hi⟩ : ∃ i, i = n - 1 - j := ⟨_, rfl⟩
      have hin : i < n := by omega
      obtain ⟨g1, g2, g3, g4, g5, g6, g7, g8, -⟩ := hv.1 i hin
      have e30 : σ 30 i = nI (s i) := (hs i hin).2
      rw [show n - j = i + 1 by omega, show n - (j + 1) = i by omega, nI_pred]
      have hup := rowE_s (T := fun i => nI (toT n r s z i)) (f := σ 32) hj
      rw [← hi] at hup
      rw [← hup]
      have hrow : rowE (fun i => nI (toT n r s z i)) (σ 32) n j (i + 1) = if i + 1 < n then nI (toT n r s z (i + 1)) else σ 32 (i + 1) := by
        unfold rowE
        by_cases h1 : i + 1 < n
        · rw [if_pos (by omega), if_pos h1]
        · rw [if_neg (by omega), if_neg h1]
      generalize rowE (fun i => nI (toT n r s z i)) (σ 32) n j = A at hrow
      unfold L_Sheets_turnOver_10
      dsimp only
      rw [if_neg (nI_pos (by omega)), nI_1, rs_nI (show i < 240 by omega) (by decide), ← Int32.sub_eq_add_neg]
      unfold nm
      rw [up_sR, sR_at, sR_sR, if_pos rfl]
      simp only [if_neg Bool.false_ne_true]
      by_cases h1 : i + 1 < n
      · obtain ⟨q1, q2, q3, q4, q5, q6, q7, q8, -⟩ := hv.1 (i + 1) h1
        rw [if_neg (show ¬ (sR σ 32 A) 18 0 ≤ nI (i + 1) by rw [show (sR σ 32 A) 18 0 = nI n from c1]; exact nI_ge h1 (by omega))]
        have x20 : rg (sR σ 32 A) 20 240 (nI (i + 1)) = nI (r (i + 1)) := by rw [rg_nI (by omega) (by decide)]; exact q1
        have y20 : rg (sR σ 32 A) 20 240 (nI i) = nI (r i) := by rw [rg_nI (by omega) (by decide)]; exact g1
        have x30 : rg (sR σ 32 A) 30 240 (nI (i + 1)) = nI (s (i + 1)) := by rw [rg_nI (by omega) (by decide)]; exact (hs (i + 1) h1).2
        have y30 : rg (sR σ 32 A) 30 240 (nI i) = nI (s i) := by rw [rg_nI (by omega) (by decide)]; exact e30
        have x32 : rg (sR σ 32 A) 32 240 (nI (i + 1)) = nI (toT n r s z (i + 1)) := by rw [rg_nI (by omega) (by decide), sR_at, hrow, if_pos h1]
        have x24 : rg (sR σ 32 A) 24 240 (nI (i + 1)) = nI (z (i + 1)) := by rw [rg_nI (by omega) (by decide)]; exact q3
        rw [x20, y20, x30, y30, x32, x24]
        have hs1 := (hs i hin).1
        have hs2 := (hs (i + 1) h1).1
        by_cases h2 : r (i + 1) = r i
        · rw [if_pos (show nI (r (i + 1)) = nI (r i) by rw [h2])]
          by_cases h3 : s (i + 1) = s i
          · rw [if_pos (show nI (s (i + 1)) = nI (s i) by rw [h3]), toT_next h1 h2 h3, nI_add]
          · rw [if_neg (show ¬ nI (s (i + 1)) = nI (s i) by rw [nI_eq (by omega) (by omega)]; exact h3), toT_0 (i := i)]
            · rw [rs_nI (show i < 240 by omega) (by decide), up_sR, sR_at, sR_sR]; rfl
            · rintro k hk hkn ⟨a1, a2⟩
              have m1 := hm i (i + 1) (by omega) h1 h2.symm
              have m2 : s (i + 1) ≤ s k := by
                by_cases hk1 : k = i + 1
                · rw [hk1]; exact Nat.le_refl _
                · exact hm (i + 1) k (by omega) hkn (by omega)
              omega
        · rw [if_neg (show ¬ nI (r (i + 1)) = nI (r i) by rw [nI_eq (by omega) (by omega)]; exact h2), toT_0 (i := i)]
          · rw [rs_nI (show i < 240 by omega) (by decide), up_sR, sR_at, sR_sR]; rfl
          · rintro k hk hkn ⟨a1, a2⟩
            have m1 := Cov_r hv (i := i) (d := 1) h1
            have m2 := Cov_r hv (i := i + 1) (d := k - (i + 1)) (by omega)
            rw [show i + 1 + (k - (i + 1)) = k by omega] at m2
            omega
      · rw [if_pos (show (sR σ 32 A) 18 0 ≤ nI (i + 1) by rw [show (sR σ 32 A) 18 0 = nI n from c1]; exact nI_le (by omega) (by omega)), toT_0 (i := i)]
        · rw [rs_nI (show i < 240 by omega) (by decide), up_sR, sR_at, sR_sR]; rfl
        · intro k hk hkn
          omega
    · unfold L_Sheets_turnOver_10
      dsimp only
      rw [Nat.sub_self, if_pos (by decide)]
  unfold F_Sheets_turnOver
  rw [ob_of hl]
theorem op_cut {σ : SG} (hR : R σ) (p0 p1 : Int32) : ∃ r σ1 σ2, F_Shop_cut σ p0 p1 = some (r, σ1) ∧ F_Ref_cut σ1 p0 p1 = some (r, σ2) ∧ R σ2 := by
  obtain ⟨w, h, m, q, n, S, pt, hD, hF, hL, hH, hC⟩ := id hR
  by_cases ha : F_Shop_within p0 1 10 = true
  rotate_left
  · refine ⟨-2, σ, σ, ?_, ?_, hR⟩
    · unfold F_Shop_cut; rw [if_neg ha]
    · unfold F_Ref_cut; rw [in_wi, if_neg ha]
  by_cases hb : F_Shop_within p1 1 24 = true
  rotate_left
  · refine ⟨-2, σ, σ, ?_, ?_, hR⟩
    · unfold F_Shop_cut; rw [if_pos ha, if_neg hb]
    · unfold F_Ref_cut; rw [in_wi, if_pos ha, in_wi, if_neg hb]
  obtain ⟨a, ha1, ha2, rfl⟩ := wi_nI (a := 1) (b := 10) (by decide) (by decide) ha
  obtain ⟨b, hb1, hb2, rfl⟩ := wi_nI (a := 1) (b := 24) (by decide) (by decide) hb
  obtain ⟨⟨c1, c2, hn240, c4⟩, hP, hS, ⟨k1, k2, k3, k4, k5, k6⟩, hcov, hlot, h0⟩ := id hC
  by_cases hn : 0 < n
  rotate_left
  · refine ⟨-3, σ, σ, ?_, ?_, hR⟩
    · unfold F_Shop_cut; rw [if_pos ha, if_pos hb, if_neg (show ¬ F_Shop_isLaid σ = true by rw [isLaid_iff c1 hn240, decide_eq_false hn]; exact Bool.false_ne_true)]
    · unfold F_Ref_cut; rw [in_wi, if_pos ha, in_wi, if_pos hb, if_pos (show σ 76 7 = 0 by rw [c4, decide_eq_false hn]; rfl)]
  obtain ⟨r, l, z, f, hv, -⟩ := hcov hn
  obtain ⟨d1, d2, d3, d4, hw1, hw2, hh1, hh2, d5, d6⟩ := id hD
  have hcol := band_le hw1 hw2 hb1
  have hban := band_le hh1 hh2 ha1
  generalize hT : (h + a - 1) / a * ((w + b - 1) / b) = T
  have hT1 : 1 ≤ T := by
    have := Nat.mul_le_mul hban.2 hcol.2
    omega
  have hT2 : T ≤ 240 := by
    have := Nat.mul_le_mul hban.1 hcol.1
    omega
  have hsl : ∀ i, i < n → shN n r l z w a b i < T := fun i hi => by rw [← hT]; exact shN_lt hw1 hh1 ha1 hb1 (hv.1 i hi).2.2.2.2.1
  -- the class
  generalize hσ0 : up σ 57 0 (nI T) = σ0
  have t : ∀ p, p ≠ 57 → σ0 p = σ p := fun p hp => by rw [← hσ0, up_sR, sR_ne _ _ hp]
  have hD0 : RD σ0 w h := RD_c (fun p hp => by rcases hp with rfl | rfl | rfl <;> exact t _ (by decide)) (by rw [t 76 (by decide)]) (by rw [t 76 (by decide)]) hD
  have hv0 : Cov σ0 w h n r l z f := Cov_c (fun p hp => by rcases hp with rfl | rfl | rfl | rfl | rfl | rfl <;> exact t _ (by decide)) hv
  have hc := cutC hD0 hn (by rw [t 18 (by decide)]; exact c1) hn240 hv0 ha1 ha2 hb1 hb2 (fun i hi => Nat.lt_of_lt_of_le (hsl i hi) hT2)
  rw [t 30 (by decide), t 59 (by decide)] at hc
  generalize hA : rowF (fun k => nI (shN n r l z w a b k)) (σ 30) n = A at hc
  generalize hB : wtS (shN n r l z w a b) z (σ 59) n = B at hc
  generalize hσ1 : w2 σ0 30 59 A B = σ1 at hc
  have t1 : ∀ p, p ≠ 57 → p ≠ 30 → p ≠ 59 → σ1 p = σ p := fun p h1 h2 h3 => by rw [← hσ1, w2_o _ _ _ h2 h3, t p h1]
  have e30 : σ1 30 = A := by rw [← hσ1, w2_p _ _ _ (by decide)]
  have e59 : σ1 59 = B := by rw [← hσ1, w2_q]
  have e57 : σ1 57 0 = nI T := by rw [← hσ1, w2_o _ _ _ (by decide) (by decide), ← hσ0]; rfl
  have hv1 : Cov σ1 w h n r l z f := Cov_c (fun p hp => by rcases hp with rfl | rfl | rfl | rfl | rfl | rfl <;> exact t1 _ (by decide) (by decide) (by decide)) hv
  have hto := toC (s := shN n r l z w a b) (by rw [t1 18 (by decide) (by decide) (by decide)]; exact c1) hn240 hh2 hv1 (fun i hi => ⟨Nat.lt_of_lt_of_le (hsl i hi) hT2, by rw [e30, ← hA, rowF_lt hi]⟩) (fun i k hik hk hr => shN_mono hv hik hk hr)
  rw [t1 32 (by decide) (by decide) (by decide)] at hto
  generalize hE : rowE (fun i => nI (toT n r (shN n r l z w a b) z i)) (σ 32) n n = E at hto
  have hcl : F_Shop_cut σ (nI a) (nI b) = some (nI T, sR σ1 32 E) := by
    unfold F_Shop_cut F_Sheets_cutWall
    rw [if_pos ha, if_pos hb, if_pos (show F_Shop_isLaid σ = true by rw [isLaid_iff c1 hn240, decide_eq_true hn]), d1, d2, ob_of (rU (by omega) hb1 (by omega)), ob_of (rU (by omega) ha1 (by omega)), nI_mul, hT, hσ0, ob_of hc, ob_of hto]
    show some ((sR σ1 32 E) 57 0, sR σ1 32 E) = _
    rw [show (sR σ1 32 E) 57 0 = nI T from e57]
  -- the reference
  generalize hσ2 : sR σ1 32 E = σ2 at hcl
  have t2 : ∀ p, p ≠ 57 → p ≠ 30 → p ≠ 59 → p ≠ 32 → σ2 p = σ p := fun p h1 h2 h3 h4 => by rw [← hσ2, sR_ne _ _ h4, t1 p h1 h2 h3]
  have x30 : σ2 30 = A := by rw [← hσ2, sR_ne _ _ (by decide), e30]
  have x59 : σ2 59 = B := by rw [← hσ2, sR_ne _ _ (by decide), e59]
  have x57 : σ2 57 0 = nI T := by rw [← hσ2, sR_ne _ _ (by decide), e57]
  have x32 : σ2 32 = E := by rw [← hσ2, sR_at]
  generalize hσ3 : up σ2 76 17 (nI T) = σ3
  have t3 : ∀ p, p ≠ 57 → p ≠ 30 → p ≠ 59 → p ≠ 32 → p ≠ 76 → σ3 p = σ p := fun p h1 h2 h3 h4 h5 => by rw [← hσ3, up_sR, sR_ne _ _ h5, t2 p h1 h2 h3 h4]
  have t76 : ∀ k, k ≠ 17 → σ3 76 k = σ 76 k := fun k hk => by
    rw [← hσ3, up_sR, sR_at, upd_ne _ _ hk, t2 76 (by decide) (by decide) (by decide) (by decide)]
  have hD3 : RD σ3 w h := RD_c (fun p hp => by rcases hp with rfl | rfl | rfl <;> exact t3 _ (by decide) (by decide) (by decide) (by decide) (by decide)) (t76 0 (by decide)) (t76 1 (by decide)) hD
  have hv3 : Cov σ3 w h n r l z f := Cov_c (fun p hp => by rcases hp with rfl | rfl | rfl | rfl | rfl | rfl <;> exact t3 _ (by decide) (by decide) (by decide) (by decide) (by decide)) hv
  have hr := cutR hD3 (by rw [t76 10 (by decide)]; exact c2) hn240 (by rw [t3 82 (by decide) (by decide) (by decide) (by decide) (by decide), t3 20 (by decide) (by decide) (by decide) (by decide) (by decide)]; exact k1) (by rw [t3 83 (by decide) (by decide) (by decide) (by decide) (by decide), t3 22 (by decide) (by decide) (by decide) (by decide) (by decide)]; exact k2) (by rw [t3 84 (by decide) (by decide) (by decide) (by decide) (by decide), t3 24 (by decide) (by decide) (by decide) (by decide) (by decide)]; exact k3) hv3 ha1 ha2 hb1 hb2
  rw [t3 87 (by decide) (by decide) (by decide) (by decide) (by decide), k6, hA] at hr
  generalize hσ4 : up (sR σ3 87 A) 76 9 1 = σ4
  have t4 : ∀ p, p ≠ 57 → p ≠ 30 → p ≠ 59 → p ≠ 32 → p ≠ 76 → p ≠ 87 → σ4 p = σ p := fun p h1 h2 h3 h4 h5 h6 => by rw [← hσ4, up_sR, sR_ne _ _ h5, sR_ne _ _ h6, t3 p h1 h2 h3 h4 h5]
  have y76 : ∀ k, k ≠ 17 → k ≠ 9 → σ4 76 k = σ 76 k := fun k hk hk2 => by
    rw [← hσ4, up_sR, sR_at, upd_ne _ _ hk2, sR_ne _ _ (by decide), t76 k hk]
  have y17 : σ4 76 17 = nI T := by
    rw [← hσ4, up_sR, sR_at, upd_ne _ _ (by decide), sR_ne _ _ (by decide), ← hσ3, up_sR, sR_at, upd_at]
  have y9 : σ4 76 9 = 1 := by rw [← hσ4, up_sR, sR_at, upd_at]
  have y87 : σ4 87 = A := by rw [← hσ4, up_sR, sR_ne _ _ (by decide), sR_at]
  have yo : ∀ p, p ≠ 76 → p ≠ 87 → σ4 p = σ2 p := fun p h1 h2 => by rw [← hσ4, up_sR, sR_ne _ _ h1, sR_ne _ _ h2, ← hσ3, up_sR, sR_ne _ _ h1]
  refine ⟨nI T, σ2, σ4, hcl, ?_, w, h, m, q, n, T, pt, ?_, ?_, ?_, ?_, ?_⟩
  · have z76 : σ2 76 = σ 76 := t2 76 (by decide) (by decide) (by decide) (by decide)
    unfold F_Ref_cut nm
    rw [in_wi, if_pos ha, in_wi, if_pos hb, if_neg (show ¬ σ2 76 7 = 0 by rw [z76, c4, decide_eq_true hn]; decide), show nz (nI b) = true from decide_eq_true (nI_ne0 hb1 (by omega)), show nz (nI a) = true from decide_eq_true (nI_ne0 ha1 (by omega)), og_t, og_t, show σ2 76 1 = nI h by rw [z76]; exact d4, show σ2 76 0 = nI w by rw [z76]; exact d3, nI_add, nI_add, nI_sub1 (by omega), nI_sub1 (by omega), pk_div (by omega) ha1 (by omega), pk_div (by omega) hb1 (by omega), nI_mul, hT]
    dsimp only
    rw [hσ3, ob_of hr, hσ4, y17]
  · exact RD_c (fun p hp => by rcases hp with rfl | rfl | rfl <;> exact t4 _ (by decide) (by decide) (by decide) (by decide) (by decide) (by decide)) (y76 0 (by decide) (by decide)) (y76 1 (by decide) (by decide)) hD
  · exact RF_c (fun p hp => by rcases hp with rfl | rfl | rfl | rfl | rfl | rfl | rfl | rfl | rfl | rfl <;> exact t4 _ (by decide) (by decide) (by decide) (by decide) (by decide) (by decide)) hF
  · exact RLo_c (fun p hp => by rcases hp with rfl | rfl | rfl | rfl | rfl | rfl | rfl <;> exact t4 _ (by decide) (by decide) (by decide) (by decide) (by decide) (by decide)) (y76 18 (by decide) (by decide)) hL
  · exact RH_c (fun p hp => by rcases hp with rfl | rfl | rfl | rfl | rfl <;> exact t4 _ (by decide) (by decide) (by decide) (by decide) (by decide) (by decide)) (y76 21 (by decide) (by decide)) hH
  · have v8 : ∀ p, p = 18 ∨ p = 20 ∨ p = 22 ∨ p = 24 ∨ p = 26 ∨ p = 28 ∨ p = 3 ∨ p = 34 ∨ p = 52 ∨ p = 82 ∨ p = 83 ∨ p = 84 ∨ p = 85 ∨ p = 86 → σ4 p = σ p := fun p hp => by rcases hp with rfl | rfl | rfl | rfl | rfl | rfl | rfl | rfl | rfl | rfl | rfl | rfl | rfl | rfl <;> exact t4 _ (by decide) (by decide) (by decide) (by decide) (by decide) (by decide)
    refine ⟨?_, ?_, ?_, ?_, ?_, ?_, ?_⟩
    · rw [v8 18 (by decide), y76 10 (by decide) (by decide), y76 7 (by decide) (by decide)]; exact ⟨c1, c2, hn240, c4⟩
    · rw [v8 52 (by decide), y76 8 (by decide) (by decide)]; exact hP
    · rw [yo 57 (by decide) (by decide), x57, y17, y9]
      exact ⟨rfl, rfl, hT2, by rw [decide_eq_true (show 0 < T by omega)]; rfl, fun _ => hn⟩
    · rw [v8 82 (by decide), v8 83 (by decide), v8 84 (by decide), v8 85 (by decide), v8 86 (by decide), v8 20 (by decide), v8 22 (by decide), v8 24 (by decide), v8 26 (by decide), v8 28 (by decide), y87, yo 30 (by decide) (by decide), x30]
      exact ⟨k1, k2, k3, k4, k5, rfl⟩
    · intro _
      refine ⟨r, l, z, f, Cov_c (fun p hp => by rcases hp with rfl | rfl | rfl | rfl | rfl | rfl <;> exact v8 _ (by decide)) hv, fun _ => ⟨shN n r l z w a b, fun i hi => ⟨hsl i hi, ?_, ?_⟩, fun u hu => ?_⟩⟩
      · rw [yo 30 (by decide) (by decide), x30, ← hA, rowF_lt hi]
      · rw [yo 32 (by decide) (by decide), x32, ← hE]
        unfold rowE
        rw [if_pos (by omega)]
        rfl
      · rw [yo 59 (by decide) (by decide), x59, ← hB]
        unfold wtS
        rw [if_pos (by omega)]
    · rw [v8 28 (by decide)]; exact hlot
    · intro hS0; omega
end
section
/-! lay: two loops side by side; rows set whole; the end of a strip -/
theorem lockS {X Y X' Y' : Type} {f : X → Option (X ⊕ Y)} {f' : X' → Option (X' ⊕ Y')} {Inv : Nat → X → X' → Prop} {Post : Y → Y' → Prop} (hs : ∀ k x x', Inv k x x' → (∃ a a' k', k' < k ∧ f x = some (.inl a) ∧ f' x' = some (.inl a') ∧ Inv k' a a') ∨ ∃ b b', f x = some (.inr b) ∧ f' x' = some (.inr b') ∧ Post b b') {k : Nat} {x : X} {x' : X'} (h : Inv k x x') (hk : k < 1000000) : ∃ b b', lpW f FU x = some b ∧ lpW f' FU x' = some b' ∧ Post b b' := by
  have key : ∀ m k, k < m → ∀ x x', Inv k x x' → ∃ b b', lpW f m x = some b ∧ lpW f' m x' = some b' ∧ Post b b' := by
    intro m
    induction m with
    | zero => intro k hk; omega
    | succ m ih =>
      intro k hk x x' hI
      rcases hs k x x' hI with ⟨a, a', k', h1, h2, h3, h4⟩ | ⟨b, b', h2, h3, h4⟩
      · obtain ⟨b, b', g1, g2, g3⟩ := ih k' (by omega) a a' h4
        refine ⟨b, b', ?_, ?_, g3⟩
        · rw [lpW, h2]; exact g1
        · rw [lpW, h3]; exact g2
      · refine ⟨b, b', ?_, ?_, h4⟩
        · rw [lpW, h2]; rfl
        · rw [lpW, h3]; rfl
  exact key FU k (FU_big hk) x x' h
theorem lay6 {τ : SG} : lpW L_Ref_lay_6 FU (0, τ) = some (sR τ 92 (rowF (fun _ => 0) (τ 92) 25)) := by
  refine lpW_at (s := fun i => (nI i, sR τ 92 (rowF (fun _ => 0) (τ 92) i))) 25 ?_ ?_ ?_ (by decide)
  · rw [rowF_0, sR_self]; rfl
  · intro i hi
    unfold L_Ref_lay_6
    dsimp only
    rw [if_neg (show ¬ (25 : Int32) ≤ nI i from nI_ge (b := 25) hi (by decide)), vin_nI hi (by decide)]
    simp only [og_t]
    rw [ix_nI (by omega), nI_1, up_sR, sR_at, sR_sR, ← rowF_s]
  · unfold L_Ref_lay_6
    dsimp only
    rw [if_pos (show (25 : Int32) ≤ nI 25 from nI_le (Nat.le_refl 25) (by decide))]
theorem lay37 {τ : SG} : lpW L_Ref_lay_37 FU (0, τ) = some (sR τ 93 (rowF (fun _ => 0) (τ 93) 25)) := by
  refine lpW_at (s := fun i => (nI i, sR τ 93 (rowF (fun _ => 0) (τ 93) i))) 25 ?_ ?_ ?_ (by decide)
  · rw [rowF_0, sR_self]; rfl
  · intro i hi
    unfold L_Ref_lay_37
    dsimp only
    rw [if_neg (show ¬ (25 : Int32) ≤ nI i from nI_ge (b := 25) hi (by decide)), vin_nI hi (by decide)]
    simp only [og_t]
    rw [ix_nI (by omega), nI_1, up_sR, sR_at, sR_sR, ← rowF_s]
  · unfold L_Ref_lay_37
    dsimp only
    rw [if_pos (show (25 : Int32) ≤ nI 25 from nI_le (Nat.le_refl 25) (by decide))]
theorem bI_nbz (b : Bool) : nbz (bI b) = true := decide_eq_true (bI_nar2 b)
theorem lay139 {τ : SG} (hb : ∀ k, k < 25 → ∃ b : Bool, τ 93 k = bI b) : lpW L_Ref_lay_139 FU (0, τ) = some (sR τ 92 (rowF (τ 93) (τ 92) 25)) := by
  refine lpW_at (s := fun i => (nI i, sR τ 92 (rowF (τ 93) (τ 92) i))) 25 ?_ ?_ ?_ (by decide)
  · rw [rowF_0, sR_self]; rfl
  · intro i hi
    obtain ⟨b, hb⟩ := hb i hi
    unfold L_Ref_lay_139 nm
    dsimp only
    rw [if_neg (show ¬ (25 : Int32) ≤ nI i from nI_ge (b := 25) hi (by decide)), vin_nI hi (by decide)]
    simp only [og_t]
    rw [ix_nI (by omega), show (sR τ 92 (rowF (τ 93) (τ 92) i)) 93 i = τ 93 i from rfl, show nbz (τ 93 i) = true by rw [hb]; exact bI_nbz b, nI_1, up_sR, sR_at, sR_sR, ← rowF_s]
    rfl
  · unfold L_Ref_lay_139
    dsimp only
    rw [if_pos (show (25 : Int32) ≤ nI 25 from nI_le (Nat.le_refl 25) (by decide))]
/-- what lay reads of both states -/
def LB (σ τ : SG) (w h : Nat) (F : Nat → Nat) : Prop := σ 1 0 = nI w ∧ σ 1 1 = nI h ∧ τ 76 0 = nI w ∧ τ 76 1 = nI h ∧ 1 ≤ w ∧ w ≤ 24 ∧ 1 ≤ h ∧ h ≤ 10 ∧ (∀ k, k < 240 → F k < 8 ∧ σ 3 k = nI (F k) ∧ τ 77 k = nI (F k)) ∧ ∀ f, f < 8 → ∃ g, 1 ≤ g ∧ g ≤ 3 ∧ σ 13 f = nI g ∧ τ 79 f = nI (3 - g)
theorem pl_lt2 {w h x y : Nat} (hw : w ≤ 24) (hh : h ≤ 10) (hx : x < w) (hy : y < h) : 24 * y + x < 240 := by omega
/-- e ends the strip that begins at x -/
def SE (F : Nat → Nat) (w y x e : Nat) : Prop := x < e ∧ e ≤ w ∧ (∀ k, x ≤ k → k < e → F (24 * y + k) = F (24 * y + x)) ∧ (e = w ∨ F (24 * y + e) ≠ F (24 * y + x))
theorem SE_ex (F : Nat → Nat) {w y x : Nat} (hx : x < w) : ∃ e, SE F w y x e := by
  obtain ⟨d, hd, hP, hmin⟩ := least_of (P := fun d => x + 1 + d = w ∨ F (24 * y + (x + 1 + d)) ≠ F (24 * y + x)) (N := w - x - 1) (Or.inl (by omega))
  refine ⟨x + 1 + d, by omega, by omega, fun k h1 h2 => ?_, hP⟩
  by_cases h3 : k = x
  · rw [h3]
  · have := hmin (k - x - 1) (by omega)
    rw [show x + 1 + (k - x - 1) = k by omega] at this
    exact Classical.not_not.mp (fun h => this (Or.inr h))
theorem seC {σ τ : SG} {w h : Nat} {F : Nat → Nat} (hB : LB σ τ w h F) {y x e : Nat} (hy : y < h) (hx : x < w) (he : SE F w y x e) : F_Drawing_stripEnd σ (nI x) (nI y) = some (nI e) := by
  obtain ⟨b1, b2, b3, b4, b5, b6, b7, b8, b9, b10⟩ := hB
  obtain ⟨e1, e2, e3, e4⟩ := he
  have hfl : ∀ k, k < w → F_Drawing_fieldAt σ (nI k) (nI y) = nI (F (24 * y + k)) := fun k hk => by rw [fAt (by omega)]; exact (b9 _ (by omega)).2.1
  have hF8 : ∀ k, k < w → F (24 * y + k) < 8 := fun k hk => (b9 _ (by omega)).1
  have hl : lpW (L_Drawing_stripEnd_4 σ (nI x) (nI y)) FU (nI x + 1) = some (nI e) := by
    refine lpW_at (s := fun j => nI (x + 1 + j)) (e - (x + 1)) ?_ ?_ ?_ (by omega)
    · show nI (x + 1) = _
      rw [nI_1]
    · intro j hj
      have h8 := hF8 x hx
      unfold L_Drawing_stripEnd_4
      rw [b1, if_neg (nI_ge (by omega) (by omega)), hfl _ (by omega), hfl _ (by omega), e3 (x + 1 + j) (by omega) (by omega), if_pos rfl, nI_1]
      rfl
    · rw [show x + 1 + (e - (x + 1)) = e by omega]
      unfold L_Drawing_stripEnd_4
      rw [b1]
      by_cases hew : e = w
      · rw [hew, if_pos (nI_le (Nat.le_refl w) (by omega))]
      · have h8 := hF8 x hx
        have h9 := hF8 e (by omega)
        rw [if_neg (nI_ge (by omega) (by omega)), hfl _ (by omega), hfl _ (by omega), if_neg ?_]
        rw [nI_eq (by omega) (by omega)]
        exact e4.resolve_left hew
  unfold F_Drawing_stripEnd
  rw [ob_of hl]
theorem seR {σ τ : SG} {w h : Nat} {F : Nat → Nat} (hB : LB σ τ w h F) {y x e : Nat} {x0 : Int32} (hy : y < h) (hx : x < w) (he : SE F w y x e) : lpW (L_Ref_lay_68 (x0, τ) (nI y) (nI x)) FU (nI x) = some (nI e) := by
  obtain ⟨b1, b2, b3, b4, b5, b6, b7, b8, b9, b10⟩ := hB
  obtain ⟨e1, e2, e3, e4⟩ := he
  have hfl : ∀ k, k < w → τ 77 (24 * y + k) = nI (F (24 * y + k)) := fun k hk => (b9 _ (by omega)).2.2
  have hF8 : ∀ k, k < w → F (24 * y + k) < 8 := fun k hk => (b9 _ (by omega)).1
  refine lpW_at (s := fun j => nI (x + j)) (e - x) ?_ ?_ ?_ (by omega)
  · rfl
  · intro j hj
    have h8 := hF8 x hx
    unfold L_Ref_lay_68
    rw [if_neg (show ¬ τ 76 0 ≤ nI (x + j) by rw [b3]; exact nI_ge (by omega) (by omega)), pl_nI', pl_nI', vin_nI (by omega) (by decide), vin_nI (by omega) (by decide), ix_nI (by omega), ix_nI (by omega)]
    simp only [og_t]
    rw [if_pos (show τ 77 (24 * y + (x + j)) = τ 77 (24 * y + x) by rw [hfl _ (by omega), hfl _ (by omega), e3 (x + j) (by omega) (by omega)]), nI_1]
    rfl
  · rw [show x + (e - x) = e by omega]
    unfold L_Ref_lay_68
    by_cases hew : e = w
    · rw [if_pos (show τ 76 0 ≤ nI e by rw [b3]; exact nI_le (by omega) (by omega))]
    · have h8 := hF8 x hx
      have h9 := hF8 e (by omega)
      rw [if_neg (show ¬ τ 76 0 ≤ nI e by rw [b3]; exact nI_ge (by omega) (by omega)), pl_nI', pl_nI', vin_nI (by omega) (by decide), vin_nI (by omega) (by decide), ix_nI (by omega), ix_nI (by omega)]
      simp only [og_t]
      rw [if_neg (show ¬ τ 77 (24 * y + e) = τ 77 (24 * y + x) by rw [hfl _ (by omega), hfl _ (by omega), nI_eq (by omega) (by omega)]; exact e4.resolve_left hew)]
end
section
/-! the fewest cubes -/
def mn (c : Nat → Option Nat) : Nat → Option Nat
  | 0 => none
  | j + 1 => match c (j + 1) with
    | none => mn c j
    | some u => match mn c j with
      | none => some u
      | some v => if v ≤ u then some v else some u
/-- from the widest on: the least, and the first width that gives it -/
def bs (c : Nat → Option Nat) (L : Nat) : Nat → Option Nat × Nat
  | 0 => (none, 0)
  | j + 1 => match c (L - j) with
    | none => bs c L j
    | some u => match (bs c L j).1 with
      | none => (some u, L - j)
      | some v => if v ≤ u then bs c L j else (some u, L - j)
theorem mn_spec (c : Nat → Option Nat) : ∀ j, (mn c j = none ∧ ∀ s, 1 ≤ s → s ≤ j → c s = none) ∨ ∃ v, mn c j = some v ∧ (∃ s, 1 ≤ s ∧ s ≤ j ∧ c s = some v) ∧ ∀ s u, 1 ≤ s → s ≤ j → c s = some u → v ≤ u := by
  intro j
  induction j with
  | zero => exact Or.inl ⟨rfl, fun s h1 h2 => by omega⟩
  | succ j ih =>
    rw [mn]
    cases hc : c (j + 1) with
    | none =>
      dsimp only
      rcases ih with ⟨i1, i2⟩ | ⟨v, i1, ⟨s, a, b, e⟩, i3⟩
      · refine Or.inl ⟨i1, fun s h1 h2 => ?_⟩
        by_cases h : s = j + 1
        · rw [h, hc]
        · exact i2 s h1 (by omega)
      · refine Or.inr ⟨v, i1, ⟨s, a, by omega, e⟩, fun t u h1 h2 h3 => ?_⟩
        by_cases h : t = j + 1
        · rw [h, hc] at h3; cases h3
        · exact i3 t u h1 (by omega) h3
    | some u =>
      dsimp only
      rcases ih with ⟨i1, i2⟩ | ⟨v, i1, ⟨s, a, b, e⟩, i3⟩
      · rw [i1]
        refine Or.inr ⟨u, rfl, ⟨j + 1, by omega, by omega, hc⟩, fun t u' h1 h2 h3 => ?_⟩
        by_cases h : t = j + 1
        · rw [h, hc] at h3; cases h3; omega
        · rw [i2 t h1 (by omega)] at h3; cases h3
      · rw [i1]
        dsimp only
        by_cases hle : v ≤ u
        · rw [if_pos hle]
          refine Or.inr ⟨v, rfl, ⟨s, a, by omega, e⟩, fun t u' h1 h2 h3 => ?_⟩
          by_cases h : t = j + 1
          · rw [h, hc] at h3; cases h3; omega
          · exact i3 t u' h1 (by omega) h3
        · rw [if_neg hle]
          refine Or.inr ⟨u, rfl, ⟨j + 1, by omega, by omega, hc⟩, fun t u' h1 h2 h3 => ?_⟩
          by_cases h : t = j + 1
          · rw [h, hc] at h3; cases h3; omega
          · have := i3 t u' h1 (by omega) h3
            omega
theorem bs_spec (c : Nat → Option Nat) (L : Nat) : ∀ j, j ≤ L → (bs c L j = (none, 0) ∧ ∀ s, L - j < s → s ≤ L → c s = none) ∨ ∃ v t, bs c L j = (some v, t) ∧ L - j < t ∧ t ≤ L ∧ c t = some v ∧ ∀ s u, L - j < s → s ≤ L → c s = some u → v ≤ u ∧ (t < s → v < u) := by
  intro j
  induction j with
  | zero => intro _; exact Or.inl ⟨rfl, fun s h1 h2 => by omega⟩
  | succ j ih =>
    intro hj
    rw [bs]
    cases hc : c (L - j) with
    | none =>
      dsimp only
      rcases ih (by omega) with ⟨i1, i2⟩ | ⟨v, t, i1, a, b, e, i3⟩
      · refine Or.inl ⟨i1, fun s h1 h2 => ?_⟩
        by_cases h : s = L - j
        · rw [h, hc]
        · exact i2 s (by omega) h2
      · refine Or.inr ⟨v, t, i1, by omega, b, e, fun s u h1 h2 h3 => ?_⟩
        by_cases h : s = L - j
        · rw [h, hc] at h3; cases h3
        · exact i3 s u (by omega) h2 h3
    | some u =>
      dsimp only
      rcases ih (by omega) with ⟨i1, i2⟩ | ⟨v, t, i1, a, b, e, i3⟩
      · rw [i1]
        refine Or.inr ⟨u, L - j, rfl, by omega, by omega, hc, fun s u' h1 h2 h3 => ?_⟩
        by_cases h : s = L - j
        · rw [h, hc] at h3; cases h3; omega
        · rw [i2 s (by omega) h2] at h3; cases h3
      · rw [i1]
        dsimp only
        by_cases hle : v ≤ u
        · rw [if_pos hle]
          refine Or.inr ⟨v, t, rfl, by omega, b, e, fun s u' h1 h2 h3 => ?_⟩
          by_cases h : s = L - j
          · rw [h, hc] at h3; cases h3; omega
          · exact i3 s u' (by omega) h2 h3
        · rw [if_neg hle]
          refine Or.inr ⟨u, L - j, rfl, by omega, by omega, hc, fun s u' h1 h2 h3 => ?_⟩
          by_cases h : s = L - j
          · rw [h, hc] at h3; cases h3; omega
          · have := i3 s u' (by omega) h2 h3
            omega
theorem bs_mn (c : Nat → Option Nat) (L : Nat) : (bs c L L).1 = mn c L := by
  rcases bs_spec c L L (Nat.le_refl L) with ⟨h1, h2⟩ | ⟨v, t, h1, a, b, e, h2⟩
  · rw [h1]
    rcases mn_spec c L with ⟨g1, -⟩ | ⟨u, g1, ⟨s, x, y, e⟩, -⟩
    · exact g1.symm
    · rw [h2 s (by omega) y] at e; cases e
  · rw [h1]
    rcases mn_spec c L with ⟨g1, g2⟩ | ⟨u, g1, ⟨s, x, y, e'⟩, g3⟩
    · rw [g2 t (by omega) b] at e; cases e
    · have h3 := (h2 s u (by omega) y e').1
      have h4 := g3 t v (by omega) b e
      rw [g1, show v = u by omega]
theorem bs_cong {c c' : Nat → Option Nat} {L : Nat} (h : ∀ s, 1 ≤ s → s ≤ L → c s = c' s) : ∀ j, j ≤ L → bs c L j = bs c' L j
  | 0, _ => rfl
  | j + 1, hj => by
    rw [bs, bs, h (L - j) (by omega) (by omega), bs_cong h j (by omega)]
def encC : Option Nat → Int32
  | none => 1000000
  | some v => nI v
def encR : Option Nat → Int32
  | none => 999
  | some v => nI v
def cand (V : Nat → Option Nat) (ja : Nat → Bool) (to x s : Nat) : Option Nat := if x + s ≤ to ∧ (x + s = to ∨ ja (x + s) = false) then (V (x + s)).map (· + 1) else none
def mayE (ja : Nat → Bool) (to b : Nat) : Prop := b ≤ to ∧ (b = to ∨ ja b = false)
theorem mayC {σ : SG} {ja : Nat → Bool} {to b : Nat} (hto : to ≤ 24) (hb : b < 100) (hj : ∀ k, k < 25 → σ 37 k = bI (ja k)) : F_Layer_mayEnd σ (nI b) (nI to) = true ↔ mayE ja to b := by
  unfold F_Layer_mayEnd mayE
  by_cases h1 : b = to
  · rw [if_pos (by rw [h1])]
    exact ⟨fun _ => ⟨by omega, Or.inl h1⟩, fun _ => rfl⟩
  · rw [if_neg (show ¬ nI b = nI to by rw [nI_eq (by omega) (by omega)]; exact h1)]
    by_cases h2 : to ≤ b
    · rw [if_pos (nI_le h2 (by omega))]
      exact ⟨fun h => (by cases h), fun h => by omega⟩
    · rw [if_neg (nI_ge (by omega) (by omega)), rg_nI (by omega) (by decide), hj b (by omega)]
      cases hb : ja b with
      | true =>
        rw [if_neg (by decide)]
        exact ⟨fun h => (by cases h), fun h => by rcases h.2 with h | h; · omega
                                                  · cases h⟩
      | false =>
        rw [if_pos (show bI false = 0 from rfl)]
        exact ⟨fun _ => ⟨by omega, Or.inr rfl⟩, fun _ => rfl⟩
/-- the rows of the fewest from x on -/
def FR (A B C : Nat → Int32) (V : Nat → Option Nat) (ja : Nat → Bool) (L to x : Nat) : Prop := V to = some 0 ∧ ∀ k, x ≤ k → k ≤ to → A k = encC (V k) ∧ B k = encR (V k) ∧ (∀ v, V k = some v → v ≤ to - k) ∧ (k < to → V k = (bs (cand V ja to k) L L).1 ∧ C k = nI (bs (cand V ja to k) L L).2)
theorem cnC {σ : SG} {ja : Nat → Bool} {V : Nat → Option Nat} {to x L : Nat} {x0 : Int32} (hto : to ≤ 24) (hL : L ≤ 3) (hx : x < to) (hj : ∀ k, k < 25 → σ 37 k = bI (ja k)) (hV : ∀ k, x + 1 ≤ k → k ≤ to → σ 41 k = encC (V k) ∧ ∀ v, V k = some v → v ≤ to - k) : lpW (L_Layer_countFewest_27 (nI to) (nI L) (x0, σ) (nI x)) FU (1000000, 1) = some (encC (mn (cand V ja to x) L)) := by
  refine lpW_at (s := fun j => (encC (mn (cand V ja to x) j), nI (j + 1))) L rfl ?_ ?_ (by omega)
  · intro j hj2
    have hsp := mn_spec (cand V ja to x) j
    unfold L_Layer_countFewest_27
    dsimp only
    rw [if_neg (nI_nlt (by omega) (by omega)), nI_add, nI_1, mn]
    have hmay := mayC hto (show x + (j + 1) < 100 by omega) hj
    by_cases hm : mayE ja to (x + (j + 1))
    · rw [if_pos (hmay.mpr hm)]
      have hc : cand V ja to x (j + 1) = (V (x + (j + 1))).map (· + 1) := if_pos hm
      obtain ⟨v1, v2⟩ := hV (x + (j + 1)) (by omega) hm.1
      have hbound : ∀ v, mn (cand V ja to x) j = some v → v ≤ 24 := by
        intro v hv
        rcases hsp with ⟨e, -⟩ | ⟨v', e, ⟨s, s1, s2, s3⟩, -⟩
        · rw [hv] at e; cases e
        · rw [hv] at e; cases e
          unfold cand at s3
          by_cases hc : x + s ≤ to ∧ (x + s = to ∨ ja (x + s) = false)
          · rw [if_pos hc, Option.map_eq_some_iff] at s3
            obtain ⟨u, hu, rfl⟩ := s3
            have := (hV (x + s) (by omega) hc.1).2 u hu
            omega
          · rw [if_neg hc] at s3; cases s3
      rw [hc, rg_nI (by have := hm.1; omega) (by decide), v1]
      cases hV2 : V (x + (j + 1)) with
      | none =>
        dsimp only [Option.map]
        cases hm2 : mn (cand V ja to x) j with
        | none => rfl
        | some v =>
          have := hbound v hm2
          unfold mnI
          rw [if_neg (show ¬ encC none + 1 < encC (some v) from nI_nlt (a := 1000001) (by omega) (by decide))]
      | some u =>
        have := v2 u hV2
        dsimp only [Option.map]
        cases hm2 : mn (cand V ja to x) j with
        | none =>
          unfold mnI
          rw [if_pos (show encC (some u) + 1 < encC none by show nI u + 1 < nI 1000000; rw [nI_1]; exact nI_lt (by omega) (by omega))]
          show some (Sum.inl (nI u + 1, _)) = _
          rw [nI_1]
          rfl
        | some v =>
          have := hbound v hm2
          dsimp only
          unfold mnI
          by_cases hle : v ≤ u + 1
          · rw [if_neg (show ¬ encC (some u) + 1 < encC (some v) by show ¬ nI u + 1 < nI v; rw [nI_1]; exact nI_nlt hle (by omega)), if_pos hle]
          · rw [if_pos (show encC (some u) + 1 < encC (some v) by show nI u + 1 < nI v; rw [nI_1]; exact nI_lt (by omega) (by omega)), if_neg hle]
            show some (Sum.inl (nI u + 1, _)) = _
            rw [nI_1]
            rfl
    · rw [if_neg (fun h => hm (hmay.mp h))]
      have hc : cand V ja to x (j + 1) = none := if_neg hm
      rw [hc]
  · unfold L_Layer_countFewest_27
    dsimp only
    rw [if_pos (nI_lt (by omega) (by omega))]
theorem cnR {τ : SG} {ja : Nat → Bool} {V : Nat → Option Nat} {to x L : Nat} (hto : to ≤ 24) (hL : L ≤ 3) (hx : x < to) (hj : ∀ k, k < 25 → τ 92 k = bI (ja k)) (hV : ∀ k, x + 1 ≤ k → k ≤ to → τ 94 k = encR (V k) ∧ ∀ v, V k = some v → v ≤ to - k) : lpW (L_Ref_strip_56 (nI to) (nI x)) FU (nI L, up (up τ 94 x 999) 95 x 0) = some (w2 τ 94 95 (upd (τ 94) x (encR (bs (cand V ja to x) L L).1)) (upd (τ 95) x (nI (bs (cand V ja to x) L L).2))) := by
  refine lpW_at (s := fun j => (nI (L - j), w2 τ 94 95 (upd (τ 94) x (encR (bs (cand V ja to x) L j).1)) (upd (τ 95) x (nI (bs (cand V ja to x) L j).2)))) L ?_ ?_ ?_ (by omega)
  · rfl
  · intro j hj2
    have hsp := bs_spec (cand V ja to x) L j (by omega)
    obtain ⟨s, hs⟩ : ∃ s, s = L - j := ⟨_, rfl⟩
    have hs1 : 1 ≤ s := by omega
    have hbound : ∀ v, (bs (cand V ja to x) L j).1 = some v → v ≤ 24 := by
      intro v hv
      rcases hsp with ⟨e, -⟩ | ⟨v', t, e, t1, t2, t3, -⟩
      · rw [e] at hv; cases hv
      · rw [e] at hv; cases hv
        unfold cand at t3
        by_cases hc : x + t ≤ to ∧ (x + t = to ∨ ja (x + t) = false)
        · rw [if_pos hc, Option.map_eq_some_iff] at t3
          obtain ⟨u, hu, rfl⟩ := t3
          have := (hV (x + t) (by omega) hc.1).2 u hu
          omega
        · rw [if_neg hc] at t3; cases t3
    rw [bs, ← hs, show L - (j + 1) = s - 1 by omega]
    generalize bs (cand V ja to x) L j = P at hbound
    unfold L_Ref_strip_56 nm
    dsimp only
    rw [if_neg (show ¬ nI s ≤ 0 from nI_nle hs1 (by omega)), nI_add, ← Int32.sub_eq_add_neg, nI_sub1 hs1]
    generalize hτ : w2 τ 94 95 (upd (τ 94) x (encR P.1)) (upd (τ 95) x (nI P.2)) = σ
    have x94 : σ 94 x = encR P.1 := by rw [← hτ, w2_p _ _ _ (by decide), upd_at]
    have y94 : ∀ k, k ≠ x → σ 94 k = τ 94 k := fun k hk => by rw [← hτ, w2_p _ _ _ (by decide), upd_ne _ _ hk]
    have e92 : σ 92 = τ 92 := by rw [← hτ]; rfl
    have hxx : ix (nI x) = x := ix_nI (by omega)
    have hset : ∀ u, up (up σ 94 x (nI (u + 1))) 95 x (nI s) = w2 τ 94 95 (upd (τ 94) x (encR (some (u + 1)))) (upd (τ 95) x (nI s)) := by
      intro u
      rw [← hτ, up_w2p _ _ _ (by decide), up_w2q]
      congr 1
      · funext k; unfold upd; by_cases h : k = x
        · rw [if_pos h, if_pos h]; rfl
        · rw [if_neg h, if_neg h, if_neg h]
      · funext k; unfold upd; by_cases h : k = x
        · rw [if_pos h, if_pos h]
        · rw [if_neg h, if_neg h, if_neg h]
    by_cases h1 : to < x + s
    · have hc : cand V ja to x s = none := if_neg (fun h => by omega)
      rw [if_pos (nI_lt h1 (by omega)), hc]
      dsimp only
      rw [hτ]
    rw [if_neg (nI_nlt (by omega) (by omega))]
    have hvs : vin (nI (x + s)) 25 = true := vin_nI (by omega) (by decide)
    have hvx : vin (nI x) 25 = true := vin_nI (by omega) (by decide)
    have hss : ix (nI (x + s)) = x + s := ix_nI (by omega)
    obtain ⟨v1, v2⟩ := hV (x + s) (by omega) (by omega)
    have key : mayE ja to (x + s) → (if σ 94 x ≤ σ 94 (x + s) + 1 then some (Sum.inl (nI (s - 1), σ)) else some (Sum.inl (nI (s - 1), up (up σ 94 x (σ 94 (x + s) + 1)) 95 x (nI s)))) = (some (Sum.inl (nI (s - 1), w2 τ 94 95 (upd (τ 94) x (encR (match cand V ja to x s with
            | none => P
            | some u => match P.1 with
              | none => (some u, s)
              | some v => if v ≤ u then P else (some u, s)).1)) (upd (τ 95) x (nI (match cand V ja to x s with
            | none => P
            | some u => match P.1 with
              | none => (some u, s)
              | some v => if v ≤ u then P else (some u, s)).2)))) : Option ((Int32 × SG) ⊕ SG)) := by
      intro hm
      have hc : cand V ja to x s = (V (x + s)).map (· + 1) := if_pos hm
      rw [hc]
      have y1 : σ 94 (x + s) = encR (V (x + s)) := by rw [y94 _ (by omega), v1]
      cases hV2 : V (x + s) with
      | none =>
        dsimp only [Option.map]
        rw [if_pos ?_, hτ]
        rw [x94, y1, hV2]
        cases hP : P.1 with
        | none => decide
        | some v =>
          have := hbound v hP
          show nI v ≤ nI 1000
          exact nI_le (by omega) (by decide)
      | some u =>
        have hu := v2 u hV2
        have y2 : σ 94 (x + s) + 1 = nI (u + 1) := by rw [y1, hV2]; show nI u + 1 = _; rw [nI_1]
        rw [y2]
        dsimp only [Option.map]
        cases hP : P.1 with
        | none =>
          dsimp only
          rw [if_neg ?_, hset]
          rw [x94, hP]
          exact nI_ge (b := 999) (by omega) (by decide)
        | some v =>
          have := hbound v hP
          dsimp only
          by_cases hle : v ≤ u + 1
          · rw [if_pos (show σ 94 x ≤ nI (u + 1) by rw [x94, hP]; exact nI_le hle (by omega)), if_pos hle, hτ]
          · rw [if_neg (show ¬ σ 94 x ≤ nI (u + 1) by rw [x94, hP]; exact nI_ge (by omega) (by omega)), if_neg hle, hset]
    by_cases h2 : x + s = to
    · rw [if_pos (by rw [h2]), hvs, hvx]
      simp only [og_t]
      rw [hss, hxx]
      exact key ⟨by omega, Or.inl h2⟩
    · rw [if_neg (show ¬ nI (x + s) = nI to by rw [nI_eq (by omega) (by omega)]; exact h2), hvs, hvx]
      simp only [og_t]
      rw [hss, hxx]
      cases hjb : ja (x + s) with
      | false =>
        rw [if_pos (show σ 92 (x + s) = 0 by rw [e92, hj _ (by omega), hjb]; rfl)]
        exact key ⟨by omega, Or.inr hjb⟩
      | true =>
        have hc : cand V ja to x s = none := if_neg (fun h => by rcases h.2 with h | h; · omega
                                                                 · rw [hjb] at h; cases h)
        rw [if_neg (show ¬ σ 92 (x + s) = 0 by rw [e92, hj _ (by omega), hjb]; decide), hc]
        dsimp only
        rw [hτ]
  · unfold L_Ref_strip_56
    dsimp only
    rw [Nat.sub_self, if_pos (by decide)]
def updO (V : Nat → Option Nat) (x : Nat) (v : Option Nat) : Nat → Option Nat := fun k => if k = x then v else V k
theorem cand_updO {V : Nat → Option Nat} {ja : Nat → Bool} {to x k s : Nat} {v : Option Nat} (hs : 1 ≤ s) (hk : x ≤ k) : cand (updO V x v) ja to k s = cand V ja to k s := by
  unfold cand updO
  rw [if_neg (show ¬ k + s = x by omega)]
theorem m1_lt {x f : Nat} (hx : x < 1000) (hf : f < 1000) : nI x - 1 < nI f ↔ x ≤ f := by
  rw [lt_T, l1, pk_sub_toInt (by omega) (by decide), nI_toInt (by omega)]
  omega
theorem FR_step {A B C : Nat → Int32} {V : Nat → Option Nat} {ja : Nat → Bool} {L to x : Nat} (hx : x < to) (hL : L ≤ 3) (h : FR A B C V ja L to (x + 1)) : FR (upd A x (encC (mn (cand V ja to x) L))) (upd B x (encR (bs (cand V ja to x) L L).1)) (upd C x (nI (bs (cand V ja to x) L L).2)) (updO V x (mn (cand V ja to x) L)) ja L to x := by
  obtain ⟨h0, hk⟩ := h
  have hcg : ∀ k, x ≤ k → bs (cand (updO V x (mn (cand V ja to x) L)) ja to k) L L = bs (cand V ja to k) L L := fun k hk => bs_cong (fun s h1 _ => cand_updO h1 hk) L (Nat.le_refl L)
  refine ⟨by unfold updO; rw [if_neg (by omega)]; exact h0, fun k h1 h2 => ?_⟩
  rw [hcg k h1]
  by_cases hkx : k = x
  · subst hkx
    have hsp := mn_spec (cand V ja to k) L
    rw [upd_at, upd_at, upd_at, bs_mn]
    unfold updO
    rw [if_pos rfl]
    refine ⟨rfl, rfl, fun v hv => ?_, fun _ => ⟨rfl, rfl⟩⟩
    rcases hsp with ⟨e, -⟩ | ⟨v', e, ⟨s, s1, s2, s3⟩, -⟩
    · rw [hv] at e; cases e
    · rw [hv] at e; cases e
      unfold cand at s3
      by_cases hc : k + s ≤ to ∧ (k + s = to ∨ ja (k + s) = false)
      · rw [if_pos hc, Option.map_eq_some_iff] at s3
        obtain ⟨u, hu, rfl⟩ := s3
        have := (hk (k + s) (by omega) hc.1).2.2.1 u hu
        omega
      · rw [if_neg hc] at s3; cases s3
  · rw [upd_ne _ _ hkx, upd_ne _ _ hkx, upd_ne _ _ hkx]
    unfold updO
    rw [if_neg hkx]
    exact hk k (by omega) h2
theorem fewest2 {σ τ : SG} {w h y from_ to L : Nat} {F : Nat → Nat} {ja : Nat → Bool} (hB : LB σ τ w h F) (hy : y < h) (hft : from_ < to) (hto : to ≤ w) (hL : σ 13 (F (24 * y + from_)) = nI L ∧ τ 79 (F (24 * y + from_)) = nI (3 - L) ∧ 1 ≤ L ∧ L ≤ 3) (hj : ∀ k, k < 25 → σ 37 k = bI (ja k) ∧ τ 92 k = bI (ja k)) :
    ∃ A B C V, F_Layer_countFewest σ (nI from_) (nI to) (nI L) = some (sR σ 41 A) ∧ lpW (L_Ref_strip_12 (nI y) (nI from_) (nI to)) FU (nI to - 1, up τ 94 (ix (nI to)) 0) = some (w2 τ 94 95 B C) ∧ FR A B C V ja L to from_ := by
  obtain ⟨b1, b2, b3, b4, b5, b6, b7, b8, b9, b10⟩ := id hB
  have hto24 : to ≤ 24 := by omega
  have hll := lockS (f := L_Layer_countFewest_14 (nI from_) (nI to) (nI L)) (f' := L_Ref_strip_12 (nI y) (nI from_) (nI to))
    (Inv := fun k X X' => ∃ x A B C V, from_ ≤ x ∧ x ≤ to ∧ k = x - from_ ∧ X = (nI x - 1, sR σ 41 A) ∧ X' = (nI x - 1, w2 τ 94 95 B C) ∧ FR A B C V ja L to x)
    (Post := fun Y Y' => ∃ A B C V, Y = sR σ 41 A ∧ Y' = w2 τ 94 95 B C ∧ FR A B C V ja L to from_)
    (fun k X X' hI => by
      obtain ⟨x, A, B, C, V, h1, h2, h3, rfl, rfl, hfr⟩ := hI
      by_cases hx : x = from_
      · right
        subst hx
        refine ⟨_, _, ?_, ?_, A, B, C, V, rfl, rfl, hfr⟩
        · unfold L_Layer_countFewest_14
          dsimp only
          rw [if_pos ((m1_lt (by omega) (by omega)).mpr (Nat.le_refl x))]
        · unfold L_Ref_strip_12
          dsimp only
          rw [if_pos ((m1_lt (by omega) (by omega)).mpr (Nat.le_refl x))]
      · left
        obtain ⟨x, rfl⟩ : ∃ x', x = x' + 1 := ⟨x - 1, by omega⟩
        refine ⟨_, _, x - from_, by omega, ?_, ?_, x, _, _, _, _, by omega, by omega, rfl, rfl, rfl, FR_step (by omega) hL.2.2.2 hfr⟩
        · have hc := cnC (σ := sR σ 41 A) (x0 := nI x) hto24 hL.2.2.2 (show x < to by omega) (fun k hk => (hj k hk).1) (V := V) (fun k h1 h2 => by
            rw [sR_at]
            exact ⟨(hfr.2 k h1 h2).1, (hfr.2 k h1 h2).2.2.1⟩)
          unfold L_Layer_countFewest_14
          dsimp only
          rw [if_neg (fun h => by have := (m1_lt (by omega) (by omega)).mp h; omega), nI_pred, ob_of hc, ← Int32.sub_eq_add_neg, rs_nI (by omega) (by decide), up_sR, sR_at, sR_sR]
        · have hc := cnR (τ := w2 τ 94 95 B C) hto24 hL.2.2.2 (show x < to by omega) (fun k hk => (hj k hk).2) (V := V) (fun k h1 h2 => by
            rw [w2_p _ _ _ (by decide)]
            exact ⟨(hfr.2 k h1 h2).2.1, (hfr.2 k h1 h2).2.2.1⟩)
          have h77 : τ 77 (24 * y + from_) = nI (F (24 * y + from_)) := (b9 _ (by omega)).2.2
          have hF8 := (b9 (24 * y + from_) (by omega)).1
          unfold L_Ref_strip_12 nm
          dsimp only
          rw [if_neg (fun h => by have := (m1_lt (by omega) (by omega)).mp h; omega), nI_pred, vin_nI (show x < 25 by omega) (by decide), pl_nI', vin_nI (show 24 * y + from_ < 240 by omega) (by decide)]
          simp only [og_t]
          rw [ix_nI (show x < 2 ^ 31 by omega), ix_nI (show 24 * y + from_ < 2 ^ 31 by omega)]
          rw [show (up (up (w2 τ 94 95 B C) 94 x 999) 95 x 0) 77 (24 * y + from_) = nI (F (24 * y + from_)) from h77, vin_nI hF8 (by decide), ix_nI (by omega), show (up (up (w2 τ 94 95 B C) 94 x 999) 95 x 0) 79 (F (24 * y + from_)) = nI (3 - L) from hL.2.1, show (3 : Int32) - nI (3 - L) = nI L by rw [l3, pk_sub (by omega), show 3 - (3 - L) = L by omega]]
          simp only [og_t]
          rw [ob_of hc, ← Int32.sub_eq_add_neg, w2_p _ _ _ (by decide), w2_q]
          unfold w2
          rw [sR_comm (sR τ 94 B) C _ (by decide), sR_sR, sR_sR])
    (k := to - from_) (x := (nI to - 1, rs σ 41 25 (nI to) 0)) (x' := (nI to - 1, up τ 94 (ix (nI to)) 0))
    ⟨to, upd (σ 41) to 0, upd (τ 94) to 0, τ 95, fun k => if k = to then some 0 else none, by omega, Nat.le_refl _, rfl, by rw [rs_nI (by omega) (by decide)]; rfl, by
      rw [ix_nI (by omega)]
      unfold w2
      rw [show (τ 95) = (sR τ 94 (upd (τ 94) to 0)) 95 from rfl, sR_self]
      rfl, if_pos rfl, fun k h1 h2 => by
      have : k = to := by omega
      subst this
      rw [upd_at, upd_at]
      dsimp only
      rw [if_pos rfl]
      exact ⟨rfl, rfl, fun v hv => by cases hv; omega, fun h => by omega⟩⟩ (by omega)
  obtain ⟨Y, Y', g1, g2, A, B, C, V, rfl, rfl, hfr⟩ := hll
  refine ⟨A, B, C, V, ?_, g2, hfr⟩
  unfold F_Layer_countFewest
  rw [ob_of g1]
end
section
/-! lay: the widest of the fewest; a cube is put -/
theorem widC {σ : SG} {ja : Nat → Bool} {V : Nat → Option Nat} {to x L v : Nat} {B C : Nat → Int32} (hto : to ≤ 24) (hL : L ≤ 3) (hx : x < to) (hj : ∀ k, k < 25 → σ 37 k = bI (ja k)) (hfr : FR (σ 41) B C V ja L to x) (hv : V x = some v) : ∃ t u, 1 ≤ t ∧ t ≤ 3 ∧ x + t ≤ to ∧ C x = nI t ∧ V (x + t) = some u ∧ F_Layer_widestOfFewest σ (nI x) (nI to) (nI L) = some (nI t) := by
  obtain ⟨f1, f2, f3, f4⟩ := hfr.2 x (Nat.le_refl x) (by omega)
  obtain ⟨f5, f6⟩ := f4 hx
  have hv24 := f3 v hv
  rcases bs_spec (cand V ja to x) L L (Nat.le_refl L) with ⟨e, -⟩ | ⟨v', t, e, t1, t2, t3, t4⟩
  · rw [e, hv] at f5; cases f5
  · rw [e, hv] at f5
    cases f5
    rw [e] at f6
    have hcond : x + t ≤ to ∧ (x + t = to ∨ ja (x + t) = false) := by
      by_cases hc : x + t ≤ to ∧ (x + t = to ∨ ja (x + t) = false)
      · exact hc
      · unfold cand at t3; rw [if_neg hc] at t3; cases t3
    have h41x : rg σ 41 25 (nI x) = nI v := by rw [rg_nI (by omega) (by decide), f1, hv]; rfl
    unfold cand at t3
    rw [if_pos hcond, Option.map_eq_some_iff] at t3
    obtain ⟨u, hu, huv⟩ := t3
    subst huv
    refine ⟨t, u, by omega, by omega, hcond.1, f6, hu, ?_⟩
    have hsmall : ∀ s, 1 ≤ s → s ≤ L → mayE ja to (x + s) → (rg σ 41 25 (nI x + nI s) = rg σ 41 25 (nI x) - 1 ↔ cand V ja to x s = some (u + 1)) := by
      intro s hs1 hs2 hm
      rw [h41x, nI_pred, nI_add, rg_nI (by have := hm.1; omega) (by decide), (hfr.2 (x + s) (by omega) hm.1).1, show cand V ja to x s = (V (x + s)).map (· + 1) from if_pos hm]
      cases hV : V (x + s) with
      | none =>
        exact ⟨fun h => absurd h (by show ¬ nI 1000000 = nI u; rw [nI_eq (by decide) (by omega)]; omega), fun h => by cases h⟩
      | some c =>
        have := (hfr.2 (x + s) (by omega) hm.1).2.2.1 c hV
        show nI c = nI u ↔ some (c + 1) = some (u + 1)
        rw [nI_eq (by omega) (by omega), Option.some.injEq]
        omega
    by_cases ht1 : t = 1
    · have hl : lpW (L_Layer_widestOfFewest_3 σ (nI x) (nI to)) FU (nI L) = some (.inl ()) := by
        refine lpW_at (s := fun j => nI (L - j)) (L - 1) rfl ?_ ?_ (by omega)
        · intro j hj2
          obtain ⟨s, hs⟩ : ∃ s, s = L - j := ⟨_, rfl⟩
          rw [← hs, show L - (j + 1) = s - 1 by omega]
          unfold L_Layer_widestOfFewest_3
          rw [if_neg (show ¬ nI s ≤ 1 from nI_ge (a := 1) (by omega) (by omega)), ← Int32.sub_eq_add_neg, nI_sub1 (by omega)]
          by_cases hm : mayE ja to (x + s)
          · rw [if_pos (by rw [nI_add]; exact (mayC hto (by omega) hj).mpr hm), if_neg]
            rw [hsmall s (by omega) (by omega) hm]
            intro h
            have := (t4 s (u + 1) (by omega) (by omega) h).2 (by omega)
            omega
          · rw [if_neg (by rw [nI_add]; exact fun h => hm ((mayC hto (by omega) hj).mp h))]
        · rw [show L - (L - 1) = 1 by omega]
          unfold L_Layer_widestOfFewest_3
          rw [if_pos (by decide)]
      unfold F_Layer_widestOfFewest
      rw [ob_of hl, ht1]
      rfl
    · have hl : lpW (L_Layer_widestOfFewest_3 σ (nI x) (nI to)) FU (nI L) = some (.inr (nI t)) := by
        refine lpW_at (s := fun j => nI (L - j)) (L - t) rfl ?_ ?_ (by omega)
        · intro j hj2
          obtain ⟨s, hs⟩ : ∃ s, s = L - j := ⟨_, rfl⟩
          rw [← hs, show L - (j + 1) = s - 1 by omega]
          unfold L_Layer_widestOfFewest_3
          rw [if_neg (show ¬ nI s ≤ 1 from nI_ge (a := 1) (by omega) (by omega)), ← Int32.sub_eq_add_neg, nI_sub1 (by omega)]
          by_cases hm : mayE ja to (x + s)
          · rw [if_pos (by rw [nI_add]; exact (mayC hto (by omega) hj).mpr hm), if_neg]
            rw [hsmall s (by omega) (by omega) hm]
            intro h
            have := (t4 s (u + 1) (by omega) (by omega) h).2 (by omega)
            omega
          · rw [if_neg (by rw [nI_add]; exact fun h => hm ((mayC hto (by omega) hj).mp h))]
        · rw [show L - (L - t) = t by omega]
          unfold L_Layer_widestOfFewest_3
          rw [if_neg (show ¬ nI t ≤ 1 from nI_ge (a := 1) (by omega) (by omega)), if_pos (by rw [nI_add]; exact (mayC hto (by omega) hj).mpr hcond), if_pos]
          rw [hsmall t (by omega) (by omega) hcond]
          unfold cand
          rw [if_pos hcond, hu]
          rfl
      unfold F_Layer_widestOfFewest
      rw [ob_of hl]
      rfl
abbrev nC (p : Nat) : Prop := p ≠ 18 ∧ p ≠ 20 ∧ p ≠ 22 ∧ p ≠ 24 ∧ p ≠ 26 ∧ p ≠ 28 ∧ p ≠ 30 ∧ p ≠ 32 ∧ p ≠ 34
abbrev nR (p : Nat) : Prop := p ≠ 76 ∧ p ≠ 82 ∧ p ≠ 83 ∧ p ≠ 84 ∧ p ≠ 85 ∧ p ≠ 86 ∧ p ≠ 87
theorem up_ne (σ : SG) {q p : Nat} (k : Nat) (v : Int32) (h : p ≠ q) : up σ q k v p = σ p := if_neg h
theorem putC {σ : SG} {n y x s : Nat} {fl : Int32} (hn : σ 18 0 = nI n) (hn2 : n < 240) (hp : 24 * y + x + s ≤ 240) : ∃ σ', F_Cubes_put σ (nI y) (nI x) (nI s) fl = some σ' ∧ σ' 18 0 = nI (n + 1) ∧ σ' 20 = upd (σ 20) n (nI y) ∧ σ' 22 = upd (σ 22) n (nI x) ∧ σ' 24 = upd (σ 24) n (nI s) ∧ σ' 26 = upd (σ 26) n fl ∧ σ' 28 = upd (σ 28) n (-1) ∧ σ' 30 = upd (σ 30) n (-1) ∧ σ' 32 = upd (σ 32) n (-1) ∧ σ' 34 = (fun k => if 24 * y + x ≤ k ∧ k < 24 * y + x + s then nI n else σ 34 k) ∧ ∀ p, nC p → σ' p = σ p := by
  have step : ∀ (τ : SG) (p : Nat) (v : Int32), τ 18 0 = nI n → rs τ p 240 (τ 18 0) v = up τ p n v := fun τ p v h => by rw [h, rs_nI hn2 (by decide)]
  have keep : ∀ (τ : SG) (p : Nat) (v : Int32), τ 18 0 = nI n → p ≠ 18 → (up τ p n v) 18 0 = nI n := fun τ p v h hp => by rw [up_ne _ _ _ (Ne.symm hp)]; exact h
  have k1 := keep σ 20 (nI y) hn (by decide)
  have k2 := keep _ 22 (nI x) k1 (by decide)
  have k3 := keep _ 24 (nI s) k2 (by decide)
  have k4 := keep _ 26 fl k3 (by decide)
  have k5 := keep _ 28 (-1) k4 (by decide)
  have k6 := keep _ 30 (-1) k5 (by decide)
  have k7 := keep _ 32 (-1) k6 (by decide)
  unfold F_Cubes_put nm
  rw [step σ 20 (nI y) hn, step _ 22 (nI x) k1]
  try dsimp only
  rw [step _ 24 (nI s) k2, step _ 26 fl k3]
  try dsimp only
  rw [step _ 28 (-1) k4, step _ 30 (-1) k5]
  try dsimp only
  rw [step _ 32 (-1) k6]
  generalize hτ : up (up (up (up (up (up (up σ 20 n (nI y)) 22 n (nI x)) 24 n (nI s)) 26 n fl) 28 n (-1)) 30 n (-1)) 32 n (-1) = τ
  rw [hτ] at k7
  have hl : lpW (L_Cubes_put_88 (nI y) (nI x) (nI s)) FU (nI x, τ) = some (sR τ 34 (fun k => if 24 * y + x ≤ k ∧ k < 24 * y + x + s then nI n else τ 34 k)) := by
    refine lpW_at (s := fun j => (nI (x + j), sR τ 34 (fun k => if 24 * y + x ≤ k ∧ k < 24 * y + x + j then nI n else τ 34 k))) s ?_ ?_ ?_ (by omega)
    · rw [show (fun k => if 24 * y + x ≤ k ∧ k < 24 * y + x + 0 then nI n else τ 34 k) = τ 34 from funext fun k => if_neg (by omega), sR_self]
      rfl
    · intro j hj
      unfold L_Cubes_put_88 nm
      dsimp only
      rw [nI_add, if_neg (nI_ge (by omega) (by omega)), pl_nI, nI_1, rs_nI (show 24 * y + (x + j) < 240 by omega) (by decide), up_sR, sR_at, sR_sR, show (sR τ 34 (fun k => if 24 * y + x ≤ k ∧ k < 24 * y + x + j then nI n else τ 34 k)) 18 0 = nI n from k7]
      congr 3
      refine congrArg (sR τ 34) (funext fun k => ?_)
      unfold upd
      by_cases h1 : k = 24 * y + (x + j)
      · rw [if_pos h1, if_pos (by omega)]
      · rw [if_neg h1]
        dsimp only
        by_cases h2 : 24 * y + x ≤ k ∧ k < 24 * y + x + j
        · rw [if_pos h2, if_pos (by omega)]
        · rw [if_neg h2, if_neg (by omega)]
    · unfold L_Cubes_put_88
      dsimp only
      rw [nI_add, if_pos (nI_le (Nat.le_refl _) (by omega))]
  rw [ob_of hl]
  refine ⟨_, rfl, ?_, ?_, ?_, ?_, ?_, ?_, ?_, ?_, ?_, ?_⟩
  · show (sR τ 34 _) 18 0 + 1 = _
    rw [show ∀ g, (sR τ 34 g) 18 0 = nI n from fun _ => k7, nI_1]
  · rw [← hτ]; rfl
  · rw [← hτ]; rfl
  · rw [← hτ]; rfl
  · rw [← hτ]; rfl
  · rw [← hτ]; rfl
  · rw [← hτ]; rfl
  · rw [← hτ]; rfl
  · rw [← hτ]; rfl
  · rintro p ⟨h1, h2, h3, h4, h5, h6, h7, h8, h9⟩
    rw [up_ne _ _ _ h1, sR_ne _ _ h9, ← hτ, up_ne _ _ _ h8, up_ne _ _ _ h7, up_ne _ _ _ h6, up_ne _ _ _ h5, up_ne _ _ _ h4, up_ne _ _ _ h3, up_ne _ _ _ h2]
theorem putR {τ : SG} {n y x t to : Nat} {fl : Int32} (hn : τ 76 10 = nI n) (hn2 : n < 240) (hx : x < to) (hto : to ≤ 24) (hxt : x + t ≤ to) (hpl : 24 * y + x < 240) (h95 : τ 95 x = nI t) (h77 : τ 77 (24 * y + x) = fl) : ∃ τ', L_Ref_strip_163 (nI y) (nI to) (nI x, τ) = some (.inl (nI (x + t), if to ≤ x + t then τ' else up τ' 93 (x + t) 1)) ∧ τ' 76 = upd (τ 76) 10 (nI (n + 1)) ∧ τ' 82 = upd (τ 82) n (nI y) ∧ τ' 83 = upd (τ 83) n (nI x) ∧ τ' 84 = upd (τ 84) n (nI t) ∧ τ' 85 = upd (τ 85) n fl ∧ τ' 86 = upd (τ 86) n (-1) ∧ τ' 87 = upd (τ 87) n (-1) ∧ ∀ p, nR p → τ' p = τ p := by
  have hnn : ix (nI n) = n := ix_nI (by omega)
  have hxx : ix (nI x) = x := ix_nI (by omega)
  have hpp : ix (nI (24 * y + x)) = 24 * y + x := ix_nI (by omega)
  refine ⟨up (up (up (up (up (up (up τ 82 n (nI y)) 83 n (nI x)) 84 n (nI t)) 85 n fl) 86 n (-1)) 87 n (-1)) 76 10 (nI (n + 1)), ?_, rfl, rfl, rfl, rfl, rfl, rfl, rfl, ?_⟩
  · unfold L_Ref_strip_163 nm
    dsimp only
    rw [if_neg (nI_ge hx (by omega)), pl_nI']
    simp (disch := decide) only [up_ne, hn, hnn, hxx, hpp, h95, h77, vin_nI hn2 (by decide), vin_nI (show x < 25 by omega) (show 25 < 2 ^ 31 by decide), vin_nI hpl (by decide), og_t, nI_add, nI_1]
    by_cases h1 : to ≤ x + t
    · rw [if_pos (nI_le h1 (by omega)), if_pos h1]
    · rw [if_neg (nI_ge (by omega) (by omega)), if_neg h1, vin_nI (show x + t < 25 by omega) (by decide), og_t, ix_nI (show x + t < 2 ^ 31 by omega)]
  · rintro p ⟨h1, h2, h3, h4, h5, h6, h7⟩
    rw [up_ne _ _ _ h1, up_ne _ _ _ h7, up_ne _ _ _ h6, up_ne _ _ _ h5, up_ne _ _ _ h4, up_ne _ _ _ h3, up_ne _ _ _ h2]
end
section
/-! lay: class and reference side by side -/
def updN (f : Nat → Nat) (n v : Nat) : Nat → Nat := fun k => if k = n then v else f k
theorem updN_at (f : Nat → Nat) (n v : Nat) : updN f n v n = v := if_pos rfl
theorem updN_ne (f : Nat → Nat) {n k : Nat} (v : Nat) (h : k ≠ n) : updN f n v k = f k := if_neg h
/-- the cubes laid as far as border x of row y -/
def PCov (σ : SG) (w h n y x : Nat) (r l z f : Nat → Nat) : Prop :=
  (∀ i, i < n → (σ 20 i = nI (r i) ∧ σ 22 i = nI (l i) ∧ σ 24 i = nI (z i) ∧ σ 26 i = nI (f i) ∧ r i < h ∧ 1 ≤ z i ∧ z i ≤ 3 ∧ l i + z i ≤ w ∧ f i < 8 ∧ ∀ x, l i ≤ x → x < l i + z i → σ 3 (24 * r i + x) = nI (f i) ∧ σ 34 (24 * r i + x) = nI i) ∧ (r i < y ∨ (r i = y ∧ l i + z i ≤ x)) ∧ σ 28 i = -1 ∧ σ 30 i = -1 ∧ σ 32 i = -1) ∧
  (0 < n → r 0 = 0 ∧ l 0 = 0) ∧ (∀ i, i + 1 < n → (r (i + 1) = r i ∧ l (i + 1) = l i + z i) ∨ (r (i + 1) = r i + 1 ∧ l (i + 1) = 0 ∧ l i + z i = w)) ∧
  ((n = 0 ∧ y = 0 ∧ x = 0) ∨ (0 < n ∧ ((r (n - 1) = y ∧ l (n - 1) + z (n - 1) = x) ∨ (x = 0 ∧ r (n - 1) + 1 = y ∧ l (n - 1) + z (n - 1) = w)))) ∧ n ≤ w * y + x
theorem PCov_put {σ σ' : SG} {w h n y x t g : Nat} {r l z f : Nat → Nat} (hw : w ≤ 24) (H : PCov σ w h n y x r l z f) (hy : y < h) (ht1 : 1 ≤ t) (ht3 : t ≤ 3) (hxt : x + t ≤ w) (hg : g < 8) (hfl : ∀ k, x ≤ k → k < x + t → σ 3 (24 * y + k) = nI g)
    (h20 : σ' 20 = upd (σ 20) n (nI y)) (h22 : σ' 22 = upd (σ 22) n (nI x)) (h24 : σ' 24 = upd (σ 24) n (nI t)) (h26 : σ' 26 = upd (σ 26) n (nI g)) (h28 : σ' 28 = upd (σ 28) n (-1)) (h30 : σ' 30 = upd (σ 30) n (-1)) (h32 : σ' 32 = upd (σ 32) n (-1)) (h34 : σ' 34 = (fun k => if 24 * y + x ≤ k ∧ k < 24 * y + x + t then nI n else σ 34 k)) (h3 : σ' 3 = σ 3) :
    PCov σ' w h (n + 1) y (x + t) (updN r n y) (updN l n x) (updN z n t) (updN f n g) := by
  obtain ⟨a, b, c, d, e⟩ := H
  refine ⟨fun i hi => ?_, fun _ => ?_, fun i hi => ?_, Or.inr ⟨by omega, Or.inl ?_⟩, by omega⟩
  · rw [h20, h22, h24, h26, h28, h30, h32, h34, h3]
    by_cases hin : i = n
    · subst hin
      rw [upd_at, upd_at, upd_at, upd_at, upd_at, upd_at, upd_at, updN_at, updN_at, updN_at, updN_at]
      refine ⟨⟨rfl, rfl, rfl, rfl, hy, ht1, ht3, hxt, hg, fun k h1 h2 => ⟨hfl k h1 h2, if_pos (by omega)⟩⟩, Or.inr ⟨rfl, Nat.le_refl _⟩, rfl, rfl, rfl⟩
    · rw [upd_ne _ _ hin, upd_ne _ _ hin, upd_ne _ _ hin, upd_ne _ _ hin, upd_ne _ _ hin, upd_ne _ _ hin, upd_ne _ _ hin, updN_ne _ _ hin, updN_ne _ _ hin, updN_ne _ _ hin, updN_ne _ _ hin]
      obtain ⟨⟨a1, a2, a3, a4, a5, a6, a7, a8, a9, a10⟩, a11, a12⟩ := a i (by omega)
      refine ⟨⟨a1, a2, a3, a4, a5, a6, a7, a8, a9, fun k h1 h2 => ⟨(a10 k h1 h2).1, ?_⟩⟩, by omega, a12⟩
      dsimp only
      rw [if_neg (by omega)]
      exact (a10 k h1 h2).2
  · by_cases h0 : n = 0
    · subst h0
      rw [updN_at, updN_at]
      omega
    · rw [updN_ne _ _ (show 0 ≠ n by omega), updN_ne _ _ (show 0 ≠ n by omega)]
      exact b (by omega)
  · by_cases hin : i + 1 = n
    · rw [hin, updN_at, updN_at, updN_ne _ _ (show i ≠ n by omega), updN_ne _ _ (show i ≠ n by omega), updN_ne _ _ (show i ≠ n by omega)]
      rw [show n - 1 = i by omega] at d
      omega
    · rw [updN_ne _ _ (show i + 1 ≠ n by omega), updN_ne _ _ (show i + 1 ≠ n by omega), updN_ne _ _ (show i ≠ n by omega), updN_ne _ _ (show i ≠ n by omega), updN_ne _ _ (show i ≠ n by omega)]
      exact c i (by omega)
  · rw [Nat.add_sub_cancel, updN_at, updN_at, updN_at]
    exact ⟨rfl, rfl⟩
theorem PCov_row {σ : SG} {w h n y : Nat} {r l z f : Nat → Nat} (hw : 1 ≤ w) (H : PCov σ w h n y w r l z f) : PCov σ w h n (y + 1) 0 r l z f := by
  obtain ⟨a, b, c, d, e⟩ := H
  refine ⟨fun i hi => ?_, b, c, by omega, by rw [Nat.mul_succ]; omega⟩
  obtain ⟨a1, a2, a3⟩ := a i hi
  exact ⟨a1, by omega, a3⟩
theorem PCov_c {σ σ' : SG} {w h n y x : Nat} {r l z f : Nat → Nat} (hp : ∀ p, p = 3 ∨ p = 20 ∨ p = 22 ∨ p = 24 ∨ p = 26 ∨ p = 28 ∨ p = 30 ∨ p = 32 ∨ p = 34 → σ' p = σ p) (H : PCov σ w h n y x r l z f) : PCov σ' w h n y x r l z f := by
  unfold PCov at H ⊢
  rw [hp 3 (by decide), hp 20 (by decide), hp 22 (by decide), hp 24 (by decide), hp 26 (by decide), hp 28 (by decide), hp 30 (by decide), hp 32 (by decide), hp 34 (by decide)]
  exact H
abbrev nJ (p : Nat) : Prop := nC p ∧ p ≠ 37 ∧ p ≠ 39 ∧ p ≠ 41
abbrev nK (p : Nat) : Prop := nR p ∧ p ≠ 92 ∧ p ≠ 93 ∧ p ≠ 94 ∧ p ≠ 95
/-- nothing else has changed; the cubes' rows are the same -/
def LyW (σ0 τ0 σ τ : SG) : Prop := (∀ p, nJ p → σ p = σ0 p) ∧ (∀ p, nK p → τ p = τ0 p) ∧ (∀ k, k ≠ 10 → τ 76 k = τ0 76 k) ∧ (τ 82 = σ 20 ∧ τ 83 = σ 22 ∧ τ 84 = σ 24 ∧ τ 85 = σ 26 ∧ τ 86 = σ 28 ∧ τ 87 = σ 30)
def LyS (σ0 τ0 σ τ : SG) (w h y x n : Nat) (r l z f : Nat → Nat) (ja : Nat → Bool) : Prop := LyW σ0 τ0 σ τ ∧ σ 18 0 = nI n ∧ τ 76 10 = nI n ∧ PCov σ w h n y x r l z f ∧ (∀ k, k < 25 → ∃ b : Bool, σ 39 k = bI b ∧ τ 93 k = bI b) ∧ ∀ k, k < 25 → σ 37 k = bI (ja k) ∧ τ 92 k = bI (ja k)
theorem LB_w {σ0 τ0 σ τ : SG} {w h : Nat} {F : Nat → Nat} (hB : LB σ0 τ0 w h F) (hW : LyW σ0 τ0 σ τ) : LB σ τ w h F := by
  obtain ⟨a, b, c, -⟩ := hW
  unfold LB at hB ⊢
  rw [a 1 (by decide), a 3 (by decide), a 13 (by decide), b 77 (by decide), b 79 (by decide), c 0 (by decide), c 1 (by decide)]
  exact hB
theorem mx1 {t : Nat} (h1 : 1 ≤ t) (h2 : t < 1000) : mxI 1 (nI t) = nI t := by
  unfold mxI
  by_cases h : t = 1
  · subst h; rfl
  · rw [if_pos (show (1 : Int32) < nI t from nI_lt (a := 1) (by omega) (by omega))]
theorem puts2 {σ0 τ0 σ τ : SG} {w h y from_ to L n g : Nat} {F : Nat → Nat} {V : Nat → Option Nat} {r l z f : Nat → Nat} {ja : Nat → Bool} (hB : LB σ0 τ0 w h F) (hy : y < h) (hft : from_ ≤ to) (hto : to ≤ w) (hL : L ≤ 3) (hg : g < 8) (hfl : ∀ k, from_ ≤ k → k < to → F (24 * y + k) = g) (hfr : FR (σ 41) (τ 94) (τ 95) V ja L to from_) (hV : ∃ v, V from_ = some v) (hS : LyS σ0 τ0 σ τ w h y from_ n r l z f ja) :
    ∃ σ' τ', lpW (L_Layer_layStrip_54 (nI y) (nI to) (nI g) (nI L)) FU (nI from_, σ) = some σ' ∧ lpW (L_Ref_strip_163 (nI y) (nI to)) FU (nI from_, τ) = some τ' ∧ ∃ n r l z f, LyS σ0 τ0 σ' τ' w h y to n r l z f ja := by
  obtain ⟨b1, b2, b3, b4, b5, b6, b7, b8, b9, b10⟩ := id hB
  have hll := lockS (f := L_Layer_layStrip_54 (nI y) (nI to) (nI g) (nI L)) (f' := L_Ref_strip_163 (nI y) (nI to))
    (Inv := fun k X X' => ∃ x σ τ n r l z f, from_ ≤ x ∧ x ≤ to ∧ k = to - x ∧ X = (nI x, σ) ∧ X' = (nI x, τ) ∧ FR (σ 41) (τ 94) (τ 95) V ja L to from_ ∧ (∃ v, V x = some v) ∧ LyS σ0 τ0 σ τ w h y x n r l z f ja)
    (Post := fun Y Y' => ∃ n r l z f, LyS σ0 τ0 Y Y' w h y to n r l z f ja)
    (fun k X X' hI => by
      obtain ⟨x, σ, τ, n, r, l, z, f, h1, h2, h3, rfl, rfl, hfr, ⟨v, hv⟩, hS⟩ := hI
      by_cases hx : x = to
      · right
        subst hx
        refine ⟨σ, τ, ?_, ?_, n, r, l, z, f, hS⟩
        · unfold L_Layer_layStrip_54
          dsimp only
          rw [if_pos (nI_le (Nat.le_refl _) (by omega))]
        · unfold L_Ref_strip_163
          dsimp only
          rw [if_pos (nI_le (Nat.le_refl _) (by omega))]
      · left
        obtain ⟨hW, s18, s76, hP, h39, h37⟩ := hS
        have hfrx : FR (σ 41) (τ 94) (τ 95) V ja L to x := ⟨hfr.1, fun k h1 h2 => hfr.2 k (by omega) h2⟩
        obtain ⟨t, u, t1, t3, t4, t5, t6, t7⟩ := widC (by omega) hL (show x < to by omega) (fun k hk => (h37 k hk).1) hfrx hv
        have hwy : w * y + w ≤ w * h := by
          rw [← Nat.mul_succ]; exact Nat.mul_le_mul_left w (by omega)
        have hwh : w * h ≤ 240 := by
          have := Nat.mul_le_mul b6 b8
          omega
        have hn240 : n < 240 := by have := hP.2.2.2.2; omega
        have hxw : 24 * y + x < 240 := by omega
        obtain ⟨hWa, hWb, hWc, hWd⟩ := id hW
        have hf3 : ∀ k, x ≤ k → k < to → σ 3 (24 * y + k) = nI g := fun k a b => by
          rw [hWa 3 (by decide), (b9 _ (by omega)).2.1, hfl k (by omega) b]
        obtain ⟨σ', p1, p2, p3, p4, p5, p6, p7, p8, p9, p10, p11⟩ := putC (fl := nI g) (s := t) s18 hn240 (show 24 * y + x + t ≤ 240 by omega)
        have h77 : τ 77 (24 * y + x) = nI g := by rw [hWb 77 (by decide), (b9 _ (by omega)).2.2, hfl x (by omega) (by omega)]
        obtain ⟨τ', q1, q2, q3, q4, q5, q6, q7, q8, q9⟩ := putR s76 hn240 (show x < to by omega) (by omega) t4 hxw t5 h77
        obtain ⟨d1, d2, d3, d4, d5, d6⟩ := hWd
        have hstep : ∃ σ2, L_Layer_layStrip_54 (nI y) (nI to) (nI g) (nI L) (nI x, σ) = some (.inl (nI (x + t), σ2)) ∧ σ2 = if to ≤ x + t then σ' else up σ' 39 (x + t) 1 := by
          unfold L_Layer_layStrip_54
          dsimp only
          rw [if_neg (nI_ge (by omega) (by omega)), ob_of t7, mx1 t1 (by omega), ob_of p1, nI_add]
          by_cases hc : to ≤ x + t
          · rw [if_pos (nI_le hc (by omega))]
            exact ⟨_, rfl, (if_pos hc).symm⟩
          · rw [if_neg (nI_ge (by omega) (by omega)), rs_nI (by omega) (by decide)]
            exact ⟨_, rfl, (if_neg hc).symm⟩
        obtain ⟨σ2, g1, g2⟩ := hstep
        generalize hτ2 : (if to ≤ x + t then τ' else up τ' 93 (x + t) 1) = τ2 at q1
        have s2 : ∀ p, p ≠ 39 → σ2 p = σ' p := fun p hp => by
          rw [g2]; by_cases hc : to ≤ x + t
          · rw [if_pos hc]
          · rw [if_neg hc, up_ne _ _ _ hp]
        have r2 : ∀ p, p ≠ 93 → τ2 p = τ' p := fun p hp => by
          rw [← hτ2]; by_cases hc : to ≤ x + t
          · rw [if_pos hc]
          · rw [if_neg hc, up_ne _ _ _ hp]
        have hj39 : ∀ k, k < 25 → ∃ b : Bool, σ2 39 k = bI b ∧ τ2 93 k = bI b := fun k hk => by
          rw [g2, ← hτ2]
          by_cases hc : to ≤ x + t
          · rw [if_pos hc, if_pos hc, p11 39 (by decide), q9 93 (by decide)]
            exact h39 k hk
          · rw [if_neg hc, if_neg hc, up_sR, up_sR, sR_at, sR_at, p11 39 (by decide), q9 93 (by decide)]
            by_cases hkx : k = x + t
            · rw [hkx, upd_at, upd_at]
              exact ⟨true, rfl, rfl⟩
            · rw [upd_ne _ _ hkx, upd_ne _ _ hkx]
              exact h39 k hk
        refine ⟨(nI (x + t), σ2), (nI (x + t), τ2), to - (x + t), by omega, g1, q1, x + t, σ2, τ2, n + 1, updN r n y, updN l n x, updN z n t, updN f n g, by omega, t4, rfl, rfl, rfl, ?_, ⟨u, t6⟩, ⟨fun p hp => ?_, fun p hp => ?_, fun k hk => ?_, ?_⟩, ?_, ?_, ?_, hj39, ?_⟩
        · rw [s2 41 (by decide), p11 41 (by decide), r2 94 (by decide), r2 95 (by decide), q9 94 (by decide), q9 95 (by decide)]
          exact hfr
        · rw [s2 p hp.2.2.1, p11 p hp.1, hWa p hp]
        · rw [r2 p hp.2.2.1, q9 p hp.1, hWb p hp]
        · rw [r2 76 (by decide), q2, upd_ne _ _ hk, hWc k hk]
        · rw [r2 82 (by decide), r2 83 (by decide), r2 84 (by decide), r2 85 (by decide), r2 86 (by decide), r2 87 (by decide), s2 20 (by decide), s2 22 (by decide), s2 24 (by decide), s2 26 (by decide), s2 28 (by decide), s2 30 (by decide), p3, p4, p5, p6, p7, p8, q3, q4, q5, q6, q7, q8, d1, d2, d3, d4, d5, d6]
          exact ⟨rfl, rfl, rfl, rfl, rfl, rfl⟩
        · rw [s2 18 (by decide)]; exact p2
        · rw [r2 76 (by decide), q2, upd_at]
        · refine PCov_put b6 hP hy t1 t3 (by omega) hg (fun k a b => hf3 k a (by omega)) ?_ ?_ ?_ ?_ ?_ ?_ ?_ ?_ ?_
          · rw [s2 20 (by decide)]; exact p3
          · rw [s2 22 (by decide)]; exact p4
          · rw [s2 24 (by decide)]; exact p5
          · rw [s2 26 (by decide)]; exact p6
          · rw [s2 28 (by decide)]; exact p7
          · rw [s2 30 (by decide)]; exact p8
          · rw [s2 32 (by decide)]; exact p9
          · rw [s2 34 (by decide)]; exact p10
          · rw [s2 3 (by decide)]; exact p11 3 (by decide)
        · rw [s2 37 (by decide), p11 37 (by decide), r2 92 (by decide), q9 92 (by decide)]
          exact h37)
    (k := to - from_) (x := (nI from_, σ)) (x' := (nI from_, τ))
    ⟨from_, σ, τ, n, r, l, z, f, Nat.le_refl _, hft, rfl, rfl, rfl, hfr, hV, hS⟩ (by omega)
  obtain ⟨Y, Y', g1, g2, g3⟩ := hll
  exact ⟨Y, Y', g1, g2, g3⟩
theorem LyS_bound {σ0 τ0 σ τ : SG} {w h y x n : Nat} {F r l z f : Nat → Nat} {ja : Nat → Bool} (hB : LB σ0 τ0 w h F) (hS : LyS σ0 τ0 σ τ w h y x n r l z f ja) : LB σ τ w h F := LB_w hB hS.1
theorem strip2 {σ0 τ0 σ τ : SG} {w h y x e n : Nat} {F r l z f : Nat → Nat} {ja : Nat → Bool} (hB : LB σ0 τ0 w h F) (hy : y < h) (hx : x < w) (he : SE F w y x e) (hS : LyS σ0 τ0 σ τ w h y x n r l z f ja) :
    (∃ σ' τ', F_Layer_layStrip σ (nI y) (nI x) (nI e) = some (true, σ') ∧ F_Ref_strip τ (nI y) (nI x) (nI e) = some (true, τ') ∧ ∃ n r l z f, LyS σ0 τ0 σ' τ' w h y e n r l z f ja) ∨
    (∃ σ' τ', F_Layer_layStrip σ (nI y) (nI x) (nI e) = some (false, σ') ∧ F_Ref_strip τ (nI y) (nI x) (nI e) = some (false, τ') ∧ LyW σ0 τ0 σ' τ') := by
  obtain ⟨b1, b2, b3, b4, b5, b6, b7, b8, b9, b10⟩ := id hB
  have hB' := LyS_bound hB hS
  obtain ⟨e1, e2, e3, e4⟩ := id he
  obtain ⟨hg8, h3, h77⟩ := hB'.2.2.2.2.2.2.2.2.1 (24 * y + x) (by omega)
  obtain ⟨L, hL1, hL3, hL, hL'⟩ := hB'.2.2.2.2.2.2.2.2.2 (F (24 * y + x)) hg8
  obtain ⟨A, B, C, V, c1, c2, hfr⟩ := fewest2 hB' hy e1 e2 ⟨hL, hL', hL1, hL3⟩ (fun k hk => hS.2.2.2.2.2 k hk)
  have hfa : F_Drawing_fieldAt σ (nI x) (nI y) = nI (F (24 * y + x)) := by rw [fAt (by omega)]; exact h3
  have hlen : rg σ 13 8 (nI (F (24 * y + x))) = nI L := by rw [rg_nI hg8 (by decide)]; exact hL
  obtain ⟨f1, f2, f3, f4⟩ := hfr.2 x (Nat.le_refl x) (by omega)
  have hc41 : rg (sR σ 41 A) 41 25 (nI x) = encC (V x) := by rw [rg_nI (by omega) (by decide), sR_at]; exact f1
  have hr94 : (w2 τ 94 95 B C) 94 x = encR (V x) := by rw [w2_p _ _ _ (by decide)]; exact f2
  have hS' : LyS σ0 τ0 (sR σ 41 A) (w2 τ 94 95 B C) w h y x n r l z f ja := by
    obtain ⟨⟨a1, a2, a3, a4⟩, a5, a6, a7, a8, a9⟩ := hS
    refine ⟨⟨fun p hp => ?_, fun p hp => ?_, a3, a4⟩, a5, a6, PCov_c (fun p hp => by rcases hp with rfl | rfl | rfl | rfl | rfl | rfl | rfl | rfl | rfl <;> rfl) a7, a8, a9⟩
    · rw [sR_ne _ _ hp.2.2.2]; exact a1 p hp
    · rw [w2_o _ _ _ hp.2.2.2.1 hp.2.2.2.2]; exact a2 p hp
  have hC : F_Layer_layStrip σ (nI y) (nI x) (nI e) = if rg (sR σ 41 A) 41 25 (nI x) < 1000000 then ob (lpW (L_Layer_layStrip_54 (nI y) (nI e) (nI (F (24 * y + x))) (nI L)) FU (nI x, sR σ 41 A)) (fun y3 => some (true, y3)) else some (false, sR σ 41 A) := by
    unfold F_Layer_layStrip
    rw [hfa, hlen, ob_of c1]
  have hR : F_Ref_strip τ (nI y) (nI x) (nI e) = if (w2 τ 94 95 B C) 94 x < 999 then ob (lpW (L_Ref_strip_163 (nI y) (nI e)) FU (nI x, w2 τ 94 95 B C)) (fun y31 => some (true, y31)) else some (false, w2 τ 94 95 B C) := by
    unfold F_Ref_strip
    rw [vin_nI (show e < 25 by omega) (by decide), og_t, ob_of c2, vin_nI (show x < 25 by omega) (by decide), og_t, ix_nI (show x < 2 ^ 31 by omega)]
  rw [hC, hR]
  cases hV : V x with
  | none =>
    right
    refine ⟨sR σ 41 A, w2 τ 94 95 B C, ?_, ?_, hS'.1⟩
    · rw [if_neg (show ¬ rg (sR σ 41 A) 41 25 (nI x) < 1000000 by rw [hc41, hV]; decide)]
    · rw [if_neg (show ¬ (w2 τ 94 95 B C) 94 x < 999 by rw [hr94, hV]; decide)]
  | some v =>
    left
    have hv := f3 v hV
    obtain ⟨σ', τ', g1, g2, g3⟩ := puts2 hB hy (Nat.le_of_lt e1) e2 hL3 hg8 e3 (by rw [sR_at, w2_p _ _ _ (by decide), w2_q]; exact hfr) ⟨v, hV⟩ hS'
    refine ⟨σ', τ', ?_, ?_, g3⟩
    · rw [if_pos (show rg (sR σ 41 A) 41 25 (nI x) < 1000000 by rw [hc41, hV]; exact nI_lt (b := 1000000) (by omega) (by decide)), ob_of g1]
    · rw [if_pos (show (w2 τ 94 95 B C) 94 x < 999 by rw [hr94, hV]; exact nI_lt (b := 999) (by omega) (by decide)), ob_of g2]
/-- how a row ends -/
def rowP (σ0 τ0 : SG) (w h y : Nat) (ja : Nat → Bool) (Y : SG ⊕ (Int32 × SG)) (Y' : SG ⊕ (Int32 × SG)) : Prop :=
  (∃ σ τ n r l z f, Y = .inl σ ∧ Y' = .inl τ ∧ LyS σ0 τ0 σ τ w h y w n r l z f ja) ∨
  ∃ p σ τ, p < 240 ∧ Y = .inr (nI p, σ) ∧ Y' = .inr ((-1000) - nI p, F_Ref_goes τ) ∧ LyW σ0 τ0 σ τ
theorem row2 {σ0 τ0 σ τ : SG} {w h y n : Nat} {F r l z f : Nat → Nat} {ja : Nat → Bool} (hB : LB σ0 τ0 w h F) (hy : y < h) (hS : LyS σ0 τ0 σ τ w h y 0 n r l z f ja) :
    ∃ Y Y', lpW (L_Layer_layRows_42 (nI y)) FU (0, σ) = some Y ∧ lpW (L_Ref_lay_58 (nI y)) FU (0, τ) = some Y' ∧ rowP σ0 τ0 w h y ja Y Y' := by
  obtain ⟨b1, b2, b3, b4, b5, b6, b7, b8, b9, b10⟩ := id hB
  exact lockS (f := L_Layer_layRows_42 (nI y)) (f' := L_Ref_lay_58 (nI y))
    (Inv := fun k X X' => ∃ x σ τ n r l z f, x ≤ w ∧ k = w - x ∧ X = (nI x, σ) ∧ X' = (nI x, τ) ∧ LyS σ0 τ0 σ τ w h y x n r l z f ja)
    (Post := rowP σ0 τ0 w h y ja)
    (fun k X X' hI => by
      obtain ⟨x, σ, τ, n, r, l, z, f, h1, h2, rfl, rfl, hS⟩ := hI
      have hB' := LyS_bound hB hS
      by_cases hx : x = w
      · right
        subst hx
        refine ⟨.inl σ, .inl τ, ?_, ?_, Or.inl ⟨σ, τ, n, r, l, z, f, rfl, rfl, hS⟩⟩
        · unfold L_Layer_layRows_42
          dsimp only
          rw [if_pos (show σ 1 0 ≤ nI x by rw [hB'.1]; exact nI_le (Nat.le_refl _) (by omega))]
        · unfold L_Ref_lay_58
          dsimp only
          rw [if_pos (show τ 76 0 ≤ nI x by rw [hB'.2.2.1]; exact nI_le (Nat.le_refl _) (by omega))]
      · have hxw : x < w := by omega
        obtain ⟨e, he⟩ := SE_ex F (y := y) hxw
        have hc1 : ¬ σ 1 0 ≤ nI x := by rw [hB'.1]; exact nI_ge (by omega) (by omega)
        have hc2 : ¬ τ 76 0 ≤ nI x := by rw [hB'.2.2.1]; exact nI_ge (by omega) (by omega)
        have hse := seC hB' hy hxw he
        have hse2 := seR (x0 := nI x) hB' hy hxw he
        obtain ⟨e1, e2, -, -⟩ := id he
        rcases strip2 hB hy hxw he hS with ⟨σ', τ', g1, g2, n', r', l', z', f', hS'⟩ | ⟨σ', τ', g1, g2, hW⟩
        · left
          refine ⟨(nI e, σ'), (nI e, τ'), w - e, by omega, ?_, ?_, e, σ', τ', n', r', l', z', f', e2, rfl, rfl, rfl, hS'⟩
          · unfold L_Layer_layRows_42
            dsimp only
            rw [if_neg hc1, ob_of hse, ob_of g1, if_pos rfl, ob_of (seC (LyS_bound hB hS') hy hxw he)]
            unfold mxI
            rw [nI_1]
            by_cases hxe : x + 1 = e
            · rw [hxe, if_neg (nI_nlt (Nat.le_refl e) (by omega))]
            · rw [if_pos (nI_lt (by omega) (by omega))]
          · unfold L_Ref_lay_58
            dsimp only
            rw [if_neg hc2, ob_of hse2, ob_of g2, if_pos rfl]
        · right
          refine ⟨.inr (nI (24 * y + x), σ'), .inr ((-1000) - nI (24 * y + x), F_Ref_goes τ'), ?_, ?_, Or.inr ⟨24 * y + x, σ', τ', by omega, rfl, rfl, hW⟩⟩
          · unfold L_Layer_layRows_42
            dsimp only
            rw [if_neg hc1, ob_of hse, ob_of g1, if_neg (show ¬ false = true from Bool.false_ne_true), pl_nI]
          · unfold L_Ref_lay_58
            dsimp only
            have hh : ∀ a b : Int32, (-1000) - 24 * a - b = (-1000) - (24 * a + b) := by intro a b; grind
            rw [if_neg hc2, ob_of hse2, ob_of g2, if_neg (show ¬ false = true from Bool.false_ne_true), hh, pl_nI'])
    (k := w) (x := (0, σ)) (x' := (0, τ)) ⟨0, σ, τ, n, r, l, z, f, Nat.zero_le _, rfl, rfl, rfl, hS⟩ (by omega)
/-- between two rows -/
def LyR (σ0 τ0 σ τ : SG) (w h y n : Nat) (r l z f : Nat → Nat) : Prop := LyW σ0 τ0 σ τ ∧ σ 18 0 = nI n ∧ τ 76 10 = nI n ∧ PCov σ w h n y 0 r l z f ∧ ∀ k, k < 25 → ∃ b : Bool, σ 39 k = bI b ∧ τ 92 k = bI b
def rowsP (σ0 τ0 : SG) (w h : Nat) (Y : SG ⊕ (Int32 × SG)) (Y' : SG ⊕ (Int32 × SG)) : Prop :=
  (∃ σ τ n r l z f, Y = .inl σ ∧ Y' = .inl τ ∧ LyR σ0 τ0 σ τ w h h n r l z f) ∨
  ∃ p σ τ, p < 240 ∧ Y = .inr (nI p, σ) ∧ Y' = .inr ((-1000) - nI p, F_Ref_goes τ) ∧ LyW σ0 τ0 σ τ
theorem LyR_in {σ0 τ0 σ τ : SG} {w h y n : Nat} {r l z f : Nat → Nat} (hR : LyR σ0 τ0 σ τ w h y n r l z f) : ∃ ja, LyS σ0 τ0 (rf (rc σ 37 25 39 25) 39 25 0) (sR τ 93 (rowF (fun _ => 0) (τ 93) 25)) w h y 0 n r l z f ja := by
  obtain ⟨⟨a1, a2, a3, a4⟩, a5, a6, a7, a8⟩ := hR
  refine ⟨fun k => decide (σ 39 k = 1), ⟨fun p hp => ?_, fun p hp => ?_, a3, a4⟩, a5, a6, PCov_c (fun p hp => by rcases hp with rfl | rfl | rfl | rfl | rfl | rfl | rfl | rfl | rfl <;> rfl) a7, fun k hk => ⟨false, ?_, ?_⟩, fun k hk => ?_⟩
  · rw [rf_sR, sR_ne _ _ hp.2.2.1, rc_sR, sR_ne _ _ hp.2.1]; exact a1 p hp
  · rw [sR_ne _ _ hp.2.2.1]; exact a2 p hp
  · rw [rf_sR, sR_at]
    exact if_pos hk
  · rw [sR_at, rowF_lt hk]; rfl
  · obtain ⟨b, hb, hb'⟩ := a8 k hk
    refine ⟨?_, ?_⟩
    · rw [rf_sR, sR_ne _ _ (by decide), rc_sR, sR_at]
      dsimp only
      rw [if_pos hk, rg_nI hk (by decide), hb, bI_eq1]
    · show τ 92 k = bI (decide (σ 39 k = 1))
      rw [hb', hb, bI_eq1]
theorem LyS_out {σ0 τ0 σ τ : SG} {w h y n : Nat} {r l z f : Nat → Nat} {ja : Nat → Bool} (hw : 1 ≤ w) (hS : LyS σ0 τ0 σ τ w h y w n r l z f ja) : LyR σ0 τ0 σ (sR τ 92 (rowF (τ 93) (τ 92) 25)) w h (y + 1) n r l z f := by
  obtain ⟨⟨a1, a2, a3, a4⟩, a5, a6, a7, a8, -⟩ := hS
  refine ⟨⟨a1, fun p hp => ?_, a3, a4⟩, a5, a6, PCov_row hw a7, fun k hk => ?_⟩
  · rw [sR_ne _ _ hp.2.1]; exact a2 p hp
  · rw [sR_at, rowF_lt hk]; exact a8 k hk
theorem rows2 {σ0 τ0 σ τ : SG} {w h n : Nat} {F r l z f : Nat → Nat} (hB : LB σ0 τ0 w h F) (hS : LyR σ0 τ0 σ τ w h 0 n r l z f) :
    ∃ Y Y', lpW L_Layer_layRows_10 FU (0, σ) = some Y ∧ lpW L_Ref_lay_27 FU (0, τ) = some Y' ∧ rowsP σ0 τ0 w h Y Y' := by
  obtain ⟨b1, b2, b3, b4, b5, b6, b7, b8, b9, b10⟩ := id hB
  exact lockS (f := L_Layer_layRows_10) (f' := L_Ref_lay_27)
    (Inv := fun k X X' => ∃ y σ τ n r l z f, y ≤ h ∧ k = h - y ∧ X = (nI y, σ) ∧ X' = (nI y, τ) ∧ LyR σ0 τ0 σ τ w h y n r l z f)
    (Post := rowsP σ0 τ0 w h)
    (fun k X X' hI => by
      obtain ⟨y, σ, τ, n, r, l, z, f, h1, h2, rfl, rfl, hR⟩ := hI
      have hB' := LB_w hB hR.1
      by_cases hy : y = h
      · right
        subst hy
        refine ⟨.inl σ, .inl τ, ?_, ?_, Or.inl ⟨σ, τ, n, r, l, z, f, rfl, rfl, hR⟩⟩
        · unfold L_Layer_layRows_10
          dsimp only
          rw [if_pos (show σ 1 1 ≤ nI y by rw [hB'.2.1]; exact nI_le (Nat.le_refl _) (by omega))]
        · unfold L_Ref_lay_27
          dsimp only
          rw [if_pos (show τ 76 1 ≤ nI y by rw [hB'.2.2.2.1]; exact nI_le (Nat.le_refl _) (by omega))]
      · have hyh : y < h := by omega
        have hc1 : ¬ σ 1 1 ≤ nI y := by rw [hB'.2.1]; exact nI_ge (by omega) (by omega)
        have hc2 : ¬ τ 76 1 ≤ nI y := by rw [hB'.2.2.2.1]; exact nI_ge (by omega) (by omega)
        obtain ⟨ja, hS⟩ := LyR_in hR
        obtain ⟨Y, Y', g1, g2, g3⟩ := row2 hB hyh hS
        rcases g3 with ⟨σ', τ', n', r', l', z', f', rfl, rfl, hS'⟩ | ⟨p, σ', τ', hp, rfl, rfl, hW⟩
        · left
          refine ⟨(nI (y + 1), σ'), (nI (y + 1), sR τ' 92 (rowF (τ' 93) (τ' 92) 25)), h - (y + 1), by omega, ?_, ?_, y + 1, _, _, n', r', l', z', f', by omega, rfl, rfl, rfl, LyS_out b5 hS'⟩
          · unfold L_Layer_layRows_10
            dsimp only
            rw [if_neg hc1, ob_of g1, Sum.elim_inl, nI_1]
          · unfold L_Ref_lay_27
            dsimp only
            rw [if_neg hc2, ob_of lay37, ob_of g2, Sum.elim_inl, ob_of (lay139 (fun k hk => by obtain ⟨b, -, hb⟩ := hS'.2.2.2.2.1 k hk; exact ⟨b, hb⟩)), nI_1]
        · right
          refine ⟨_, _, ?_, ?_, Or.inr ⟨p, σ', τ', hp, rfl, rfl, hW⟩⟩
          · unfold L_Layer_layRows_10
            dsimp only
            rw [if_neg hc1, ob_of g1, Sum.elim_inr]
          · unfold L_Ref_lay_27
            dsimp only
            rw [if_neg hc2, ob_of lay37, ob_of g2, Sum.elim_inr])
    (k := h) (x := (0, σ)) (x' := (0, τ)) ⟨0, σ, τ, n, r, l, z, f, Nat.zero_le _, rfl, rfl, rfl, hS⟩ (by omega)
theorem goes_o (σ : SG) {p : Nat} (h : p ≠ 76) : F_Ref_goes σ p = σ p := by
  show (up (up (up (up (up σ 76 7 0) 76 8 0) 76 9 0) 76 10 0) 76 17 0) p = σ p
  rw [up_ne _ _ _ h, up_ne _ _ _ h, up_ne _ _ _ h, up_ne _ _ _ h, up_ne _ _ _ h]
theorem goes76 (σ : SG) (k : Nat) : F_Ref_goes σ 76 k = if k = 7 ∨ k = 8 ∨ k = 9 ∨ k = 10 ∨ k = 17 then 0 else σ 76 k := by
  by_cases h : k = 7 ∨ k = 8 ∨ k = 9 ∨ k = 10 ∨ k = 17
  · rw [if_pos h]
    rcases h with rfl | rfl | rfl | rfl | rfl <;> rfl
  · rw [if_neg h]
    show upd (upd (upd (upd (upd (σ 76) 7 0) 8 0) 9 0) 10 0) 17 0 k = _
    rw [upd_ne _ _ (by omega), upd_ne _ _ (by omega), upd_ne _ _ (by omega), upd_ne _ _ (by omega), upd_ne _ _ (by omega)]
theorem lay2 {σ τ : SG} {w h : Nat} (hD : RD σ w h) (hF : RF σ) (hE : σ 82 = σ 20 ∧ σ 83 = σ 22 ∧ σ 84 = σ 24 ∧ σ 85 = σ 26 ∧ σ 86 = σ 28 ∧ σ 87 = σ 30) (hτ : ∀ p, 76 ≤ p → τ p = σ p) :
    ∃ Y Y', lpW L_Layer_layRows_10 FU (0, rf (F_Shop_takeDown σ) 39 25 0) = some Y ∧ lpW L_Ref_lay_27 FU (0, sR (F_Ref_goes τ) 92 (rowF (fun _ => 0) ((F_Ref_goes τ) 92) 25)) = some Y' ∧ rowsP (rf (F_Shop_takeDown σ) 39 25 0) (sR (F_Ref_goes τ) 92 (rowF (fun _ => 0) ((F_Ref_goes τ) 92) 25)) w h Y Y' := by
  obtain ⟨d1, d2, d3, d4, d5, d6, d7, d8, d9, d10⟩ := hD
  obtain ⟨e1, e2, e3, e4, e5, e6⟩ := hE
  have t76 : τ 76 = σ 76 := hτ 76 (by decide)
  refine rows2 (F := fun k => ix (σ 3 k)) (n := 0) (r := fun _ => 0) (l := fun _ => 0) (z := fun _ => 0) (f := fun _ => 0) ⟨d1, d2, ?_, ?_, d5, d6, d7, d8, fun k hk => ?_, fun f hf => ?_⟩ ⟨⟨fun _ _ => rfl, fun _ _ => rfl, fun _ _ => rfl, ?_⟩, rfl, rfl, ⟨fun i hi => by omega, fun hi => by omega, fun i hi => by omega, Or.inl ⟨rfl, rfl, rfl⟩, by omega⟩, fun k hk => ⟨false, ?_, ?_⟩⟩
  · rw [← d3, ← t76]; rfl
  · rw [← d4, ← t76]; rfl
  · obtain ⟨f, hf, hk2⟩ := d10 k hk
    have hix : ix (σ 3 k) = f := by rw [hk2, ix_nI (by omega)]
    refine ⟨by show ix (σ 3 k) < 8; rw [hix]; exact hf, by show σ 3 k = nI (ix (σ 3 k)); rw [hix]; exact hk2, ?_⟩
    show τ 77 k = nI (ix (σ 3 k))
    rw [hix, hτ 77 (by decide), d9, hk2]
  · obtain ⟨-, ⟨g, g1, g2, g3, g4⟩, -⟩ := hF.2.2 f hf
    refine ⟨g, g1, g2, g3, ?_⟩
    show τ 79 f = _
    rw [hτ 79 (by decide)]
    exact g4
  · show τ 82 = σ 20 ∧ τ 83 = σ 22 ∧ τ 84 = σ 24 ∧ τ 85 = σ 26 ∧ τ 86 = σ 28 ∧ τ 87 = σ 30
    rw [hτ 82 (by decide), hτ 83 (by decide), hτ 84 (by decide), hτ 85 (by decide), hτ 86 (by decide), hτ 87 (by decide)]
    exact ⟨e1, e2, e3, e4, e5, e6⟩
  · rw [rf_sR, sR_at]
    exact if_pos hk
  · rw [sR_at, rowF_lt hk]; rfl
theorem op_lay {σ : SG} (hR : R σ) : ∃ r σ1 σ2, F_Shop_lay σ = some (r, σ1) ∧ F_Ref_lay σ1 = some (r, σ2) ∧ R σ2 := by
  obtain ⟨w, h, m, q, n, S, pt, hD, hF, hL, hH, hC⟩ := id hR
  have hE := hC.2.2.2.1
  obtain ⟨Y, Y0, g1, g0, g3⟩ := lay2 (τ := σ) hD hF hE (fun _ _ => rfl)
  have hbase : ∀ p, p ≠ 18 → p ≠ 52 → p ≠ 57 → p ≠ 39 → (rf (F_Shop_takeDown σ) 39 25 0) p = σ p := fun p h1 h2 h3 h4 => by
    rw [rf_sR, sR_ne _ _ h4]
    unfold F_Shop_takeDown F_Cubes_clear
    rw [up_ne _ _ _ h3, up_ne _ _ _ h2, up_ne _ _ _ h1]
  have hb52 : (rf (F_Shop_takeDown σ) 39 25 0) 52 0 = 0 := rfl
  have hb57 : (rf (F_Shop_takeDown σ) 39 25 0) 57 0 = 0 := rfl
  -- the reference from a state whose own cells are as before
  have rbase : ∀ σ1 : SG, ∀ p, p ≠ 76 → p ≠ 92 → (sR (F_Ref_goes σ1) 92 (rowF (fun _ => 0) ((F_Ref_goes σ1) 92) 25)) p = σ1 p := fun σ1 p h1 h2 => by
    rw [sR_ne _ _ h2, goes_o _ h1]
  have r76 : ∀ σ1 : SG, ∀ k, (sR (F_Ref_goes σ1) 92 (rowF (fun _ => 0) ((F_Ref_goes σ1) 92) 25)) 76 k = if k = 7 ∨ k = 8 ∨ k = 9 ∨ k = 10 ∨ k = 17 then 0 else σ1 76 k := fun σ1 k => by
    rw [sR_ne _ _ (by decide)]
    exact goes76 σ1 k
  have href : ∀ σ1 : SG, F_Ref_lay σ1 = ob (lpW L_Ref_lay_27 FU (0, sR (F_Ref_goes σ1) 92 (rowF (fun _ => 0) ((F_Ref_goes σ1) 92) 25))) (fun y4 => Sum.elim (fun y4 : SG => some (((up y4 76 7 1) 76 10), (up y4 76 7 1))) (fun q4 : Int32 × SG => some q4) y4) := fun σ1 => by
    unfold F_Ref_lay
    rw [ob_of lay6]
  -- what the two sides leave alone
  have hfin : ∀ (σ' τ' σ1 σ2 : SG), LyW (rf (F_Shop_takeDown σ) 39 25 0) (sR (F_Ref_goes σ1) 92 (rowF (fun _ => 0) ((F_Ref_goes σ1) 92) 25)) σ' τ' → (∀ p, p ≠ 18 → σ1 p = σ' p) → (∀ p, p ≠ 76 → σ2 p = τ' p) → (∀ p, p ≠ 76 → p ≠ 82 → p ≠ 83 → p ≠ 84 → p ≠ 85 → p ≠ 86 → p ≠ 87 → p ≠ 92 → p ≠ 93 → p ≠ 94 → p ≠ 95 → σ2 p = σ1 p) ∧ (∀ p, p = 1 ∨ p = 3 ∨ p = 77 ∨ p = 7 ∨ p = 9 ∨ p = 11 ∨ p = 13 ∨ p = 15 ∨ p = 17 ∨ p = 78 ∨ p = 79 ∨ p = 80 ∨ p = 81 ∨ p = 42 ∨ p = 44 ∨ p = 47 ∨ p = 49 ∨ p = 51 ∨ p = 88 ∨ p = 89 ∨ p = 60 ∨ p = 62 ∨ p = 64 ∨ p = 90 ∨ p = 91 → σ2 p = σ p) ∧ (σ2 82 = σ2 20 ∧ σ2 83 = σ2 22 ∧ σ2 84 = σ2 24 ∧ σ2 85 = σ2 26 ∧ σ2 86 = σ2 28 ∧ σ2 87 = σ2 30) ∧ σ2 52 0 = 0 ∧ σ2 57 0 = 0 := by
    intro σ' τ' σ1 σ2 hW h1 h2
    obtain ⟨a1, a2, a3, ⟨d1, d2, d3, d4, d5, d6⟩⟩ := hW
    have k1 : ∀ p, p ≠ 76 → p ≠ 82 → p ≠ 83 → p ≠ 84 → p ≠ 85 → p ≠ 86 → p ≠ 87 → p ≠ 92 → p ≠ 93 → p ≠ 94 → p ≠ 95 → σ2 p = σ1 p := fun p b1 b2 b3 b4 b5 b6 b7 b8 b9 b10 b11 => by
      rw [h2 p b1, a2 p ⟨⟨b1, b2, b3, b4, b5, b6, b7⟩, b8, b9, b10, b11⟩, rbase σ1 p b1 b8]
    have k2 : ∀ p, nJ p → p ≠ 52 → p ≠ 57 → p ≠ 76 → p ≠ 82 → p ≠ 83 → p ≠ 84 → p ≠ 85 → p ≠ 86 → p ≠ 87 → p ≠ 92 → p ≠ 93 → p ≠ 94 → p ≠ 95 → σ2 p = σ p := fun p c0 c1 c2 b1 b2 b3 b4 b5 b6 b7 b8 b9 b10 b11 => by
      rw [k1 p b1 b2 b3 b4 b5 b6 b7 b8 b9 b10 b11, h1 p c0.1.1, a1 p c0, hbase p c0.1.1 c1 c2 c0.2.2.1]
    have k3 : ∀ p, p ≠ 76 → p ≠ 18 → p ≠ 82 → p ≠ 83 → p ≠ 84 → p ≠ 85 → p ≠ 86 → p ≠ 87 → p ≠ 92 → p ≠ 93 → p ≠ 94 → p ≠ 95 → σ2 p = σ' p := fun p b1 b0 b2 b3 b4 b5 b6 b7 b8 b9 b10 b11 => by
      rw [k1 p b1 b2 b3 b4 b5 b6 b7 b8 b9 b10 b11, h1 p b0]
    refine ⟨k1, fun p hp => ?_, ?_, ?_, ?_⟩
    · rcases hp with rfl | rfl | rfl | rfl | rfl | rfl | rfl | rfl | rfl | rfl | rfl | rfl | rfl | rfl | rfl | rfl | rfl | rfl | rfl | rfl | rfl | rfl | rfl | rfl | rfl <;> exact k2 _ (by decide) (by decide) (by decide) (by decide) (by decide) (by decide) (by decide) (by decide) (by decide) (by decide) (by decide) (by decide) (by decide) (by decide)
    · rw [h2 82 (by decide), h2 83 (by decide), h2 84 (by decide), h2 85 (by decide), h2 86 (by decide), h2 87 (by decide), d1, d2, d3, d4, d5, d6]
      refine ⟨?_, ?_, ?_, ?_, ?_, ?_⟩ <;> exact (k3 _ (by decide) (by decide) (by decide) (by decide) (by decide) (by decide) (by decide) (by decide) (by decide) (by decide) (by decide) (by decide)).symm
    · rw [k3 52 (by decide) (by decide) (by decide) (by decide) (by decide) (by decide) (by decide) (by decide) (by decide) (by decide) (by decide) (by decide), a1 52 (by decide)]
      exact hb52
    · rw [k3 57 (by decide) (by decide) (by decide) (by decide) (by decide) (by decide) (by decide) (by decide) (by decide) (by decide) (by decide) (by decide), a1 57 (by decide)]
      exact hb57
  have h76up : ∀ p, 76 ≤ p → nJ p := fun p hp => ⟨⟨by omega, by omega, by omega, by omega, by omega, by omega, by omega, by omega, by omega⟩, by omega, by omega, by omega⟩
  rcases g3 with ⟨σ', τ', n', r, l, z, f, rfl, -, hRy⟩ | ⟨p, σ', τ', hp, rfl, -, hW⟩
  · have hσ1 : ∀ p, 76 ≤ p → σ' p = σ p := fun p hp => by
      rw [hRy.1.1 p (h76up p hp), hbase p (by omega) (by omega) (by omega) (by omega)]
    obtain ⟨Y2, Y2', k1, k2, k3⟩ := lay2 (τ := σ') hD hF hE hσ1
    rw [g1] at k1
    cases k1
    rcases k3 with ⟨σ2, τ2, n2, r, l, z, f, e1, rfl, hRy2⟩ | ⟨p, σ2, τ2, hp, e1, -, hW⟩
    rotate_left
    · cases e1
    cases e1
    obtain ⟨hW, s18, s76, hP, -⟩ := hRy2
    have h1w := hD.2.2.2.2.1
    have h1h := hD.2.2.2.2.2.2.1
    obtain ⟨pa, pb, pc, pd, pe⟩ := hP
    have hn2 : 0 < n2 := by omega
    have hn240 : n2 ≤ 240 := by
      have := Nat.mul_le_mul hD.2.2.2.2.2.1 hD.2.2.2.2.2.2.2.1
      omega
    obtain ⟨f1, f2, f3, f4, f5⟩ := hfin σ' τ2 σ' (up τ2 76 7 1) hW (fun _ _ => rfl) (fun p hp => up_ne _ _ _ hp)
    have z76 : ∀ k, k ≠ 7 → k ≠ 10 → (up τ2 76 7 1) 76 k = if k = 7 ∨ k = 8 ∨ k = 9 ∨ k = 10 ∨ k = 17 then 0 else σ 76 k := fun k h1 h2 => by
      rw [up_sR, sR_at, upd_ne _ _ h1, hW.2.2.1 k h2, r76, hσ1 76 (by decide)]
    have z10 : (up τ2 76 7 1) 76 10 = nI n2 := by rw [up_sR, sR_at, upd_ne _ _ (by decide)]; exact s76
    have z7 : (up τ2 76 7 1) 76 7 = 1 := by rw [up_sR, sR_at, upd_at]
    refine ⟨nI n2, σ', up τ2 76 7 1, ?_, ?_, w, h, m, q, n2, 0, false, ?_, ?_, ?_, ?_, ?_⟩
    · unfold F_Shop_lay F_Layer_layRows
      rw [ob_of g1, Sum.elim_inl]
      dsimp only [ob]
      rw [if_pos rfl, s18]
    · rw [href, ob_of k2, Sum.elim_inl, z10]
    · exact RD_c (fun p hp => by rcases hp with rfl | rfl | rfl <;> exact f2 _ (by decide)) (z76 0 (by decide) (by decide)) (z76 1 (by decide) (by decide)) hD
    · exact RF_c (fun p hp => by rcases hp with rfl | rfl | rfl | rfl | rfl | rfl | rfl | rfl | rfl | rfl <;> exact f2 _ (by decide)) hF
    · exact RLo_c (fun p hp => by rcases hp with rfl | rfl | rfl | rfl | rfl | rfl | rfl <;> exact f2 _ (by decide)) (z76 18 (by decide) (by decide)) hL
    · exact RH_c (fun p hp => by rcases hp with rfl | rfl | rfl | rfl | rfl <;> exact f2 _ (by decide)) (z76 21 (by decide) (by decide)) hH
    · have v : ∀ p, p = 18 ∨ p = 20 ∨ p = 22 ∨ p = 24 ∨ p = 26 ∨ p = 28 ∨ p = 30 ∨ p = 32 ∨ p = 34 ∨ p = 3 → (up τ2 76 7 1) p = σ' p := fun p hp => by
        rcases hp with rfl | rfl | rfl | rfl | rfl | rfl | rfl | rfl | rfl | rfl <;> exact f1 _ (by decide) (by decide) (by decide) (by decide) (by decide) (by decide) (by decide) (by decide) (by decide) (by decide) (by decide)
      refine ⟨⟨?_, z10, hn240, ?_⟩, ⟨f4, z76 8 (by decide) (by decide), fun h => by cases h⟩, ⟨f5, z76 17 (by decide) (by decide), by omega, z76 9 (by decide) (by decide), fun h => by omega⟩, f3, fun _ => ⟨r, l, z, f, ⟨fun i hi => ?_, (pb hn2).1, (pb hn2).2, pc, ?_, ?_⟩, fun h => by omega⟩, fun i hi => Or.inl ?_, fun _ i hi => ?_⟩
      · rw [v 18 (by decide)]; exact s18
      · rw [z7, decide_eq_true hn2]; rfl
      · rw [v 20 (by decide), v 22 (by decide), v 24 (by decide), v 26 (by decide), v 3 (by decide), v 34 (by decide)]
        exact (pa i hi).1
      · have := (pa (n2 - 1) (by omega)).1.2.2.2.2.1
        omega
      · have := (pa (n2 - 1) (by omega)).1.2.2.2.2.1
        omega
      · rw [v 28 (by decide)]; exact (pa i hi).2.2.1
      · rw [v 30 (by decide), v 32 (by decide)]; exact (pa i hi).2.2.2
  · have hσ1 : ∀ p, 76 ≤ p → (F_Cubes_clear σ') p = σ p := fun p hp => by
      unfold F_Cubes_clear
      rw [up_ne _ _ _ (by omega), hW.1 p (h76up p hp), hbase p (by omega) (by omega) (by omega) (by omega)]
    obtain ⟨Y2, Y2', k1, k2, k3⟩ := lay2 (τ := F_Cubes_clear σ') hD hF hE hσ1
    rw [g1] at k1
    cases k1
    rcases k3 with ⟨σ2, τ2, n2, r, l, z, f, e1, -, -⟩ | ⟨p2, σ2, τ2, hp2, e1, rfl, hW2⟩
    · cases e1
    injection e1 with e1
    injection e1 with e1 e2
    subst e2
    rw [← e1] at k2
    obtain ⟨f1, f2, f3, f4, f5⟩ := hfin σ' τ2 (F_Cubes_clear σ') (F_Ref_goes τ2) hW2 (fun p hp => up_ne _ _ _ hp) (fun p hp => goes_o _ hp)
    have z76 : ∀ k, (F_Ref_goes τ2) 76 k = if k = 7 ∨ k = 8 ∨ k = 9 ∨ k = 10 ∨ k = 17 then 0 else σ 76 k := fun k => by
      rw [goes76]
      by_cases hk : k = 7 ∨ k = 8 ∨ k = 9 ∨ k = 10 ∨ k = 17
      · rw [if_pos hk, if_pos hk]
      · rw [if_neg hk, if_neg hk, hW2.2.2.1 k (by omega), r76, if_neg hk, hσ1 76 (by decide)]
    refine ⟨(-1000) - nI p, F_Cubes_clear σ', F_Ref_goes τ2, ?_, ?_, w, h, m, q, 0, 0, false, ?_, ?_, ?_, ?_, ?_⟩
    · unfold F_Shop_lay F_Layer_layRows
      rw [ob_of g1, Sum.elim_inr]
      dsimp only [ob]
      rw [if_neg (nm1_ne (by omega))]
    · rw [href, ob_of k2, Sum.elim_inr]
    · exact RD_c (fun p hp => by rcases hp with rfl | rfl | rfl <;> exact f2 _ (by decide)) (z76 0) (z76 1) hD
    · exact RF_c (fun p hp => by rcases hp with rfl | rfl | rfl | rfl | rfl | rfl | rfl | rfl | rfl | rfl <;> exact f2 _ (by decide)) hF
    · exact RLo_c (fun p hp => by rcases hp with rfl | rfl | rfl | rfl | rfl | rfl | rfl <;> exact f2 _ (by decide)) (z76 18) hL
    · exact RH_c (fun p hp => by rcases hp with rfl | rfl | rfl | rfl | rfl <;> exact f2 _ (by decide)) (z76 21) hH
    · refine RC_0 ?_ f4 f5 (fun k hk => by rw [z76, if_pos hk]) f3
      rw [f1 18 (by decide) (by decide) (by decide) (by decide) (by decide) (by decide) (by decide) (by decide) (by decide) (by decide) (by decide)]
      rfl
end
section
/-! dealings by their numbers -/
def dgt (q c k i : Nat) : Nat := c / q ^ (k - 1 - i) % q
theorem dgt_lt {q c k i : Nat} (hq : 0 < q) : dgt q c k i < q := Nat.mod_lt _ hq
theorem ext_div {q p j : Nat} (hj : j < q) : (p * q + j) / q = p := by
  rw [Nat.mul_comm, Nat.mul_add_div (by omega), Nat.div_eq_of_lt hj, Nat.add_zero]
theorem dgt_ext {q p j k i : Nat} (hj : j < q) (hi : i < k) : dgt q (p * q + j) (k + 1) i = dgt q p k i := by
  unfold dgt
  rw [show k + 1 - 1 - i = (k - 1 - i) + 1 by omega, Nat.pow_succ, Nat.mul_comm (q ^ (k - 1 - i)) q, ← Nat.div_div_eq_div_mul, ext_div hj]
theorem dgt_at {q p j k : Nat} (hj : j < q) : dgt q (p * q + j) (k + 1) k = j := by
  unfold dgt
  rw [show k + 1 - 1 - k = 0 by omega, Nat.pow_zero, Nat.div_one, Nat.mul_comm, Nat.mul_add_mod, Nat.mod_eq_of_lt hj]
theorem dgt_pre {q c p k d i : Nat} (hc : c / q ^ d = p) (hi : i < k) : dgt q c (k + d) i = dgt q p k i := by
  unfold dgt
  rw [show k + d - 1 - i = d + (k - 1 - i) by omega, Nat.pow_add, ← Nat.div_div_eq_div_mul, hc]
def sS (dy : Nat → Nat → Nat) (a : Nat → Nat) (k j : Nat) : Nat := sm (fun i => decide (a i = j)) (fun i => dy i j) k
def gS (dy : Nat → Nat → Nat) (a : Nat → Nat) (k : Nat) : Nat → Nat
  | 0 => 0
  | j + 1 => if gS dy a k j < sS dy a k j then sS dy a k j else gS dy a k j
theorem gS_le {dy : Nat → Nat → Nat} {a : Nat → Nat} {k x : Nat} : ∀ {q : Nat}, gS dy a k q ≤ x ↔ ∀ j, j < q → sS dy a k j ≤ x
  | 0 => ⟨fun _ j hj => by omega, fun _ => Nat.zero_le x⟩
  | q + 1 => by
    have ih := gS_le (dy := dy) (a := a) (k := k) (x := x) (q := q)
    rw [gS]
    constructor
    · intro h j hj
      by_cases hc : gS dy a k q < sS dy a k q
      · rw [if_pos hc] at h
        by_cases hjq : j = q
        · rw [hjq]; exact h
        · exact ih.mp (by omega) j (by omega)
      · rw [if_neg hc] at h
        by_cases hjq : j = q
        · rw [hjq]; omega
        · exact ih.mp h j (by omega)
    · intro h
      have h1 := ih.mpr (fun j hj => h j (by omega))
      have h2 := h q (by omega)
      by_cases hc : gS dy a k q < sS dy a k q
      · rw [if_pos hc]; exact h2
      · rw [if_neg hc]; exact h1
theorem sS_cong {dy : Nat → Nat → Nat} {a a' : Nat → Nat} {k j : Nat} (h : ∀ i, i < k → a i = a' i) : sS dy a k j = sS dy a' k j :=
  sm_cong (fun i hi => by rw [h i hi])
theorem gS_cong {dy : Nat → Nat → Nat} {a a' : Nat → Nat} {k q : Nat} (h : ∀ i, i < k → a i = a' i) : gS dy a k q = gS dy a' k q := by
  refine Nat.le_antisymm ?_ ?_
  · rw [gS_le]; intro j hj; rw [sS_cong h]; exact gS_le.mp (Nat.le_refl _) j hj
  · rw [gS_le]; intro j hj; rw [← sS_cong h]; exact gS_le.mp (Nat.le_refl _) j hj
theorem sS_s {dy : Nat → Nat → Nat} {a : Nat → Nat} {k j : Nat} : sS dy a (k + 1) j = sS dy a k j + if a k = j then dy k j else 0 := by
  unfold sS
  rw [sm]
  by_cases h : a k = j
  · rw [if_pos (decide_eq_true h), if_pos h]
  · rw [if_neg (show ¬ decide (a k = j) = true from fun e => h (of_decide_eq_true e)), if_neg h]
theorem sS_mono {dy : Nat → Nat → Nat} {a : Nat → Nat} {k j : Nat} : ∀ d, sS dy a k j ≤ sS dy a (k + d) j
  | 0 => Nat.le_refl _
  | d + 1 => by
    have := sS_mono (dy := dy) (a := a) (k := k) (j := j) d
    rw [show k + (d + 1) = k + d + 1 by omega, sS_s]
    omega
theorem gS_mono {dy : Nat → Nat → Nat} {a : Nat → Nat} {k d q : Nat} : gS dy a k q ≤ gS dy a (k + d) q := by
  rw [gS_le]
  intro j hj
  exact Nat.le_trans (sS_mono d) (gS_le.mp (Nat.le_refl _) j hj)
theorem sS_bd {dy : Nat → Nat → Nat} {a : Nat → Nat} {k j c : Nat} (h : ∀ i, i < k → dy i j ≤ c) : sS dy a k j ≤ k * c := sm_le h
theorem gS_ext {dy : Nat → Nat → Nat} {a : Nat → Nat} {k j q : Nat} (hj : j < q) (ha : a k = j) : gS dy a (k + 1) q = if gS dy a k q < sS dy a k j + dy k j then sS dy a k j + dy k j else gS dy a k q := by
  have hs : ∀ j', sS dy a (k + 1) j' = if j' = j then sS dy a k j + dy k j else sS dy a k j' := by
    intro j'
    rw [sS_s, ha]
    by_cases h : j' = j
    · rw [if_pos h, if_pos h.symm, h]
    · rw [if_neg h, if_neg (fun e => h e.symm), Nat.add_zero]
  refine Nat.le_antisymm ?_ ?_
  · rw [gS_le]
    intro j' hj'
    rw [hs]
    have h1 : sS dy a k j' ≤ gS dy a k q := gS_le.mp (Nat.le_refl _) j' hj'
    by_cases h : j' = j
    · rw [if_pos h]
      by_cases hc : gS dy a k q < sS dy a k j + dy k j
      · rw [if_pos hc]; exact Nat.le_refl _
      · rw [if_neg hc]; omega
    · rw [if_neg h]
      by_cases hc : gS dy a k q < sS dy a k j + dy k j
      · rw [if_pos hc]; omega
      · rw [if_neg hc]; exact h1
  · have h1 : sS dy a (k + 1) j ≤ gS dy a (k + 1) q := gS_le.mp (Nat.le_refl _) j hj
    rw [hs, if_pos rfl] at h1
    have h2 : gS dy a k q ≤ gS dy a (k + 1) q := gS_mono
    by_cases hc : gS dy a k q < sS dy a k j + dy k j
    · rw [if_pos hc]; exact h1
    · rw [if_neg hc]; exact h2
def vld (ok : Nat → Nat → Bool) (a : Nat → Nat) (k : Nat) : Prop := ∀ i, i < k → ok i (a i) = true
theorem vld_cong {ok : Nat → Nat → Bool} {a a' : Nat → Nat} {k : Nat} (h : ∀ i, i < k → a i = a' i) : vld ok a k ↔ vld ok a' k :=
  ⟨fun H i hi => by rw [← h i hi]; exact H i hi, fun H i hi => by rw [h i hi]; exact H i hi⟩
/-- the greatest sum of dealing number c -/
def gc (q M : Nat) (dy : Nat → Nat → Nat) (c : Nat) : Nat := gS dy (dgt q c M) M q
/-- b is the first best of the dealings before number e -/
def Best (q M : Nat) (dy : Nat → Nat → Nat) (ok : Nat → Nat → Bool) (e : Nat) : Option Nat → Prop
  | none => ∀ c, c < e → ¬ vld ok (dgt q c M) M
  | some b => b < e ∧ vld ok (dgt q b M) M ∧ ∀ c, c < e → vld ok (dgt q c M) M → gc q M dy b ≤ gc q M dy c ∧ (c < b → gc q M dy b < gc q M dy c)
theorem Best_u {q M : Nat} {dy : Nat → Nat → Nat} {ok : Nat → Nat → Bool} {e : Nat} {b b' : Option Nat} (h : Best q M dy ok e b) (h' : Best q M dy ok e b') : b = b' := by
  cases b with
  | none =>
    cases b' with
    | none => rfl
    | some c => exact absurd h'.2.1 (h c h'.1)
  | some d =>
    cases b' with
    | none => exact absurd h.2.1 (h' d h.1)
    | some c =>
      have h1 := h.2.2 c h'.1 h'.2.1
      have h2 := h'.2.2 d h.1 h.2.1
      have : d = c := by
        rcases Nat.lt_trichotomy c d with x | x | x
        · have := h1.2 x; omega
        · exact x.symm
        · have := h2.2 x; omega
      rw [this]
theorem Best_skip {q M : Nat} {dy : Nat → Nat → Nat} {ok : Nat → Nat → Bool} {e e' : Nat} {b : Option Nat} (h : Best q M dy ok e b) (hs : ∀ c, e ≤ c → c < e' → vld ok (dgt q c M) M → ∃ d, b = some d ∧ gc q M dy d ≤ gc q M dy c) (he : e ≤ e') : Best q M dy ok e' b := by
  cases b with
  | none =>
    intro c hc hv
    by_cases h1 : c < e
    · exact h c h1 hv
    · obtain ⟨d, hd, -⟩ := hs c (by omega) hc hv
      cases hd
  | some d =>
    refine ⟨by have := h.1; omega, h.2.1, fun c hc hv => ?_⟩
    by_cases h1 : c < e
    · exact h.2.2 c h1 hv
    · obtain ⟨d', hd, hle⟩ := hs c (by omega) hc hv
      cases hd
      have := h.1
      exact ⟨hle, fun h2 => by omega⟩
theorem Best_new {q M : Nat} {dy : Nat → Nat → Nat} {ok : Nat → Nat → Bool} {e : Nat} {b : Option Nat} (h : Best q M dy ok e b) (hv : vld ok (dgt q e M) M) (hl : ∀ d, b = some d → gc q M dy e < gc q M dy d) : Best q M dy ok (e + 1) (some e) := by
  refine ⟨by omega, hv, fun c hc hvc => ?_⟩
  by_cases h1 : c = e
  · subst h1
    exact ⟨Nat.le_refl _, fun h => by omega⟩
  · cases b with
    | none => exact absurd hvc (h c (by omega))
    | some d =>
      have h2 := (h.2.2 c (by omega) hvc).1
      have h3 := hl d rfl
      exact ⟨by omega, fun _ => by omega⟩
/-- one hand for all -/
def allJ (q j : Nat) : Nat → Nat
  | 0 => 0
  | k + 1 => allJ q j k * q + j
theorem allJ_dgt {q j : Nat} (hj : j < q) : ∀ {k i : Nat}, i < k → dgt q (allJ q j k) k i = j
  | 0, i, h => by omega
  | k + 1, i, h => by
    rw [allJ]
    by_cases h1 : i = k
    · rw [h1, dgt_at hj]
    · rw [dgt_ext hj (by omega)]; exact allJ_dgt hj (by omega)
theorem allJ_lt {q j : Nat} (hj : j < q) : ∀ k, allJ q j k < q ^ k
  | 0 => by rw [Nat.pow_zero]; exact Nat.zero_lt_one
  | k + 1 => by
    have h := allJ_lt hj k
    rw [allJ, Nat.pow_succ]
    have h2 : (allJ q j k + 1) * q ≤ q ^ k * q := Nat.mul_le_mul_right q h
    rw [Nat.succ_mul] at h2
    omega
theorem Best_some {q M : Nat} {dy : Nat → Nat → Nat} {ok : Nat → Nat → Bool} {b : Option Nat} (h : Best q M dy ok (q ^ M) b) {j : Nat} (hj : j < q) (hok : ∀ k, k < M → ok k j = true) : ∃ c, b = some c := by
  cases b with
  | none => exact absurd (fun i hi => by rw [allJ_dgt hj hi]; exact hok i hi) (h (allJ q j M) (allJ_lt hj M))
  | some c => exact ⟨c, rfl⟩
theorem lpInv {X Y : Type} {f : X → Option (X ⊕ Y)} {Inv : Nat → X → Prop} {Post : Y → Prop} (hs : ∀ k x, Inv k x → (∃ a k', k' < k ∧ f x = some (.inl a) ∧ Inv k' a) ∨ ∃ b, f x = some (.inr b) ∧ Post b) {k : Nat} {x : X} (h : Inv k x) (hk : k < 1000000) : ∃ b, lpW f FU x = some b ∧ Post b := by
  have key : ∀ m k, k < m → ∀ x, Inv k x → ∃ b, lpW f m x = some b ∧ Post b := by
    intro m
    induction m with
    | zero => intro k hk; omega
    | succ m ih =>
      intro k hk x hI
      rcases hs k x hI with ⟨a, k', h1, h2, h4⟩ | ⟨b, h2, h4⟩
      · obtain ⟨b, g1, g3⟩ := ih k' (by omega) a h4
        refine ⟨b, ?_, g3⟩
        rw [lpW, h2]; exact g1
      · refine ⟨b, ?_, h4⟩
        rw [lpW, h2]; rfl
  exact key FU k (FU_big hk) x h
end
section
/-! the sheets to deal -/
def hl (wt : Nat → Nat) (fc : Nat → Bool) (ms : Bool) : Nat → Option (Nat × (Nat → Nat))
  | 0 => some (0, fun _ => 0)
  | s + 1 => match hl wt fc ms s with
    | none => none
    | some p => if wt s = 0 then some p else if p.1 = 9 ∨ (fc s = true ∧ ms = false) then none else some (p.1 + 1, updN p.2 p.1 s)
theorem hl_none {wt : Nat → Nat} {fc : Nat → Bool} {ms : Bool} {s : Nat} (h : hl wt fc ms s = none) : ∀ d, hl wt fc ms (s + d) = none
  | 0 => h
  | d + 1 => by
    rw [show s + (d + 1) = (s + d) + 1 by omega, hl, hl_none h d]
theorem hl_facts {wt : Nat → Nat} {fc : Nat → Bool} {ms : Bool} : ∀ {s : Nat} {p : Nat × (Nat → Nat)}, hl wt fc ms s = some p → p.1 ≤ 9 ∧ ∀ k, k < p.1 → p.2 k < s ∧ 0 < wt (p.2 k) ∧ (fc (p.2 k) = true → ms = true) := by
  intro s
  induction s with
  | zero => intro p h; cases h; exact ⟨by omega, fun k hk => by omega⟩
  | succ s ih =>
    intro p h
    rw [hl] at h
    cases hq : hl wt fc ms s with
    | none => rw [hq] at h; cases h
    | some p0 =>
      rw [hq] at h
      dsimp only at h
      obtain ⟨i1, i2⟩ := ih hq
      by_cases h1 : wt s = 0
      · rw [if_pos h1] at h
        cases h
        exact ⟨i1, fun k hk => by obtain ⟨a, b, c⟩ := i2 k hk; exact ⟨by omega, b, c⟩⟩
      · rw [if_neg h1] at h
        by_cases h2 : p0.1 = 9 ∨ (fc s = true ∧ ms = false)
        · rw [if_pos h2] at h; cases h
        · rw [if_neg h2] at h
          cases h
          refine ⟨by show p0.1 + 1 ≤ 9; omega, fun k hk => ?_⟩
          by_cases hk2 : k = p0.1
          · show updN p0.2 p0.1 s k < s + 1 ∧ 0 < wt (updN p0.2 p0.1 s k) ∧ _
            rw [hk2, updN_at]
            refine ⟨by omega, by omega, fun hf => ?_⟩
            cases ms with
            | true => rfl
            | false =>
              rw [show (p0.1 + 1, updN p0.2 p0.1 s).2 p0.1 = s from updN_at _ _ _] at hf
              exact absurd (Or.inr ⟨hf, rfl⟩) h2
          · show updN p0.2 p0.1 s k < s + 1 ∧ 0 < wt (updN p0.2 p0.1 s k) ∧ (fc (updN p0.2 p0.1 s k) = true → _)
            rw [updN_ne _ _ hk2]
            have hk3 : k < p0.1 + 1 := hk
            obtain ⟨a, b, c⟩ := i2 k (by omega)
            exact ⟨by omega, b, c⟩
/-- all but the dealer's cells is as before -/
def DCf (σ τ : SG) : Prop := ∀ p, p ≠ 65 → p ≠ 67 → p ≠ 69 → p ≠ 71 → p ≠ 73 → p ≠ 75 → τ p = σ p
def DRf (σ τ : SG) : Prop := (∀ p, p ≠ 76 → p ≠ 98 → p ≠ 99 → p ≠ 100 → p ≠ 101 → p ≠ 102 → τ p = σ p) ∧ ∀ k, k ≠ 31 → k ≠ 33 → τ 76 k = σ 76 k
def GIC (σ : SG) (fc : Nat → Bool) (τ : SG) (m : Nat) (L : Nat → Nat) : Prop := DCf σ τ ∧ τ 65 3 = nI m ∧ ∀ k, k < m → τ 67 k = nI (L k) ∧ τ 69 k = bI (fc (L k))
def GIR (σ τ : SG) (m : Nat) (L : Nat → Nat) : Prop := DRf σ τ ∧ τ 76 31 = nI m ∧ ∀ k, k < m → τ 98 k = nI (L k)
theorem gaW {τ : SG} {m : Nat} {a c : Int32} (h : τ 65 3 = nI m) (hm : m < 9) : rs (rs τ 67 9 (τ 65 3) a) 69 9 ((rs τ 67 9 (τ 65 3) a) 65 3) c = up (up τ 67 m a) 69 m c := by
  have e : rs τ 67 9 (τ 65 3) a = up τ 67 m a := by rw [h, rs_nI hm (by decide)]
  rw [e, show (up τ 67 m a) 65 3 = nI m from h, rs_nI hm (by decide)]
theorem GIC_s {σ τ : SG} {fc : Nat → Bool} {m s : Nat} {L : Nat → Nat} (h : GIC σ fc τ m L) : GIC σ fc (up (up (up τ 67 m (nI s)) 69 m (bI (fc s))) 65 3 (nI (m + 1))) (m + 1) (updN L m s) := by
  obtain ⟨h1, h2, h3⟩ := h
  refine ⟨fun p a b c d e f => ?_, rfl, fun k hk => ?_⟩
  · rw [up_ne _ _ _ a, up_ne _ _ _ c, up_ne _ _ _ b]
    exact h1 p a b c d e f
  · show upd (τ 67) m (nI s) k = _ ∧ upd (τ 69) m (bI (fc s)) k = _
    by_cases hkm : k = m
    · rw [hkm, upd_at, upd_at, updN_at]
      exact ⟨rfl, rfl⟩
    · rw [upd_ne _ _ hkm, upd_ne _ _ hkm, updN_ne _ _ hkm]
      exact h3 k (by omega)
theorem GIR_s {σ τ : SG} {m s : Nat} {L : Nat → Nat} (h : GIR σ τ m L) : GIR σ (up (up τ 98 m (nI s)) 76 31 (nI (m + 1))) (m + 1) (updN L m s) := by
  obtain ⟨⟨h1, h0⟩, h2, h3⟩ := h
  refine ⟨⟨fun p a b c d e f => ?_, fun k hk hk2 => ?_⟩, rfl, fun k hk => ?_⟩
  · rw [up_ne _ _ _ a, up_ne _ _ _ b]
    exact h1 p a b c d e f
  · show upd (τ 76) 31 (nI (m + 1)) k = _
    rw [upd_ne _ _ hk]
    exact h0 k hk hk2
  · show upd (τ 98) m (nI s) k = _
    by_cases hkm : k = m
    · rw [hkm, upd_at, updN_at]
    · rw [upd_ne _ _ hkm, updN_ne _ _ hkm]
      exact h3 k (by omega)
theorem gatherC {σ : SG} {S : Nat} {wt : Nat → Nat} {fc : Nat → Bool} {ms : Bool} (hS : σ 57 0 = nI S) (h240 : S ≤ 240) (hw : ∀ s, s < S → σ 59 s = nI (wt s) ∧ wt s < 1000) (hfc : ∀ τ, DCf σ τ → ∀ s, s < S → F_Sheets_hasHead τ (nI s) = some (fc s)) (hms : ∀ τ, DCf σ τ → F_Hands_haveMaster τ = some ms) :
    ∃ Y, F_Dealer_gather σ = some Y ∧ ((∃ M L τ, hl wt fc ms S = some (M, L) ∧ Y = (true, τ) ∧ GIC σ fc τ M L) ∨ (hl wt fc ms S = none ∧ ∃ τ, Y = (false, τ) ∧ DCf σ τ)) := by
  have hl := lpInv (f := L_Dealer_gather_7)
    (Inv := fun k X => ∃ s m L τ, s ≤ S ∧ k = S - s ∧ X = (nI s, τ) ∧ hl wt fc ms s = some (m, L) ∧ GIC σ fc τ m L)
    (Post := fun Y => (∃ M L τ, hl wt fc ms S = some (M, L) ∧ Y = .inl τ ∧ GIC σ fc τ M L) ∨ (hl wt fc ms S = none ∧ ∃ τ, Y = .inr (false, τ) ∧ DCf σ τ))
    (fun k X hI => by
      obtain ⟨s, m, L, τ, h1, h2, rfl, hh, hG⟩ := hI
      obtain ⟨hF, h65, h67⟩ := id hG
      have t57 : τ 57 0 = nI S := by rw [hF 57 (by decide) (by decide) (by decide) (by decide) (by decide) (by decide)]; exact hS
      by_cases hsS : s = S
      · right
        refine ⟨.inl τ, ?_, Or.inl ⟨m, L, τ, hsS ▸ hh, rfl, hG⟩⟩
        unfold L_Dealer_gather_7
        dsimp only
        rw [if_pos (show τ 57 0 ≤ nI s by rw [t57]; exact nI_le (by omega) (by omega))]
      · have hs : s < S := by omega
        obtain ⟨w1, w2⟩ := hw s hs
        have hc : ¬ τ 57 0 ≤ nI s := by rw [t57]; exact nI_ge hs (by omega)
        have hwt : rg τ 59 240 (nI s) = nI (wt s) := by rw [rg_nI (by omega) (by decide), hF 59 (by decide) (by decide) (by decide) (by decide) (by decide) (by decide)]; exact w1
        have hm9 : m ≤ 9 := (hl_facts hh).1
        by_cases h0 : wt s = 0
        · left
          refine ⟨(nI (s + 1), τ), S - (s + 1), by omega, ?_, s + 1, m, L, τ, by omega, rfl, rfl, by rw [hl, hh]; exact if_pos h0, hG⟩
          unfold L_Dealer_gather_7
          dsimp only
          rw [if_neg hc, if_pos (show rg τ 59 240 (nI s) ≤ 0 by rw [hwt, h0]; decide), nI_1]
        · have hc2 : ¬ rg τ 59 240 (nI s) ≤ 0 := by rw [hwt]; exact nI_nle (by omega) (by omega)
          by_cases h9 : m = 9
          · right
            refine ⟨.inr (false, τ), ?_, Or.inr ⟨?_, τ, rfl, hF⟩⟩
            · unfold L_Dealer_gather_7
              dsimp only
              rw [if_neg hc, if_neg hc2, ob_of (hfc τ hF s hs), if_pos (show τ 65 3 = 9 by rw [h65, h9]; rfl)]
            · have : hl wt fc ms (s + 1) = none := by rw [hl, hh]; dsimp only; rw [if_neg h0, if_pos (Or.inl h9)]
              have h := hl_none this (S - (s + 1))
              rwa [show s + 1 + (S - (s + 1)) = S by omega] at h
          · have hc3 : ¬ τ 65 3 = 9 := by rw [h65]; intro e; have := (nI_eq (b := 9) (by omega) (by decide)).mp e; omega
            by_cases hff : fc s = true ∧ ms = false
            · right
              refine ⟨.inr (false, τ), ?_, Or.inr ⟨?_, τ, rfl, hF⟩⟩
              · unfold L_Dealer_gather_7
                dsimp only
                rw [if_neg hc, if_neg hc2, ob_of (hfc τ hF s hs), if_neg hc3, if_pos hff.1, ob_of (hms τ hF), if_neg (bf hff.2)]
              · have : hl wt fc ms (s + 1) = none := by rw [hl, hh]; dsimp only; rw [if_neg h0, if_pos (Or.inr hff)]
                have h := hl_none this (S - (s + 1))
                rwa [show s + 1 + (S - (s + 1)) = S by omega] at h
            · left
              refine ⟨(nI (s + 1), _), S - (s + 1), by omega, ?_, s + 1, m + 1, updN L m s, up (up (up τ 67 m (nI s)) 69 m (bI (fc s))) 65 3 (nI (m + 1)), by omega, rfl, rfl, by rw [hl, hh]; dsimp only; rw [if_neg h0, if_neg (fun h => h.elim h9 hff)], GIC_s hG⟩
              unfold L_Dealer_gather_7
              dsimp only
              rw [if_neg hc, if_neg hc2, ob_of (hfc τ hF s hs), if_neg hc3, nI_1]
              cases hfs : fc s with
              | true =>
                have hmt : ms = true := by cases hms2 : ms with
                  | true => rfl
                  | false => exact absurd ⟨hfs, hms2⟩ hff
                rw [if_pos rfl, ob_of (hms τ hF), if_pos hmt, if_pos rfl, gaW h65 (by omega)]
                unfold nm
                dsimp only
                rw [show (up (up τ 67 m (nI s)) 69 m 1) 65 3 = nI m from h65, nI_1]
                rfl
              | false =>
                rw [if_neg Bool.false_ne_true, if_neg Bool.false_ne_true, gaW h65 (by omega)]
                unfold nm
                dsimp only
                rw [show (up (up τ 67 m (nI s)) 69 m 0) 65 3 = nI m from h65, nI_1]
                rfl)
    (k := S) (x := (0, up σ 65 3 0)) ⟨0, 0, fun _ => 0, up σ 65 3 0, Nat.zero_le _, rfl, rfl, rfl, fun p a b c d e f => up_ne _ _ _ a, rfl, fun k hk => by omega⟩ (by omega)
  obtain ⟨Y, g1, g2⟩ := hl
  unfold F_Dealer_gather
  rw [ob_of g1]
  rcases g2 with ⟨M, L, τ, a, rfl, b⟩ | ⟨a, τ, rfl, b⟩
  · exact ⟨(true, τ), rfl, Or.inl ⟨M, L, τ, a, rfl, b⟩⟩
  · exact ⟨(false, τ), rfl, Or.inr ⟨a, τ, rfl, b⟩⟩
theorem gatherR {σ σ0 : SG} {S : Nat} {wt : Nat → Nat} {fc : Nat → Bool} {ms : Bool} (hS : σ 76 17 = nI S) (h240 : S ≤ 240) (hw : ∀ s, s < S → wt s < 1000) (hsum : ∀ τ, DRf σ τ → ∀ s, s < S → F_Ref_sumOf τ (nI s) false = some (nI (wt s))) (hfc : ∀ τ, DRf σ τ → ∀ s, s < S → F_Ref_hasFace τ (nI s) = some (fc s)) (h0 : GIR σ σ0 0 (fun _ => 0)) :
    ∃ Y, lpW (L_Ref_deal_44 ms) FU (0, σ0) = some Y ∧ ((∃ M L τ, hl wt fc ms S = some (M, L) ∧ Y = .inl τ ∧ GIR σ τ M L) ∨ (hl wt fc ms S = none ∧ ∃ τ, Y = .inr (false, τ) ∧ DRf σ τ)) := by
  exact lpInv (f := L_Ref_deal_44 ms)
    (Inv := fun k X => ∃ s m L τ, s ≤ S ∧ k = S - s ∧ X = (nI s, τ) ∧ hl wt fc ms s = some (m, L) ∧ GIR σ τ m L)
    (Post := fun Y => (∃ M L τ, hl wt fc ms S = some (M, L) ∧ Y = .inl τ ∧ GIR σ τ M L) ∨ (hl wt fc ms S = none ∧ ∃ τ, Y = .inr (false, τ) ∧ DRf σ τ))
    (fun k X hI => by
      obtain ⟨s, m, L, τ, h1, h2, rfl, hh, hG⟩ := hI
      obtain ⟨hF, h65, h67⟩ := id hG
      have t57 : τ 76 17 = nI S := by rw [hF.2 17 (by decide) (by decide)]; exact hS
      by_cases hsS : s = S
      · right
        refine ⟨.inl τ, ?_, Or.inl ⟨m, L, τ, hsS ▸ hh, rfl, hG⟩⟩
        unfold L_Ref_deal_44
        dsimp only
        rw [if_pos (show τ 76 17 ≤ nI s by rw [t57]; exact nI_le (by omega) (by omega))]
      · have hs : s < S := by omega
        have w2 := hw s hs
        have hc : ¬ τ 76 17 ≤ nI s := by rw [t57]; exact nI_ge hs (by omega)
        have hm9 : m ≤ 9 := (hl_facts hh).1
        by_cases h0 : wt s = 0
        · left
          refine ⟨(nI (s + 1), τ), S - (s + 1), by omega, ?_, s + 1, m, L, τ, by omega, rfl, rfl, by rw [hl, hh]; exact if_pos h0, hG⟩
          unfold L_Ref_deal_44
          dsimp only
          rw [if_neg hc, ob_of (hsum τ hF s hs), if_pos (show nI (wt s) ≤ 0 by rw [h0]; decide), nI_1]
        · have hc2 : ¬ nI (wt s) ≤ 0 := nI_nle (by omega) (by omega)
          by_cases h9 : m = 9
          · right
            refine ⟨.inr (false, τ), ?_, Or.inr ⟨?_, τ, rfl, hF⟩⟩
            · unfold L_Ref_deal_44
              dsimp only
              rw [if_neg hc, ob_of (hsum τ hF s hs), if_neg hc2, if_pos (show τ 76 31 = 9 by rw [h65, h9]; rfl)]
            · have : hl wt fc ms (s + 1) = none := by rw [hl, hh]; dsimp only; rw [if_neg h0, if_pos (Or.inl h9)]
              have h := hl_none this (S - (s + 1))
              rwa [show s + 1 + (S - (s + 1)) = S by omega] at h
          · have hc3 : ¬ τ 76 31 = 9 := by rw [h65]; intro e; have := (nI_eq (b := 9) (by omega) (by decide)).mp e; omega
            by_cases hff : fc s = true ∧ ms = false
            · right
              refine ⟨.inr (false, τ), ?_, Or.inr ⟨?_, τ, rfl, hF⟩⟩
              · unfold L_Ref_deal_44
                dsimp only
                rw [if_neg hc, ob_of (hsum τ hF s hs), if_neg hc2, if_neg hc3, ob_of (hfc τ hF s hs), if_pos hff.1, if_neg (bf hff.2)]
              · have : hl wt fc ms (s + 1) = none := by rw [hl, hh]; dsimp only; rw [if_neg h0, if_pos (Or.inr hff)]
                have h := hl_none this (S - (s + 1))
                rwa [show s + 1 + (S - (s + 1)) = S by omega] at h
            · left
              have hix : ix (τ 76 31) = m := by rw [h65, ix_nI (by omega)]
              have hvn : vin (τ 76 31) 9 = true := by rw [h65]; exact vin_nI (by omega) (by decide)
              refine ⟨(nI (s + 1), _), S - (s + 1), by omega, ?_, s + 1, m + 1, updN L m s, up (up τ 98 m (nI s)) 76 31 (nI (m + 1)), by omega, rfl, rfl, by rw [hl, hh]; dsimp only; rw [if_neg h0, if_neg (fun h => h.elim h9 hff)], GIR_s hG⟩
              unfold L_Ref_deal_44
              dsimp only
              rw [if_neg hc, ob_of (hsum τ hF s hs), if_neg hc2, if_neg hc3, ob_of (hfc τ hF s hs), nI_1, hvn]
              simp only [og_t]
              unfold nm
              rw [hix, show (up τ 98 m (nI s)) 76 31 = nI m from h65, nI_1]
              cases hfs : fc s with
              | true =>
                have hmt : ms = true := by cases hms2 : ms with
                  | true => rfl
                  | false => exact absurd ⟨hfs, hms2⟩ hff
                rw [if_pos rfl, if_pos hmt]
              | false =>
                rw [if_neg Bool.false_ne_true])
    (k := S) (x := (0, σ0)) ⟨0, 0, fun _ => 0, σ0, Nat.zero_le _, rfl, rfl, rfl, h0⟩ (by omega)
end
section
/-! the class's search -/
def dyF (W sk : Nat → Nat) (k j : Nat) : Nat := (W k + sk j - 1) / sk j
def okF (O mst : Nat → Bool) (k j : Nat) : Bool := !O k || mst j
/-- what the search reads -/
def DS (τ0 : SG) (q M : Nat) (L W sk : Nat → Nat) (O mst : Nat → Bool) : Prop := 1 ≤ q ∧ q ≤ 4 ∧ M ≤ 9 ∧ τ0 60 0 = nI q ∧ τ0 65 3 = nI M ∧ (∀ k, k < M → τ0 67 k = nI (L k) ∧ L k < 240 ∧ τ0 59 (L k) = nI (W k) ∧ W k < 1000 ∧ τ0 69 k = bI (O k)) ∧ ∀ j, j < q → τ0 62 j = nI (sk j) ∧ 1 ≤ sk j ∧ sk j ≤ 20 ∧ τ0 64 j = bI (mst j)
theorem DS.q1 {τ0 : SG} {q M : Nat} {L W sk : Nat → Nat} {O mst : Nat → Bool} (H : DS τ0 q M L W sk O mst) : 1 ≤ q := H.1
theorem DS.q4 {τ0 : SG} {q M : Nat} {L W sk : Nat → Nat} {O mst : Nat → Bool} (H : DS τ0 q M L W sk O mst) : q ≤ 4 := H.2.1
theorem DS.M9 {τ0 : SG} {q M : Nat} {L W sk : Nat → Nat} {O mst : Nat → Bool} (H : DS τ0 q M L W sk O mst) : M ≤ 9 := H.2.2.1
theorem DS.c60 {τ0 : SG} {q M : Nat} {L W sk : Nat → Nat} {O mst : Nat → Bool} (H : DS τ0 q M L W sk O mst) : τ0 60 0 = nI q := H.2.2.2.1
theorem DS.c65 {τ0 : SG} {q M : Nat} {L W sk : Nat → Nat} {O mst : Nat → Bool} (H : DS τ0 q M L W sk O mst) : τ0 65 3 = nI M := H.2.2.2.2.1
theorem DS.ck {τ0 : SG} {q M : Nat} {L W sk : Nat → Nat} {O mst : Nat → Bool} (H : DS τ0 q M L W sk O mst) : ∀ k, k < M → τ0 67 k = nI (L k) ∧ L k < 240 ∧ τ0 59 (L k) = nI (W k) ∧ W k < 1000 ∧ τ0 69 k = bI (O k) := H.2.2.2.2.2.1
theorem DS.cj {τ0 : SG} {q M : Nat} {L W sk : Nat → Nat} {O mst : Nat → Bool} (H : DS τ0 q M L W sk O mst) : ∀ j, j < q → τ0 62 j = nI (sk j) ∧ 1 ≤ sk j ∧ sk j ≤ 20 ∧ τ0 64 j = bI (mst j) := H.2.2.2.2.2.2
theorem dyF_le {W sk : Nat → Nat} {k j : Nat} (h1 : W k < 1000) (h2 : sk j ≤ 20) : dyF W sk k j ≤ 2000 := by
  unfold dyF
  have := Nat.div_le_self (W k + sk j - 1) (sk j)
  omega
def DF (τ0 τ : SG) : Prop := (∀ p, p ≠ 65 → p ≠ 71 → p ≠ 73 → p ≠ 75 → τ p = τ0 p) ∧ ∀ k, k ≠ 0 → τ 65 k = τ0 65 k
def LE (q M : Nat) (dy : Nat → Nat → Nat) (τ : SG) : Option Nat → Prop
  | none => τ 65 0 = 1000000
  | some c => τ 65 0 = nI (gc q M dy c) ∧ ∀ i, i < M → τ 73 i = nI (dgt q c M i)
def DI (τ0 : SG) (q M : Nat) (dy : Nat → Nat → Nat) (τ : SG) (k p : Nat) (b : Option Nat) : Prop := DF τ0 τ ∧ (∀ i, i < k → τ 71 i = nI (dgt q p k i)) ∧ (∀ j, j < q → τ 75 j = nI (sS dy (dgt q p k) k j)) ∧ LE q M dy τ b
theorem LE_c {q M : Nat} {dy : Nat → Nat → Nat} {τ τ' : SG} {b : Option Nat} (h1 : τ' 65 = τ 65) (h2 : τ' 73 = τ 73) (h : LE q M dy τ b) : LE q M dy τ' b := by
  cases b with
  | none => show τ' 65 0 = _; rw [h1]; exact h
  | some c => show τ' 65 0 = _ ∧ _; rw [h1, h2]; exact h
theorem blk {e X c : Nat} (h1 : e * X ≤ c) (h2 : c < (e + 1) * X) : c / X = e := Nat.div_eq_of_lt_le h1 h2
theorem ext_sum {q p j k : Nat} {dy : Nat → Nat → Nat} (hj : j < q) (j' : Nat) : sS dy (dgt q (p * q + j) (k + 1)) (k + 1) j' = sS dy (dgt q p k) k j' + if j = j' then dy k j' else 0 := by
  rw [sS_s, dgt_at hj, sS_cong (fun i hi => dgt_ext hj hi)]
theorem ext_g {q p j k : Nat} {dy : Nat → Nat → Nat} (hj : j < q) : gS dy (dgt q (p * q + j) (k + 1)) (k + 1) q = if gS dy (dgt q p k) k q < sS dy (dgt q p k) k j + dy k j then sS dy (dgt q p k) k j + dy k j else gS dy (dgt q p k) k q := by
  rw [gS_ext hj (dgt_at hj), gS_cong (fun i hi => dgt_ext hj hi), sS_cong (fun i hi => dgt_ext hj hi)]
theorem mxI_N {a b : Nat} (ha : a < 2 ^ 31) (hb : b < 2 ^ 31) : mxI (nI a) (nI b) = nI (if a < b then b else a) := by
  unfold mxI
  by_cases h : a < b
  · rw [if_pos h, if_pos (nI_lt h hb)]
  · rw [if_neg h, if_neg (nI_nlt (by omega) ha)]
theorem gS_bd {dy : Nat → Nat → Nat} {a : Nat → Nat} {k q : Nat} (h : ∀ i j, i < k → j < q → dy i j ≤ 2000) : gS dy a k q ≤ k * 2000 := by
  rw [gS_le]
  intro j hj
  exact sS_bd (fun i hi => h i j hi hj)
/-- the part of the step at a hand that may -/
def actE (R0 : SG → Int32 → Int32 → Option SG) (p0 p1 v5 : Int32) (x : Int32 × SG) : Option ((Int32 × SG) ⊕ SG) :=
  (if (x.2 65 0) ≤ (mxI p1 ((rg x.2 75 4 x.1) + v5)) then some (.inl ((x.1 + 1), x.2)) else (nm (rs (rs x.2 71 9 p0 x.1) 75 4 x.1 ((rg x.2 75 4 x.1) + v5)) (fun s9 => (ob (R0 s9 (p0 + 1) (mxI p1 ((rg x.2 75 4 x.1) + v5))) (fun v10 => (nm (rs v10 75 4 x.1 (((rg x.2 75 4 x.1) + v5) - v5)) (fun s11 => some (.inl ((x.1 + 1), s11)))))))))
theorem dfs {τ0 : SG} {q M : Nat} {L W sk : Nat → Nat} {O mst : Nat → Bool} (H : DS τ0 q M L W sk O mst) : ∀ d k, k + d = M → ∀ n, d < n → ∀ p τ b, DI τ0 q M (dyF W sk) τ k p b → Best q M (dyF W sk) (okF O mst) (p * q ^ d) b → vld (okF O mst) (dgt q p k) k → (∀ c, b = some c → gS (dyF W sk) (dgt q p k) k q < gc q M (dyF W sk) c) → ∃ τ' b', R_Dealer_dealFrom n τ (nI k) (nI (gS (dyF W sk) (dgt q p k) k q)) = some τ' ∧ DI τ0 q M (dyF W sk) τ' k p b' ∧ Best q M (dyF W sk) (okF O mst) ((p + 1) * q ^ d) b' := by
  have hM9 := H.M9
  have hq4 := H.q4
  intro d
  induction d with
  | zero =>
    intro k hk n hn p τ b hI hB hv hl
    have hkM : k = M := by omega
    subst hkM
    obtain ⟨n, rfl⟩ : ∃ m, n = m + 1 := ⟨n - 1, by omega⟩
    obtain ⟨hF, h71, h75, hL⟩ := hI
    rw [Nat.pow_zero, Nat.mul_one] at hB
    refine ⟨rc (up τ 65 0 (nI (gS (dyF W sk) (dgt q p k) k q))) 73 9 71 9, some p, ?_, ⟨⟨fun p' a b c e => ?_, fun k' hk' => ?_⟩, h71, h75, ?_, fun i hi => ?_⟩, ?_⟩
    · rw [R_Dealer_dealFrom]
      unfold B_Dealer_dealFrom
      rw [if_pos (show τ 65 3 ≤ nI k by rw [hF.2 3 (by decide), H.c65]; exact nI_le (Nat.le_refl _) (by omega))]
    · rw [rc_sR, sR_ne _ _ c, up_ne _ _ _ a]; exact hF.1 p' a b c e
    · show upd (τ 65) 0 _ k' = _
      rw [upd_ne _ _ hk']; exact hF.2 k' hk'
    · rfl
    · rw [rc_sR, sR_at, if_pos (by omega), rg_nI (by omega) (by decide)]
      exact h71 i hi
    · rw [Nat.pow_zero, Nat.mul_one]
      exact Best_new hB hv hl
  | succ d ih =>
    intro k hk n hn p τ b hI hB hv hl
    obtain ⟨n, rfl⟩ : ∃ m, n = m + 1 := ⟨n - 1, by omega⟩
    have hkM : k < M := by omega
    obtain ⟨k67, k240, k59, kW, k69⟩ := H.ck k hkM
    have hdy : ∀ i j, i < M → j < q → dyF W sk i j ≤ 2000 := fun i j hi hj => dyF_le (H.ck i hi).2.2.2.1 (H.cj j hj).2.2.1
    have hgb : ∀ a k', k' ≤ M → gS (dyF W sk) a k' q ≤ 18000 := fun a k' hk' => by
      have := gS_bd (dy := dyF W sk) (a := a) (k := k') (q := q) (fun i j hi hj => hdy i j (by omega) hj)
      omega
    have hsb : ∀ a k' j, k' ≤ M → j < q → sS (dyF W sk) a k' j ≤ 18000 := fun a k' j hk' hj => by
      have := sS_bd (dy := dyF W sk) (a := a) (k := k') (j := j) (c := 2000) (fun i hi => hdy i j (by omega) hj)
      omega
    have hloop := lpInv (f := L_Dealer_dealFrom_53 (R_Dealer_dealFrom n) (nI k) (nI (gS (dyF W sk) (dgt q p k) k q)) (nI (W k)))
      (Inv := fun kk X => ∃ j τ b, j ≤ q ∧ kk = q - j ∧ X = (nI j, τ) ∧ DI τ0 q M (dyF W sk) τ k p b ∧ Best q M (dyF W sk) (okF O mst) ((p * q + j) * q ^ d) b)
      (Post := fun Y => ∃ b, DI τ0 q M (dyF W sk) Y k p b ∧ Best q M (dyF W sk) (okF O mst) ((p * q + q) * q ^ d) b)
      (fun kk X hX => by
        obtain ⟨j, τ, b, h1, h2, rfl, hI, hB⟩ := hX
        obtain ⟨hF, h71, h75, hL⟩ := id hI
        have t60 : τ 60 0 = nI q := by rw [hF.1 60 (by decide) (by decide) (by decide) (by decide)]; exact H.c60
        by_cases hjq : j = q
        · right
          subst hjq
          refine ⟨τ, ?_, b, hI, hB⟩
          unfold L_Dealer_dealFrom_53
          dsimp only
          rw [if_pos (show τ 60 0 ≤ nI j by rw [t60]; exact nI_le (Nat.le_refl _) (by omega))]
        · left
          have hj : j < q := by omega
          obtain ⟨j62, js1, js2, j64⟩ := H.cj j hj
          have hdj := hdy k j hkM hj
          have hc60 : ¬ τ 60 0 ≤ nI j := by rw [t60]; exact nI_ge hj (by omega)
          have hday : F_Hands_daysFor τ (nI (W k)) (nI j) = some (nI (dyF W sk k j)) := by
            unfold F_Hands_daysFor
            rw [rg_nI (show j < 4 by omega) (by decide), hF.1 62 (by decide) (by decide) (by decide) (by decide), j62, ob_of (rU (by omega) js1 (by omega))]
            rfl
          have e69 : rg τ 69 9 (nI k) = bI (O k) := by rw [rg_nI (by omega) (by decide), hF.1 69 (by decide) (by decide) (by decide) (by decide)]; exact k69
          have emst : F_Hands_isMaster τ (nI j) = mst j := by
            unfold F_Hands_isMaster
            rw [rg_nI (show j < 4 by omega) (by decide), hF.1 64 (by decide) (by decide) (by decide) (by decide), j64]
            cases mst j <;> rfl
          have e75 : rg τ 75 4 (nI j) = nI (sS (dyF W sk) (dgt q p k) k j) := by rw [rg_nI (show j < 4 by omega) (by decide)]; exact h75 j hj
          have hsj := hsb (dgt q p k) k j (by omega) hj
          have hgk := hgb (dgt q p k) k (by omega)
          have hmx : mxI (nI (gS (dyF W sk) (dgt q p k) k q)) (nI (sS (dyF W sk) (dgt q p k) k j + dyF W sk k j)) = nI (gS (dyF W sk) (dgt q (p * q + j) (k + 1)) (k + 1) q) := by
            rw [mxI_N (by omega) (by omega), ext_g hj]
          have hgk1 := hgb (dgt q (p * q + j) (k + 1)) (k + 1) (by omega)
          have hpre : ∀ c, (p * q + j) * q ^ d ≤ c → c < (p * q + j + 1) * q ^ d → ∀ i, i < k + 1 → dgt q c M i = dgt q (p * q + j) (k + 1) i := by
            intro c hc1 hc2 i hi
            have h := dgt_pre (k := k + 1) (blk hc1 hc2) hi
            rwa [show k + 1 + d = M by omega] at h
          have hle2 : (p * q + j) * q ^ d ≤ (p * q + j + 1) * q ^ d := Nat.mul_le_mul_right _ (by omega)
          -- a hand that may
          have hact : okF O mst k j = true → ∃ τ' b', actE (R_Dealer_dealFrom n) (nI k) (nI (gS (dyF W sk) (dgt q p k) k q)) (nI (dyF W sk k j)) (nI j, τ) = some (.inl (nI (j + 1), τ')) ∧ DI τ0 q M (dyF W sk) τ' k p b' ∧ Best q M (dyF W sk) (okF O mst) ((p * q + j + 1) * q ^ d) b' := by
            intro hok
            unfold actE
            dsimp only
            rw [e75, nI_add, hmx, nI_1]
            by_cases hcut : τ 65 0 ≤ nI (gS (dyF W sk) (dgt q (p * q + j) (k + 1)) (k + 1) q)
            · rw [if_pos hcut]
              refine ⟨τ, b, rfl, hI, Best_skip hB (fun c hc1 hc2 hvc => ?_) hle2⟩
              cases b with
              | none =>
                exfalso
                rw [show τ 65 0 = nI 1000000 from hL, nI_leI (by decide) (by omega)] at hcut
                omega
              | some c0 =>
                refine ⟨c0, rfl, ?_⟩
                have hg0 : gc q M (dyF W sk) c0 ≤ 18000 := hgb _ M (Nat.le_refl M)
                rw [hL.1, nI_leI (by omega) (by omega)] at hcut
                refine Nat.le_trans hcut ?_
                rw [← gS_cong (hpre c hc1 hc2)]
                have := gS_mono (dy := dyF W sk) (a := dgt q c M) (k := k + 1) (d := d) (q := q)
                rwa [show k + 1 + d = M by omega] at this
            · rw [if_neg hcut]
              unfold nm
              rw [rs_nI (show k < 9 by omega) (by decide), rs_nI (show j < 4 by omega) (by decide), nI_1]
              generalize hs9 : up (up τ 71 k (nI j)) 75 j (nI (sS (dyF W sk) (dgt q p k) k j + dyF W sk k j)) = s9
              have u71 : s9 71 = upd (τ 71) k (nI j) := by rw [← hs9]; rfl
              have u75 : s9 75 = upd (τ 75) j (nI (sS (dyF W sk) (dgt q p k) k j + dyF W sk k j)) := by rw [← hs9]; rfl
              have hI9 : DI τ0 q M (dyF W sk) s9 (k + 1) (p * q + j) b := by
                refine ⟨⟨fun p' a b c e => ?_, fun k' hk' => ?_⟩, fun i hi => ?_, fun j' hj' => ?_, ?_⟩
                · rw [← hs9, up_ne _ _ _ e, up_ne _ _ _ b]; exact hF.1 p' a b c e
                · rw [← hs9]; exact hF.2 k' hk'
                · rw [u71]
                  by_cases hik : i = k
                  · rw [hik, upd_at, dgt_at hj]
                  · rw [upd_ne _ _ hik, dgt_ext hj (by omega)]; exact h71 i (by omega)
                · rw [u75, ext_sum hj]
                  by_cases hjj : j' = j
                  · rw [hjj, upd_at, if_pos rfl]
                  · rw [upd_ne _ _ hjj, if_neg (fun e => hjj e.symm), Nat.add_zero]; exact h75 j' hj'
                · exact LE_c (by rw [← hs9]; rfl) (by rw [← hs9]; rfl) hL
              have hv9 : vld (okF O mst) (dgt q (p * q + j) (k + 1)) (k + 1) := by
                intro i hi
                by_cases hik : i = k
                · rw [hik, dgt_at hj]; exact hok
                · rw [dgt_ext hj (by omega)]; exact hv i (by omega)
              have hl9 : ∀ c, b = some c → gS (dyF W sk) (dgt q (p * q + j) (k + 1)) (k + 1) q < gc q M (dyF W sk) c := by
                intro c hbc
                subst hbc
                have hg0 : gc q M (dyF W sk) c ≤ 18000 := hgb _ M (Nat.le_refl M)
                rw [hL.1, nI_leI (by omega) (by omega)] at hcut
                omega
              obtain ⟨τ', b', r1, ⟨rF, r71, r75, rL⟩, r3⟩ := ih (k + 1) (by omega) n (by omega) (p * q + j) s9 b hI9 hB hv9 hl9
              dsimp only
              rw [ob_of r1]
              rw [pk_sub (Nat.le_add_left _ _), Nat.add_sub_cancel, rs_nI (show j < 4 by omega) (by decide)]
              refine ⟨up τ' 75 j (nI (sS (dyF W sk) (dgt q p k) k j)), b', rfl, ⟨⟨fun p' a b c e => ?_, rF.2⟩, fun i hi => ?_, fun j' hj' => ?_, LE_c rfl rfl rL⟩, r3⟩
              · rw [up_ne _ _ _ e]; exact rF.1 p' a b c e
              · show τ' 71 i = _
                rw [r71 i (by omega), dgt_ext hj hi]
              · show upd (τ' 75) j _ j' = _
                by_cases hjj : j' = j
                · rw [hjj, upd_at]
                · rw [upd_ne _ _ hjj, r75 j' hj', ext_sum hj, if_neg (fun e => hjj e.symm), Nat.add_zero]
          -- a hand that may not
          have hskip : okF O mst k j = false → Best q M (dyF W sk) (okF O mst) ((p * q + j + 1) * q ^ d) b := by
            intro hok
            refine Best_skip hB (fun c hc1 hc2 hvc => ?_) hle2
            exfalso
            have h := hvc k hkM
            rw [hpre c hc1 hc2 k (by omega), dgt_at hj, hok] at h
            cases h
          have hstep : L_Dealer_dealFrom_53 (R_Dealer_dealFrom n) (nI k) (nI (gS (dyF W sk) (dgt q p k) k q)) (nI (W k)) (nI j, τ) = if okF O mst k j = true then actE (R_Dealer_dealFrom n) (nI k) (nI (gS (dyF W sk) (dgt q p k) k q)) (nI (dyF W sk k j)) (nI j, τ) else some (.inl (nI (j + 1), τ)) := by
            unfold L_Dealer_dealFrom_53 okF
            dsimp only
            rw [if_neg hc60, ob_of hday, e69]
            cases hO : O k with
            | false =>
              rw [if_pos (show bI false = 0 from rfl), if_pos rfl, if_pos (show (!false || mst j) = true from rfl)]
              rfl
            | true =>
              rw [if_neg (show ¬ bI true = 0 by decide), emst]
              cases hm : mst j with
              | true =>
                rw [if_pos rfl, if_pos rfl, if_pos (show (!true || true) = true from rfl)]
                rfl
              | false =>
                rw [if_neg Bool.false_ne_true, if_neg Bool.false_ne_true, if_neg (show ¬ (!true || false) = true by decide), nI_1]
          cases hok : okF O mst k j with
          | true =>
            obtain ⟨τ', b', a1, a2, a3⟩ := hact hok
            refine ⟨(nI (j + 1), τ'), q - (j + 1), by omega, ?_, j + 1, τ', b', by omega, rfl, rfl, a2, a3⟩
            rw [hstep, if_pos hok, a1]
          | false =>
            refine ⟨(nI (j + 1), τ), q - (j + 1), by omega, ?_, j + 1, τ, b, by omega, rfl, rfl, hI, hskip hok⟩
            rw [hstep, if_neg (bf hok)])
      (k := q) (x := (0, τ)) ⟨0, τ, b, Nat.zero_le _, rfl, rfl, hI, by rw [Nat.add_zero, Nat.mul_assoc, Nat.mul_comm q, ← Nat.pow_succ]; exact hB⟩ (by omega)
    obtain ⟨Y, g1, b', g2, g3⟩ := hloop
    refine ⟨Y, b', ?_, g2, ?_⟩
    · obtain ⟨hF, -⟩ := hI
      rw [R_Dealer_dealFrom]
      unfold B_Dealer_dealFrom
      rw [if_neg (show ¬ τ 65 3 ≤ nI k by rw [hF.2 3 (by decide), H.c65]; exact nI_ge hkM (by omega)), if_pos (show nI k < 9 from nI_lt (b := 9) (by omega) (by decide))]
      have e67 : rg τ 67 9 (nI k) = nI (L k) := by rw [rg_nI (by omega) (by decide), hF.1 67 (by decide) (by decide) (by decide) (by decide)]; exact k67
      have e59 : rg τ 59 240 (nI (L k)) = nI (W k) := by rw [rg_nI k240 (by decide), hF.1 59 (by decide) (by decide) (by decide) (by decide)]; exact k59
      rw [e67, e59, ob_of g1]
    · rw [show (p + 1) * q ^ (d + 1) = (p * q + q) * q ^ d by rw [Nat.pow_succ, ← Nat.succ_mul, Nat.mul_assoc, Nat.mul_comm q]]
      exact g3
end
section
/-! the reference's way through all dealings -/
def RX (τ0 : SG) (q M : Nat) (W sk : Nat → Nat) (O mst : Nat → Bool) : Prop := 1 ≤ q ∧ q ≤ 4 ∧ M ≤ 9 ∧ τ0 76 21 = nI q ∧ τ0 76 31 = nI M ∧ (∀ k, k < M → τ0 100 k = nI (W k) ∧ W k < 1000 ∧ τ0 101 k = bI (O k)) ∧ ∀ j, j < q → τ0 90 j = nI (sk j) ∧ 1 ≤ sk j ∧ sk j ≤ 20 ∧ τ0 91 j = bI (mst j)
def DE (τ0 τ : SG) : Prop := (∀ p, p ≠ 76 → p ≠ 99 → p ≠ 102 → τ p = τ0 p) ∧ ∀ k, k ≠ 33 → τ 76 k = τ0 76 k
theorem RX_c {τ0 τ : SG} {q M : Nat} {W sk : Nat → Nat} {O mst : Nat → Bool} (h : DE τ0 τ) (H : RX τ0 q M W sk O mst) : RX τ q M W sk O mst := by
  unfold RX at H ⊢
  rw [h.2 21 (by decide), h.2 31 (by decide), h.1 100 (by decide) (by decide) (by decide), h.1 101 (by decide) (by decide) (by decide), h.1 90 (by decide) (by decide) (by decide), h.1 91 (by decide) (by decide) (by decide)]
  exact H
theorem DE_102 {τ0 τ : SG} {g : Nat → Int32} (h : DE τ0 τ) : DE τ0 (sR τ 102 g) := ⟨fun p a b c => by rw [sR_ne _ _ c]; exact h.1 p a b c, h.2⟩
theorem DE_99 {τ0 τ : SG} {g : Nat → Int32} (h : DE τ0 τ) : DE τ0 (sR τ 99 g) := ⟨fun p a b c => by rw [sR_ne _ _ b]; exact h.1 p a b c, h.2⟩
theorem DE_33 {τ0 τ : SG} {v : Int32} (h : DE τ0 τ) : DE τ0 (up τ 76 33 v) := ⟨fun p a b c => by rw [up_ne _ _ _ a]; exact h.1 p a b c, fun k hk => by show upd (τ 76) 33 v k = _; rw [upd_ne _ _ hk]; exact h.2 k hk⟩
theorem pow_bd {q M : Nat} (hq : q ≤ 4) (hM : M ≤ 9) : q ^ M ≤ 262144 := by
  have h1 : q ^ M ≤ 4 ^ M := Nat.pow_le_pow_left hq M
  have h2 : 4 ^ M ≤ 4 ^ 9 := Nat.pow_le_pow_right (by decide) hM
  omega
theorem gr2 {τ : SG} {q : Nat} (hq : τ 76 21 = nI q) (h4 : q ≤ 4) : lpW L_Ref_greatestOf_2 FU (0, τ) = some (sR τ 102 (rowF (fun _ => 0) (τ 102) q)) := by
  refine lpW_at (s := fun i => (nI i, sR τ 102 (rowF (fun _ => 0) (τ 102) i))) q ?_ ?_ ?_ (by omega)
  · rw [rowF_0, sR_self]; rfl
  · intro i hi
    unfold L_Ref_greatestOf_2
    dsimp only
    rw [if_neg (show ¬ (sR τ 102 (rowF (fun _ => 0) (τ 102) i)) 76 21 ≤ nI i by rw [show (sR τ 102 (rowF (fun _ => 0) (τ 102) i)) 76 21 = nI q from hq]; exact nI_ge hi (by omega)), vin_nI (show i < 4 by omega) (by decide)]
    simp only [og_t]
    rw [ix_nI (by omega), nI_1, up_sR, sR_at, sR_sR, ← rowF_s]
  · unfold L_Ref_greatestOf_2
    dsimp only
    rw [if_pos (show (sR τ 102 (rowF (fun _ => 0) (τ 102) q)) 76 21 ≤ nI q by rw [show (sR τ 102 (rowF (fun _ => 0) (τ 102) q)) 76 21 = nI q from hq]; exact nI_le (Nat.le_refl _) (by omega))]
theorem pow_step {q M k : Nat} (hq : 1 ≤ q) (hk : k < M) : q ^ (M - k) / q = q ^ (M - 1 - k) := by
  rw [show M - k = (M - 1 - k) + 1 by omega, Nat.pow_succ, Nat.mul_div_cancel _ hq]
theorem digR {q M k c : Nat} (hq : 1 ≤ q) (hq4 : q ≤ 4) (hM : M ≤ 9) (hk : k < M) (hc : c < q ^ M) : nI (q ^ (M - k)) / nI q = nI (q ^ (M - 1 - k)) ∧ nI c / nI (q ^ (M - 1 - k)) - nI c / nI (q ^ (M - 1 - k)) / nI q * nI q = nI (dgt q c M k) ∧ nz (nI q) = true ∧ nz (nI (q ^ (M - 1 - k))) = true := by
  have h1 := pow_bd (q := q) (M := M - k) hq4 (by omega)
  have h2 := pow_bd (q := q) (M := M - 1 - k) hq4 (by omega)
  have h3 := pow_bd (q := q) (M := M) hq4 hM
  have hp : 0 < q ^ (M - 1 - k) := Nat.pow_pos hq
  have hd := Nat.div_le_self c (q ^ (M - 1 - k))
  refine ⟨?_, ?_, decide_eq_true (nI_ne0 hq (by omega)), decide_eq_true (nI_ne0 hp (by omega))⟩
  · rw [pk_div (by omega) hq (by omega), pow_step hq hk]
  · rw [pk_div (by omega) hp (by omega), pk_rem (by omega) hq (by omega)]
    rfl
theorem gr28 {τ : SG} {q M c : Nat} {W sk : Nat → Nat} {O mst : Nat → Bool} (H : RX τ q M W sk O mst) (hc : c < q ^ M) :
    ∃ Y, lpW (L_Ref_greatestOf_28 (nI c)) FU (nI (q ^ M), 0, sR τ 102 (rowF (fun _ => 0) (τ 102) q)) = some Y ∧ ((vld (okF O mst) (dgt q c M) M ∧ ∃ row, Y = .inl (sR τ 102 row) ∧ ∀ j, j < q → row j = nI (sS (dyF W sk) (dgt q c M) M j)) ∨ (¬ vld (okF O mst) (dgt q c M) M ∧ ∃ row, Y = .inr (-1, sR τ 102 row))) := by
  obtain ⟨q1, q4, M9, c21, c31, ck, cj⟩ := H
  exact lpInv (f := L_Ref_greatestOf_28 (nI c))
    (Inv := fun kk X => ∃ k row, k ≤ M ∧ kk = M - k ∧ X = (nI (q ^ (M - k)), nI k, sR τ 102 row) ∧ vld (okF O mst) (dgt q c M) k ∧ ∀ j, j < q → row j = nI (sS (dyF W sk) (dgt q c M) k j))
    (Post := fun Y => (vld (okF O mst) (dgt q c M) M ∧ ∃ row, Y = .inl (sR τ 102 row) ∧ ∀ j, j < q → row j = nI (sS (dyF W sk) (dgt q c M) M j)) ∨ (¬ vld (okF O mst) (dgt q c M) M ∧ ∃ row, Y = .inr (-1, sR τ 102 row)))
    (fun kk X hI => by
      obtain ⟨k, row, h1, h2, rfl, hv, hrow⟩ := hI
      by_cases hkM : k = M
      · right
        subst hkM
        refine ⟨.inl (sR τ 102 row), ?_, Or.inl ⟨hv, row, rfl, hrow⟩⟩
        unfold L_Ref_greatestOf_28
        dsimp only
        rw [if_pos (show (sR τ 102 row) 76 31 ≤ nI k by rw [show (sR τ 102 row) 76 31 = nI k from c31]; exact nI_le (Nat.le_refl _) (by omega))]
      · have hk : k < M := by omega
        obtain ⟨d1, d2, d3, d4⟩ := digR q1 q4 M9 hk hc
        have hh := dgt_lt (q := q) (c := c) (k := M) (i := k) q1
        obtain ⟨k100, kW, k101⟩ := ck k hk
        obtain ⟨j90, js1, js2, j91⟩ := cj (dgt q c M k) hh
        have hkk : ix (nI k) = k := ix_nI (by omega)
        have hhh : ix (nI (dgt q c M k)) = dgt q c M k := ix_nI (by omega)
        have e21 : (sR τ 102 row) 76 21 = nI q := c21
        have e101 : (sR τ 102 row) 101 k = bI (O k) := k101
        have e91 : (sR τ 102 row) 91 (dgt q c M k) = bI (mst (dgt q c M k)) := j91
        have e90 : (sR τ 102 row) 90 (dgt q c M k) = nI (sk (dgt q c M k)) := j90
        have e100 : (sR τ 102 row) 100 k = nI (W k) := k100
        have hdy : (nI (W k) + nI (sk (dgt q c M k)) - 1) / nI (sk (dgt q c M k)) = nI (dyF W sk k (dgt q c M k)) := by
          rw [nI_add, nI_sub1 (by omega), pk_div (by omega) js1 (by omega)]
          rfl
        have hd2 := dyF_le (W := W) (sk := sk) (k := k) (j := dgt q c M k) kW js2
        have hrow2 : ∀ j, j < q → upd row (dgt q c M k) (row (dgt q c M k) + nI (dyF W sk k (dgt q c M k))) j = nI (sS (dyF W sk) (dgt q c M) (k + 1) j) := by
          intro j hj
          rw [sS_s]
          by_cases hjj : j = dgt q c M k
          · rw [hjj, upd_at, hrow _ hh, nI_add, if_pos rfl]
          · rw [upd_ne _ _ hjj, hrow j hj, if_neg (fun e => hjj e.symm), Nat.add_zero]
        have hvd : vin (nI (dgt q c M k)) 4 = true := vin_nI (by omega) (by decide)
        have hvk : vin (nI k) 9 = true := vin_nI (by omega) (by decide)
        have hnsk : nz (nI (sk (dgt q c M k))) = true := decide_eq_true (nI_ne0 js1 (by omega))
        have hgo : okF O mst k (dgt q c M k) = true → vld (okF O mst) (dgt q c M) (k + 1) := fun hok i hi => by
          by_cases hik : i = k
          · rw [hik]; exact hok
          · exact hv i (by omega)
        have hc31 : ¬ (sR τ 102 row) 76 31 ≤ nI k := by rw [show (sR τ 102 row) 76 31 = nI M from c31]; exact nI_ge hk (by omega)
        have hupd : up (sR τ 102 row) 102 (dgt q c M k) (row (dgt q c M k) + nI (dyF W sk k (dgt q c M k))) = sR τ 102 (upd row (dgt q c M k) (row (dgt q c M k) + nI (dyF W sk k (dgt q c M k)))) := by
          rw [up_sR, sR_at, sR_sR]
        have e102 : (sR τ 102 row) 102 (dgt q c M k) = row (dgt q c M k) := by rw [sR_at]
        have hexp : nI (q ^ (M - 1 - k)) = nI (q ^ (M - (k + 1))) := by rw [show M - 1 - k = M - (k + 1) by omega]
        have hr0 : L_Ref_greatestOf_28 (nI c) (nI (q ^ (M - k)), nI k, sR τ 102 row) = (if bI (O k) = 0 then some (.inl (nI (q ^ (M - (k + 1))), nI (k + 1), sR τ 102 (upd row (dgt q c M k) (row (dgt q c M k) + nI (dyF W sk k (dgt q c M k)))))) else if bI (mst (dgt q c M k)) = 0 then some (.inr (.inr (-1, sR τ 102 row))) else some (.inl (nI (q ^ (M - (k + 1))), nI (k + 1), sR τ 102 (upd row (dgt q c M k) (row (dgt q c M k) + nI (dyF W sk k (dgt q c M k))))))) := by
          rw [← hexp, ← hupd, ← e102]
          generalize sR τ 102 row = σ at e21 e101 e91 e90 e100 hc31
          unfold L_Ref_greatestOf_28 nm
          simp only [if_neg hc31, e21, d1, d2, d3, d4, hvk, hvd, hkk, hhh, og_t, e101, e91, e90, e100, hdy, hnsk, nI_1]
        rw [hr0]
        cases hO : O k with
        | false =>
          have hok : okF O mst k (dgt q c M k) = true := by unfold okF; rw [hO]; rfl
          left
          exact ⟨_, M - (k + 1), by omega, if_pos rfl, k + 1, _, by omega, rfl, rfl, hgo hok, hrow2⟩
        | true =>
          rw [if_neg (show ¬ bI true = 0 by decide)]
          cases hm : mst (dgt q c M k) with
          | true =>
            have hok : okF O mst k (dgt q c M k) = true := by unfold okF; rw [hO, hm]; rfl
            left
            exact ⟨_, M - (k + 1), by omega, if_neg (show ¬ bI true = 0 by decide), k + 1, _, by omega, rfl, rfl, hgo hok, hrow2⟩
          | false =>
            right
            refine ⟨_, if_pos rfl, Or.inr ⟨fun h => ?_, row, rfl⟩⟩
            have := h k hk
            unfold okF at this
            rw [hO, hm] at this
            cases this)
    (k := M) (x := (nI (q ^ M), 0, sR τ 102 (rowF (fun _ => 0) (τ 102) q))) ⟨0, _, Nat.zero_le _, rfl, rfl, fun i hi => by omega, fun j hj => by rw [rowF_lt hj]; rfl⟩ (by omega)
theorem grAll {τ : SG} {q M c : Nat} {W sk : Nat → Nat} {O mst : Nat → Bool} (H : RX τ q M W sk O mst) (hc : c < q ^ M) : ∃ row, (vld (okF O mst) (dgt q c M) M ∧ F_Ref_greatestOf τ (nI c) (nI (q ^ M)) = some (nI (gc q M (dyF W sk) c), sR τ 102 row)) ∨ (¬ vld (okF O mst) (dgt q c M) M ∧ F_Ref_greatestOf τ (nI c) (nI (q ^ M)) = some (-1, sR τ 102 row)) := by
  obtain ⟨q1, q4, M9, c21, c31, ck, cj⟩ := id H
  obtain ⟨Y, g1, g2⟩ := gr28 H hc
  rcases g2 with ⟨hv, row, rfl, hrow⟩ | ⟨hv, row, rfl⟩
  · refine ⟨row, Or.inl ⟨hv, ?_⟩⟩
    have hsb : ∀ j, j < q → sS (dyF W sk) (dgt q c M) M j ≤ 18000 := fun j hj => by
      have := sS_bd (dy := dyF W sk) (a := dgt q c M) (k := M) (j := j) (c := 2000) (fun i hi => dyF_le (ck i hi).2.1 (cj j hj).2.2.1)
      omega
    have hgb : ∀ j, j ≤ q → gS (dyF W sk) (dgt q c M) M j ≤ 18000 := fun j hj => by
      rw [gS_le]
      intro j' hj'
      exact hsb j' (by omega)
    have hl : lpW (L_Ref_greatestOf_123 (sR τ 102 row)) FU (0, 0) = some (nI (gS (dyF W sk) (dgt q c M) M q)) := by
      refine lpW_at (s := fun j => (nI (gS (dyF W sk) (dgt q c M) M j), nI j)) q rfl ?_ ?_ (by omega)
      · intro j hj
        have h1 := hsb j hj
        have h2 := hgb j (by omega)
        unfold L_Ref_greatestOf_123
        dsimp only
        rw [if_neg (show ¬ (sR τ 102 row) 76 21 ≤ nI j by rw [show (sR τ 102 row) 76 21 = nI q from c21]; exact nI_ge hj (by omega)), vin_nI (show j < 4 by omega) (by decide)]
        simp only [og_t]
        have e : (sR τ 102 row) 102 (ix (nI j)) = nI (sS (dyF W sk) (dgt q c M) M j) := by rw [ix_nI (by omega), sR_at, hrow j hj]
        rw [gS, nI_1]
        by_cases hc : gS (dyF W sk) (dgt q c M) M j < sS (dyF W sk) (dgt q c M) M j
        · rw [if_neg (show ¬ (sR τ 102 row) 102 (ix (nI j)) ≤ nI (gS (dyF W sk) (dgt q c M) M j) by rw [e]; exact nI_ge hc (by omega)), if_pos hc, e]
        · rw [if_pos (show (sR τ 102 row) 102 (ix (nI j)) ≤ nI (gS (dyF W sk) (dgt q c M) M j) by rw [e]; exact nI_le (by omega) (by omega)), if_neg hc]
      · unfold L_Ref_greatestOf_123
        dsimp only
        rw [if_pos (show (sR τ 102 row) 76 21 ≤ nI q by rw [show (sR τ 102 row) 76 21 = nI q from c21]; exact nI_le (Nat.le_refl _) (by omega))]
    unfold F_Ref_greatestOf
    rw [ob_of (gr2 c21 q4), ob_of g1, Sum.elim_inl, ob_of hl]
    rfl
  · refine ⟨row, Or.inr ⟨hv, ?_⟩⟩
    unfold F_Ref_greatestOf
    rw [ob_of (gr2 c21 q4), ob_of g1, Sum.elim_inr]
theorem de255 {τ : SG} {q M c : Nat} {W sk : Nat → Nat} {O mst : Nat → Bool} (H : RX τ q M W sk O mst) (hc : c < q ^ M) : lpW (L_Ref_deal_255 (nI c)) FU (nI (q ^ M), 0, τ) = some (sR τ 99 (rowF (fun k => nI (dgt q c M k)) (τ 99) M)) := by
  obtain ⟨q1, q4, M9, c21, c31, ck, cj⟩ := id H
  refine lpW_at (s := fun k => (nI (q ^ (M - k)), nI k, sR τ 99 (rowF (fun k => nI (dgt q c M k)) (τ 99) k))) M ?_ ?_ ?_ (by omega)
  · rw [rowF_0, sR_self]; rfl
  · intro k hk
    obtain ⟨d1, d2, d3, d4⟩ := digR q1 q4 M9 hk hc
    unfold L_Ref_deal_255 nm
    dsimp only
    rw [if_neg (show ¬ (sR τ 99 (rowF (fun k => nI (dgt q c M k)) (τ 99) k)) 76 31 ≤ nI k by rw [show (sR τ 99 (rowF (fun k => nI (dgt q c M k)) (τ 99) k)) 76 31 = nI M from c31]; exact nI_ge hk (by omega)), show (sR τ 99 (rowF (fun k => nI (dgt q c M k)) (τ 99) k)) 76 21 = nI q from c21, d1, d2, d3, d4, vin_nI (show k < 9 by omega) (by decide)]
    simp only [og_t]
    rw [ix_nI (by omega), nI_1, up_sR, sR_at, sR_sR, ← rowF_s, show M - 1 - k = M - (k + 1) by omega]
  · unfold L_Ref_deal_255
    dsimp only
    rw [if_pos (show (sR τ 99 (rowF (fun k => nI (dgt q c M k)) (τ 99) M)) 76 31 ≤ nI M by rw [show (sR τ 99 (rowF (fun k => nI (dgt q c M k)) (τ 99) M)) 76 31 = nI M from c31]; exact nI_le (Nat.le_refl _) (by omega))]
def LR (q M : Nat) (dy : Nat → Nat → Nat) (τ : SG) : Option Nat → Prop
  | none => τ 76 33 = -1
  | some c => τ 76 33 = nI (gc q M dy c) ∧ ∀ i, i < M → τ 99 i = nI (dgt q c M i)
theorem LR_c {q M : Nat} {dy : Nat → Nat → Nat} {τ τ' : SG} {b : Option Nat} (h1 : τ' 76 = τ 76) (h2 : τ' 99 = τ 99) (h : LR q M dy τ b) : LR q M dy τ' b := by
  cases b with
  | none => show τ' 76 33 = _; rw [h1]; exact h
  | some c => show τ' 76 33 = _ ∧ _; rw [h1, h2]; exact h
theorem gc_bd {q M c : Nat} {W sk : Nat → Nat} (hM : M ≤ 9) (hW : ∀ k, k < M → W k < 1000) (hs : ∀ j, j < q → sk j ≤ 20) : gc q M (dyF W sk) c ≤ 18000 := by
  have := gS_bd (dy := dyF W sk) (a := dgt q c M) (k := M) (q := q) (fun i j hi hj => dyF_le (hW i hi) (hs j hj))
  unfold gc
  omega
theorem de207 {τ0 : SG} {q M : Nat} {W sk : Nat → Nat} {O mst : Nat → Bool} (H : RX τ0 q M W sk O mst) (h33 : τ0 76 33 = -1) : ∃ Y b, lpW (L_Ref_deal_207 (nI (q ^ M))) FU (0, τ0) = some Y ∧ DE τ0 Y ∧ Best q M (dyF W sk) (okF O mst) (q ^ M) b ∧ LR q M (dyF W sk) Y b := by
  obtain ⟨q1, q4, M9, c21, c31, ck, cj⟩ := id H
  have hpb := pow_bd q4 M9
  have hgb : ∀ c, gc q M (dyF W sk) c ≤ 18000 := fun c => gc_bd M9 (fun k hk => (ck k hk).2.1) (fun j hj => (cj j hj).2.2.1)
  have hll := lpInv (f := L_Ref_deal_207 (nI (q ^ M)))
    (Inv := fun kk X => ∃ e τ b, e ≤ q ^ M ∧ kk = q ^ M - e ∧ X = (nI e, τ) ∧ DE τ0 τ ∧ Best q M (dyF W sk) (okF O mst) e b ∧ LR q M (dyF W sk) τ b)
    (Post := fun Y => ∃ b, DE τ0 Y ∧ Best q M (dyF W sk) (okF O mst) (q ^ M) b ∧ LR q M (dyF W sk) Y b)
    (fun kk X hI => by
      obtain ⟨e, τ, b, h1, h2, rfl, hF, hB, hL⟩ := hI
      by_cases he : e = q ^ M
      · right
        refine ⟨τ, ?_, b, hF, he ▸ hB, hL⟩
        unfold L_Ref_deal_207
        dsimp only
        rw [he, if_pos (nI_le (Nat.le_refl _) (by omega))]
      · left
        have hel : e < q ^ M := by omega
        obtain ⟨row, hg⟩ := grAll (RX_c hF H) hel
        have hc : ¬ nI (q ^ M) ≤ nI e := nI_ge hel (by omega)
        rcases hg with ⟨hv, hg⟩ | ⟨hv, hg⟩
        · have hne : ¬ nI (gc q M (dyF W sk) e) = -1 := nm1_ne (by have := hgb e; omega)
          -- the new best
          have hnew : (∀ d, b = some d → gc q M (dyF W sk) e < gc q M (dyF W sk) d) → ∃ τ', lpW (L_Ref_deal_255 (nI e)) FU (nI (q ^ M), 0, up (sR τ 102 row) 76 33 (nI (gc q M (dyF W sk) e))) = some τ' ∧ DE τ0 τ' ∧ Best q M (dyF W sk) (okF O mst) (e + 1) (some e) ∧ LR q M (dyF W sk) τ' (some e) := by
            intro hlt
            have hF' : DE τ0 (up (sR τ 102 row) 76 33 (nI (gc q M (dyF W sk) e))) := DE_33 (DE_102 hF)
            refine ⟨_, de255 (RX_c hF' H) hel, DE_99 hF', Best_new hB hv hlt, rfl, fun i hi => ?_⟩
            rw [sR_at, rowF_lt hi]
          cases b with
          | none =>
            obtain ⟨τ', k1, k2, k3, k4⟩ := hnew (fun d h => by cases h)
            refine ⟨(nI (e + 1), τ'), q ^ M - (e + 1), by omega, ?_, e + 1, τ', some e, by omega, rfl, rfl, k2, k3, k4⟩
            unfold L_Ref_deal_207
            dsimp only
            rw [if_neg hc, ob_of hg]
            dsimp only
            rw [if_neg hne, if_pos (show (sR τ 102 row) 76 33 = -1 from hL), ob_of k1, nI_1]
          | some d =>
            have hd := hgb d
            have he2 := hgb e
            have e33 : (sR τ 102 row) 76 33 = nI (gc q M (dyF W sk) d) := hL.1
            have hnd : ¬ (sR τ 102 row) 76 33 = -1 := by rw [e33]; exact nm1_ne (by omega)
            by_cases hle : gc q M (dyF W sk) d ≤ gc q M (dyF W sk) e
            · refine ⟨(nI (e + 1), sR τ 102 row), q ^ M - (e + 1), by omega, ?_, e + 1, sR τ 102 row, some d, by omega, rfl, rfl, DE_102 hF, Best_skip hB (fun c hc1 hc2 _ => ⟨d, rfl, ?_⟩) (by omega), LR_c rfl rfl hL⟩
              · unfold L_Ref_deal_207
                dsimp only
                rw [if_neg hc, ob_of hg]
                dsimp only
                rw [if_neg hne, if_neg hnd, if_pos (show (sR τ 102 row) 76 33 ≤ nI (gc q M (dyF W sk) e) by rw [e33]; exact nI_le hle (by omega)), nI_1]
              · have : c = e := by omega
                rw [this]; exact hle
            · obtain ⟨τ', k1, k2, k3, k4⟩ := hnew (fun d' h => by cases h; omega)
              refine ⟨(nI (e + 1), τ'), q ^ M - (e + 1), by omega, ?_, e + 1, τ', some e, by omega, rfl, rfl, k2, k3, k4⟩
              unfold L_Ref_deal_207
              dsimp only
              rw [if_neg hc, ob_of hg]
              dsimp only
              rw [if_neg hne, if_neg hnd, if_neg (show ¬ (sR τ 102 row) 76 33 ≤ nI (gc q M (dyF W sk) e) by rw [e33]; exact nI_ge (by omega) (by omega)), ob_of k1, nI_1]
        · refine ⟨(nI (e + 1), sR τ 102 row), q ^ M - (e + 1), by omega, ?_, e + 1, sR τ 102 row, b, by omega, rfl, rfl, DE_102 hF, Best_skip hB (fun c hc1 hc2 hvc => ?_) (by omega), LR_c rfl rfl hL⟩
          · unfold L_Ref_deal_207
            dsimp only
            rw [if_neg hc, ob_of hg]
            dsimp only
            rw [if_pos rfl, nI_1]
          · have : c = e := by omega
            subst this
            exact absurd hvc hv)
    (k := q ^ M) (x := (0, τ0)) ⟨0, τ0, none, Nat.zero_le _, rfl, rfl, ⟨fun _ _ _ _ => rfl, fun _ _ => rfl⟩, fun c hc => by omega, h33⟩ (by omega)
  obtain ⟨Y, g1, b, g2, g3, g4⟩ := hll
  exact ⟨Y, b, g1, g2, g3, g4⟩
end
section
/-! days and dealt -/
theorem RD_DC {σ τ : SG} {w h : Nat} (h0 : DCf σ τ) (H : RD σ w h) : RD τ w h := RD_c (fun p hp => by rcases hp with rfl | rfl | rfl <;> exact h0 _ (by decide) (by decide) (by decide) (by decide) (by decide) (by decide)) (by rw [h0 76 (by decide) (by decide) (by decide) (by decide) (by decide) (by decide)]) (by rw [h0 76 (by decide) (by decide) (by decide) (by decide) (by decide) (by decide)]) H
theorem RF_DC {σ τ : SG} (h0 : DCf σ τ) (H : RF σ) : RF τ := RF_c (fun p hp => by rcases hp with rfl | rfl | rfl | rfl | rfl | rfl | rfl | rfl | rfl | rfl <;> exact h0 _ (by decide) (by decide) (by decide) (by decide) (by decide) (by decide)) H
theorem RLo_DC {σ τ : SG} {m : Nat} (h0 : DCf σ τ) (H : RLo σ m) : RLo τ m := RLo_c (fun p hp => by rcases hp with rfl | rfl | rfl | rfl | rfl | rfl | rfl <;> exact h0 _ (by decide) (by decide) (by decide) (by decide) (by decide) (by decide)) (by rw [h0 76 (by decide) (by decide) (by decide) (by decide) (by decide) (by decide)]) H
theorem RH_DC {σ τ : SG} {q : Nat} (h0 : DCf σ τ) (H : RH σ q) : RH τ q := RH_c (fun p hp => by rcases hp with rfl | rfl | rfl | rfl | rfl <;> exact h0 _ (by decide) (by decide) (by decide) (by decide) (by decide) (by decide)) (by rw [h0 76 (by decide) (by decide) (by decide) (by decide) (by decide) (by decide)]) H
theorem RC_DC {σ τ : SG} {w h m n S : Nat} {pt : Bool} (h0 : DCf σ τ) (H : RC σ w h m n S pt) : RC τ w h m n S pt := RC_c (fun p hp => by rcases hp with rfl | rfl | rfl | rfl | rfl | rfl | rfl | rfl | rfl | rfl | rfl | rfl | rfl | rfl | rfl | rfl | rfl | rfl | rfl <;> exact h0 _ (by decide) (by decide) (by decide) (by decide) (by decide) (by decide)) (fun k _ => by rw [h0 76 (by decide) (by decide) (by decide) (by decide) (by decide) (by decide)]) H
theorem RD_DR {σ τ : SG} {w h : Nat} (h0 : DRf σ τ) (H : RD σ w h) : RD τ w h := RD_c (fun p hp => by rcases hp with rfl | rfl | rfl <;> exact h0.1 _ (by decide) (by decide) (by decide) (by decide) (by decide) (by decide)) (h0.2 0 (by decide) (by decide)) (h0.2 1 (by decide) (by decide)) H
theorem RF_DR {σ τ : SG} (h0 : DRf σ τ) (H : RF σ) : RF τ := RF_c (fun p hp => by rcases hp with rfl | rfl | rfl | rfl | rfl | rfl | rfl | rfl | rfl | rfl <;> exact h0.1 _ (by decide) (by decide) (by decide) (by decide) (by decide) (by decide)) H
theorem RLo_DR {σ τ : SG} {m : Nat} (h0 : DRf σ τ) (H : RLo σ m) : RLo τ m := RLo_c (fun p hp => by rcases hp with rfl | rfl | rfl | rfl | rfl | rfl | rfl <;> exact h0.1 _ (by decide) (by decide) (by decide) (by decide) (by decide) (by decide)) (h0.2 18 (by decide) (by decide)) H
theorem RH_DR {σ τ : SG} {q : Nat} (h0 : DRf σ τ) (H : RH σ q) : RH τ q := RH_c (fun p hp => by rcases hp with rfl | rfl | rfl | rfl | rfl <;> exact h0.1 _ (by decide) (by decide) (by decide) (by decide) (by decide) (by decide)) (h0.2 21 (by decide) (by decide)) H
theorem RC_DR {σ τ : SG} {w h m n S : Nat} {pt : Bool} (h0 : DRf σ τ) (H : RC σ w h m n S pt) : RC τ w h m n S pt := RC_c (fun p hp => by rcases hp with rfl | rfl | rfl | rfl | rfl | rfl | rfl | rfl | rfl | rfl | rfl | rfl | rfl | rfl | rfl | rfl | rfl | rfl | rfl <;> exact h0.1 _ (by decide) (by decide) (by decide) (by decide) (by decide) (by decide)) (fun k hk => h0.2 k (by omega) (by omega)) H
def fcS (σ : SG) (n : Nat) (s : Nat) : Bool := anyB (fun i => decide (σ 30 i = nI s) && decide (σ 17 (ix (σ 26 i)) = 1)) n
def msS (σ : SG) (q : Nat) : Bool := anyB (fun j => decide (σ 64 j = 1)) q
theorem headC {σ : SG} {w h m n S : Nat} {pt : Bool} (hD : RD σ w h) (hF : RF σ) (hC : RC σ w h m n S pt) (s : Nat) : F_Sheets_hasHead σ (nI s) = some (fcS σ n s) ∧ F_Ref_hasFace σ (nI s) = some (fcS σ n s) := by
  obtain ⟨z, f, hz, hf, hf26, hf85, e1, e2, e3⟩ := sheet_facts hD hF hC
  obtain ⟨⟨c1, c2, hn240, -⟩, -⟩ := hC
  have hb720 : sm (fun i => decide (σ 30 i = nI s) && decide (σ 17 (ix (σ 26 i)) = 1)) z n ≤ n * 3 := sm_le (fun i hi => (hz i hi).2.2)
  have hfc : fcS σ n s = decide (0 < sm (fun i => decide (σ 30 i = nI s) && decide (σ 17 (ix (σ 26 i)) = 1)) z n) := by
    unfold fcS
    rw [Bool.eq_iff_iff, anyB_iff, decide_eq_true_eq, sm_pos (fun i hi => (hz i hi).2.1)]
  constructor
  · unfold F_Sheets_hasHead
    rw [ob_of (marked16_eq c1 hn240 hf26 (nI s)), sI_sm (fun i hi => (hz i hi).1), hfc]
    generalize sm (fun i => decide (σ 30 i = nI s) && decide (σ 17 (ix (σ 26 i)) = 1)) z n = K at hb720
    by_cases h0 : 0 < K
    · rw [if_neg (nI_nle h0 (by omega)), decide_eq_true h0]
    · have : K = 0 := by omega
      subst this
      rfl
  · rw [hasFace_eq c2 hn240 hf85 (nI s), e2, hfc]
theorem mastC {σ : SG} {q : Nat} (hH : RH σ q) : F_Hands_haveMaster σ = some (msS σ q) := by
  obtain ⟨h60, -, hq, -, -, -⟩ := hH
  have hl : lpW (L_Hands_haveMaster_4 σ) FU (false, 0) = some (msS σ q) := by
    refine lpW_at (s := fun j => (msS σ j, nI j)) q rfl ?_ ?_ (by omega)
    · intro j hj
      unfold L_Hands_haveMaster_4 F_Hands_isMaster
      dsimp only
      rw [if_neg (show ¬ σ 60 0 ≤ nI j by rw [h60]; exact nI_ge hj (by omega)), rg_nI (show j < 4 by omega) (by decide), nI_1, show msS σ (j + 1) = (msS σ j || decide (σ 64 j = 1)) from rfl]
      cases hm : msS σ j with
      | true => rw [if_pos rfl]; rfl
      | false =>
        rw [if_neg Bool.false_ne_true]
        by_cases h1 : σ 64 j = 1
        · rw [if_pos h1, if_pos rfl, decide_eq_true h1]; rfl
        · rw [if_neg h1, if_neg Bool.false_ne_true, decide_eq_false h1]; rfl
    · unfold L_Hands_haveMaster_4
      dsimp only
      rw [if_pos (show σ 60 0 ≤ nI q by rw [h60]; exact nI_le (Nat.le_refl _) (by omega))]
  unfold F_Hands_haveMaster
  rw [ob_of hl]
theorem mastR {σ : SG} {q : Nat} (hH : RH σ q) : lpW (L_Ref_deal_9 σ) FU (false, 0) = some (msS σ q) := by
  obtain ⟨-, h60, hq, -, h91, hk⟩ := hH
  refine lpW_at (s := fun j => (msS σ j, nI j)) q rfl ?_ ?_ (by omega)
  · intro j hj
    obtain ⟨-, ⟨b, hb⟩⟩ := hk j hj
    unfold L_Ref_deal_9
    dsimp only
    rw [if_neg (show ¬ (up σ 76 31 0) 76 21 ≤ nI j by rw [show (up σ 76 31 0) 76 21 = nI q from h60]; exact nI_ge hj (by omega)), vin_nI (show j < 4 by omega) (by decide), og_t, ix_nI (by omega), nI_1, show msS σ (j + 1) = (msS σ j || decide (σ 64 j = 1)) from rfl]
    have e91 : (up σ 76 31 0) 91 j = bI b := by show σ 91 j = _; rw [h91]; exact hb
    cases hm : msS σ j with
    | true => rw [if_pos rfl]; rfl
    | false =>
      rw [if_neg Bool.false_ne_true, hb, bI_eq1]
      cases b with
      | true => rw [if_neg (show ¬ (up σ 76 31 0) 91 j = 0 by rw [e91]; decide)]; rfl
      | false => rw [if_pos (show (up σ 76 31 0) 91 j = 0 by rw [e91]; rfl)]; rfl
  · unfold L_Ref_deal_9
    dsimp only
    rw [if_pos (show (up σ 76 31 0) 76 21 ≤ nI q by rw [show (up σ 76 31 0) 76 21 = nI q from h60]; exact nI_le (Nat.le_refl _) (by omega))]
/-- the numbers that the dealing is made of -/
def wtS2 (σ : SG) (s : Nat) : Nat := ix (σ 59 s)
def skS (σ : SG) (j : Nat) : Nat := ix (σ 62 j)
def msJ (σ : SG) (j : Nat) : Bool := decide (σ 64 j = 1)
def dyS (σ : SG) (L : Nat → Nat) : Nat → Nat → Nat := dyF (fun k => wtS2 σ (L k)) (skS σ)
def okS (σ : SG) (n : Nat) (L : Nat → Nat) : Nat → Nat → Bool := okF (fun k => fcS σ n (L k)) (msJ σ)
theorem wt_of {σ : SG} {w h m n S : Nat} {pt : Bool} (hD : RD σ w h) (hF : RF σ) (hC : RC σ w h m n S pt) {s : Nat} (hs : s < S) : σ 59 s = nI (wtS2 σ s) ∧ wtS2 σ s < 1000 := by
  obtain ⟨k, hk, e⟩ := (weights hD hF hC).1 s hs
  unfold wtS2
  rw [e, ix_nI (by omega)]
  exact ⟨rfl, hk⟩
theorem sk_of {σ : SG} {q j : Nat} (hH : RH σ q) (hj : j < q) : σ 62 j = nI (skS σ j) ∧ 1 ≤ skS σ j ∧ skS σ j ≤ 20 ∧ σ 64 j = bI (msJ σ j) := by
  obtain ⟨⟨s, s1, s2, e⟩, ⟨b, hb⟩⟩ := hH.2.2.2.2.2 j hj
  unfold skS msJ
  rw [e, ix_nI (by omega), hb, bI_eq1]
  exact ⟨rfl, s1, s2, rfl⟩
/-- there is a dealing -/
theorem best_ex {σ : SG} {q n S M : Nat} {L : Nat → Nat} {wt : Nat → Nat} (hq : 1 ≤ q) (hh : hl wt (fcS σ n) (msS σ q) S = some (M, L)) {b : Option Nat} (hB : Best q M (dyS σ L) (okS σ n L) (q ^ M) b) : ∃ c, b = some c := by
  obtain ⟨-, hf⟩ := hl_facts hh
  cases hm : msS σ q with
  | true =>
    obtain ⟨j, hj, hj2⟩ := anyB_iff.mp hm
    refine Best_some hB hj (fun k hk => ?_)
    show (!_ || decide (σ 64 j = 1)) = true
    rw [hj2]
    exact Bool.or_true _
  | false =>
    refine Best_some hB (show 0 < q by omega) (fun k hk => ?_)
    have := (hf k hk).2.2
    show (!(fcS σ n (L k)) || _) = true
    cases hfk : fcS σ n (L k) with
    | true => rw [hm] at this; exact absurd (this hfk) Bool.false_ne_true
    | false => rfl
theorem gS_0 {dy : Nat → Nat → Nat} {a : Nat → Nat} {q : Nat} : gS dy a 0 q = 0 := by
  have : gS dy a 0 q ≤ 0 := by
    rw [gS_le]; intro j hj; exact Nat.le_refl 0
  omega
theorem dealC {σ : SG} {w h m n S q : Nat} {pt : Bool} (hD : RD σ w h) (hF : RF σ) (hH : RH σ q) (hC : RC σ w h m n S pt) :
    ∃ v τ, F_Dealer_dealSheets σ = some (v, τ) ∧ DCf σ τ ∧ ((v = false ∧ (q = 0 ∨ hl (wtS2 σ) (fcS σ n) (msS σ q) S = none)) ∨ (v = true ∧ 1 ≤ q ∧ ∃ M L c, hl (wtS2 σ) (fcS σ n) (msS σ q) S = some (M, L) ∧ Best q M (dyS σ L) (okS σ n L) (q ^ M) (some c) ∧ τ 65 0 = nI (gc q M (dyS σ L) c) ∧ τ 65 3 = nI M ∧ ∀ k, k < M → τ 67 k = nI (L k) ∧ τ 73 k = nI (dgt q c M k))) := by
  obtain ⟨h60, -, hq4, -, -, -⟩ := id hH
  obtain ⟨-, -, ⟨hS, -, hS240, -, -⟩, -⟩ := id hC
  by_cases hq0 : q = 0
  · refine ⟨false, σ, ?_, fun _ _ _ _ _ _ _ => rfl, Or.inl ⟨rfl, Or.inl hq0⟩⟩
    unfold F_Dealer_dealSheets
    rw [if_pos (show σ 60 0 = 0 by rw [h60, hq0]; rfl)]
  have hq1 : 1 ≤ q := by omega
  have hc60 : ¬ σ 60 0 = 0 := by rw [h60]; exact nI_ne0 hq1 (by omega)
  obtain ⟨Y, g1, g2⟩ := gatherC hS hS240 (fun s hs => wt_of hD hF hC hs) (fun τ hτ s hs => by
    rw [(headC (RD_DC hτ hD) (RF_DC hτ hF) (RC_DC hτ hC) s).1]
    unfold fcS
    rw [hτ 30 (by decide) (by decide) (by decide) (by decide) (by decide) (by decide), hτ 17 (by decide) (by decide) (by decide) (by decide) (by decide) (by decide), hτ 26 (by decide) (by decide) (by decide) (by decide) (by decide) (by decide)]) (fun τ hτ => by
    rw [mastC (RH_DC hτ hH)]
    unfold msS
    rw [hτ 64 (by decide) (by decide) (by decide) (by decide) (by decide) (by decide)]) (fc := fcS σ n) (ms := msS σ q) (wt := wtS2 σ)
  rcases g2 with ⟨M, L, τ, hh, rfl, ⟨hτ, h65, h67⟩⟩ | ⟨hh, τ, rfl, hτ⟩
  rotate_left
  · refine ⟨false, τ, ?_, hτ, Or.inl ⟨rfl, Or.inr hh⟩⟩
    unfold F_Dealer_dealSheets
    rw [if_neg hc60, ob_of g1]
    rfl
  obtain ⟨hM9, hLf⟩ := hl_facts hh
  generalize hτ1 : rf (up τ 65 0 1000000) 75 4 0 = τ1
  have t1 : ∀ p, p ≠ 65 → p ≠ 75 → τ1 p = τ p := fun p a b => by rw [← hτ1, rf_sR, sR_ne _ _ b, up_ne _ _ _ a]
  have H : DS τ1 q M L (fun k => wtS2 σ (L k)) (skS σ) (fun k => fcS σ n (L k)) (msJ σ) := by
    refine ⟨hq1, hq4, hM9, ?_, ?_, fun k hk => ⟨?_, ?_, ?_, ?_, ?_⟩, fun j hj => ?_⟩
    · rw [t1 60 (by decide) (by decide), hτ 60 (by decide) (by decide) (by decide) (by decide) (by decide) (by decide)]; exact h60
    · rw [← hτ1]; exact h65
    · rw [t1 67 (by decide) (by decide)]; exact (h67 k hk).1
    · have := (hLf k hk).1; exact Nat.lt_of_lt_of_le this hS240
    · rw [t1 59 (by decide) (by decide), hτ 59 (by decide) (by decide) (by decide) (by decide) (by decide) (by decide)]; exact (wt_of hD hF hC (hLf k hk).1).1
    · exact (wt_of hD hF hC (hLf k hk).1).2
    · rw [t1 69 (by decide) (by decide)]; exact (h67 k hk).2
    · rw [t1 62 (by decide) (by decide), hτ 62 (by decide) (by decide) (by decide) (by decide) (by decide) (by decide), t1 64 (by decide) (by decide), hτ 64 (by decide) (by decide) (by decide) (by decide) (by decide) (by decide)]; exact sk_of hH hj
  obtain ⟨τ2, b, r1, ⟨rF, -, -, rL⟩, r3⟩ := dfs H M 0 (by omega) 11 (by omega) 0 τ1 none ⟨⟨fun _ _ _ _ _ => rfl, fun _ _ => rfl⟩, fun i hi => by omega, fun j hj => by rw [← hτ1, rf_sR, sR_at]; exact if_pos (by omega), by rw [← hτ1]; rfl⟩ (fun c hc => by omega) (fun i hi => by omega) (fun c hc => by cases hc)
  rw [gS_0] at r1
  rw [Nat.zero_add, Nat.one_mul] at r3
  obtain ⟨c, rfl⟩ := best_ex hq1 hh r3
  have t2 : ∀ p, p ≠ 65 → p ≠ 71 → p ≠ 73 → p ≠ 75 → τ2 p = τ p := fun p a b c d => by rw [rF.1 p a b c d, t1 p a d]
  refine ⟨true, τ2, ?_, fun p a1 a2 a3 a4 a5 a6 => ?_, Or.inr ⟨rfl, hq1, M, L, c, hh, r3, rL.1, ?_, fun k hk => ⟨?_, rL.2 k hk⟩⟩⟩
  · unfold F_Dealer_dealSheets F_Dealer_dealFrom
    rw [if_neg hc60, ob_of g1]
    dsimp only
    rw [if_pos rfl, hτ1, ob_of (show R_Dealer_dealFrom 11 τ1 0 0 = some τ2 from r1)]
  · rw [t2 p a1 a4 a5 a6, hτ p a1 a2 a3 a4 a5 a6]
  · rw [rF.2 3 (by decide), ← hτ1]; exact h65
  · rw [t2 67 (by decide) (by decide) (by decide) (by decide)]; exact (h67 k hk).1
theorem de130 {τ : SG} {q M : Nat} (hq : τ 76 21 = nI q) (hM : τ 76 31 = nI M) (hM9 : M ≤ 9) : lpW (L_Ref_deal_130 τ) FU (1, 0) = some (nI (q ^ M)) := by
  refine lpW_at (s := fun k => (nI (q ^ k), nI k)) M rfl ?_ ?_ (by omega)
  · intro k hk
    unfold L_Ref_deal_130
    dsimp only
    rw [if_neg (show ¬ τ 76 31 ≤ nI k by rw [hM]; exact nI_ge hk (by omega)), hq, nI_mul, nI_1, ← Nat.pow_succ]
  · unfold L_Ref_deal_130
    dsimp only
    rw [if_pos (show τ 76 31 ≤ nI M by rw [hM]; exact nI_le (Nat.le_refl _) (by omega))]
theorem dealR {σ : SG} {w h m n S q : Nat} {pt : Bool} (hD : RD σ w h) (hF : RF σ) (hH : RH σ q) (hC : RC σ w h m n S pt) :
    ∃ v τ, F_Ref_deal σ = some (v, τ) ∧ DRf σ τ ∧ ((v = false ∧ (S = 0 ∨ q = 0 ∨ hl (wtS2 σ) (fcS σ n) (msS σ q) S = none)) ∨ (v = true ∧ 1 ≤ q ∧ 0 < S ∧ ∃ M L c, hl (wtS2 σ) (fcS σ n) (msS σ q) S = some (M, L) ∧ Best q M (dyS σ L) (okS σ n L) (q ^ M) (some c) ∧ τ 76 33 = nI (gc q M (dyS σ L) c) ∧ τ 76 31 = nI M ∧ ∀ k, k < M → τ 98 k = nI (L k) ∧ τ 99 k = nI (dgt q c M k))) := by
  obtain ⟨-, h21, hq4, h90, h91, -⟩ := id hH
  obtain ⟨-, -, ⟨-, hS, hS240, h9, -⟩, -⟩ := id hC
  have hsum : ∀ τ, DRf σ τ → ∀ s, s < S → F_Ref_sumOf τ (nI s) false = some (nI (wtS2 σ s)) := fun τ hτ s hs => by
    rw [(weights (RD_DR hτ hD) (RF_DR hτ hF) (RC_DR hτ hC)).2 s hs, hτ.1 59 (by decide) (by decide) (by decide) (by decide) (by decide) (by decide), (wt_of hD hF hC hs).1]
  have hfc : ∀ τ, DRf σ τ → ∀ s, s < S → F_Ref_hasFace τ (nI s) = some (fcS σ n s) := fun τ hτ s hs => by
    rw [(headC (RD_DR hτ hD) (RF_DR hτ hF) (RC_DR hτ hC) s).2]
    unfold fcS
    rw [hτ.1 30 (by decide) (by decide) (by decide) (by decide) (by decide) (by decide), hτ.1 17 (by decide) (by decide) (by decide) (by decide) (by decide) (by decide), hτ.1 26 (by decide) (by decide) (by decide) (by decide) (by decide) (by decide)]
  obtain ⟨Y, g1, g2⟩ := gatherR (σ0 := up σ 76 31 0) (ms := msS σ q) hS hS240 (fun s hs => (wt_of hD hF hC hs).2) hsum hfc ⟨⟨fun p a b c d e f => up_ne _ _ _ a, fun k a b => by show upd (σ 76) 31 0 k = _; rw [upd_ne _ _ a]⟩, rfl, fun k hk => by omega⟩
  rcases g2 with ⟨M, L, τ, hh, rfl, ⟨hτ, h31, h98⟩⟩ | ⟨hh, τ, rfl, hτ⟩
  rotate_left
  · refine ⟨false, τ, ?_, hτ, Or.inl ⟨rfl, Or.inr (Or.inr hh)⟩⟩
    unfold F_Ref_deal
    rw [ob_of (mastR hH), ob_of g1, Sum.elim_inr]
  by_cases hS0 : S = 0
  · refine ⟨false, τ, ?_, hτ, Or.inl ⟨rfl, Or.inl hS0⟩⟩
    unfold F_Ref_deal
    rw [ob_of (mastR hH), ob_of g1, Sum.elim_inl, if_pos (show τ 76 9 = 0 by rw [hτ.2 9 (by decide) (by decide), h9, hS0]; rfl)]
  have hc9 : ¬ τ 76 9 = 0 := by rw [hτ.2 9 (by decide) (by decide), h9, decide_eq_true (show 0 < S by omega)]; decide
  by_cases hq0 : q = 0
  · refine ⟨false, τ, ?_, hτ, Or.inl ⟨rfl, Or.inr (Or.inl hq0)⟩⟩
    unfold F_Ref_deal
    rw [ob_of (mastR hH), ob_of g1, Sum.elim_inl, if_neg hc9, if_pos (show τ 76 21 = 0 by rw [hτ.2 21 (by decide) (by decide), h21, hq0]; rfl)]
  have hq1 : 1 ≤ q := by omega
  have t21 : τ 76 21 = nI q := by rw [hτ.2 21 (by decide) (by decide)]; exact h21
  have hc21 : ¬ τ 76 21 = 0 := by rw [t21]; exact nI_ne0 hq1 (by omega)
  obtain ⟨hM9, hLf⟩ := hl_facts hh
  -- the rows of weights
  have h153 : lpW L_Ref_deal_153 FU (0, τ) = some (w2 τ 100 101 (rowF (fun k => nI (wtS2 σ (L k))) (τ 100) M) (rowF (fun k => bI (fcS σ n (L k))) (τ 101) M)) := by
    refine lpW_at (s := fun k => (nI k, w2 τ 100 101 (rowF (fun k => nI (wtS2 σ (L k))) (τ 100) k) (rowF (fun k => bI (fcS σ n (L k))) (τ 101) k))) M ?_ ?_ ?_ (Nat.lt_of_le_of_lt hM9 (by decide))
    · rw [rowF_0, rowF_0, w2_self]; rfl
    · intro k hk
      have hM9' : M ≤ 9 := hM9
      have hLk := (hLf k hk).1
      have hfr : ∀ A B, DRf σ (w2 τ 100 101 A B) := fun A B => ⟨fun p a b c d e f => by rw [w2_o _ _ _ d e]; exact hτ.1 p a b c d e f, fun k a b => hτ.2 k a b⟩
      rw [← rowF_s, ← rowF_s]
      generalize rowF (fun k => nI (wtS2 σ (L k))) (τ 100) k = A
      generalize rowF (fun k => bI (fcS σ n (L k))) (τ 101) k = B
      have hkk : ix (nI k) = k := ix_nI (by omega)
      have e98 : ∀ A B, (w2 τ 100 101 A B) 98 k = nI (L k) := fun A B => h98 k hk
      unfold L_Ref_deal_153 nm
      dsimp only
      rw [if_neg (show ¬ (w2 τ 100 101 A B) 76 31 ≤ nI k by rw [show (w2 τ 100 101 A B) 76 31 = nI M from h31]; exact nI_ge hk (by omega)), vin_nI (show k < 9 by omega) (by decide)]
      simp only [og_t]
      rw [hkk, e98, ob_of (hsum _ (hfr A B) _ hLk), up_w2p _ _ _ (by decide), e98, ob_of (hfc _ (hfr _ B) _ hLk), up_w2q, nI_1]
    · unfold L_Ref_deal_153
      dsimp only
      rw [if_pos (show (w2 τ 100 101 _ _) 76 31 ≤ nI M by rw [show ∀ A B, (w2 τ 100 101 A B) 76 31 = nI M from fun _ _ => h31]; exact nI_le (Nat.le_refl _) (Nat.lt_of_le_of_lt hM9 (by decide)))]
  generalize hτ1 : up (w2 τ 100 101 (rowF (fun k => nI (wtS2 σ (L k))) (τ 100) M) (rowF (fun k => bI (fcS σ n (L k))) (τ 101) M)) 76 33 (-1) = τ1
  have H : RX τ1 q M (fun k => wtS2 σ (L k)) (skS σ) (fun k => fcS σ n (L k)) (msJ σ) := by
    refine ⟨hq1, hq4, hM9, ?_, ?_, fun k hk => ⟨?_, ?_, ?_⟩, fun j hj => ?_⟩
    · rw [← hτ1]; exact t21
    · rw [← hτ1]; exact h31
    · rw [← hτ1, up_ne _ _ _ (by decide), w2_p _ _ _ (by decide), rowF_lt hk]
    · exact (wt_of hD hF hC (hLf k hk).1).2
    · rw [← hτ1, up_ne _ _ _ (by decide), w2_q, rowF_lt hk]
    · obtain ⟨a, b, c, d⟩ := sk_of hH hj
      refine ⟨?_, b, c, ?_⟩
      · rw [← hτ1, up_ne _ _ _ (by decide), w2_o _ _ _ (by decide) (by decide), hτ.1 90 (by decide) (by decide) (by decide) (by decide) (by decide) (by decide), h90]; exact a
      · rw [← hτ1, up_ne _ _ _ (by decide), w2_o _ _ _ (by decide) (by decide), hτ.1 91 (by decide) (by decide) (by decide) (by decide) (by decide) (by decide), h91]; exact d
  obtain ⟨τ2, b, r1, rF, rB, rL⟩ := de207 H (by rw [← hτ1]; rfl)
  obtain ⟨c, rfl⟩ := best_ex hq1 hh rB
  refine ⟨true, τ2, ?_, ⟨fun p a1 a2 a3 a4 a5 a6 => ?_, fun k a b => ?_⟩, Or.inr ⟨rfl, hq1, by omega, M, L, c, hh, rB, rL.1, ?_, fun k hk => ⟨?_, rL.2 k hk⟩⟩⟩
  · unfold F_Ref_deal
    rw [ob_of (mastR hH), ob_of g1, Sum.elim_inl, if_neg hc9, if_neg hc21, ob_of (de130 t21 h31 hM9), ob_of h153, hτ1, ob_of r1]
  · rw [rF.1 p a1 a3 a6, ← hτ1, up_ne _ _ _ a1, w2_o _ _ _ a4 a5]; exact hτ.1 p a1 a2 a3 a4 a5 a6
  · rw [rF.2 k b, ← hτ1, up_sR, sR_at, upd_ne _ _ b]; exact hτ.2 k a b
  · rw [rF.2 31 (by decide), ← hτ1]; exact h31
  · rw [rF.1 98 (by decide) (by decide) (by decide), ← hτ1]; exact h98 k hk
theorem op_days {σ : SG} (hR : R σ) : ∃ r σ1 σ2, F_Shop_days σ = some (r, σ1) ∧ F_Ref_days σ1 = some (r, σ2) ∧ R σ2 := by
  obtain ⟨w, h, m, q, n, S, pt, hD, hF, hL, hH, hC⟩ := id hR
  have hcutd := isCut_iff hC.2.2.1.1 hC.2.2.1.2.2.1
  by_cases hS0 : S = 0
  · obtain ⟨v, τ, g1, g2, g3⟩ := dealR hD hF hH hC
    rcases g3 with ⟨rfl, -⟩ | ⟨-, -, h0, -⟩
    · refine ⟨-3, σ, τ, ?_, ?_, w, h, m, q, n, S, pt, RD_DR g2 hD, RF_DR g2 hF, RLo_DR g2 hL, RH_DR g2 hH, RC_DR g2 hC⟩
      · unfold F_Shop_days
        rw [if_neg (show ¬ F_Shop_isCut σ = true by rw [hcutd, hS0]; decide)]
      · unfold F_Ref_days
        rw [ob_of g1]
        rfl
    · omega
  have hcut : F_Shop_isCut σ = true := by rw [hcutd]; exact decide_eq_true (by omega)
  obtain ⟨v, σ1, a1, a2, a3⟩ := dealC hD hF hH hC
  have hD1 := RD_DC a2 hD
  have hF1 := RF_DC a2 hF
  have hH1 := RH_DC a2 hH
  have hC1 := RC_DC a2 hC
  have hL1 := RLo_DC a2 hL
  obtain ⟨v', σ2, b1, b2, b3⟩ := dealR hD1 hF1 hH1 hC1
  have t : ∀ p, p ≠ 65 → p ≠ 67 → p ≠ 69 → p ≠ 71 → p ≠ 73 → p ≠ 75 → σ1 p = σ p := a2
  have e1 : wtS2 σ1 = wtS2 σ := by unfold wtS2; rw [t 59 (by decide) (by decide) (by decide) (by decide) (by decide) (by decide)]
  have e2 : fcS σ1 = fcS σ := by unfold fcS; rw [t 30 (by decide) (by decide) (by decide) (by decide) (by decide) (by decide), t 17 (by decide) (by decide) (by decide) (by decide) (by decide) (by decide), t 26 (by decide) (by decide) (by decide) (by decide) (by decide) (by decide)]
  have e3 : msS σ1 = msS σ := by unfold msS; rw [t 64 (by decide) (by decide) (by decide) (by decide) (by decide) (by decide)]
  have e4 : dyS σ1 = dyS σ := by unfold dyS skS; rw [e1, t 62 (by decide) (by decide) (by decide) (by decide) (by decide) (by decide)]
  have e5 : okS σ1 = okS σ := by unfold okS msJ; rw [e2, t 64 (by decide) (by decide) (by decide) (by decide) (by decide) (by decide)]
  rw [e1, e2, e3, e4, e5] at b3
  have hRf : R σ2 := ⟨w, h, m, q, n, S, pt, RD_DR b2 hD1, RF_DR b2 hF1, RLo_DR b2 hL1, RH_DR b2 hH1, RC_DR b2 hC1⟩
  rcases a3 with ⟨rfl, a3⟩ | ⟨rfl, hq, M, L, c, a4, a5, a6, a7, a8⟩
  · rcases b3 with ⟨rfl, -⟩ | ⟨-, hq, -, M, L, c, b4, -⟩
    · refine ⟨-3, σ1, σ2, ?_, ?_, hRf⟩
      · unfold F_Shop_days; rw [if_pos hcut, ob_of a1]; rfl
      · unfold F_Ref_days; rw [ob_of b1]; rfl
    · rcases a3 with a3 | a3
      · omega
      · rw [a3] at b4; cases b4
  · rcases b3 with ⟨-, b3⟩ | ⟨rfl, -, -, M', L', c', b4, b5, b6, b7, b8⟩
    · rcases b3 with b3 | b3 | b3
      · omega
      · omega
      · rw [b3] at a4; cases a4
    · rw [a4] at b4
      cases b4
      have := Best_u a5 b5
      cases this
      refine ⟨nI (gc q M (dyS σ L) c), σ1, σ2, ?_, ?_, hRf⟩
      · unfold F_Shop_days
        rw [if_pos hcut, ob_of a1]
        dsimp only
        rw [if_pos rfl, a6]
      · unfold F_Ref_days
        rw [ob_of b1]
        dsimp only
        rw [if_pos rfl, b6]
theorem handC {τ : SG} {M s : Nat} {L D : Nat → Nat} (hM9 : M ≤ 9) (hs : s < 240) (hL : ∀ k, k < M → L k < 240) (h65 : τ 65 3 = nI M) (hk : ∀ k, k < M → τ 67 k = nI (L k) ∧ τ 73 k = nI (D k)) {r : Int32} (hr : (∃ k, k < M ∧ L k = s ∧ (∀ e, e < k → ¬ L e = s) ∧ r = nI (D k)) ∨ ((∀ k, k < M → ¬ L k = s) ∧ r = -1)) : F_Dealer_handOf τ (nI s) = some r := by
  have hgo : ∀ k, k < M → ¬ L k = s → L_Dealer_handOf_2 τ (nI s) (nI k) = some (.inl (nI (k + 1))) := fun k hkM hne => by
    have := hL k hkM
    unfold L_Dealer_handOf_2
    rw [if_neg (show ¬ τ 65 3 ≤ nI k by rw [h65]; exact nI_ge hkM (by omega)), rg_nI (show k < 9 by omega) (by decide), (hk k hkM).1, if_neg (show ¬ nI (L k) = nI s by rw [nI_eq (by omega) (by omega)]; exact hne), nI_1]
  unfold F_Dealer_handOf
  rcases hr with ⟨k, hkM, h1, h2, rfl⟩ | ⟨h1, rfl⟩
  · have hl : lpW (L_Dealer_handOf_2 τ (nI s)) FU 0 = some (.inr (nI (D k))) := by
      refine lpW_at (s := fun i => nI i) k rfl (fun i hi => hgo i (by omega) (h2 i hi)) ?_ (by omega)
      unfold L_Dealer_handOf_2
      rw [if_neg (show ¬ τ 65 3 ≤ nI k by rw [h65]; exact nI_ge hkM (by omega)), rg_nI (show k < 9 by omega) (by decide), rg_nI (show k < 9 by omega) (by decide), (hk k hkM).1, (hk k hkM).2, if_pos (by rw [h1])]
    rw [ob_of hl]
    rfl
  · have hl : lpW (L_Dealer_handOf_2 τ (nI s)) FU 0 = some (.inl ()) := by
      refine lpW_at (s := fun i => nI i) M rfl (fun i hi => hgo i hi (h1 i hi)) ?_ (by omega)
      unfold L_Dealer_handOf_2
      rw [if_pos (show τ 65 3 ≤ nI M by rw [h65]; exact nI_le (Nat.le_refl _) (by omega))]
    rw [ob_of hl]
    rfl
theorem handR {τ : SG} {M s : Nat} {L D : Nat → Nat} {v : Bool} (hM9 : M ≤ 9) (hs : s < 240) (hL : ∀ k, k < M → L k < 240) (h31 : τ 76 31 = nI M) (hk : ∀ k, k < M → τ 98 k = nI (L k) ∧ τ 99 k = nI (D k)) {r : Int32} (hr : (∃ k, k < M ∧ L k = s ∧ (∀ e, e < k → ¬ L e = s) ∧ r = nI (D k)) ∨ ((∀ k, k < M → ¬ L k = s) ∧ r = -1)) : ob (lpW (L_Ref_dealt_25 (nI s) (v, τ)) FU 0) (fun y4 => Sum.elim (fun y4 : Unit => some ((-1), τ)) (fun q4 : Int32 × SG => some q4) y4) = some (r, τ) := by
  have hgo : ∀ k, k < M → ¬ L k = s → L_Ref_dealt_25 (nI s) (v, τ) (nI k) = some (.inl (nI (k + 1))) := fun k hkM hne => by
    have := hL k hkM
    have e : τ 98 (ix (nI k)) = nI (L k) := by rw [ix_nI (by omega)]; exact (hk k hkM).1
    unfold L_Ref_dealt_25
    dsimp only
    rw [if_neg (show ¬ τ 76 31 ≤ nI k by rw [h31]; exact nI_ge hkM (by omega)), vin_nI (show k < 9 by omega) (by decide)]
    simp only [og_t]
    rw [if_neg (show ¬ τ 98 (ix (nI k)) = nI s by rw [e, nI_eq (by omega) (by omega)]; exact hne), nI_1]
  rcases hr with ⟨k, hkM, h1, h2, rfl⟩ | ⟨h1, rfl⟩
  · have hl : lpW (L_Ref_dealt_25 (nI s) (v, τ)) FU 0 = some (.inr (nI (D k), τ)) := by
      refine lpW_at (s := fun i => nI i) k rfl (fun i hi => hgo i (by omega) (h2 i hi)) ?_ (by omega)
      have e : τ 98 (ix (nI k)) = nI (L k) := by rw [ix_nI (by omega)]; exact (hk k hkM).1
      have e2 : τ 99 (ix (nI k)) = nI (D k) := by rw [ix_nI (by omega)]; exact (hk k hkM).2
      unfold L_Ref_dealt_25
      dsimp only
      rw [if_neg (show ¬ τ 76 31 ≤ nI k by rw [h31]; exact nI_ge hkM (by omega)), vin_nI (show k < 9 by omega) (by decide)]
      simp only [og_t]
      rw [if_pos (show τ 98 (ix (nI k)) = nI s by rw [e, h1]), e2]
    rw [ob_of hl]
    rfl
  · have hl : lpW (L_Ref_dealt_25 (nI s) (v, τ)) FU 0 = some (.inl ()) := by
      refine lpW_at (s := fun i => nI i) M rfl (fun i hi => hgo i hi (h1 i hi)) ?_ (by omega)
      unfold L_Ref_dealt_25
      dsimp only
      rw [if_pos (show τ 76 31 ≤ nI M by rw [h31]; exact nI_le (Nat.le_refl _) (by omega))]
    rw [ob_of hl]
    rfl
theorem first_or {M s : Nat} {L D : Nat → Nat} : ∃ r : Int32, (∃ k, k < M ∧ L k = s ∧ (∀ e, e < k → ¬ L e = s) ∧ r = nI (D k)) ∨ ((∀ k, k < M → ¬ L k = s) ∧ r = -1) := by
  by_cases h : ∃ k, k < M ∧ L k = s
  · obtain ⟨k, h1, h2⟩ := h
    obtain ⟨d, a, b, c⟩ := least_of (P := fun k => L k = s) (N := k) h2
    exact ⟨nI (D d), Or.inl ⟨d, by omega, b, c, rfl⟩⟩
  · exact ⟨-1, Or.inr ⟨fun k hk e => h ⟨k, hk, e⟩, rfl⟩⟩
theorem op_dealt {σ : SG} (hR : R σ) (a : Int32) : ∃ r σ1 σ2, F_Shop_dealt σ a = some (r, σ1) ∧ F_Ref_dealt σ1 a = some (r, σ2) ∧ R σ2 := by
  obtain ⟨w, h, m, q, n, S, pt, hD, hF, hL, hH, hC⟩ := id hR
  rcases sheet_cases hC a with ⟨h1, h2⟩ | ⟨h0, h1, h2, h3⟩ | ⟨s, hs, rfl, h1, h2, h3⟩
  · exact ⟨-2, σ, σ, by unfold F_Shop_dealt; rw [if_neg h1], by unfold F_Ref_dealt; rw [h2, if_pos rfl], hR⟩
  · obtain ⟨v, τ, g1, g2, g3⟩ := dealR hD hF hH hC
    rcases g3 with ⟨rfl, -⟩ | ⟨-, -, h0', -⟩
    · refine ⟨-3, σ, τ, ?_, ?_, w, h, m, q, n, S, pt, RD_DR g2 hD, RF_DR g2 hF, RLo_DR g2 hL, RH_DR g2 hH, RC_DR g2 hC⟩
      · unfold F_Shop_dealt; rw [if_pos h1, if_neg (bf h2)]
      · unfold F_Ref_dealt
        rw [h3, if_neg (show ¬ (-3 : Int32) = -2 by decide), ob_of g1]
        rfl
    · omega
  obtain ⟨v, σ1, a1, a2, a3⟩ := dealC hD hF hH hC
  have hD1 := RD_DC a2 hD
  have hF1 := RF_DC a2 hF
  have hH1 := RH_DC a2 hH
  have hC1 := RC_DC a2 hC
  have hL1 := RLo_DC a2 hL
  have hS240 := hC.2.2.1.2.2.1
  obtain ⟨v', σ2, b1, b2, b3⟩ := dealR hD1 hF1 hH1 hC1
  have t : ∀ p, p ≠ 65 → p ≠ 67 → p ≠ 69 → p ≠ 71 → p ≠ 73 → p ≠ 75 → σ1 p = σ p := a2
  have e1 : wtS2 σ1 = wtS2 σ := by unfold wtS2; rw [t 59 (by decide) (by decide) (by decide) (by decide) (by decide) (by decide)]
  have e2 : fcS σ1 = fcS σ := by unfold fcS; rw [t 30 (by decide) (by decide) (by decide) (by decide) (by decide) (by decide), t 17 (by decide) (by decide) (by decide) (by decide) (by decide) (by decide), t 26 (by decide) (by decide) (by decide) (by decide) (by decide) (by decide)]
  have e3 : msS σ1 = msS σ := by unfold msS; rw [t 64 (by decide) (by decide) (by decide) (by decide) (by decide) (by decide)]
  have e4 : dyS σ1 = dyS σ := by unfold dyS skS; rw [e1, t 62 (by decide) (by decide) (by decide) (by decide) (by decide) (by decide)]
  have e5 : okS σ1 = okS σ := by unfold okS msJ; rw [e2, t 64 (by decide) (by decide) (by decide) (by decide) (by decide) (by decide)]
  rw [e1, e2, e3, e4, e5] at b3
  have hRf : R σ2 := ⟨w, h, m, q, n, S, pt, RD_DR b2 hD1, RF_DR b2 hF1, RLo_DR b2 hL1, RH_DR b2 hH1, RC_DR b2 hC1⟩
  have hns : F_Ref_noSheet σ1 (nI s) = 0 := by rw [← h3]; unfold F_Ref_noSheet; rw [t 76 (by decide) (by decide) (by decide) (by decide) (by decide) (by decide)]
  rcases a3 with ⟨rfl, a3⟩ | ⟨rfl, hq, M, L, c, a4, a5, a6, a7, a8⟩
  · rcases b3 with ⟨rfl, -⟩ | ⟨-, hq, -, M, L, c, b4, -⟩
    · refine ⟨-3, σ1, σ2, ?_, ?_, hRf⟩
      · unfold F_Shop_dealt; rw [if_pos h1, if_pos h2, ob_of a1]; rfl
      · unfold F_Ref_dealt; rw [hns, if_neg (show ¬ (0 : Int32) = -2 by decide), ob_of b1]; rfl
    · rcases a3 with a3 | a3
      · omega
      · rw [a3] at b4; cases b4
  · rcases b3 with ⟨-, b3⟩ | ⟨rfl, -, -, M', L', c', b4, b5, b6, b7, b8⟩
    · rcases b3 with b3 | b3 | b3
      · omega
      · omega
      · rw [b3] at a4; cases a4
    · rw [a4] at b4
      cases b4
      have := Best_u a5 b5
      cases this
      obtain ⟨hM9, hLf⟩ := hl_facts a4
      have hL240 : ∀ k, k < M → L k < 240 := fun k hk => Nat.lt_of_lt_of_le (hLf k hk).1 hS240
      obtain ⟨r, hr⟩ := first_or (M := M) (s := s) (L := L) (D := dgt q c M)
      refine ⟨r, σ1, σ2, ?_, ?_, hRf⟩
      · unfold F_Shop_dealt
        rw [if_pos h1, if_pos h2, ob_of a1]
        dsimp only
        rw [if_pos rfl, ob_of (handC hM9 (by omega) hL240 a7 a8 hr)]
      · unfold F_Ref_dealt
        rw [hns, if_neg (show ¬ (0 : Int32) = -2 by decide), ob_of b1]
        dsimp only
        rw [if_pos rfl]
        exact handR hM9 (by omega) hL240 b7 b8 hr
end
