/-! misc: the words of the mirrors -/
def tsS {A : Type} (x : Int32) : Nat → List A → A → A
  | _, [], d => d
  | k, a :: r, d => if x = nI k then a else tsS x (k + 1) r d
theorem tsS_at {A : Type} {x : Int32} {d a : A} : ∀ {r : List A} {k j : Nat}, x = nI (k + j) → r[j]? = some a → Nat.ble (k + r.length) 1000 = true → tsS x k r d = a
  | [], k, j, _, h, _ => by simp at h
  | b :: r, k, 0, hx, h, hl => by
    simp at h
    subst h
    rw [tsS, if_pos (by rw [hx]; rfl)]
  | b :: r, k, j + 1, hx, h, hl => by
    have hl2 := Nat.le_of_ble_eq_true hl
    simp only [List.length_cons] at hl2
    have hj : j < r.length := (List.getElem?_eq_some_iff.mp (by simpa using h)).1
    rw [tsS, if_neg (fun e => by rw [hx, nI_eq (by omega) (by omega)] at e; omega)]
    exact tsS_at (k := k + 1) (j := j) (by rw [hx]; congr 1; omega) (by simpa using h) (Nat.ble_eq.mpr (by omega))
theorem tsS_out {A : Type} {x : Int32} {d : A} : ∀ {r : List A} {k : Nat}, (x < 0 ∨ nI (k + r.length) ≤ x) → Nat.ble (k + r.length) 1000 = true → tsS x k r d = d
  | [], k, _, _ => rfl
  | b :: r, k, h, hl => by
    have hl2 := Nat.le_of_ble_eq_true hl
    simp only [List.length_cons] at hl2
    have hne : ¬ x = nI k := by
      intro e
      rcases h with h | h
      · exact nI_pos (by omega) (e ▸ h)
      · rw [e] at h
        exact nI_ge (by simp) (by simp; omega) h
    rw [tsS, if_neg hne]
    refine tsS_out (k := k + 1) ?_ (Nat.ble_eq.mpr (by omega))
    rw [List.length_cons] at h
    rwa [Nat.add_assoc, Nat.add_comm 1]
def nbz (x : Int32) : Bool := decide (vp_nar .boolean x = x)
theorem nbz_of {x : Int32} (h : nbz x = true) : vp_nar .boolean x = x := of_decide_eq_true h
def nm {A B : Type} (a : A) (k : A → B) : B := k a
theorem nm_h {A B : Type} {a : A} {k : A → B} {b : B} (h : nm a k = b) : k a = b := h
