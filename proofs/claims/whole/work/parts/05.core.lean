/-! core: the world of cells as one function of places, the judgement RJ, plain instructions in stretches -/
abbrev FDs : Type := Option (Option Nat)
abbrev CDs : Type := (Nat × List FDs) ⊕ (Bool × Nat)
abbrev AI : Type := Nat × Nat × Nat × Value
def vC (b sc : Nat) : Value → Value
  | .ref k => .ref (b + k)
  | .null => .ref sc
  | v => v
def fvl (b : Nat) (g : Nat → Int32) (k : Nat) : FDs → Value
  | none => .int (g k)
  | some none => .null
  | some (some q) => .ref (b + q)
def czI (cI cZ : ClassId) : Bool → ClassId
  | true => cZ
  | false => cI
def cel (b : Nat) (cI cZ : ClassId) (g : Nat → Int32) : CDs → va_E
  | .inl o => .inr (o.1, o.2.mapIdx (fvl b g))
  | .inr a => .inl (czI cI cZ a.1, a.2, .inl g)
def wls (b : Nat) (cI cZ : ClassId) (σ : SG) (ds : List CDs) : va_W := ds.mapIdx (fun k d => (b + k, cel b cI cZ (σ k) d))
def tyC (cI cZ : ClassId) : List (ClassId × FieldType) := [(cI, .int), (cZ, .boolean)]
def NWL : List (String × Nat × MethodName) := [("MosaicShop", 11, yX3_init), ("MosaicShop", 25, yX1_init), ("MosaicShop", 41, yX7_init), ("MosaicShop", 64, yX5_init), ("MosaicShop$Drawing", 27, yX11_within), ("MosaicShop$Sheets", 41, yX11_roundedUp), ("MosaicShop$Hands", 39, yX11_roundedUp)]
def NWs (U : State) : Prop := ∀ q ∈ NWL, va_Nw (.methodLinkNest q.1 q.2.1 q.2.2 "MosaicShop") U
def WD (b : Nat) (dC : Nat → ClassId) (dI : Nat → Nat → Nat) (cI cZ : ClassId) (ds : List CDs) (σ : SG) (H : Heap) : Prop := H.size = b + ds.length ∧ va_P (dC, dI) vwCl (wls b cI cZ σ ds) H
def CX (b : Nat) (dC : Nat → ClassId) (dI : Nat → Nat → Nat) (cI cZ : ClassId) (own : String) (bytes : ByteArray) (nL : Nat) (p : Program) (s : State) (m : MethodId) (args : Array Value) (c : Code) : Prop :=
  p.tables.exec = Jvm.exec ∧ c.code = bytes ∧ c.maxLocals = nL ∧ s.vm.findClass own = some m.cls ∧ (∀ w ∈ TB, w.before args s = true) ∧ va_K (dC, dI) vwCl (tyC cI cZ) s ∧ b ≤ s.heap.size ∧ NWs s
def lc (b sc : Nat) : Nat → List (Option Value) → List (Nat × Value)
  | _, [] => []
  | i, none :: r => lc b sc (i + 1) r
  | i, some v :: r => (i, vC b sc v) :: lc b sc (i + 1) r
def RJ (b sc : Nat) (dC : Nat → ClassId) (dI : Nat → Nat → Nat) (cI cZ : ClassId) (nL : Nat) (p : Program) (l : Launch) (e : Env) (R : Room) (s : State) (m : MethodId) (args : Array Value) (below : List Frame) (meth : Method) (c : Code) (cells slots : Nat) (Q : State → Prop) (pc : Nat) (L : List (Option Value)) (st : List Value) (ds : List CDs) (σ : SG) : Prop :=
  ∀ (H : Heap) (locs : List Loc) (ls : Array Slot), WD b dC dI cI cZ ds σ H → va_S (fun q => b ≤ q) s.heap H locs → lv_has ls nL (lc b sc 0 L) → W p l e R s m args below meth c H locs cells slots Q (F0 m pc ls (st.map (vC b sc)))
theorem lc_mem (b sc : Nat) : ∀ (L : List (Option Value)) (i j : Nat) (w : Value), (j, w) ∈ lc b sc i L ↔ ∃ k v, j = i + k ∧ L[k]? = some (some v) ∧ w = vC b sc v
  | [], i, j, w => by simp [lc]
  | none :: r, i, j, w => by
    rw [show lc b sc i (none :: r) = lc b sc (i + 1) r from rfl, lc_mem b sc r]
    constructor
    · rintro ⟨k, v, h1, h2, h3⟩
      exact ⟨k + 1, v, by omega, by simpa using h2, h3⟩
    · rintro ⟨k, v, h1, h2, h3⟩
      cases k with
      | zero => simp at h2
      | succ k => exact ⟨k, v, by omega, by simpa using h2, h3⟩
  | some u :: r, i, j, w => by
    rw [show lc b sc i (some u :: r) = (i, vC b sc u) :: lc b sc (i + 1) r from rfl, List.mem_cons, lc_mem b sc r]
    constructor
    · rintro (h | ⟨k, v, h1, h2, h3⟩)
      · cases h
        exact ⟨0, u, rfl, rfl, rfl⟩
      · exact ⟨k + 1, v, by omega, by simpa using h2, h3⟩
    · rintro ⟨k, v, h1, h2, h3⟩
      cases k with
      | zero =>
        simp at h2
        subst h2
        left
        rw [h1, h3]; rfl
      | succ k => exact Or.inr ⟨k, v, by omega, by simpa using h2, h3⟩
theorem lc_get {b sc nL : Nat} {ls : Array Slot} {L : List (Option Value)} (h : lv_has ls nL (lc b sc 0 L)) {a : Nat} {v : Value} (hv : L[a]? = some (some v)) : ls[a]? = some (.val (vC b sc v)) :=
  h.2.2 (a, vC b sc v) ((lc_mem b sc L 0 a _).mpr ⟨a, v, (Nat.zero_add a).symm, hv, rfl⟩)
theorem vC_cat (b sc : Nat) (v : Value) : (vC b sc v).category = v.category := by cases v <;> rfl
def okst (L : List (Option Value)) : Nat → Bool
  | 0 => true
  | a + 1 => match L[a]? with
    | some (some (.long _)) => false
    | some (some (.double _)) => false
    | _ => true
theorem lc_set {b sc nL : Nat} {ls : Array Slot} {L : List (Option Value)} {a : Nat} {v : Value} (ho : okst L a = true)
    (h : lv_has ls nL ((a, vC b sc v) :: (lc b sc 0 L).filter (fun q => !(q.1 == a) && !(q.1 + 1 == a && q.2.category == 2)))) : lv_has ls nL (lc b sc 0 (L.set a (some v))) := by
  refine ⟨h.1, h.2.1, fun q hq => h.2.2 q ?_⟩
  obtain ⟨j, w⟩ := q
  obtain ⟨k, u, h1, h2, h3⟩ := (lc_mem b sc _ 0 j w).mp hq
  rw [Nat.zero_add] at h1
  subst h1
  rw [List.getElem?_set] at h2
  by_cases hk : a = j
  · subst hk
    rw [if_pos rfl] at h2
    split at h2
    · cases h2
      rw [h3]; exact List.mem_cons_self
    · cases h2
  · rw [if_neg hk] at h2
    refine List.mem_cons_of_mem _ (List.mem_filter.mpr ⟨(lc_mem b sc L 0 j w).mpr ⟨j, u, (Nat.zero_add j).symm, h2, h3⟩, ?_⟩)
    have hja : (j == a) = false := by simpa using fun e : j = a => hk e.symm
    simp only [hja, Bool.not_false, Bool.true_and]
    by_cases hs : j + 1 = a
    · subst hs
      have hc : w.category = 1 := by
        rw [h3, vC_cat]
        simp only [okst, h2] at ho
        cases u <;> first | rfl | simp at ho
      simp [hc]
    · have : (j + 1 == a) = false := by simpa using hs
      simp [this]
theorem lc_setL {b sc nL : Nat} {ls : Array Slot} {L : List (Option Value)} {a : Nat} {v : Value} (ho : okst L a = true)
    (h : lv_has ls nL ((a, vC b sc v) :: (lc b sc 0 L).filter (fun q => !(q.1 == a) && (!(q.1 == a + 1) && !(q.1 + 1 == a && q.2.category == 2))))) : lv_has ls nL (lc b sc 0 ((L.set a (some v)).set (a + 1) none)) := by
  refine ⟨h.1, h.2.1, fun q hq => h.2.2 q ?_⟩
  obtain ⟨j, w⟩ := q
  obtain ⟨k, u, h1, h2, h3⟩ := (lc_mem b sc _ 0 j w).mp hq
  rw [Nat.zero_add] at h1
  subst h1
  rw [List.getElem?_set] at h2
  by_cases hk1 : a + 1 = j
  · rw [if_pos hk1] at h2
    split at h2 <;> cases h2
  rw [if_neg hk1, List.getElem?_set] at h2
  by_cases hk : a = j
  · subst hk
    rw [if_pos rfl] at h2
    split at h2
    · cases h2
      rw [h3]; exact List.mem_cons_self
    · cases h2
  · rw [if_neg hk] at h2
    refine List.mem_cons_of_mem _ (List.mem_filter.mpr ⟨(lc_mem b sc L 0 j w).mpr ⟨j, u, (Nat.zero_add j).symm, h2, h3⟩, ?_⟩)
    have hja : (j == a) = false := by simpa using fun e : j = a => hk e.symm
    have hja1 : (j == a + 1) = false := by simpa using fun e : j = a + 1 => hk1 e.symm
    simp only [hja, hja1, Bool.not_false, Bool.true_and]
    by_cases hs : j + 1 = a
    · subst hs
      have hc : w.category = 1 := by
        rw [h3, vC_cat]
        simp only [okst, h2] at ho
        cases u <;> first | rfl | simp at ho
      simp [hc]
    · have : (j + 1 == a) = false := by simpa using hs
      simp [this]
theorem wls_at {b : Nat} {cI cZ : ClassId} {σ : SG} {ds : List CDs} {q : Nat} {d : CDs} (h : ds[q]? = some d) : (wls b cI cZ σ ds)[q]? = some (b + q, cel b cI cZ (σ q) d) := by
  simp [wls, List.getElem?_mapIdx, h]
theorem wls_D (b : Nat) (cI cZ : ClassId) (σ : SG) (ds : List CDs) : va_D (fun q => b ≤ q) (wls b cI cZ σ ds) := by
  have key : ∀ (i : Nat) (p : Nat × va_E), (wls b cI cZ σ ds)[i]? = some p → p.1 = b + i := by
    intro i p hp
    simp only [wls, List.getElem?_mapIdx] at hp
    cases hd : ds[i]? with
    | none => rw [hd] at hp; cases hp
    | some d => rw [hd] at hp; cases hp; rfl
  refine ⟨fun i j p q hp hq hpq => ?_, fun k q hq => ?_⟩
  · have h1 := key i p hp
    have h2 := key j q hq
    omega
  · have h1 := key k q hq
    show b ≤ q.1
    omega
theorem wls_ext {b : Nat} {cI cZ : ClassId} {σ σ' : SG} {ds ds' : List CDs} {q : Nat} {e : va_E} (hlen : ds'.length = ds.length) (hq : ∀ d', ds'[q]? = some d' → cel b cI cZ (σ' q) d' = e)
    (hne : ∀ i, i ≠ q → ds'[i]? = ds[i]? ∧ σ' i = σ i) : (wls b cI cZ σ ds).set q (b + q, e) = wls b cI cZ σ' ds' := by
  apply List.ext_getElem?
  intro i
  rw [List.getElem?_set]
  by_cases hi : q = i
  · subst hi
    rw [if_pos rfl]
    cases hd : ds'[q]? with
    | none =>
      have h1 : ds'.length ≤ q := List.getElem?_eq_none_iff.mp hd
      rw [if_neg (by simp [wls]; omega)]
      simp [wls, List.getElem?_mapIdx, hd]
    | some d =>
      have h1 : q < ds'.length := (List.getElem?_eq_some_iff.mp hd).1
      rw [if_pos (by simp [wls]; omega)]
      simp [wls, List.getElem?_mapIdx, hd, hq d hd]
  · rw [if_neg hi]
    obtain ⟨e1, e2⟩ := hne i (fun h => hi h.symm)
    simp [wls, List.getElem?_mapIdx, e1, e2]
theorem fvl_cong {b : Nat} {g g' : Nat → Int32} {k : Nat} {f : FDs} (h : f = none → g k = g' k) : fvl b g k f = fvl b g' k f := by
  cases f with
  | none => simp [fvl, h rfl]
  | some o => cases o <;> rfl
theorem wls_put {b : Nat} {cI cZ : ClassId} {σ : SG} {ds : List CDs} {q k ci : Nat} {fs : List FDs} {x : Int32} (hd : ds[q]? = some (.inl (ci, fs))) (hk : fs[k]? = some none) :
    (wls b cI cZ σ ds).set q (b + q, .inr (ci, (fs.mapIdx (fvl b (σ q))).set k (.int x))) = wls b cI cZ (up σ q k x) ds := by
  refine wls_ext rfl (fun d' hd' => ?_) (fun i hi => ⟨rfl, by simp [up, hi]⟩)
  rw [hd] at hd'
  cases hd'
  show Sum.inr (ci, fs.mapIdx (fvl b (up σ q k x q))) = Sum.inr (ci, (fs.mapIdx (fvl b (σ q))).set k (.int x))
  congr 2
  apply List.ext_getElem?
  intro j
  rw [List.getElem?_set, List.getElem?_mapIdx, List.getElem?_mapIdx]
  by_cases hj : k = j
  · subst hj
    have hl : k < fs.length := (List.getElem?_eq_some_iff.mp hk).1
    rw [if_pos rfl, if_pos (by simpa using hl), hk]
    simp [fvl, up, upd]
  · rw [if_neg hj]
    have : (fvl b (up σ q k x q) j) = fvl b (σ q) j := by
      funext f
      exact fvl_cong (fun _ => by simp [up, upd]; intro e; exact absurd e.symm hj)
    rw [this]
theorem wls_putR {b : Nat} {cI cZ : ClassId} {σ : SG} {ds : List CDs} {q k ci r : Nat} {fs : List FDs} (hd : ds[q]? = some (.inl (ci, fs))) (hk : k < fs.length) :
    (wls b cI cZ σ ds).set q (b + q, .inr (ci, (fs.mapIdx (fvl b (σ q))).set k (.ref (b + r)))) = wls b cI cZ σ (ds.set q (.inl (ci, fs.set k (some (some r))))) := by
  have hq : q < ds.length := (List.getElem?_eq_some_iff.mp hd).1
  refine wls_ext (by simp) (fun d' hd' => ?_) (fun i hi => ⟨by rw [List.getElem?_set, if_neg (fun e => hi e.symm)], rfl⟩)
  rw [List.getElem?_set, if_pos rfl, if_pos hq] at hd'
  cases hd'
  show Sum.inr (ci, (fs.set k (some (some r))).mapIdx (fvl b (σ q))) = Sum.inr (ci, (fs.mapIdx (fvl b (σ q))).set k (.ref (b + r)))
  congr 2
  apply List.ext_getElem?
  intro j
  rw [List.getElem?_set, List.getElem?_mapIdx, List.getElem?_mapIdx, List.getElem?_set]
  by_cases hj : k = j
  · subst hj
    rw [if_pos rfl, if_pos rfl, if_pos hk, if_pos (by simpa using hk)]
    rfl
  · rw [if_neg hj, if_neg hj]
theorem wls_arr {b : Nat} {cI cZ : ClassId} {σ : SG} {ds : List CDs} {q k n : Nat} {z : Bool} {x : Int32} (hd : ds[q]? = some (.inr (z, n))) :
    (wls b cI cZ σ ds).set q (b + q, .inl (czI cI cZ z, n, .inl (upd (σ q) k x))) = wls b cI cZ (up σ q k x) ds := by
  refine wls_ext rfl (fun d' hd' => ?_) (fun i hi => ⟨rfl, by simp [up, hi]⟩)
  rw [hd] at hd'
  cases hd'
  show Sum.inl (czI cI cZ z, n, Sum.inl (up σ q k x q)) = _
  simp [up]
theorem wls_push (b : Nat) (cI cZ : ClassId) (σ : SG) (ds : List CDs) (d : CDs) :
    wls b cI cZ σ ds ++ [(b + ds.length, cel b cI cZ (fun _ => 0) d)] = wls b cI cZ (up0 σ ds.length) (ds ++ [d]) := by
  apply List.ext_getElem?
  intro i
  by_cases hi : i < ds.length
  · rw [List.getElem?_append_left (by simpa [wls] using hi)]
    simp only [wls, List.getElem?_mapIdx]
    rw [List.getElem?_append_left hi]
    simp [up0, Nat.ne_of_lt hi]
  · rw [List.getElem?_append_right (by simp [wls]; omega)]
    simp only [wls, List.getElem?_mapIdx, List.length_mapIdx]
    rw [List.getElem?_append_right (by omega)]
    by_cases h0 : i = ds.length
    · subst h0
      simp [up0]
    · have h1 : i - ds.length ≠ 0 := by omega
      obtain ⟨n, hn⟩ := Nat.exists_eq_succ_of_ne_zero h1
      rw [hn]
      simp
