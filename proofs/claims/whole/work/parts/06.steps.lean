/-! steps: plain instructions, one and in stretches -/
def ex (ds : List CDs) (i : AI) (L : List (Option Value)) (st : List Value) (σ : SG) : Option (List (Option Value) × List Value × SG) :=
  match i.1 with
  | 0 => some (L, i.2.2.2 :: st, σ)
  | 1 => match L[i.2.1]? with
    | some (some (.int x)) => some (L, .int x :: st, σ)
    | _ => none
  | 2 => match L[i.2.1]? with
    | some (some (.ref x)) => some (L, .ref x :: st, σ)
    | some (some .null) => some (L, .null :: st, σ)
    | _ => none
  | 3 => match st with
    | .ref q :: r => match ds[q]? with
      | some (.inl o) => if o.1 = i.2.1 then (match o.2[i.2.2.1]? with
        | some none => some (L, .int (σ q i.2.2.1) :: r, σ)
        | some (some (some w)) => some (L, .ref w :: r, σ)
        | _ => none) else none
      | _ => none
    | _ => none
  | 4 => match st with
    | .int x :: r => match okst L i.2.1 with
      | true => some (L.set i.2.1 (some (.int x)), r, σ)
      | false => none
    | _ => none
  | 5 => match st with
    | .int y :: .int x :: r => some (L, .int (x + y) :: r, σ)
    | _ => none
  | 6 => match st with
    | .int y :: .int x :: r => some (L, .int (x - y) :: r, σ)
    | _ => none
  | 7 => match st with
    | .int y :: .int x :: r => some (L, .int (x * y) :: r, σ)
    | _ => none
  | 8 => match st with
    | .int y :: .int x :: r => some (L, .int (x &&& y) :: r, σ)
    | _ => none
  | 9 => match st with
    | .int x :: r => some (L, .int (-x) :: r, σ)
    | _ => none
  | 10 => match L[i.2.1]?, i.2.2.2 with
    | some (some (.int x)), .int n => match okst L i.2.1 with
      | true => some (L.set i.2.1 (some (.int (x + n))), st, σ)
      | false => none
    | _, _ => none
  | 11 => match st with
    | .int x :: r => some (L, .int x :: .int x :: r, σ)
    | .ref x :: r => some (L, .ref x :: .ref x :: r, σ)
    | _ => none
  | 12 => match st with
    | .int y :: .ref x :: r => some (L, .int y :: .ref x :: .int y :: .ref x :: r, σ)
    | _ => none
  | 13 => match st with
    | .int y :: .ref x :: r => some (L, .int y :: .ref x :: .int y :: r, σ)
    | _ => none
  | 14 => match st with
    | .int _ :: r => some (L, r, σ)
    | .ref _ :: r => some (L, r, σ)
    | _ => none
  | 15 => match st with
    | .int x :: .ref q :: r => match ds[q]? with
      | some (.inl o) => if o.1 = i.2.1 then (match o.2[i.2.2.1]? with
        | some none => some (L, r, up σ q i.2.2.1 x)
        | _ => none) else none
      | _ => none
    | _ => none
  | 16 => match st with
    | .int x :: .ref q :: r => match ds[q]? with
      | some (.inl o) => if o.1 = i.2.1 ∧ (x = 0 ∨ x = 1) then (match o.2[i.2.2.1]? with
        | some none => some (L, r, up σ q i.2.2.1 x)
        | _ => none) else none
      | _ => none
    | _ => none
  | 17 => match st with
    | .int x :: r => some (L, .long x.toInt64 :: r, σ)
    | _ => none
  | 18 => match st with
    | .long y :: .long x :: r => some (L, .long (x + y) :: r, σ)
    | _ => none
  | 19 => match st with
    | .long y :: .long x :: r => some (L, .long (x * y) :: r, σ)
    | _ => none
  | 20 => match L[i.2.1]? with
    | some (some (.long x)) => some (L, .long x :: st, σ)
    | _ => none
  | 21 => match st with
    | .long x :: r => match okst L i.2.1 with
      | true => some ((L.set i.2.1 (some (.long x))).set (i.2.1 + 1) none, r, σ)
      | false => none
    | _ => none
  | 22 => match st with
    | .ref x :: r => match okst L i.2.1 with
      | true => some (L.set i.2.1 (some (.ref x)), r, σ)
      | false => none
    | _ => none
  | 23 => some (L, st, σ)
  | _ => none
def ckV (oc idx : Nat) : Value → Bool
  | .int x => decide ((oc, idx, x) ∈ CKI)
  | .long x => decide ((oc, idx, x) ∈ CKL)
  | _ => false
def isIV : Value → Bool
  | .int _ => true
  | _ => false
def isLV : Value → Bool
  | .long _ => true
  | _ => false
def nx (oc nL : Nat) (code : ByteArray) (pc : Nat) (i : AI) : Option Nat :=
  match decode code pc with
  | .ok (.iconst n, 1) => if i = (0, 0, 0, .int (Int32.ofInt n)) then some (pc + 1) else none
  | .ok (.bipush n, 2) => if i = (0, 0, 0, .int (Int8.ofInt n).toInt32) then some (pc + 2) else none
  | .ok (.sipush n, 3) => if i = (0, 0, 0, .int (Int16.ofInt n).toInt32) then some (pc + 3) else none
  | .ok (.ldc idx, 2) => if i.1 = 0 ∧ ckV oc idx i.2.2.2 = true ∧ isIV i.2.2.2 = true then some (pc + 2) else none
  | .ok (.ldc2_w idx, 3) => if i.1 = 0 ∧ ckV oc idx i.2.2.2 = true ∧ isLV i.2.2.2 = true then some (pc + 3) else none
  | .ok (.iload_n k, 1) => if i = (1, k.val, 0, .null) then some (pc + 1) else none
  | .ok (.iload k, 2) => if i = (1, k, 0, .null) then some (pc + 2) else none
  | .ok (.aload_n k, 1) => if i = (2, k.val, 0, .null) then some (pc + 1) else none
  | .ok (.aload k, 2) => if i = (2, k, 0, .null) then some (pc + 2) else none
  | .ok (.lload_n k, 1) => if i = (20, k.val, 0, .null) then some (pc + 1) else none
  | .ok (.istore_n k, 1) => if i = (4, k.val, 0, .null) ∧ k.val < nL then some (pc + 1) else none
  | .ok (.istore k, 2) => if i = (4, k, 0, .null) ∧ k < nL then some (pc + 2) else none
  | .ok (.astore_n k, 1) => if i = (22, k.val, 0, .null) ∧ k.val < nL then some (pc + 1) else none
  | .ok (.lstore_n k, 1) => if i = (21, k.val, 0, .null) ∧ k.val + 1 < nL then some (pc + 1) else none
  | .ok (.iinc k n, 3) => if i = (10, k, 0, .int (Int32.ofInt n)) ∧ k < nL then some (pc + 3) else none
  | .ok (.iadd, 1) => if i.1 = 5 then some (pc + 1) else none
  | .ok (.isub, 1) => if i.1 = 6 then some (pc + 1) else none
  | .ok (.imul, 1) => if i.1 = 7 then some (pc + 1) else none
  | .ok (.iand, 1) => if i.1 = 8 then some (pc + 1) else none
  | .ok (.ineg, 1) => if i.1 = 9 then some (pc + 1) else none
  | .ok (.dup, 1) => if i.1 = 11 then some (pc + 1) else none
  | .ok (.dup2, 1) => if i.1 = 12 then some (pc + 1) else none
  | .ok (.dup_x1, 1) => if i.1 = 13 then some (pc + 1) else none
  | .ok (.pop, 1) => if i.1 = 14 then some (pc + 1) else none
  | .ok (.getfield idx, 3) => if i.1 = 3 ∧ (oc, idx, i.2.1, i.2.2.1) ∈ FLK then some (pc + 3) else none
  | .ok (.putfield idx, 3) => if ((i.1 = 15 ∧ parseFieldDescriptor (cT i.2.1 i.2.2.1).2.2.1 = some .int) ∨ (i.1 = 16 ∧ parseFieldDescriptor (cT i.2.1 i.2.2.1).2.2.1 = some .boolean)) ∧ (oc, idx, i.2.1, i.2.2.1) ∈ FLK ∧ (cT i.2.1 i.2.2.1).2.2.2 = false then some (pc + 3) else none
  | .ok (.i2l, 1) => if i.1 = 17 then some (pc + 1) else none
  | .ok (.ladd, 1) => if i.1 = 18 then some (pc + 1) else none
  | .ok (.lmul, 1) => if i.1 = 19 then some (pc + 1) else none
  | .ok (.goto off, 3) => if i.1 = 23 ∧ 0 ≤ (pc : Int) + off then some ((pc : Int) + off).toNat else none
  | _ => none
def nxs (oc nL : Nat) (code : ByteArray) : Nat → List AI → Option Nat
  | pc, [] => some pc
  | pc, i :: r => match nx oc nL code pc i with
    | some pc' => nxs oc nL code pc' r
    | none => none
def exs (ds : List CDs) : List AI → List (Option Value) → List Value → SG → Option (List (Option Value) × List Value × SG)
  | [], L, st, σ => some (L, st, σ)
  | i :: r, L, st, σ => match ex ds i L st σ with
    | some S => exs ds r S.1 S.2.1 S.2.2
    | none => none
section RJ1
variable {b sc : Nat} {dC : Nat → ClassId} {dI : Nat → Nat → Nat} {cI cZ : ClassId} {nL oc : Nat} {bytes : ByteArray} {p : Program} {l : Launch} {e : Env} {R : Room} {s : State} {m : MethodId} {args : Array Value} {below : List Frame} {meth : Method} {c : Code} {cells slots : Nat} {Q : State → Prop} {pc pc' : Nat} {L L' : List (Option Value)} {st st' : List Value} {ds : List CDs} {σ σ' : SG}
theorem RJ.put (hC : CX b dC dI cI cZ (cn oc) bytes nL p s m args c) {idx ci k q : Nat} {ty : FieldType} {x : Int32} {fs : List FDs} (hdg : decode bytes pc = .ok (.putfield idx, 3)) (hf : (oc, idx, ci, k) ∈ FLK) (hnf : (cT ci k).2.2.2 = false) (hty : parseFieldDescriptor (cT ci k).2.2.1 = some ty)
    (hn : narrow ty (.int x) = .int x) (hfit : fits ty (.int x) = true) (hd : ds[q]? = some (.inl (ci, fs))) (hfk : fs[k]? = some none)
    (K : RJ b sc dC dI cI cZ nL p l e R s m args below meth c cells slots Q (pc + 3) L st ds (up σ q k x)) : RJ b sc dC dI cI cZ nL p l e R s m args below meth c cells slots Q pc L (.int x :: .ref q :: st) ds σ := by
  obtain ⟨hx, hb, hml, hown, hts, hK, hbs, hnw⟩ := hC
  intro H locs ls hW hS hl
  obtain ⟨hz, hP⟩ := hW
  obtain ⟨h1, h13, hkN, hsame⟩ := FLK_ok hf
  have hcq := cq_in ci h13
  have hin := ws_in ci h13
  have hap := va_apart (own := cn oc) hts hin (cty ci) (cty_ok ci h13) (cnm_ok ci h13) hK hcq
  have hwq := wls_at (b := b) (cI := cI) (cZ := cZ) (σ := σ) hd
  obtain ⟨r, h2, cell, q1, q2, q3, q4⟩ := hP q _ hwq
  have hr : r = (cn ci, cT ci, cN ci) := Option.some.inj (h2.symm.trans hcq)
  subst hr
  obtain ⟨hSl, hfc, kC, hkC, hkind⟩ := hK.1 ci _ hcq
  obtain ⟨cf, kf, fi, f, hi, hsl⟩ := hSl k hkN
  have hlay := hts _ (hin _ (u_in_lay hkN))
  unfold u_lay at hlay
  rw [if_neg (by rw [hnf]; decide)] at hlay
  have hstt := (u_facts hfc hkC (u_lays hts hin hkN) hi).1
  have h6 := u_store hfc hkC hkind hlay hi hty hn hfit
  refine W.putK hx hb (f := f) ⟨hown, hts _ h1, ⟨cf, kf, fi, by rw [← hsame]; exact hi⟩, hstt⟩ (by rw [q2]; exact h6) q1 q3 (by rw [hsl]; exact k2_hasslot (q4 k hkN)) rfl rfl hdg fun H' e1 e2 e3 => ?_
  rw [hsl] at e1 ⊢
  have hlen : k < (fs.mapIdx (fvl b (σ q))).length := by simpa using (List.getElem?_eq_some_iff.mp hfk).1
  refine K H' _ ls ⟨e2.trans hz, ?_⟩ (hS.put e2 e3 (Nat.le_add_right b q)) hl
  rw [← wls_put hd hfk]
  exact hP.set (wls_D b cI cZ σ ds) hwq ⟨_, hcq, t_OB.to (V := updV (vp_V (fs.mapIdx (fvl b (σ q)))) k (.int x)) ⟨_, e1, q2, q3, t_set q4 hap hkN _⟩ (fun j _ => vp_updV_set hlen _ j)⟩ e3
theorem RJ.ex1 (hC : CX b dC dI cI cZ (cn oc) bytes nL p s m args c) {i : AI} (hk : nx oc nL bytes pc i = some pc') (he : ex ds i L st σ = some (L', st', σ'))
    (K : RJ b sc dC dI cI cZ nL p l e R s m args below meth c cells slots Q pc' L' st' ds σ') : RJ b sc dC dI cI cZ nL p l e R s m args below meth c cells slots Q pc L st ds σ := by
  obtain ⟨hx, hb, hml, hown, hts, hK, hbs, hnw⟩ := id hC
  obtain ⟨op, a, k, v⟩ := i
  unfold nx at hk
  split at hk
  · rename_i n hd
    split at hk
    rotate_left
    · cases hk
    rename_i h
    cases h; cases hk
    simp only [ex] at he; cases he
    exact fun H locs ls hW hS hl => lv_iconst hx hb hd rfl (K H locs ls hW hS hl)
  · rename_i n hd
    split at hk
    rotate_left
    · cases hk
    rename_i h
    cases h; cases hk
    simp only [ex] at he; cases he
    exact fun H locs ls hW hS hl => lv_bipush hx hb hd rfl (K H locs ls hW hS hl)
  · rename_i n hd
    split at hk
    rotate_left
    · cases hk
    rename_i h
    cases h; cases hk
    simp only [ex] at he; cases he
    exact fun H locs ls hW hS hl => lv_sipush hx hb hd rfl (K H locs ls hW hS hl)
  · rename_i idx hd
    split at hk
    rotate_left
    · cases hk
    rename_i h
    obtain ⟨h1, h2, h3⟩ := h
    cases hk
    dsimp only at h1 h2 h3
    subst h1
    cases v <;> first | (cases h3; done) | skip
    simp only [ex] at he; cases he
    exact fun H locs ls hW hS hl => lv_ldc hx hb hown (hts _ (CKI_ok _ (of_decide_eq_true h2))) hd (K H locs ls hW hS hl)
  · rename_i idx hd
    split at hk
    rotate_left
    · cases hk
    rename_i h
    obtain ⟨h1, h2, h3⟩ := h
    cases hk
    dsimp only at h1 h2 h3
    subst h1
    cases v <;> first | (cases h3; done) | skip
    simp only [ex] at he; cases he
    exact fun H locs ls hW hS hl => lv_ldc2 hx hb hown (hts _ (CKL_ok _ (of_decide_eq_true h2))) hd (K H locs ls hW hS hl)
  · rename_i kk hd
    split at hk
    rotate_left
    · cases hk
    rename_i h
    cases h; cases hk
    simp only [ex] at he
    split at he
    rotate_left
    · cases he
    rename_i hL
    cases he
    exact fun H locs ls hW hS hl => lv_iload_n hx hb hd rfl (lc_get hl hL) (K H locs ls hW hS hl)
  · rename_i kk hd
    split at hk
    rotate_left
    · cases hk
    rename_i h
    cases h; cases hk
    simp only [ex] at he
    split at he
    rotate_left
    · cases he
    rename_i hL
    cases he
    exact fun H locs ls hW hS hl => lv_iload hx hb hd (lc_get hl hL) (K H locs ls hW hS hl)
  · rename_i kk hd
    split at hk
    rotate_left
    · cases hk
    rename_i h
    cases h; cases hk
    simp only [ex] at he
    split at he
    · rename_i hL
      cases he
      exact fun H locs ls hW hS hl => lv_aload_n hx hb hd rfl (lc_get hl hL) (K H locs ls hW hS hl)
    · rename_i hL
      cases he
      exact fun H locs ls hW hS hl => lv_aload_n hx hb hd rfl (lc_get hl hL) (K H locs ls hW hS hl)
    · cases he
  · rename_i kk hd
    split at hk
    rotate_left
    · cases hk
    rename_i h
    cases h; cases hk
    simp only [ex] at he
    split at he
    · rename_i hL
      cases he
      exact fun H locs ls hW hS hl => lv_aload hx hb hd (lc_get hl hL) (K H locs ls hW hS hl)
    · rename_i hL
      cases he
      exact fun H locs ls hW hS hl => lv_aload hx hb hd (lc_get hl hL) (K H locs ls hW hS hl)
    · cases he
  · rename_i kk hd
    split at hk
    rotate_left
    · cases hk
    rename_i h
    cases h; cases hk
    simp only [ex] at he
    split at he
    rotate_left
    · cases he
    rename_i hL
    cases he
    exact fun H locs ls hW hS hl => lv_lload_n hx hb hd rfl (lc_get hl hL) (K H locs ls hW hS hl)
  · rename_i kk hd
    split at hk
    rotate_left
    · cases hk
    rename_i h
    obtain ⟨h, hlt⟩ := h
    cases h; cases hk
    simp only [ex] at he
    split at he
    rotate_left
    · cases he
    split at he
    rotate_left
    · cases he
    rename_i ho
    cases he
    exact fun H locs ls hW hS hl => lv_istore_n hx hb hd rfl hl hlt rfl (fun ls' hl' => K H locs ls' hW hS (lc_set ho hl'))
  · rename_i kk hd
    split at hk
    rotate_left
    · cases hk
    rename_i h
    obtain ⟨h, hlt⟩ := h
    cases h; cases hk
    simp only [ex] at he
    split at he
    rotate_left
    · cases he
    split at he
    rotate_left
    · cases he
    rename_i ho
    cases he
    exact fun H locs ls hW hS hl => lv_istore hx hb hd hl hlt rfl (fun ls' hl' => K H locs ls' hW hS (lc_set ho hl'))
  · rename_i kk hd
    split at hk
    rotate_left
    · cases hk
    rename_i h
    obtain ⟨h, hlt⟩ := h
    cases h; cases hk
    simp only [ex] at he
    split at he
    rotate_left
    · cases he
    split at he
    rotate_left
    · cases he
    rename_i ho
    cases he
    exact fun H locs ls hW hS hl => lv_astore_n hx hb hd rfl hl hlt rfl (fun ls' hl' => K H locs ls' hW hS (lc_set ho hl'))
  · rename_i kk hd
    split at hk
    rotate_left
    · cases hk
    rename_i h
    obtain ⟨h, hlt⟩ := h
    cases h; cases hk
    simp only [ex] at he
    split at he
    rotate_left
    · cases he
    split at he
    rotate_left
    · cases he
    rename_i ho
    cases he
    exact fun H locs ls hW hS hl => lv_lstore_n hx hb hd rfl hl hlt rfl (fun ls' hl' => K H locs ls' hW hS (lc_setL ho hl'))
  · rename_i kk n hd
    split at hk
    rotate_left
    · cases hk
    rename_i h
    obtain ⟨h, hlt⟩ := h
    cases h; cases hk
    simp only [ex] at he
    split at he
    rotate_left
    · cases he
    rename_i hL hv
    split at he
    rotate_left
    · cases he
    rename_i ho
    cases he
    cases hv
    intro H locs ls hW hS hl
    obtain ⟨j, hj⟩ := List.getElem?_of_mem ((lc_mem b sc L 0 _ _).mpr ⟨_, _, (Nat.zero_add _).symm, hL, rfl⟩)
    exact lv_iinc hx hb hd hl hj rfl hlt rfl (fun ls' hl' => K H locs ls' hW hS (lc_set ho hl'))
  · rename_i hd
    split at hk
    rotate_left
    · cases hk
    rename_i h
    cases hk
    dsimp only at h
    subst h
    simp only [ex] at he
    split at he
    rotate_left
    · cases he
    cases he
    exact fun H locs ls hW hS hl => lv_iadd hx hb hd (K H locs ls hW hS hl)
  · rename_i hd
    split at hk
    rotate_left
    · cases hk
    rename_i h
    cases hk
    dsimp only at h
    subst h
    simp only [ex] at he
    split at he
    rotate_left
    · cases he
    cases he
    exact fun H locs ls hW hS hl => lv_isub hx hb hd (K H locs ls hW hS hl)
  · rename_i hd
    split at hk
    rotate_left
    · cases hk
    rename_i h
    cases hk
    dsimp only at h
    subst h
    simp only [ex] at he
    split at he
    rotate_left
    · cases he
    cases he
    exact fun H locs ls hW hS hl => lv_imul hx hb hd (K H locs ls hW hS hl)
  · rename_i hd
    split at hk
    rotate_left
    · cases hk
    rename_i h
    cases hk
    dsimp only at h
    subst h
    simp only [ex] at he
    split at he
    rotate_left
    · cases he
    cases he
    exact fun H locs ls hW hS hl => lv_iand hx hb hd (K H locs ls hW hS hl)
  · rename_i hd
    split at hk
    rotate_left
    · cases hk
    rename_i h
    cases hk
    dsimp only at h
    subst h
    simp only [ex] at he
    split at he
    rotate_left
    · cases he
    cases he
    exact fun H locs ls hW hS hl => lv_ineg hx hb hd (K H locs ls hW hS hl)
  · rename_i hd
    split at hk
    rotate_left
    · cases hk
    rename_i h
    cases hk
    dsimp only at h
    subst h
    simp only [ex] at he
    split at he
    · cases he
      exact fun H locs ls hW hS hl => lv_dup hx hb hd rfl (K H locs ls hW hS hl)
    · cases he
      exact fun H locs ls hW hS hl => lv_dup hx hb hd rfl (K H locs ls hW hS hl)
    · cases he
  · rename_i hd
    split at hk
    rotate_left
    · cases hk
    rename_i h
    cases hk
    dsimp only at h
    subst h
    simp only [ex] at he
    split at he
    rotate_left
    · cases he
    cases he
    exact fun H locs ls hW hS hl => lv_dup2_11 hx hb hd rfl rfl (K H locs ls hW hS hl)
  · rename_i hd
    split at hk
    rotate_left
    · cases hk
    rename_i h
    cases hk
    dsimp only at h
    subst h
    simp only [ex] at he
    split at he
    rotate_left
    · cases he
    cases he
    exact fun H locs ls hW hS hl => lv_dup_x1 hx hb hd rfl rfl (K H locs ls hW hS hl)
  · rename_i hd
    split at hk
    rotate_left
    · cases hk
    rename_i h
    cases hk
    dsimp only at h
    subst h
    simp only [ex] at he
    split at he
    · cases he
      exact fun H locs ls hW hS hl => lv_pop hx hb hd rfl (K H locs ls hW hS hl)
    · cases he
      exact fun H locs ls hW hS hl => lv_pop hx hb hd rfl (K H locs ls hW hS hl)
    · cases he
  · rename_i idx hd
    split at hk
    rotate_left
    · cases hk
    rename_i h
    cases hk
    obtain ⟨h, hf⟩ := h
    dsimp only at h hf
    subst h
    simp only [ex] at he
    split at he
    rotate_left
    · cases he
    rename_i q r
    split at he
    rotate_left
    · cases he
    rename_i o hq
    split at he
    rotate_left
    · cases he
    rename_i hci
    obtain ⟨ci, fs⟩ := o
    dsimp only at hci he
    subst hci
    obtain ⟨h1, h13, hkN, hsame⟩ := FLK_ok hf
    split at he
    · rename_i hfk
      cases he
      intro H locs ls hW hS hl
      exact va_get (D := (dC, dI)) hx hb hts (ws_in _ h13) hown hK hW.2 q (wls_at hq) (cq_in _ h13) k hkN (hts _ h1) (fun z hz => by rw [← hsame]; exact hz) (v := .int (σ q k)) (by simp [List.getElem?_mapIdx, hfk, fvl]) hd (K H locs ls hW hS hl)
    · rename_i w hfk
      cases he
      intro H locs ls hW hS hl
      exact va_get (D := (dC, dI)) hx hb hts (ws_in _ h13) hown hK hW.2 q (wls_at hq) (cq_in _ h13) k hkN (hts _ h1) (fun z hz => by rw [← hsame]; exact hz) (v := .ref (b + w)) (by simp [List.getElem?_mapIdx, hfk, fvl]) hd (K H locs ls hW hS hl)
    · cases he
  · rename_i idx hd
    split at hk
    rotate_left
    · cases hk
    rename_i h
    cases hk
    obtain ⟨h, hf, hnf⟩ := h
    dsimp only at h hf hnf
    rcases h with ⟨h, hty⟩ | ⟨h, hty⟩
    · subst h
      simp only [ex] at he
      split at he
      rotate_left
      · cases he
      rename_i x q r
      split at he
      rotate_left
      · cases he
      rename_i o hq
      split at he
      rotate_left
      · cases he
      rename_i hci
      obtain ⟨ci, fs⟩ := o
      dsimp only at hci he
      subst hci
      split at he
      rotate_left
      · cases he
      rename_i hfk
      cases he
      exact RJ.put hC hd hf hnf hty rfl rfl hq hfk K
    · subst h
      simp only [ex] at he
      split at he
      rotate_left
      · cases he
      rename_i x q r
      split at he
      rotate_left
      · cases he
      rename_i o hq
      split at he
      rotate_left
      · cases he
      rename_i hci
      obtain ⟨ci, fs⟩ := o
      obtain ⟨hci, hx01⟩ := hci
      dsimp only at hci he
      subst hci
      split at he
      rotate_left
      · cases he
      rename_i hfk
      cases he
      exact RJ.put hC hd hf hnf hty (by rcases hx01 with rfl | rfl <;> rfl) (by rcases hx01 with rfl | rfl <;> rfl) hq hfk K
  · rename_i hd
    split at hk
    rotate_left
    · cases hk
    rename_i h
    cases hk
    dsimp only at h
    subst h
    simp only [ex] at he
    split at he
    rotate_left
    · cases he
    cases he
    exact fun H locs ls hW hS hl => lv_i2l hx hb hd rfl (K H locs ls hW hS hl)
  · rename_i hd
    split at hk
    rotate_left
    · cases hk
    rename_i h
    cases hk
    dsimp only at h
    subst h
    simp only [ex] at he
    split at he
    rotate_left
    · cases he
    cases he
    exact fun H locs ls hW hS hl => lv_ladd hx hb hd (K H locs ls hW hS hl)
  · rename_i hd
    split at hk
    rotate_left
    · cases hk
    rename_i h
    cases hk
    dsimp only at h
    subst h
    simp only [ex] at he
    split at he
    rotate_left
    · cases he
    cases he
    exact fun H locs ls hW hS hl => lv_lmul hx hb hd (K H locs ls hW hS hl)
  · rename_i off hd
    split at hk
    rotate_left
    · cases hk
    rename_i h
    cases hk
    obtain ⟨h, ho⟩ := h
    dsimp only at h
    subst h
    simp only [ex] at he
    cases he
    exact fun H locs ls hW hS hl => lv_goto hx hb hd (by omega) (K H locs ls hW hS hl)
  · cases hk
theorem RJ.blk (hC : CX b dC dI cI cZ (cn oc) bytes nL p s m args c) : ∀ (is : List AI) {pc : Nat} {L : List (Option Value)} {st : List Value} {σ : SG}, nxs oc nL bytes pc is = some pc' → exs ds is L st σ = some (L', st', σ') →
    RJ b sc dC dI cI cZ nL p l e R s m args below meth c cells slots Q pc' L' st' ds σ' → RJ b sc dC dI cI cZ nL p l e R s m args below meth c cells slots Q pc L st ds σ
  | [], pc, L, st, σ, hk, he, K => by
    simp only [nxs] at hk
    simp only [exs] at he
    cases hk; cases he
    exact K
  | i :: r, pc, L, st, σ, hk, he, K => by
    simp only [nxs] at hk
    simp only [exs] at he
    split at hk
    rotate_left
    · cases hk
    rename_i pc1 h1
    split at he
    rotate_left
    · cases he
    rename_i S h2
    obtain ⟨L1, st1, σ1⟩ := S
    exact RJ.ex1 hC h1 h2 (RJ.blk hC r hk he K)
end RJ1
