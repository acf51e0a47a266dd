/-! rules: branches, arrays, division, calls, returns, making, entry -/
def brc (bytes : ByteArray) (pc : Nat) : Option (Nat × Nat) :=
  match decode bytes pc with
  | .ok (.ifCond cd off, 3) => if 0 ≤ (pc : Int) + off then some ((match cd with | .eq => 0 | .ne => 1 | .lt => 2 | .ge => 3 | .gt => 4 | .le => 5), ((pc : Int) + off).toNat) else none
  | .ok (.if_icmp cd off, 3) => if 0 ≤ (pc : Int) + off then some ((match cd with | .eq => 6 | .ne => 7 | .lt => 8 | .ge => 9 | .gt => 10 | .le => 11), ((pc : Int) + off).toNat) else none
  | _ => none
theorem brc_0 {bytes : ByteArray} {pc tgt : Nat} (h : brc bytes pc = some (0, tgt)) : ∃ off : Int, decode bytes pc = .ok (.ifCond .eq off, 3) ∧ (pc : Int) + off = (tgt : Int) := by
  unfold brc at h
  split at h
  · rename_i cd off hd
    split at h
    · rename_i h0
      cases cd <;> (simp only [Option.some.injEq, Prod.mk.injEq] at h; first | (exact absurd h.1 (by decide)) | exact ⟨off, hd, by omega⟩)
    · cases h
  · rename_i cd off hd
    split at h
    · rename_i h0
      cases cd <;> (simp only [Option.some.injEq, Prod.mk.injEq] at h; first | (exact absurd h.1 (by decide)) | exact ⟨off, hd, by omega⟩)
    · cases h
  · cases h
theorem brc_6 {bytes : ByteArray} {pc tgt : Nat} (h : brc bytes pc = some (6, tgt)) : ∃ off : Int, decode bytes pc = .ok (.if_icmp .eq off, 3) ∧ (pc : Int) + off = (tgt : Int) := by
  unfold brc at h
  split at h
  · rename_i cd off hd
    split at h
    · rename_i h0
      cases cd <;> (simp only [Option.some.injEq, Prod.mk.injEq] at h; first | (exact absurd h.1 (by decide)) | exact ⟨off, hd, by omega⟩)
    · cases h
  · rename_i cd off hd
    split at h
    · rename_i h0
      cases cd <;> (simp only [Option.some.injEq, Prod.mk.injEq] at h; first | (exact absurd h.1 (by decide)) | exact ⟨off, hd, by omega⟩)
    · cases h
  · cases h
theorem brc_1 {bytes : ByteArray} {pc tgt : Nat} (h : brc bytes pc = some (1, tgt)) : ∃ off : Int, decode bytes pc = .ok (.ifCond .ne off, 3) ∧ (pc : Int) + off = (tgt : Int) := by
  unfold brc at h
  split at h
  · rename_i cd off hd
    split at h
    · rename_i h0
      cases cd <;> (simp only [Option.some.injEq, Prod.mk.injEq] at h; first | (exact absurd h.1 (by decide)) | exact ⟨off, hd, by omega⟩)
    · cases h
  · rename_i cd off hd
    split at h
    · rename_i h0
      cases cd <;> (simp only [Option.some.injEq, Prod.mk.injEq] at h; first | (exact absurd h.1 (by decide)) | exact ⟨off, hd, by omega⟩)
    · cases h
  · cases h
theorem brc_7 {bytes : ByteArray} {pc tgt : Nat} (h : brc bytes pc = some (7, tgt)) : ∃ off : Int, decode bytes pc = .ok (.if_icmp .ne off, 3) ∧ (pc : Int) + off = (tgt : Int) := by
  unfold brc at h
  split at h
  · rename_i cd off hd
    split at h
    · rename_i h0
      cases cd <;> (simp only [Option.some.injEq, Prod.mk.injEq] at h; first | (exact absurd h.1 (by decide)) | exact ⟨off, hd, by omega⟩)
    · cases h
  · rename_i cd off hd
    split at h
    · rename_i h0
      cases cd <;> (simp only [Option.some.injEq, Prod.mk.injEq] at h; first | (exact absurd h.1 (by decide)) | exact ⟨off, hd, by omega⟩)
    · cases h
  · cases h
theorem brc_2 {bytes : ByteArray} {pc tgt : Nat} (h : brc bytes pc = some (2, tgt)) : ∃ off : Int, decode bytes pc = .ok (.ifCond .lt off, 3) ∧ (pc : Int) + off = (tgt : Int) := by
  unfold brc at h
  split at h
  · rename_i cd off hd
    split at h
    · rename_i h0
      cases cd <;> (simp only [Option.some.injEq, Prod.mk.injEq] at h; first | (exact absurd h.1 (by decide)) | exact ⟨off, hd, by omega⟩)
    · cases h
  · rename_i cd off hd
    split at h
    · rename_i h0
      cases cd <;> (simp only [Option.some.injEq, Prod.mk.injEq] at h; first | (exact absurd h.1 (by decide)) | exact ⟨off, hd, by omega⟩)
    · cases h
  · cases h
theorem brc_8 {bytes : ByteArray} {pc tgt : Nat} (h : brc bytes pc = some (8, tgt)) : ∃ off : Int, decode bytes pc = .ok (.if_icmp .lt off, 3) ∧ (pc : Int) + off = (tgt : Int) := by
  unfold brc at h
  split at h
  · rename_i cd off hd
    split at h
    · rename_i h0
      cases cd <;> (simp only [Option.some.injEq, Prod.mk.injEq] at h; first | (exact absurd h.1 (by decide)) | exact ⟨off, hd, by omega⟩)
    · cases h
  · rename_i cd off hd
    split at h
    · rename_i h0
      cases cd <;> (simp only [Option.some.injEq, Prod.mk.injEq] at h; first | (exact absurd h.1 (by decide)) | exact ⟨off, hd, by omega⟩)
    · cases h
  · cases h
theorem brc_3 {bytes : ByteArray} {pc tgt : Nat} (h : brc bytes pc = some (3, tgt)) : ∃ off : Int, decode bytes pc = .ok (.ifCond .ge off, 3) ∧ (pc : Int) + off = (tgt : Int) := by
  unfold brc at h
  split at h
  · rename_i cd off hd
    split at h
    · rename_i h0
      cases cd <;> (simp only [Option.some.injEq, Prod.mk.injEq] at h; first | (exact absurd h.1 (by decide)) | exact ⟨off, hd, by omega⟩)
    · cases h
  · rename_i cd off hd
    split at h
    · rename_i h0
      cases cd <;> (simp only [Option.some.injEq, Prod.mk.injEq] at h; first | (exact absurd h.1 (by decide)) | exact ⟨off, hd, by omega⟩)
    · cases h
  · cases h
theorem brc_9 {bytes : ByteArray} {pc tgt : Nat} (h : brc bytes pc = some (9, tgt)) : ∃ off : Int, decode bytes pc = .ok (.if_icmp .ge off, 3) ∧ (pc : Int) + off = (tgt : Int) := by
  unfold brc at h
  split at h
  · rename_i cd off hd
    split at h
    · rename_i h0
      cases cd <;> (simp only [Option.some.injEq, Prod.mk.injEq] at h; first | (exact absurd h.1 (by decide)) | exact ⟨off, hd, by omega⟩)
    · cases h
  · rename_i cd off hd
    split at h
    · rename_i h0
      cases cd <;> (simp only [Option.some.injEq, Prod.mk.injEq] at h; first | (exact absurd h.1 (by decide)) | exact ⟨off, hd, by omega⟩)
    · cases h
  · cases h
theorem brc_4 {bytes : ByteArray} {pc tgt : Nat} (h : brc bytes pc = some (4, tgt)) : ∃ off : Int, decode bytes pc = .ok (.ifCond .gt off, 3) ∧ (pc : Int) + off = (tgt : Int) := by
  unfold brc at h
  split at h
  · rename_i cd off hd
    split at h
    · rename_i h0
      cases cd <;> (simp only [Option.some.injEq, Prod.mk.injEq] at h; first | (exact absurd h.1 (by decide)) | exact ⟨off, hd, by omega⟩)
    · cases h
  · rename_i cd off hd
    split at h
    · rename_i h0
      cases cd <;> (simp only [Option.some.injEq, Prod.mk.injEq] at h; first | (exact absurd h.1 (by decide)) | exact ⟨off, hd, by omega⟩)
    · cases h
  · cases h
theorem brc_10 {bytes : ByteArray} {pc tgt : Nat} (h : brc bytes pc = some (10, tgt)) : ∃ off : Int, decode bytes pc = .ok (.if_icmp .gt off, 3) ∧ (pc : Int) + off = (tgt : Int) := by
  unfold brc at h
  split at h
  · rename_i cd off hd
    split at h
    · rename_i h0
      cases cd <;> (simp only [Option.some.injEq, Prod.mk.injEq] at h; first | (exact absurd h.1 (by decide)) | exact ⟨off, hd, by omega⟩)
    · cases h
  · rename_i cd off hd
    split at h
    · rename_i h0
      cases cd <;> (simp only [Option.some.injEq, Prod.mk.injEq] at h; first | (exact absurd h.1 (by decide)) | exact ⟨off, hd, by omega⟩)
    · cases h
  · cases h
theorem brc_5 {bytes : ByteArray} {pc tgt : Nat} (h : brc bytes pc = some (5, tgt)) : ∃ off : Int, decode bytes pc = .ok (.ifCond .le off, 3) ∧ (pc : Int) + off = (tgt : Int) := by
  unfold brc at h
  split at h
  · rename_i cd off hd
    split at h
    · rename_i h0
      cases cd <;> (simp only [Option.some.injEq, Prod.mk.injEq] at h; first | (exact absurd h.1 (by decide)) | exact ⟨off, hd, by omega⟩)
    · cases h
  · rename_i cd off hd
    split at h
    · rename_i h0
      cases cd <;> (simp only [Option.some.injEq, Prod.mk.injEq] at h; first | (exact absurd h.1 (by decide)) | exact ⟨off, hd, by omega⟩)
    · cases h
  · cases h
theorem brc_11 {bytes : ByteArray} {pc tgt : Nat} (h : brc bytes pc = some (11, tgt)) : ∃ off : Int, decode bytes pc = .ok (.if_icmp .le off, 3) ∧ (pc : Int) + off = (tgt : Int) := by
  unfold brc at h
  split at h
  · rename_i cd off hd
    split at h
    · rename_i h0
      cases cd <;> (simp only [Option.some.injEq, Prod.mk.injEq] at h; first | (exact absurd h.1 (by decide)) | exact ⟨off, hd, by omega⟩)
    · cases h
  · rename_i cd off hd
    split at h
    · rename_i h0
      cases cd <;> (simp only [Option.some.injEq, Prod.mk.injEq] at h; first | (exact absurd h.1 (by decide)) | exact ⟨off, hd, by omega⟩)
    · cases h
  · cases h

section RJ2
variable {b sc : Nat} {dC : Nat → ClassId} {dI : Nat → Nat → Nat} {cI cZ : ClassId} {nL oc : Nat} {bytes : ByteArray} {p : Program} {l : Launch} {e : Env} {R : Room} {s : State} {m : MethodId} {args : Array Value} {below : List Frame} {meth : Method} {c : Code} {cells slots : Nat} {Q : State → Prop} {pc pc' : Nat} {L L' : List (Option Value)} {st st' : List Value} {ds ds' : List CDs} {σ σ' : SG}
theorem RJ.if_eq (hC : CX b dC dI cI cZ (cn oc) bytes nL p s m args c) {x : Int32} {tgt : Nat} (hb : brc bytes pc = some (0, tgt)) (kt : x = 0 → RJ b sc dC dI cI cZ nL p l e R s m args below meth c cells slots Q tgt L st ds σ) (kf : ¬ x = 0 → RJ b sc dC dI cI cZ nL p l e R s m args below meth c cells slots Q (pc + 3) L st ds σ) : RJ b sc dC dI cI cZ nL p l e R s m args below meth c cells slots Q pc L (.int x :: st) ds σ := by
  obtain ⟨off, hd, ht⟩ := brc_0 hb
  exact fun H locs ls hW hS hl => lv_if_eq hC.1 hC.2.1 hd ht (fun h => kt h H locs ls hW hS hl) (fun h => kf h H locs ls hW hS hl)
theorem RJ.icmp_eq (hC : CX b dC dI cI cZ (cn oc) bytes nL p s m args c) {x y : Int32} {tgt : Nat} (hb : brc bytes pc = some (6, tgt)) (kt : x = y → RJ b sc dC dI cI cZ nL p l e R s m args below meth c cells slots Q tgt L st ds σ) (kf : ¬ x = y → RJ b sc dC dI cI cZ nL p l e R s m args below meth c cells slots Q (pc + 3) L st ds σ) : RJ b sc dC dI cI cZ nL p l e R s m args below meth c cells slots Q pc L (.int y :: .int x :: st) ds σ := by
  obtain ⟨off, hd, ht⟩ := brc_6 hb
  exact fun H locs ls hW hS hl => lv_icmp_eq hC.1 hC.2.1 hd ht (fun h => kt h H locs ls hW hS hl) (fun h => kf h H locs ls hW hS hl)
theorem RJ.if_ne (hC : CX b dC dI cI cZ (cn oc) bytes nL p s m args c) {x : Int32} {tgt : Nat} (hb : brc bytes pc = some (1, tgt)) (kt : ¬ x = 0 → RJ b sc dC dI cI cZ nL p l e R s m args below meth c cells slots Q tgt L st ds σ) (kf : x = 0 → RJ b sc dC dI cI cZ nL p l e R s m args below meth c cells slots Q (pc + 3) L st ds σ) : RJ b sc dC dI cI cZ nL p l e R s m args below meth c cells slots Q pc L (.int x :: st) ds σ := by
  obtain ⟨off, hd, ht⟩ := brc_1 hb
  exact fun H locs ls hW hS hl => lv_if_ne hC.1 hC.2.1 hd ht (fun h => kt h H locs ls hW hS hl) (fun h => kf h H locs ls hW hS hl)
theorem RJ.icmp_ne (hC : CX b dC dI cI cZ (cn oc) bytes nL p s m args c) {x y : Int32} {tgt : Nat} (hb : brc bytes pc = some (7, tgt)) (kt : ¬ x = y → RJ b sc dC dI cI cZ nL p l e R s m args below meth c cells slots Q tgt L st ds σ) (kf : x = y → RJ b sc dC dI cI cZ nL p l e R s m args below meth c cells slots Q (pc + 3) L st ds σ) : RJ b sc dC dI cI cZ nL p l e R s m args below meth c cells slots Q pc L (.int y :: .int x :: st) ds σ := by
  obtain ⟨off, hd, ht⟩ := brc_7 hb
  exact fun H locs ls hW hS hl => lv_icmp_ne hC.1 hC.2.1 hd ht (fun h => kt h H locs ls hW hS hl) (fun h => kf h H locs ls hW hS hl)
theorem RJ.if_lt (hC : CX b dC dI cI cZ (cn oc) bytes nL p s m args c) {x : Int32} {tgt : Nat} (hb : brc bytes pc = some (2, tgt)) (kt : x < 0 → RJ b sc dC dI cI cZ nL p l e R s m args below meth c cells slots Q tgt L st ds σ) (kf : ¬ x < 0 → RJ b sc dC dI cI cZ nL p l e R s m args below meth c cells slots Q (pc + 3) L st ds σ) : RJ b sc dC dI cI cZ nL p l e R s m args below meth c cells slots Q pc L (.int x :: st) ds σ := by
  obtain ⟨off, hd, ht⟩ := brc_2 hb
  exact fun H locs ls hW hS hl => lv_if_lt hC.1 hC.2.1 hd ht (fun h => kt h H locs ls hW hS hl) (fun h => kf h H locs ls hW hS hl)
theorem RJ.icmp_lt (hC : CX b dC dI cI cZ (cn oc) bytes nL p s m args c) {x y : Int32} {tgt : Nat} (hb : brc bytes pc = some (8, tgt)) (kt : x < y → RJ b sc dC dI cI cZ nL p l e R s m args below meth c cells slots Q tgt L st ds σ) (kf : ¬ x < y → RJ b sc dC dI cI cZ nL p l e R s m args below meth c cells slots Q (pc + 3) L st ds σ) : RJ b sc dC dI cI cZ nL p l e R s m args below meth c cells slots Q pc L (.int y :: .int x :: st) ds σ := by
  obtain ⟨off, hd, ht⟩ := brc_8 hb
  exact fun H locs ls hW hS hl => lv_icmp_lt hC.1 hC.2.1 hd ht (fun h => kt h H locs ls hW hS hl) (fun h => kf h H locs ls hW hS hl)
theorem RJ.if_ge (hC : CX b dC dI cI cZ (cn oc) bytes nL p s m args c) {x : Int32} {tgt : Nat} (hb : brc bytes pc = some (3, tgt)) (kt : 0 ≤ x → RJ b sc dC dI cI cZ nL p l e R s m args below meth c cells slots Q tgt L st ds σ) (kf : ¬ 0 ≤ x → RJ b sc dC dI cI cZ nL p l e R s m args below meth c cells slots Q (pc + 3) L st ds σ) : RJ b sc dC dI cI cZ nL p l e R s m args below meth c cells slots Q pc L (.int x :: st) ds σ := by
  obtain ⟨off, hd, ht⟩ := brc_3 hb
  exact fun H locs ls hW hS hl => lv_if_ge hC.1 hC.2.1 hd ht (fun h => kt h H locs ls hW hS hl) (fun h => kf h H locs ls hW hS hl)
theorem RJ.icmp_ge (hC : CX b dC dI cI cZ (cn oc) bytes nL p s m args c) {x y : Int32} {tgt : Nat} (hb : brc bytes pc = some (9, tgt)) (kt : y ≤ x → RJ b sc dC dI cI cZ nL p l e R s m args below meth c cells slots Q tgt L st ds σ) (kf : ¬ y ≤ x → RJ b sc dC dI cI cZ nL p l e R s m args below meth c cells slots Q (pc + 3) L st ds σ) : RJ b sc dC dI cI cZ nL p l e R s m args below meth c cells slots Q pc L (.int y :: .int x :: st) ds σ := by
  obtain ⟨off, hd, ht⟩ := brc_9 hb
  exact fun H locs ls hW hS hl => lv_icmp_ge hC.1 hC.2.1 hd ht (fun h => kt h H locs ls hW hS hl) (fun h => kf h H locs ls hW hS hl)
theorem RJ.if_gt (hC : CX b dC dI cI cZ (cn oc) bytes nL p s m args c) {x : Int32} {tgt : Nat} (hb : brc bytes pc = some (4, tgt)) (kt : 0 < x → RJ b sc dC dI cI cZ nL p l e R s m args below meth c cells slots Q tgt L st ds σ) (kf : ¬ 0 < x → RJ b sc dC dI cI cZ nL p l e R s m args below meth c cells slots Q (pc + 3) L st ds σ) : RJ b sc dC dI cI cZ nL p l e R s m args below meth c cells slots Q pc L (.int x :: st) ds σ := by
  obtain ⟨off, hd, ht⟩ := brc_4 hb
  exact fun H locs ls hW hS hl => lv_if_gt hC.1 hC.2.1 hd ht (fun h => kt h H locs ls hW hS hl) (fun h => kf h H locs ls hW hS hl)
theorem RJ.icmp_gt (hC : CX b dC dI cI cZ (cn oc) bytes nL p s m args c) {x y : Int32} {tgt : Nat} (hb : brc bytes pc = some (10, tgt)) (kt : y < x → RJ b sc dC dI cI cZ nL p l e R s m args below meth c cells slots Q tgt L st ds σ) (kf : ¬ y < x → RJ b sc dC dI cI cZ nL p l e R s m args below meth c cells slots Q (pc + 3) L st ds σ) : RJ b sc dC dI cI cZ nL p l e R s m args below meth c cells slots Q pc L (.int y :: .int x :: st) ds σ := by
  obtain ⟨off, hd, ht⟩ := brc_10 hb
  exact fun H locs ls hW hS hl => lv_icmp_gt hC.1 hC.2.1 hd ht (fun h => kt h H locs ls hW hS hl) (fun h => kf h H locs ls hW hS hl)
theorem RJ.if_le (hC : CX b dC dI cI cZ (cn oc) bytes nL p s m args c) {x : Int32} {tgt : Nat} (hb : brc bytes pc = some (5, tgt)) (kt : x ≤ 0 → RJ b sc dC dI cI cZ nL p l e R s m args below meth c cells slots Q tgt L st ds σ) (kf : ¬ x ≤ 0 → RJ b sc dC dI cI cZ nL p l e R s m args below meth c cells slots Q (pc + 3) L st ds σ) : RJ b sc dC dI cI cZ nL p l e R s m args below meth c cells slots Q pc L (.int x :: st) ds σ := by
  obtain ⟨off, hd, ht⟩ := brc_5 hb
  exact fun H locs ls hW hS hl => lv_if_le hC.1 hC.2.1 hd ht (fun h => kt h H locs ls hW hS hl) (fun h => kf h H locs ls hW hS hl)
theorem RJ.icmp_le (hC : CX b dC dI cI cZ (cn oc) bytes nL p s m args c) {x y : Int32} {tgt : Nat} (hb : brc bytes pc = some (11, tgt)) (kt : x ≤ y → RJ b sc dC dI cI cZ nL p l e R s m args below meth c cells slots Q tgt L st ds σ) (kf : ¬ x ≤ y → RJ b sc dC dI cI cZ nL p l e R s m args below meth c cells slots Q (pc + 3) L st ds σ) : RJ b sc dC dI cI cZ nL p l e R s m args below meth c cells slots Q pc L (.int y :: .int x :: st) ds σ := by
  obtain ⟨off, hd, ht⟩ := brc_11 hb
  exact fun H locs ls hW hS hl => lv_icmp_le hC.1 hC.2.1 hd ht (fun h => kt h H locs ls hW hS hl) (fun h => kf h H locs ls hW hS hl)
theorem RJ.idiv (hC : CX b dC dI cI cZ (cn oc) bytes nL p s m args c) {x y : Int32} (hd : decode bytes pc = .ok (.idiv, 1)) (hy : ¬ y = 0) (K : RJ b sc dC dI cI cZ nL p l e R s m args below meth c cells slots Q (pc + 1) L (.int (x / y) :: st) ds σ) : RJ b sc dC dI cI cZ nL p l e R s m args below meth c cells slots Q pc L (.int y :: .int x :: st) ds σ :=
  fun H locs ls hW hS hl => lv_idiv hC.1 hC.2.1 hd hy (K H locs ls hW hS hl)
theorem RJ.irem (hC : CX b dC dI cI cZ (cn oc) bytes nL p s m args c) {x y : Int32} (hd : decode bytes pc = .ok (.irem, 1)) (hy : ¬ y = 0) (K : RJ b sc dC dI cI cZ nL p l e R s m args below meth c cells slots Q (pc + 1) L (.int (x - x / y * y) :: st) ds σ) : RJ b sc dC dI cI cZ nL p l e R s m args below meth c cells slots Q pc L (.int y :: .int x :: st) ds σ :=
  fun H locs ls hW hS hl => lv_irem hC.1 hC.2.1 hd hy (K H locs ls hW hS hl)
theorem RJ.iald (hC : CX b dC dI cI cZ (cn oc) bytes nL p s m args c) {i : Int32} {q n : Nat} (hd : decode bytes pc = .ok (.iaload, 1)) (hq : ds[q]? = some (.inr (false, n))) (hin : vp_in i n) (K : RJ b sc dC dI cI cZ nL p l e R s m args below meth c cells slots Q (pc + 1) L (.int (σ q (ix i)) :: st) ds σ) : RJ b sc dC dI cI cZ nL p l e R s m args below meth c cells slots Q pc L (.int i :: .ref q :: st) ds σ :=
  fun H locs ls hW hS hl => va_iald (D := (dC, dI)) hC.1 hC.2.1 hC.2.2.2.2.2.1 hW.2 q 0 (wls_at hq) rfl hin hd (K H locs ls hW hS hl)
theorem RJ.zald (hC : CX b dC dI cI cZ (cn oc) bytes nL p s m args c) {i : Int32} {q n : Nat} (hd : decode bytes pc = .ok (.baload, 1)) (hq : ds[q]? = some (.inr (true, n))) (hin : vp_in i n) (K : RJ b sc dC dI cI cZ nL p l e R s m args below meth c cells slots Q (pc + 1) L (.int (σ q (ix i)) :: st) ds σ) : RJ b sc dC dI cI cZ nL p l e R s m args below meth c cells slots Q pc L (.int i :: .ref q :: st) ds σ :=
  fun H locs ls hW hS hl => va_zald (D := (dC, dI)) hC.1 hC.2.1 hC.2.2.2.2.2.1 hW.2 q 1 (wls_at hq) rfl hin hd (K H locs ls hW hS hl)
theorem RJ.alen (hC : CX b dC dI cI cZ (cn oc) bytes nL p s m args c) {q n : Nat} {z : Bool} (hd : decode bytes pc = .ok (.arraylength, 1)) (hq : ds[q]? = some (.inr (z, n))) (K : RJ b sc dC dI cI cZ nL p l e R s m args below meth c cells slots Q (pc + 1) L (.int (nI n) :: st) ds σ) : RJ b sc dC dI cI cZ nL p l e R s m args below meth c cells slots Q pc L (.ref q :: st) ds σ := by
  intro H locs ls hW hS hl
  cases z
  · exact va_alen (D := (dC, dI)) hC.1 hC.2.1 hC.2.2.2.2.2.1 hW.2 q 0 (wls_at hq) rfl rfl hd (K H locs ls hW hS hl)
  · exact va_alen (D := (dC, dI)) hC.1 hC.2.1 hC.2.2.2.2.2.1 hW.2 q 1 (wls_at hq) rfl rfl hd (K H locs ls hW hS hl)
theorem RJ.iast (hC : CX b dC dI cI cZ (cn oc) bytes nL p s m args c) {i x : Int32} {q n : Nat} (hd : decode bytes pc = .ok (.iastore, 1)) (hq : ds[q]? = some (.inr (false, n))) (hin : vp_in i n) (K : RJ b sc dC dI cI cZ nL p l e R s m args below meth c cells slots Q (pc + 1) L st ds (up σ q (ix i) x)) : RJ b sc dC dI cI cZ nL p l e R s m args below meth c cells slots Q pc L (.int x :: .int i :: .ref q :: st) ds σ := by
  intro H locs ls hW hS hl
  refine W.iast hC.1 hC.2.1 (hW.2 q _ (wls_at hq)) ((hC.2.2.2.2.2.1.2 0 _ rfl).1 n (fun j => .int (σ q j))) (fun q => by cases q) (by show ¬ (i < 0 ∨ (arrV _ _ _).slots.size ≤ _); rw [arrV_size]; exact hin) rfl rfl hd fun H1 e1 z oq => ?_
  refine K H1 _ ls ⟨z.trans hW.1, ?_⟩ (hS.put z oq (Nat.le_add_right b q)) hl
  rw [← wls_arr hq]
  refine hW.2.set (wls_D b cI cZ σ ds) (wls_at hq) ?_ oq
  show H1[b + q]? = some (vp_cell _ _)
  rw [e1]
  show some (Cell.setSlot (vp_cell (czI cI cZ false) (n, .inl (σ q))) _ _) = some (vp_cell (czI cI cZ false) (n, .inl (upd (σ q) (ix i) x)))
  rw [vp_cell_i, vp_cell_i, arrV_store]
  congr 2
  funext j
  by_cases hj : j = i.toNatClampNeg
  · subst hj
    simp [updV, upd, ix]
  · simp [updV, upd, ix, hj]
theorem RJ.zast (hC : CX b dC dI cI cZ (cn oc) bytes nL p s m args c) {i x : Int32} {q n : Nat} (hd : decode bytes pc = .ok (.bastore, 1)) (hq : ds[q]? = some (.inr (true, n))) (hin : vp_in i n) (hx : vp_nar .boolean x = x) (K : RJ b sc dC dI cI cZ nL p l e R s m args below meth c cells slots Q (pc + 1) L st ds (up σ q (ix i) x)) : RJ b sc dC dI cI cZ nL p l e R s m args below meth c cells slots Q pc L (.int x :: .int i :: .ref q :: st) ds σ := by
  intro H locs ls hW hS hl
  refine W.zast hC.1 hC.2.1 (hW.2 q _ (wls_at hq)) ((hC.2.2.2.2.2.1.2 1 _ rfl).1 n (fun j => .int (σ q j))) (fun q => by cases q) (by show ¬ (i < 0 ∨ (arrV _ _ _).slots.size ≤ _); rw [arrV_size]; exact hin) rfl rfl hd fun H1 e1 z oq => ?_
  refine K H1 _ ls ⟨z.trans hW.1, ?_⟩ (hS.put z oq (Nat.le_add_right b q)) hl
  rw [← wls_arr hq]
  refine hW.2.set (wls_D b cI cZ σ ds) (wls_at hq) ?_ oq
  show H1[b + q]? = some (vp_cell _ _)
  rw [e1]
  show some (Cell.setSlot (vp_cell (czI cI cZ true) (n, .inl (σ q))) _ _) = some (vp_cell (czI cI cZ true) (n, .inl (upd (σ q) (ix i) x)))
  have hnv : narrow .boolean (.int x) = .int x := by
    have h2 : narrow .boolean (.int x) = .int (vp_nar .boolean x) := rfl
    rw [h2, hx]
  rw [vp_cell_i, vp_cell_i, arrV_store, hnv]
  congr 2
  funext j
  by_cases hj : j = i.toNatClampNeg
  · subst hj
    simp [updV, upd, ix]
  · simp [updV, upd, ix, hj]
def tsc (bytes : ByteArray) (pc : Nat) : Option (List Nat × Nat) :=
  match decode bytes pc with
  | .ok (.tableswitch dflt lo hi offs, _) => if lo = 0 ∧ hi + 1 = offs.size ∧ 0 ≤ (pc : Int) + dflt ∧ offs.toList.all (fun o => decide (0 ≤ (pc : Int) + o)) = true then some (offs.toList.map (fun o => ((pc : Int) + o).toNat), ((pc : Int) + dflt).toNat) else none
  | _ => none
def tsK (P : Nat → Prop) (x : Int32) : Nat → List Nat → Prop
  | _, [] => True
  | k, t :: r => (x = nI k → P t) ∧ tsK P x (k + 1) r
theorem tsK_at {P : Nat → Prop} {x : Int32} : ∀ {r : List Nat} {k j t : Nat}, tsK P x k r → r[j]? = some t → x = nI (k + j) → P t
  | [], k, j, t, _, h, _ => by simp at h
  | u :: r, k, 0, t, hK, h, hx => by
    simp at h
    subst h
    exact hK.1 hx
  | u :: r, k, j + 1, t, hK, h, hx => tsK_at (k := k + 1) (j := j) hK.2 (by simpa using h) (by rw [hx]; congr 1; omega)
theorem RJ.tsw (hC : CX b dC dI cI cZ (cn oc) bytes nL p s m args c) {x : Int32} {ts : List Nat} {df : Nat} (hb : tsc bytes pc = some (ts, df)) (hlen : ts.length < 1000) (K : tsK (fun t => RJ b sc dC dI cI cZ nL p l e R s m args below meth c cells slots Q t L st ds σ) x 0 ts) (Kd : (x < 0 ∨ nI ts.length ≤ x) → RJ b sc dC dI cI cZ nL p l e R s m args below meth c cells slots Q df L st ds σ) : RJ b sc dC dI cI cZ nL p l e R s m args below meth c cells slots Q pc L (.int x :: st) ds σ := by
  unfold tsc at hb
  split at hb
  rotate_left
  · cases hb
  rename_i dflt lo hi offs len hd
  split at hb
  rotate_left
  · cases hb
  rename_i h
  obtain ⟨rfl, h2, h3, h4⟩ := h
  simp only [Option.some.injEq, Prod.mk.injEq] at hb
  obtain ⟨hts, hdf⟩ := hb
  have hsz : ts.length = offs.size := by rw [← hts]; simp
  intro H locs ls hW hS hl
  by_cases hx : x.toInt < 0 ∨ hi < x.toInt
  · refine lv_tableOut hC.1 hC.2.1 hd hx (by omega) (Kd ?_ H locs ls hW hS hl)
    rcases hx with hx | hx
    · left
      show x < 0
      rw [Int32.lt_iff_toInt_lt]; simpa using hx
    · right
      rw [Int32.le_iff_toInt_le, nI_toInt (by omega)]; omega
  · have h0 : 0 ≤ x.toInt := by omega
    have h1 : x.toInt ≤ hi := by omega
    have hj : x.toInt.toNat < offs.size := by omega
    refine lv_tableIn (off := offs[x.toInt.toNat]) hC.1 hC.2.1 hd (by omega) (by omega) ?_ (tgt := ts[x.toInt.toNat]'(by omega)) ?_ ?_
    · rw [Int.sub_zero]; exact Array.getElem?_eq_getElem hj
    · have h5 := List.all_eq_true.mp h4 offs[x.toInt.toNat] (by simp)
      have h6 : ts[x.toInt.toNat]'(by omega) = ((pc : Int) + offs[x.toInt.toNat]).toNat := by subst hts; simp
      rw [h6]
      have := of_decide_eq_true h5
      omega
    · refine tsK_at (k := 0) (j := x.toInt.toNat) (t := ts[x.toInt.toNat]'(by omega)) K (List.getElem?_eq_getElem (by omega)) ?_ H locs ls hW hS hl
      rw [Nat.zero_add, ← Int32.toInt_inj, nI_toInt (by omega)]; omega
theorem RJ.mmax (hC : CX b dC dI cI cZ (cn oc) bytes nL p s m args c) {x y : Int32} {idx : Nat} (hd : decode bytes pc = .ok (.invokestatic idx, 3)) (hlk : Cond.methodLink (cn oc) idx Lib.Math.max.name ∈ TB) (hm : Cond.static Lib.Math.max.name ∈ TB ∧ Cond.initialized "java/lang/Math" ∈ TB ∧ Cond.code Lib.Math.max.name Lib.Math.max.code 2 (some .int) ∈ TB)
    (hR : 1 ≤ R.frames ∧ (st.map fun v => v.category).sum + 13 ≤ R.locals ∧ cells ≤ R.cells ∧ slots ≤ R.slots) (K : RJ b sc dC dI cI cZ nL p l e R s m args below meth c cells slots Q (pc + 3) L (.int (if x < y then y else x) :: st) ds σ) : RJ b sc dC dI cI cZ nL p l e R s m args below meth c cells slots Q pc L (.int y :: .int x :: st) ds σ := by
  obtain ⟨hx, hb, hml, hown, hts, -⟩ := hC
  intro H locs ls hW hS hl
  refine va_mmax hx hb (by rw [hl.1]; exact hml) hown (hts _ hlk) (hts _ hm.1) (hts _ hm.2.1) (hts _ hm.2.2) hR.1 ?_ hR.2.2.1 hR.2.2.2 hd (K H locs ls hW hS hl)
  rw [List.map_map, show ((fun v => v.category) ∘ vC b sc) = (fun v : Value => v.category) from funext fun v => vC_cat b sc v]
  exact hR.2.1
theorem RJ.mmin (hC : CX b dC dI cI cZ (cn oc) bytes nL p s m args c) {x y : Int32} {idx : Nat} (hd : decode bytes pc = .ok (.invokestatic idx, 3)) (hlk : Cond.methodLink (cn oc) idx Lib.Math.min.name ∈ TB) (hm : Cond.static Lib.Math.min.name ∈ TB ∧ Cond.initialized "java/lang/Math" ∈ TB ∧ Cond.code Lib.Math.min.name Lib.Math.min.code 2 (some .int) ∈ TB)
    (hR : 1 ≤ R.frames ∧ (st.map fun v => v.category).sum + 13 ≤ R.locals ∧ cells ≤ R.cells ∧ slots ≤ R.slots) (K : RJ b sc dC dI cI cZ nL p l e R s m args below meth c cells slots Q (pc + 3) L (.int (if y < x then y else x) :: st) ds σ) : RJ b sc dC dI cI cZ nL p l e R s m args below meth c cells slots Q pc L (.int y :: .int x :: st) ds σ := by
  obtain ⟨hx, hb, hml, hown, hts, -⟩ := hC
  intro H locs ls hW hS hl
  refine va_mmin hx hb (by rw [hl.1]; exact hml) hown (hts _ hlk) (hts _ hm.1) (hts _ hm.2.1) (hts _ hm.2.2) hR.1 ?_ hR.2.2.1 hR.2.2.2 hd (K H locs ls hW hS hl)
  rw [List.map_map, show ((fun v => v.category) ∘ vC b sc) = (fun v : Value => v.category) from funext fun v => vC_cat b sc v]
  exact hR.2.1
end RJ2
