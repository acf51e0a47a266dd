/-! tables: fields, constants by their pool numbers, as the words of the tables have them -/
def TB : List Cond := lw_tbl.filter goodWord
theorem TB_in {w : Cond} (h : w ∈ lw_tbl) (g : goodWord w = true) : w ∈ TB := List.mem_filter.mpr ⟨h, g⟩
theorem TB_at {w : Cond} (i : Nat) (h : lw_tbl[i]? = some w) (g : goodWord w = true) : w ∈ TB := TB_in (List.mem_of_getElem? h) g
theorem TB_G {ws : List Cond} (h : ∀ w ∈ ws, w ∈ TB) : GoodIn TB ws := fun w hw => ⟨h w hw, good_of_word (List.mem_filter.mp (h w hw)).2⟩
def cq (ci : Nat) : vw_C := vwCl.getD ci (RL, TX0, 0)
def cn (ci : Nat) : String := (cq ci).1
def cT (ci : Nat) : u_T := (cq ci).2.1
def cN (ci : Nat) : Nat := (cq ci).2.2
def cty (ci : Nat) : Nat → FieldType := fun k => (parseFieldDescriptor (cT ci k).2.2.1).getD .int
theorem cq_in : ∀ ci, ci < 13 → vwCl[ci]? = some (cn ci, cT ci, cN ci) := by
  intro ci h
  rcases (show ci = 0 ∨ ci = 1 ∨ ci = 2 ∨ ci = 3 ∨ ci = 4 ∨ ci = 5 ∨ ci = 6 ∨ ci = 7 ∨ ci = 8 ∨ ci = 9 ∨ ci = 10 ∨ ci = 11 ∨ ci = 12 by omega) with rfl | rfl | rfl | rfl | rfl | rfl | rfl | rfl | rfl | rfl | rfl | rfl | rfl
  · rfl
  · rfl
  · rfl
  · rfl
  · rfl
  · rfl
  · rfl
  · rfl
  · rfl
  · rfl
  · rfl
  · rfl
  · rfl
theorem ws_in : ∀ ci, ci < 13 → ∀ w ∈ u_ws (cn ci) (cT ci) (cN ci), w ∈ TB := by
  intro ci h
  rcases (show ci = 0 ∨ ci = 1 ∨ ci = 2 ∨ ci = 3 ∨ ci = 4 ∨ ci = 5 ∨ ci = 6 ∨ ci = 7 ∨ ci = 8 ∨ ci = 9 ∨ ci = 10 ∨ ci = 11 ∨ ci = 12 by omega) with rfl | rfl | rfl | rfl | rfl | rfl | rfl | rfl | rfl | rfl | rfl | rfl | rfl
  · exact fun w h => TB_in ((by decide +kernel : ∀ w ∈ u_ws RX0 TX0 3, w ∈ lw_tbl) w h) (List.all_eq_true.mp (by decide +kernel : (u_ws RX0 TX0 3).all goodWord = true) w h)
  · exact fun w h => TB_in ((by decide +kernel : ∀ w ∈ u_ws RX1 TX1 9, w ∈ lw_tbl) w h) (List.all_eq_true.mp (by decide +kernel : (u_ws RX1 TX1 9).all goodWord = true) w h)
  · exact fun w h => TB_in ((by decide +kernel : ∀ w ∈ u_ws RX2 TX2 9, w ∈ lw_tbl) w h) (List.all_eq_true.mp (by decide +kernel : (u_ws RX2 TX2 9).all goodWord = true) w h)
  · exact fun w h => TB_in ((by decide +kernel : ∀ w ∈ u_ws RX3 TX3 3, w ∈ lw_tbl) w h) (List.all_eq_true.mp (by decide +kernel : (u_ws RX3 TX3 3).all goodWord = true) w h)
  · exact fun w h => TB_in ((by decide +kernel : ∀ w ∈ u_ws RX4 TX4 4, w ∈ lw_tbl) w h) (List.all_eq_true.mp (by decide +kernel : (u_ws RX4 TX4 4).all goodWord = true) w h)
  · exact fun w h => TB_in ((by decide +kernel : ∀ w ∈ u_ws RX5 TX5 3, w ∈ lw_tbl) w h) (List.all_eq_true.mp (by decide +kernel : (u_ws RX5 TX5 3).all goodWord = true) w h)
  · exact fun w h => TB_in ((by decide +kernel : ∀ w ∈ u_ws RX6 TX6 6, w ∈ lw_tbl) w h) (List.all_eq_true.mp (by decide +kernel : (u_ws RX6 TX6 6).all goodWord = true) w h)
  · exact fun w h => TB_in ((by decide +kernel : ∀ w ∈ u_ws RX7 TX7 3, w ∈ lw_tbl) w h) (List.all_eq_true.mp (by decide +kernel : (u_ws RX7 TX7 3).all goodWord = true) w h)
  · exact fun w h => TB_in ((by decide +kernel : ∀ w ∈ u_ws RX8 TX8 7, w ∈ lw_tbl) w h) (List.all_eq_true.mp (by decide +kernel : (u_ws RX8 TX8 7).all goodWord = true) w h)
  · exact fun w h => TB_in ((by decide +kernel : ∀ w ∈ u_ws RX9 TX9 1, w ∈ lw_tbl) w h) (List.all_eq_true.mp (by decide +kernel : (u_ws RX9 TX9 1).all goodWord = true) w h)
  · exact fun w h => TB_in ((by decide +kernel : ∀ w ∈ u_ws RX10 TX10 5, w ∈ lw_tbl) w h) (List.all_eq_true.mp (by decide +kernel : (u_ws RX10 TX10 5).all goodWord = true) w h)
  · exact fun w h => TB_in ((by decide +kernel : ∀ w ∈ u_ws RX11 TX11 9, w ∈ lw_tbl) w h) (List.all_eq_true.mp (by decide +kernel : (u_ws RX11 TX11 9).all goodWord = true) w h)
  · exact fun w h => TB_in ((by decide +kernel : ∀ w ∈ u_ws RX12 TX12 37, w ∈ lw_tbl) w h) (List.all_eq_true.mp (by decide +kernel : (u_ws RX12 TX12 37).all goodWord = true) w h)
theorem cty_ok : ∀ ci, ci < 13 → ∀ k, k < cN ci → parseFieldDescriptor (cT ci k).2.2.1 = some (cty ci k) := by
  intro ci h
  rcases (show ci = 0 ∨ ci = 1 ∨ ci = 2 ∨ ci = 3 ∨ ci = 4 ∨ ci = 5 ∨ ci = 6 ∨ ci = 7 ∨ ci = 8 ∨ ci = 9 ∨ ci = 10 ∨ ci = 11 ∨ ci = 12 by omega) with rfl | rfl | rfl | rfl | rfl | rfl | rfl | rfl | rfl | rfl | rfl | rfl | rfl
  · decide +kernel
  · decide +kernel
  · decide +kernel
  · decide +kernel
  · decide +kernel
  · decide +kernel
  · decide +kernel
  · decide +kernel
  · decide +kernel
  · decide +kernel
  · decide +kernel
  · decide +kernel
  · decide +kernel
theorem cnm_ok : ∀ ci, ci < 13 → ∀ a, a < cN ci → ∀ b, b < cN ci → a ≠ b → (cT ci a).2.1 ≠ (cT ci b).2.1 := by
  intro ci h
  rcases (show ci = 0 ∨ ci = 1 ∨ ci = 2 ∨ ci = 3 ∨ ci = 4 ∨ ci = 5 ∨ ci = 6 ∨ ci = 7 ∨ ci = 8 ∨ ci = 9 ∨ ci = 10 ∨ ci = 11 ∨ ci = 12 by omega) with rfl | rfl | rfl | rfl | rfl | rfl | rfl | rfl | rfl | rfl | rfl | rfl | rfl
  · exact nmX0
  · exact nmX1
  · exact nmX2
  · exact nmX3
  · exact nmX4
  · exact nmX5
  · exact nmX6
  · exact nmX7
  · exact nmX8
  · exact nmX9
  · exact nmX10
  · exact nmX11
  · exact nmX12
def FLK : List (Nat × Nat × Nat × Nat) := [(9, 13, 9, 0), (3, 9, 3, 0), (10, 36, 3, 0), (6, 51, 3, 0), (11, 222, 3, 0), (3, 15, 3, 1), (6, 41, 3, 1), (10, 45, 3, 1), (11, 225, 3, 1), (3, 23, 3, 2), (0, 12, 0, 0), (0, 18, 0, 1), (0, 21, 0, 2), (4, 14, 4, 0), (8, 53, 4, 0), (11, 108, 4, 0), (4, 23, 4, 1), (6, 73, 4, 1), (11, 118, 4, 1), (4, 27, 4, 2), (11, 127, 4, 2), (10, 107, 4, 2), (4, 30, 4, 3), (11, 130, 4, 3), (10, 129, 4, 3), (1, 9, 1, 0), (10, 51, 1, 0), (8, 65, 1, 0), (11, 140, 1, 0), (1, 20, 1, 1), (10, 54, 1, 1), (1, 24, 1, 2), (10, 83, 1, 2), (1, 27, 1, 3), (10, 71, 1, 3), (8, 83, 1, 3), (1, 30, 1, 4), (8, 71, 1, 4), (10, 126, 1, 4), (1, 33, 1, 5), (8, 86, 1, 5), (1, 36, 1, 6), (10, 64, 1, 6), (8, 108, 1, 6), (1, 39, 1, 7), (10, 101, 1, 7), (1, 42, 1, 8), (6, 26, 6, 0), (6, 30, 6, 1), (6, 34, 6, 2), (6, 14, 6, 3), (6, 20, 6, 4), (6, 23, 6, 5), (7, 9, 7, 0), (11, 156, 7, 0), (7, 20, 7, 1), (8, 92, 7, 1), (11, 162, 7, 1), (7, 27, 7, 2), (8, 9, 8, 0), (11, 172, 8, 0), (8, 27, 8, 1), (8, 31, 8, 2), (8, 35, 8, 3), (8, 39, 8, 4), (8, 20, 8, 5), (8, 24, 8, 6), (10, 9, 10, 0), (2, 66, 10, 0), (11, 191, 10, 0), (10, 20, 10, 1), (2, 69, 10, 1), (11, 205, 10, 1), (10, 24, 10, 2), (10, 28, 10, 3), (10, 32, 10, 4), (5, 9, 5, 0), (2, 48, 5, 0), (11, 208, 5, 0), (5, 20, 5, 1), (5, 24, 5, 2), (2, 10, 2, 0), (11, 216, 2, 0), (2, 40, 2, 1), (2, 44, 2, 2), (2, 16, 2, 3), (2, 24, 2, 4), (2, 28, 2, 5), (2, 31, 2, 6), (2, 34, 2, 7), (2, 37, 2, 8), (11, 12, 11, 0), (11, 19, 11, 1), (11, 26, 11, 2), (11, 35, 11, 3), (11, 42, 11, 4), (11, 51, 11, 5), (11, 58, 11, 6), (11, 65, 11, 7), (11, 74, 11, 8), (12, 7, 12, 0), (12, 13, 12, 1), (12, 16, 12, 2), (12, 20, 12, 3), (12, 23, 12, 4), (12, 26, 12, 5), (12, 30, 12, 6), (12, 96, 12, 7), (12, 100, 12, 8), (12, 103, 12, 9), (12, 106, 12, 10), (12, 33, 12, 11), (12, 36, 12, 12), (12, 39, 12, 13), (12, 42, 12, 14), (12, 45, 12, 15), (12, 48, 12, 16), (12, 109, 12, 17), (12, 133, 12, 18), (12, 51, 12, 19), (12, 54, 12, 20), (12, 162, 12, 21), (12, 57, 12, 22), (12, 60, 12, 23), (12, 63, 12, 24), (12, 66, 12, 25), (12, 69, 12, 26), (12, 72, 12, 27), (12, 75, 12, 28), (12, 78, 12, 29), (12, 81, 12, 30), (12, 165, 12, 31), (12, 84, 12, 32), (12, 168, 12, 33), (12, 87, 12, 34), (12, 90, 12, 35), (12, 93, 12, 36)]
def FLW : List Nat := [71, 76, 77, 78, 79, 80, 81, 82, 83, 84, 106, 107, 108, 122, 123, 124, 125, 126, 127, 128, 129, 130, 131, 132, 133, 151, 152, 153, 154, 155, 156, 157, 158, 159, 160, 161, 162, 163, 164, 165, 166, 167, 168, 169, 170, 171, 172, 200, 201, 202, 203, 204, 205, 229, 230, 231, 232, 233, 234, 250, 251, 252, 253, 254, 255, 256, 257, 281, 282, 283, 284, 285, 286, 287, 288, 289, 309, 310, 311, 312, 313, 330, 331, 332, 333, 334, 335, 336, 337, 338, 339, 359, 360, 361, 362, 363, 364, 365, 366, 367, 795, 796, 797, 798, 799, 800, 801, 802, 803, 804, 805, 806, 807, 808, 809, 810, 811, 812, 813, 814, 815, 816, 817, 818, 819, 820, 821, 822, 823, 824, 825, 826, 827, 828, 829, 830, 831]
def flOk (q : Nat × Nat × Nat × Nat) (w : Nat) : Bool := decide (lw_tbl[w]? = some (Cond.fieldLink (cn q.1) q.2.1 (cn q.2.2.1) (cT q.2.2.1 q.2.2.2).2.1 (cT q.2.2.1 q.2.2.2).2.2.1)) && decide (q.2.2.1 < 13) && decide (q.2.2.2 < cN q.2.2.1) && decide ((cT q.2.2.1 q.2.2.2).1 = cn q.2.2.1)
theorem FLK_all : (FLK.zip FLW).all (fun x => flOk x.1 x.2) = true := by decide +kernel
theorem FLK_len : FLK.length = FLW.length := by decide +kernel
theorem FLK_ok {q : Nat × Nat × Nat × Nat} (h : q ∈ FLK) : Cond.fieldLink (cn q.1) q.2.1 (cn q.2.2.1) (cT q.2.2.1 q.2.2.2).2.1 (cT q.2.2.1 q.2.2.2).2.2.1 ∈ TB ∧ q.2.2.1 < 13 ∧ q.2.2.2 < cN q.2.2.1 ∧ (cT q.2.2.1 q.2.2.2).1 = cn q.2.2.1 := by
  obtain ⟨i, hi⟩ := List.getElem?_of_mem h
  have hl : i < FLW.length := by rw [← FLK_len]; exact (List.getElem?_eq_some_iff.mp hi).1
  have hz : (FLK.zip FLW)[i]? = some (q, FLW[i]) := by
    rw [List.getElem?_zip_eq_some]; exact ⟨hi, List.getElem?_eq_getElem hl⟩
  have h1 := List.all_eq_true.mp FLK_all _ (List.mem_of_getElem? hz)
  simp only [flOk, Bool.and_eq_true, decide_eq_true_eq] at h1
  exact ⟨TB_at _ h1.1.1.1 rfl, h1.1.1.2, h1.1.2, h1.2⟩
def CKI : List (Nat × Nat × Int32) := [(2, 9, 1000000), (6, 86, 1000000), (7, 39, 1000000)]
def CKL : List (Nat × Nat × Int64) := [(11, 235, 149), (11, 237, 31), (12, 178, 149), (12, 180, 31)]
theorem CKI_ok : ∀ q ∈ CKI, Cond.constant (cn q.1) q.2.1 q.2.2 ∈ TB := fun q h => TB_in ((by decide +kernel : ∀ q ∈ CKI, Cond.constant (cn q.1) q.2.1 q.2.2 ∈ lw_tbl) q h) rfl
theorem CKL_ok : ∀ q ∈ CKL, Cond.constantLong (cn q.1) q.2.1 q.2.2 ∈ TB := fun q h => TB_in ((by decide +kernel : ∀ q ∈ CKL, Cond.constantLong (cn q.1) q.2.1 q.2.2 ∈ lw_tbl) q h) rfl
