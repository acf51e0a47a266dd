section
-- ===== PART A: goes FIRST, ahead of the names: the tables' words, and 'selects' of the private methods out of them =====
/-- a private method of a class that the tables say can be made, by its rows of tables_1 -/
def lw_okq (q : MethodName × Nat) : Prop := (q.1.cls ≠ "java/lang/invoke/MethodHandle" ∧ q.1.cls ≠ "java/lang/invoke/VarHandle") ∧ Cond.instantiable q.1.cls q.2 ∈ tables_1 ∧ Cond.privateMethod q.1 ∈ tables_1 ∧ Cond.instanceMethod q.1 ∈ tables_1
theorem lw_p0 : lw_okq (⟨"MosaicShop", "takeDown", "()V"⟩, 9) := ⟨⟨by decide +kernel, by decide +kernel⟩, List.mem_of_getElem? (i := 16) (by decide +kernel), List.mem_of_getElem? (i := 367) (by decide +kernel), List.mem_of_getElem? (i := 368) (by decide +kernel)⟩
theorem lw_p1 : lw_okq (⟨"MosaicShop$Layer", "layStrip", "(III)Z"⟩, 6) := ⟨⟨by decide +kernel, by decide +kernel⟩, List.mem_of_getElem? (i := 160) (by decide +kernel), List.mem_of_getElem? (i := 446) (by decide +kernel), List.mem_of_getElem? (i := 447) (by decide +kernel)⟩
theorem lw_p2 : lw_okq (⟨"MosaicShop$Layer", "countFewest", "(III)V"⟩, 6) := ⟨⟨by decide +kernel, by decide +kernel⟩, List.mem_of_getElem? (i := 160) (by decide +kernel), List.mem_of_getElem? (i := 452) (by decide +kernel), List.mem_of_getElem? (i := 453) (by decide +kernel)⟩
theorem lw_p3 : lw_okq (⟨"MosaicShop$Layer", "mayEnd", "(II)Z"⟩, 6) := ⟨⟨by decide +kernel, by decide +kernel⟩, List.mem_of_getElem? (i := 160) (by decide +kernel), List.mem_of_getElem? (i := 458) (by decide +kernel), List.mem_of_getElem? (i := 459) (by decide +kernel)⟩
theorem lw_p4 : lw_okq (⟨"MosaicShop$Layer", "widestOfFewest", "(III)I"⟩, 6) := ⟨⟨by decide +kernel, by decide +kernel⟩, List.mem_of_getElem? (i := 160) (by decide +kernel), List.mem_of_getElem? (i := 465) (by decide +kernel), List.mem_of_getElem? (i := 466) (by decide +kernel)⟩
theorem lw_p5 : lw_okq (⟨"MosaicShop", "isLaid", "()Z"⟩, 9) := ⟨⟨by decide +kernel, by decide +kernel⟩, List.mem_of_getElem? (i := 16) (by decide +kernel), List.mem_of_getElem? (i := 481) (by decide +kernel), List.mem_of_getElem? (i := 482) (by decide +kernel)⟩
theorem lw_p6 : lw_okq (⟨"MosaicShop$Painter", "paintField", "(II)V"⟩, 7) := ⟨⟨by decide +kernel, by decide +kernel⟩, List.mem_of_getElem? (i := 210) (by decide +kernel), List.mem_of_getElem? (i := 542) (by decide +kernel), List.mem_of_getElem? (i := 543) (by decide +kernel)⟩
theorem lw_p7 : lw_okq (⟨"MosaicShop$Painter", "nearestFor", "(I)I"⟩, 7) := ⟨⟨by decide +kernel, by decide +kernel⟩, List.mem_of_getElem? (i := 210) (by decide +kernel), List.mem_of_getElem? (i := 558) (by decide +kernel), List.mem_of_getElem? (i := 559) (by decide +kernel)⟩
theorem lw_p8 : lw_okq (⟨"MosaicShop$Painter", "give", "(II)V"⟩, 7) := ⟨⟨by decide +kernel, by decide +kernel⟩, List.mem_of_getElem? (i := 210) (by decide +kernel), List.mem_of_getElem? (i := 562) (by decide +kernel), List.mem_of_getElem? (i := 563) (by decide +kernel)⟩
theorem lw_p9 : lw_okq (⟨"MosaicShop$Sheets", "cutsLeftOf", "(II)I"⟩, 5) := ⟨⟨by decide +kernel, by decide +kernel⟩, List.mem_of_getElem? (i := 241) (by decide +kernel), List.mem_of_getElem? (i := 602) (by decide +kernel), List.mem_of_getElem? (i := 603) (by decide +kernel)⟩
theorem lw_p10 : lw_okq (⟨"MosaicShop$Sheets", "cutNear", "(II)I"⟩, 5) := ⟨⟨by decide +kernel, by decide +kernel⟩, List.mem_of_getElem? (i := 241) (by decide +kernel), List.mem_of_getElem? (i := 606) (by decide +kernel), List.mem_of_getElem? (i := 607) (by decide +kernel)⟩
theorem lw_p11 : lw_okq (⟨"MosaicShop$Sheets", "isBorder", "(II)Z"⟩, 5) := ⟨⟨by decide +kernel, by decide +kernel⟩, List.mem_of_getElem? (i := 241) (by decide +kernel), List.mem_of_getElem? (i := 610) (by decide +kernel), List.mem_of_getElem? (i := 611) (by decide +kernel)⟩
theorem lw_p12 : lw_okq (⟨"MosaicShop$Sheets", "turnOver", "()V"⟩, 5) := ⟨⟨by decide +kernel, by decide +kernel⟩, List.mem_of_getElem? (i := 241) (by decide +kernel), List.mem_of_getElem? (i := 619) (by decide +kernel), List.mem_of_getElem? (i := 620) (by decide +kernel)⟩
theorem lw_p13 : lw_okq (⟨"MosaicShop", "maySheet", "(I)Z"⟩, 9) := ⟨⟨by decide +kernel, by decide +kernel⟩, List.mem_of_getElem? (i := 16) (by decide +kernel), List.mem_of_getElem? (i := 627) (by decide +kernel), List.mem_of_getElem? (i := 628) (by decide +kernel)⟩
theorem lw_p14 : lw_okq (⟨"MosaicShop", "isCut", "()Z"⟩, 9) := ⟨⟨by decide +kernel, by decide +kernel⟩, List.mem_of_getElem? (i := 16) (by decide +kernel), List.mem_of_getElem? (i := 631) (by decide +kernel), List.mem_of_getElem? (i := 632) (by decide +kernel)⟩
theorem lw_p15 : lw_okq (⟨"MosaicShop$Sheets", "cubesOn", "(I)I"⟩, 5) := ⟨⟨by decide +kernel, by decide +kernel⟩, List.mem_of_getElem? (i := 241) (by decide +kernel), List.mem_of_getElem? (i := 639) (by decide +kernel), List.mem_of_getElem? (i := 640) (by decide +kernel)⟩
def lw_privs_1 : List (MethodName × Nat) := [(⟨"MosaicShop", "takeDown", "()V"⟩, 9), (⟨"MosaicShop$Layer", "layStrip", "(III)Z"⟩, 6), (⟨"MosaicShop$Layer", "countFewest", "(III)V"⟩, 6), (⟨"MosaicShop$Layer", "mayEnd", "(II)Z"⟩, 6), (⟨"MosaicShop$Layer", "widestOfFewest", "(III)I"⟩, 6), (⟨"MosaicShop", "isLaid", "()Z"⟩, 9), (⟨"MosaicShop$Painter", "paintField", "(II)V"⟩, 7), (⟨"MosaicShop$Painter", "nearestFor", "(I)I"⟩, 7), (⟨"MosaicShop$Painter", "give", "(II)V"⟩, 7), (⟨"MosaicShop$Sheets", "cutsLeftOf", "(II)I"⟩, 5), (⟨"MosaicShop$Sheets", "cutNear", "(II)I"⟩, 5), (⟨"MosaicShop$Sheets", "isBorder", "(II)Z"⟩, 5), (⟨"MosaicShop$Sheets", "turnOver", "()V"⟩, 5), (⟨"MosaicShop", "maySheet", "(I)Z"⟩, 9), (⟨"MosaicShop", "isCut", "()Z"⟩, 9), (⟨"MosaicShop$Sheets", "cubesOn", "(I)I"⟩, 5)]
theorem lw_r1 : ∀ q ∈ lw_privs_1, lw_okq q := List.forall_mem_cons.mpr ⟨lw_p0, List.forall_mem_cons.mpr ⟨lw_p1, List.forall_mem_cons.mpr ⟨lw_p2, List.forall_mem_cons.mpr ⟨lw_p3, List.forall_mem_cons.mpr ⟨lw_p4, List.forall_mem_cons.mpr ⟨lw_p5, List.forall_mem_cons.mpr ⟨lw_p6, List.forall_mem_cons.mpr ⟨lw_p7, List.forall_mem_cons.mpr ⟨lw_p8, List.forall_mem_cons.mpr ⟨lw_p9, List.forall_mem_cons.mpr ⟨lw_p10, List.forall_mem_cons.mpr ⟨lw_p11, List.forall_mem_cons.mpr ⟨lw_p12, List.forall_mem_cons.mpr ⟨lw_p13, List.forall_mem_cons.mpr ⟨lw_p14, List.forall_mem_cons.mpr ⟨lw_p15, fun _ h => absurd h List.not_mem_nil⟩⟩⟩⟩⟩⟩⟩⟩⟩⟩⟩⟩⟩⟩⟩⟩
theorem lw_p16 : lw_okq (⟨"MosaicShop$Sheets", "placesMarked", "(ILMosaicShop$Row;)I"⟩, 5) := ⟨⟨by decide +kernel, by decide +kernel⟩, List.mem_of_getElem? (i := 241) (by decide +kernel), List.mem_of_getElem? (i := 643) (by decide +kernel), List.mem_of_getElem? (i := 644) (by decide +kernel)⟩
theorem lw_p17 : lw_okq (⟨"MosaicShop$Sheets", "leftEdge", "(I)I"⟩, 5) := ⟨⟨by decide +kernel, by decide +kernel⟩, List.mem_of_getElem? (i := 241) (by decide +kernel), List.mem_of_getElem? (i := 651) (by decide +kernel), List.mem_of_getElem? (i := 652) (by decide +kernel)⟩
theorem lw_p18 : lw_okq (⟨"MosaicShop$Sheets", "rightEdge", "(I)I"⟩, 5) := ⟨⟨by decide +kernel, by decide +kernel⟩, List.mem_of_getElem? (i := 241) (by decide +kernel), List.mem_of_getElem? (i := 655) (by decide +kernel), List.mem_of_getElem? (i := 656) (by decide +kernel)⟩
theorem lw_p19 : lw_okq (⟨"MosaicShop$Dealer", "gather", "()Z"⟩, 9) := ⟨⟨by decide +kernel, by decide +kernel⟩, List.mem_of_getElem? (i := 289) (by decide +kernel), List.mem_of_getElem? (i := 701) (by decide +kernel), List.mem_of_getElem? (i := 702) (by decide +kernel)⟩
theorem lw_p20 : lw_okq (⟨"MosaicShopModel", "goes", "()V"⟩, 37) := ⟨⟨by decide +kernel, by decide +kernel⟩, List.mem_of_getElem? (i := 757) (by decide +kernel), List.mem_of_getElem? (i := 883) (by decide +kernel), List.mem_of_getElem? (i := 884) (by decide +kernel)⟩
theorem lw_p21 : lw_okq (⟨"MosaicShopModel", "isPlace", "(II)Z"⟩, 37) := ⟨⟨by decide +kernel, by decide +kernel⟩, List.mem_of_getElem? (i := 757) (by decide +kernel), List.mem_of_getElem? (i := 895) (by decide +kernel), List.mem_of_getElem? (i := 896) (by decide +kernel)⟩
theorem lw_p22 : lw_okq (⟨"MosaicShopModel", "strip", "(III)Z"⟩, 37) := ⟨⟨by decide +kernel, by decide +kernel⟩, List.mem_of_getElem? (i := 757) (by decide +kernel), List.mem_of_getElem? (i := 914) (by decide +kernel), List.mem_of_getElem? (i := 915) (by decide +kernel)⟩
theorem lw_p23 : lw_okq (⟨"MosaicShopModel", "faceDown", "(I)I"⟩, 37) := ⟨⟨by decide +kernel, by decide +kernel⟩, List.mem_of_getElem? (i := 757) (by decide +kernel), List.mem_of_getElem? (i := 926) (by decide +kernel), List.mem_of_getElem? (i := 927) (by decide +kernel)⟩
theorem lw_p24 : lw_okq (⟨"MosaicShopModel", "nearest", "(II[I)I"⟩, 37) := ⟨⟨by decide +kernel, by decide +kernel⟩, List.mem_of_getElem? (i := 757) (by decide +kernel), List.mem_of_getElem? (i := 946) (by decide +kernel), List.mem_of_getElem? (i := 947) (by decide +kernel)⟩
theorem lw_p25 : lw_okq (⟨"MosaicShopModel", "bare", "()I"⟩, 37) := ⟨⟨by decide +kernel, by decide +kernel⟩, List.mem_of_getElem? (i := 757) (by decide +kernel), List.mem_of_getElem? (i := 950) (by decide +kernel), List.mem_of_getElem? (i := 951) (by decide +kernel)⟩
theorem lw_p26 : lw_okq (⟨"MosaicShopModel", "nearestBorder", "(II)I"⟩, 37) := ⟨⟨by decide +kernel, by decide +kernel⟩, List.mem_of_getElem? (i := 757) (by decide +kernel), List.mem_of_getElem? (i := 966) (by decide +kernel), List.mem_of_getElem? (i := 967) (by decide +kernel)⟩
theorem lw_p27 : lw_okq (⟨"MosaicShopModel", "noSheet", "(I)I"⟩, 37) := ⟨⟨by decide +kernel, by decide +kernel⟩, List.mem_of_getElem? (i := 757) (by decide +kernel), List.mem_of_getElem? (i := 974) (by decide +kernel), List.mem_of_getElem? (i := 975) (by decide +kernel)⟩
theorem lw_p28 : lw_okq (⟨"MosaicShopModel", "sumOf", "(IZ)I"⟩, 37) := ⟨⟨by decide +kernel, by decide +kernel⟩, List.mem_of_getElem? (i := 757) (by decide +kernel), List.mem_of_getElem? (i := 978) (by decide +kernel), List.mem_of_getElem? (i := 979) (by decide +kernel)⟩
theorem lw_p29 : lw_okq (⟨"MosaicShopModel", "hasFace", "(I)Z"⟩, 37) := ⟨⟨by decide +kernel, by decide +kernel⟩, List.mem_of_getElem? (i := 757) (by decide +kernel), List.mem_of_getElem? (i := 982) (by decide +kernel), List.mem_of_getElem? (i := 983) (by decide +kernel)⟩
theorem lw_p30 : lw_okq (⟨"MosaicShopModel", "cratesTo", "(II)I"⟩, 37) := ⟨⟨by decide +kernel, by decide +kernel⟩, List.mem_of_getElem? (i := 757) (by decide +kernel), List.mem_of_getElem? (i := 994) (by decide +kernel), List.mem_of_getElem? (i := 995) (by decide +kernel)⟩
theorem lw_p31 : lw_okq (⟨"MosaicShopModel", "deal", "()Z"⟩, 37) := ⟨⟨by decide +kernel, by decide +kernel⟩, List.mem_of_getElem? (i := 757) (by decide +kernel), List.mem_of_getElem? (i := 1010) (by decide +kernel), List.mem_of_getElem? (i := 1011) (by decide +kernel)⟩
def lw_privs_2 : List (MethodName × Nat) := [(⟨"MosaicShop$Sheets", "placesMarked", "(ILMosaicShop$Row;)I"⟩, 5), (⟨"MosaicShop$Sheets", "leftEdge", "(I)I"⟩, 5), (⟨"MosaicShop$Sheets", "rightEdge", "(I)I"⟩, 5), (⟨"MosaicShop$Dealer", "gather", "()Z"⟩, 9), (⟨"MosaicShopModel", "goes", "()V"⟩, 37), (⟨"MosaicShopModel", "isPlace", "(II)Z"⟩, 37), (⟨"MosaicShopModel", "strip", "(III)Z"⟩, 37), (⟨"MosaicShopModel", "faceDown", "(I)I"⟩, 37), (⟨"MosaicShopModel", "nearest", "(II[I)I"⟩, 37), (⟨"MosaicShopModel", "bare", "()I"⟩, 37), (⟨"MosaicShopModel", "nearestBorder", "(II)I"⟩, 37), (⟨"MosaicShopModel", "noSheet", "(I)I"⟩, 37), (⟨"MosaicShopModel", "sumOf", "(IZ)I"⟩, 37), (⟨"MosaicShopModel", "hasFace", "(I)Z"⟩, 37), (⟨"MosaicShopModel", "cratesTo", "(II)I"⟩, 37), (⟨"MosaicShopModel", "deal", "()Z"⟩, 37)]
theorem lw_r2 : ∀ q ∈ lw_privs_2, lw_okq q := List.forall_mem_cons.mpr ⟨lw_p16, List.forall_mem_cons.mpr ⟨lw_p17, List.forall_mem_cons.mpr ⟨lw_p18, List.forall_mem_cons.mpr ⟨lw_p19, List.forall_mem_cons.mpr ⟨lw_p20, List.forall_mem_cons.mpr ⟨lw_p21, List.forall_mem_cons.mpr ⟨lw_p22, List.forall_mem_cons.mpr ⟨lw_p23, List.forall_mem_cons.mpr ⟨lw_p24, List.forall_mem_cons.mpr ⟨lw_p25, List.forall_mem_cons.mpr ⟨lw_p26, List.forall_mem_cons.mpr ⟨lw_p27, List.forall_mem_cons.mpr ⟨lw_p28, List.forall_mem_cons.mpr ⟨lw_p29, List.forall_mem_cons.mpr ⟨lw_p30, List.forall_mem_cons.mpr ⟨lw_p31, fun _ h => absurd h List.not_mem_nil⟩⟩⟩⟩⟩⟩⟩⟩⟩⟩⟩⟩⟩⟩⟩⟩
theorem lw_p32 : lw_okq (⟨"MosaicShopModel", "greatestOf", "(II)I"⟩, 37) := ⟨⟨by decide +kernel, by decide +kernel⟩, List.mem_of_getElem? (i := 757) (by decide +kernel), List.mem_of_getElem? (i := 1014) (by decide +kernel), List.mem_of_getElem? (i := 1015) (by decide +kernel)⟩
def lw_privs_3 : List (MethodName × Nat) := [(⟨"MosaicShopModel", "greatestOf", "(II)I"⟩, 37)]
theorem lw_r3 : ∀ q ∈ lw_privs_3, lw_okq q := List.forall_mem_cons.mpr ⟨lw_p32, fun _ h => absurd h List.not_mem_nil⟩
def lw_privs : List (MethodName × Nat) := lw_privs_1 ++ (lw_privs_2 ++ (lw_privs_3))
def lw_tbl : List Cond := k2_sels lw_privs ++ tables_1
theorem lw_privs_ok : ∀ q ∈ lw_privs, lw_okq q := by
  show ∀ q ∈ lw_privs_1 ++ (lw_privs_2 ++ (lw_privs_3)), lw_okq q
  exact List.forall_mem_append.mpr ⟨lw_r1, List.forall_mem_append.mpr ⟨lw_r2, lw_r3⟩⟩
-- ===== end of PART A; then your names; then what follows =====
def RX0 : String := "MosaicShop$Colours"
def TX0 : u_T := fun k => match k with
  | 0 => ("MosaicShop$Colours", "reds", "LMosaicShop$Row;", true)
  | 1 => ("MosaicShop$Colours", "greens", "LMosaicShop$Row;", true)
  | _ => ("MosaicShop$Colours", "blues", "LMosaicShop$Row;", true)
def tyX0 : Nat → FieldType := fun k => match k with
  | 0 => .object "MosaicShop$Row"
  | 1 => .object "MosaicShop$Row"
  | _ => .object "MosaicShop$Row"
abbrev wsX00 : List Cond := u_ws RX0 TX0 3
theorem nmX0 : ∀ a, a < 3 → ∀ b, b < 3 → a ≠ b → (TX0 a).2.1 ≠ (TX0 b).2.1 := by decide +kernel
theorem tyX0_ok : ∀ k, k < 3 → parseFieldDescriptor (TX0 k).2.2.1 = some (tyX0 k) := by decide +kernel
abbrev cX0_init : ByteArray := prog_2_method_1_code
def yX0_init : MethodName := ⟨RX0, "<init>", "(I)V"⟩
abbrev cX0_put : ByteArray := prog_2_method_2_code
def yX0_put : MethodName := ⟨RX0, "put", "(IIII)V"⟩
abbrev cX0_apart : ByteArray := prog_2_method_3_code
def yX0_apart : MethodName := ⟨RX0, "apart", "(ILMosaicShop$Colours;I)I"⟩
def RX1 : String := "MosaicShop$Cubes"
def TX1 : u_T := fun k => match k with
  | 0 => ("MosaicShop$Cubes", "many", "I", false)
  | 1 => ("MosaicShop$Cubes", "rows", "LMosaicShop$Row;", true)
  | 2 => ("MosaicShop$Cubes", "lefts", "LMosaicShop$Row;", true)
  | 3 => ("MosaicShop$Cubes", "widths", "LMosaicShop$Row;", true)
  | 4 => ("MosaicShop$Cubes", "fieldNumbers", "LMosaicShop$Row;", true)
  | 5 => ("MosaicShop$Cubes", "lotNumbers", "LMosaicShop$Row;", true)
  | 6 => ("MosaicShop$Cubes", "sheetNumbers", "LMosaicShop$Row;", true)
  | 7 => ("MosaicShop$Cubes", "turnedOver", "LMosaicShop$Row;", true)
  | _ => ("MosaicShop$Cubes", "overPlaces", "LMosaicShop$Row;", true)
def tyX1 : Nat → FieldType := fun k => match k with
  | 0 => .int
  | 1 => .object "MosaicShop$Row"
  | 2 => .object "MosaicShop$Row"
  | 3 => .object "MosaicShop$Row"
  | 4 => .object "MosaicShop$Row"
  | 5 => .object "MosaicShop$Row"
  | 6 => .object "MosaicShop$Row"
  | 7 => .object "MosaicShop$Row"
  | _ => .object "MosaicShop$Row"
abbrev wsX10 : List Cond := u_ws RX1 TX1 9
theorem nmX1 : ∀ a, a < 9 → ∀ b, b < 9 → a ≠ b → (TX1 a).2.1 ≠ (TX1 b).2.1 := by decide +kernel
theorem tyX1_ok : ∀ k, k < 9 → parseFieldDescriptor (TX1 k).2.2.1 = some (tyX1 k) := by decide +kernel
abbrev cX1_init : ByteArray := prog_3_method_1_code
def yX1_init : MethodName := ⟨RX1, "<init>", "()V"⟩
abbrev cX1_clear : ByteArray := prog_3_method_2_code
def yX1_clear : MethodName := ⟨RX1, "clear", "()V"⟩
abbrev cX1_has : ByteArray := prog_3_method_3_code
def yX1_has : MethodName := ⟨RX1, "has", "(I)Z"⟩
abbrev cX1_put : ByteArray := prog_3_method_4_code
def yX1_put : MethodName := ⟨RX1, "put", "(IIII)V"⟩
abbrev cX1_over : ByteArray := prog_3_method_5_code
def yX1_over : MethodName := ⟨RX1, "over", "(II)I"⟩
abbrev cX1_rightOf : ByteArray := prog_3_method_6_code
def yX1_rightOf : MethodName := ⟨RX1, "rightOf", "(I)I"⟩
abbrev cX1_tell : ByteArray := prog_3_method_7_code
def yX1_tell : MethodName := ⟨RX1, "tell", "(II)I"⟩
def RX2 : String := "MosaicShop$Dealer"
def TX2 : u_T := fun k => match k with
  | 0 => ("MosaicShop$Dealer", "least", "I", false)
  | 1 => ("MosaicShop$Dealer", "sheets", "LMosaicShop$Sheets;", true)
  | 2 => ("MosaicShop$Dealer", "hands", "LMosaicShop$Hands;", true)
  | 3 => ("MosaicShop$Dealer", "many", "I", false)
  | 4 => ("MosaicShop$Dealer", "sheetNumbers", "LMosaicShop$Row;", true)
  | 5 => ("MosaicShop$Dealer", "headed", "LMosaicShop$Row;", true)
  | 6 => ("MosaicShop$Dealer", "trial", "LMosaicShop$Row;", true)
  | 7 => ("MosaicShop$Dealer", "best", "LMosaicShop$Row;", true)
  | _ => ("MosaicShop$Dealer", "sums", "LMosaicShop$Row;", true)
def tyX2 : Nat → FieldType := fun k => match k with
  | 0 => .int
  | 1 => .object "MosaicShop$Sheets"
  | 2 => .object "MosaicShop$Hands"
  | 3 => .int
  | 4 => .object "MosaicShop$Row"
  | 5 => .object "MosaicShop$Row"
  | 6 => .object "MosaicShop$Row"
  | 7 => .object "MosaicShop$Row"
  | _ => .object "MosaicShop$Row"
abbrev wsX20 : List Cond := u_ws RX2 TX2 9
theorem nmX2 : ∀ a, a < 9 → ∀ b, b < 9 → a ≠ b → (TX2 a).2.1 ≠ (TX2 b).2.1 := by decide +kernel
theorem tyX2_ok : ∀ k, k < 9 → parseFieldDescriptor (TX2 k).2.2.1 = some (tyX2 k) := by decide +kernel
abbrev cX2_init : ByteArray := prog_4_method_1_code
def yX2_init : MethodName := ⟨RX2, "<init>", "(LMosaicShop$Sheets;LMosaicShop$Hands;)V"⟩
abbrev cX2_dealSheets : ByteArray := prog_4_method_2_code
def yX2_dealSheets : MethodName := ⟨RX2, "dealSheets", "()Z"⟩
abbrev cX2_handOf : ByteArray := prog_4_method_3_code
def yX2_handOf : MethodName := ⟨RX2, "handOf", "(I)I"⟩
abbrev cX2_gather : ByteArray := prog_4_method_4_code
def yX2_gather : MethodName := ⟨RX2, "gather", "()Z"⟩
abbrev cX2_dealFrom : ByteArray := prog_4_method_5_code
def yX2_dealFrom : MethodName := ⟨RX2, "dealFrom", "(LMosaicShop$Dealer;II)V"⟩
def RX3 : String := "MosaicShop$Drawing"
def TX3 : u_T := fun k => match k with
  | 0 => ("MosaicShop$Drawing", "wide", "I", false)
  | 1 => ("MosaicShop$Drawing", "high", "I", false)
  | _ => ("MosaicShop$Drawing", "places", "LMosaicShop$Row;", true)
def tyX3 : Nat → FieldType := fun k => match k with
  | 0 => .int
  | 1 => .int
  | _ => .object "MosaicShop$Row"
abbrev wsX30 : List Cond := u_ws RX3 TX3 3
theorem nmX3 : ∀ a, a < 3 → ∀ b, b < 3 → a ≠ b → (TX3 a).2.1 ≠ (TX3 b).2.1 := by decide +kernel
theorem tyX3_ok : ∀ k, k < 3 → parseFieldDescriptor (TX3 k).2.2.1 = some (tyX3 k) := by decide +kernel
abbrev cX3_init : ByteArray := prog_5_method_1_code
def yX3_init : MethodName := ⟨RX3, "<init>", "()V"⟩
abbrev cX3_place : ByteArray := prog_5_method_2_code
def yX3_place : MethodName := ⟨RX3, "place", "(II)I"⟩
abbrev cX3_has : ByteArray := prog_5_method_3_code
def yX3_has : MethodName := ⟨RX3, "has", "(II)Z"⟩
abbrev cX3_fieldAt : ByteArray := prog_5_method_4_code
def yX3_fieldAt : MethodName := ⟨RX3, "fieldAt", "(II)I"⟩
abbrev cX3_begin : ByteArray := prog_5_method_5_code
def yX3_begin : MethodName := ⟨RX3, "begin", "(II)V"⟩
abbrev cX3_fill : ByteArray := prog_5_method_6_code
def yX3_fill : MethodName := ⟨RX3, "fill", "(IIIII)I"⟩
abbrev cX3_stripEnd : ByteArray := prog_5_method_7_code
def yX3_stripEnd : MethodName := ⟨RX3, "stripEnd", "(II)I"⟩
abbrev cX3_placesOf : ByteArray := prog_5_method_8_code
def yX3_placesOf : MethodName := ⟨RX3, "placesOf", "(I)I"⟩
abbrev cX3_placesOfAll : ByteArray := prog_5_method_9_code
def yX3_placesOfAll : MethodName := ⟨RX3, "placesOfAll", "(LMosaicShop$Row;)I"⟩
def RX4 : String := "MosaicShop$Fields"
def TX4 : u_T := fun k => match k with
  | 0 => ("MosaicShop$Fields", "colours", "LMosaicShop$Colours;", true)
  | 1 => ("MosaicShop$Fields", "longest", "LMosaicShop$Row;", true)
  | 2 => ("MosaicShop$Fields", "gold", "LMosaicShop$Row;", true)
  | _ => ("MosaicShop$Fields", "heads", "LMosaicShop$Row;", true)
def tyX4 : Nat → FieldType := fun k => match k with
  | 0 => .object "MosaicShop$Colours"
  | 1 => .object "MosaicShop$Row"
  | 2 => .object "MosaicShop$Row"
  | _ => .object "MosaicShop$Row"
abbrev wsX40 : List Cond := u_ws RX4 TX4 4
theorem nmX4 : ∀ a, a < 4 → ∀ b, b < 4 → a ≠ b → (TX4 a).2.1 ≠ (TX4 b).2.1 := by decide +kernel
theorem tyX4_ok : ∀ k, k < 4 → parseFieldDescriptor (TX4 k).2.2.1 = some (tyX4 k) := by decide +kernel
abbrev cX4_init : ByteArray := prog_6_method_1_code
def yX4_init : MethodName := ⟨RX4, "<init>", "()V"⟩
def RX5 : String := "MosaicShop$Hands"
def TX5 : u_T := fun k => match k with
  | 0 => ("MosaicShop$Hands", "many", "I", false)
  | 1 => ("MosaicShop$Hands", "skills", "LMosaicShop$Row;", true)
  | _ => ("MosaicShop$Hands", "masters", "LMosaicShop$Row;", true)
def tyX5 : Nat → FieldType := fun k => match k with
  | 0 => .int
  | 1 => .object "MosaicShop$Row"
  | _ => .object "MosaicShop$Row"
abbrev wsX50 : List Cond := u_ws RX5 TX5 3
theorem nmX5 : ∀ a, a < 3 → ∀ b, b < 3 → a ≠ b → (TX5 a).2.1 ≠ (TX5 b).2.1 := by decide +kernel
theorem tyX5_ok : ∀ k, k < 3 → parseFieldDescriptor (TX5 k).2.2.1 = some (tyX5 k) := by decide +kernel
abbrev cX5_init : ByteArray := prog_7_method_1_code
def yX5_init : MethodName := ⟨RX5, "<init>", "()V"⟩
abbrev cX5_hire : ByteArray := prog_7_method_2_code
def yX5_hire : MethodName := ⟨RX5, "hire", "(IZ)I"⟩
abbrev cX5_isMaster : ByteArray := prog_7_method_3_code
def yX5_isMaster : MethodName := ⟨RX5, "isMaster", "(I)Z"⟩
abbrev cX5_haveMaster : ByteArray := prog_7_method_4_code
def yX5_haveMaster : MethodName := ⟨RX5, "haveMaster", "()Z"⟩
abbrev cX5_daysFor : ByteArray := prog_7_method_5_code
def yX5_daysFor : MethodName := ⟨RX5, "daysFor", "(II)I"⟩
def RX6 : String := "MosaicShop$Layer"
def TX6 : u_T := fun k => match k with
  | 0 => ("MosaicShop$Layer", "drawing", "LMosaicShop$Drawing;", true)
  | 1 => ("MosaicShop$Layer", "fields", "LMosaicShop$Fields;", true)
  | 2 => ("MosaicShop$Layer", "cubes", "LMosaicShop$Cubes;", true)
  | 3 => ("MosaicShop$Layer", "jointsAhead", "LMosaicShop$Row;", true)
  | 4 => ("MosaicShop$Layer", "joints", "LMosaicShop$Row;", true)
  | _ => ("MosaicShop$Layer", "fewest", "LMosaicShop$Row;", true)
def tyX6 : Nat → FieldType := fun k => match k with
  | 0 => .object "MosaicShop$Drawing"
  | 1 => .object "MosaicShop$Fields"
  | 2 => .object "MosaicShop$Cubes"
  | 3 => .object "MosaicShop$Row"
  | 4 => .object "MosaicShop$Row"
  | _ => .object "MosaicShop$Row"
abbrev wsX60 : List Cond := u_ws RX6 TX6 6
theorem nmX6 : ∀ a, a < 6 → ∀ b, b < 6 → a ≠ b → (TX6 a).2.1 ≠ (TX6 b).2.1 := by decide +kernel
theorem tyX6_ok : ∀ k, k < 6 → parseFieldDescriptor (TX6 k).2.2.1 = some (tyX6 k) := by decide +kernel
abbrev cX6_init : ByteArray := prog_8_method_1_code
def yX6_init : MethodName := ⟨RX6, "<init>", "(LMosaicShop$Drawing;LMosaicShop$Fields;LMosaicShop$Cubes;)V"⟩
abbrev cX6_layRows : ByteArray := prog_8_method_2_code
def yX6_layRows : MethodName := ⟨RX6, "layRows", "()I"⟩
abbrev cX6_layStrip : ByteArray := prog_8_method_3_code
def yX6_layStrip : MethodName := ⟨RX6, "layStrip", "(III)Z"⟩
abbrev cX6_countFewest : ByteArray := prog_8_method_4_code
def yX6_countFewest : MethodName := ⟨RX6, "countFewest", "(III)V"⟩
abbrev cX6_widestOfFewest : ByteArray := prog_8_method_5_code
def yX6_widestOfFewest : MethodName := ⟨RX6, "widestOfFewest", "(III)I"⟩
abbrev cX6_mayEnd : ByteArray := prog_8_method_6_code
def yX6_mayEnd : MethodName := ⟨RX6, "mayEnd", "(II)Z"⟩
def RX7 : String := "MosaicShop$Lots"
def TX7 : u_T := fun k => match k with
  | 0 => ("MosaicShop$Lots", "many", "I", false)
  | 1 => ("MosaicShop$Lots", "stock", "LMosaicShop$Row;", true)
  | _ => ("MosaicShop$Lots", "colours", "LMosaicShop$Colours;", true)
def tyX7 : Nat → FieldType := fun k => match k with
  | 0 => .int
  | 1 => .object "MosaicShop$Row"
  | _ => .object "MosaicShop$Colours"
abbrev wsX70 : List Cond := u_ws RX7 TX7 3
theorem nmX7 : ∀ a, a < 3 → ∀ b, b < 3 → a ≠ b → (TX7 a).2.1 ≠ (TX7 b).2.1 := by decide +kernel
theorem tyX7_ok : ∀ k, k < 3 → parseFieldDescriptor (TX7 k).2.2.1 = some (tyX7 k) := by decide +kernel
abbrev cX7_init : ByteArray := prog_9_method_1_code
def yX7_init : MethodName := ⟨RX7, "<init>", "()V"⟩
abbrev cX7_has : ByteArray := prog_9_method_2_code
def yX7_has : MethodName := ⟨RX7, "has", "(I)Z"⟩
abbrev cX7_bring : ByteArray := prog_9_method_3_code
def yX7_bring : MethodName := ⟨RX7, "bring", "(IIII)I"⟩
abbrev cX7_nearest : ByteArray := prog_9_method_4_code
def yX7_nearest : MethodName := ⟨RX7, "nearest", "(LMosaicShop$Colours;II)I"⟩
abbrev cX7_leftInAll : ByteArray := prog_9_method_5_code
def yX7_leftInAll : MethodName := ⟨RX7, "leftInAll", "()I"⟩
def RX8 : String := "MosaicShop$Painter"
def TX8 : u_T := fun k => match k with
  | 0 => ("MosaicShop$Painter", "painted", "Z", false)
  | 1 => ("MosaicShop$Painter", "drawing", "LMosaicShop$Drawing;", true)
  | 2 => ("MosaicShop$Painter", "fields", "LMosaicShop$Fields;", true)
  | 3 => ("MosaicShop$Painter", "cubes", "LMosaicShop$Cubes;", true)
  | 4 => ("MosaicShop$Painter", "lots", "LMosaicShop$Lots;", true)
  | 5 => ("MosaicShop$Painter", "stockBefore", "LMosaicShop$Row;", true)
  | _ => ("MosaicShop$Painter", "lotsBefore", "LMosaicShop$Row;", true)
def tyX8 : Nat → FieldType := fun k => match k with
  | 0 => .boolean
  | 1 => .object "MosaicShop$Drawing"
  | 2 => .object "MosaicShop$Fields"
  | 3 => .object "MosaicShop$Cubes"
  | 4 => .object "MosaicShop$Lots"
  | 5 => .object "MosaicShop$Row"
  | _ => .object "MosaicShop$Row"
abbrev wsX80 : List Cond := u_ws RX8 TX8 7
theorem nmX8 : ∀ a, a < 7 → ∀ b, b < 7 → a ≠ b → (TX8 a).2.1 ≠ (TX8 b).2.1 := by decide +kernel
theorem tyX8_ok : ∀ k, k < 7 → parseFieldDescriptor (TX8 k).2.2.1 = some (tyX8 k) := by decide +kernel
abbrev cX8_init : ByteArray := prog_10_method_1_code
def yX8_init : MethodName := ⟨RX8, "<init>", "(LMosaicShop$Drawing;LMosaicShop$Fields;LMosaicShop$Cubes;LMosaicShop$Lots;)V"⟩
abbrev cX8_paintFields : ByteArray := prog_10_method_2_code
def yX8_paintFields : MethodName := ⟨RX8, "paintFields", "()V"⟩
abbrev cX8_paintField : ByteArray := prog_10_method_3_code
def yX8_paintField : MethodName := ⟨RX8, "paintField", "(II)V"⟩
abbrev cX8_nearestFor : ByteArray := prog_10_method_4_code
def yX8_nearestFor : MethodName := ⟨RX8, "nearestFor", "(I)I"⟩
abbrev cX8_give : ByteArray := prog_10_method_5_code
def yX8_give : MethodName := ⟨RX8, "give", "(II)V"⟩
abbrev cX8_bareCubes : ByteArray := prog_10_method_6_code
def yX8_bareCubes : MethodName := ⟨RX8, "bareCubes", "()I"⟩
abbrev cX8_giveBack : ByteArray := prog_10_method_7_code
def yX8_giveBack : MethodName := ⟨RX8, "giveBack", "()I"⟩
abbrev cX8_changesOf : ByteArray := prog_10_method_8_code
def yX8_changesOf : MethodName := ⟨RX8, "changesOf", "(I)I"⟩
abbrev cX8_makeAnew : ByteArray := prog_10_method_9_code
def yX8_makeAnew : MethodName := ⟨RX8, "makeAnew", "(I)I"⟩
def RX9 : String := "MosaicShop$Row"
def TX9 : u_T := fun k => match k with
  | _ => ("MosaicShop$Row", "cells", "[I", true)
def tyX9 : Nat → FieldType := fun k => match k with
  | _ => .array .int
abbrev wsX90 : List Cond := u_ws RX9 TX9 1
theorem nmX9 : ∀ a, a < 1 → ∀ b, b < 1 → a ≠ b → (TX9 a).2.1 ≠ (TX9 b).2.1 := by decide +kernel
theorem tyX9_ok : ∀ k, k < 1 → parseFieldDescriptor (TX9 k).2.2.1 = some (tyX9 k) := by decide +kernel
abbrev cX9_init : ByteArray := prog_11_method_1_code
def yX9_init : MethodName := ⟨RX9, "<init>", "(I)V"⟩
abbrev cX9_get : ByteArray := prog_11_method_2_code
def yX9_get : MethodName := ⟨RX9, "get", "(I)I"⟩
abbrev cX9_set : ByteArray := prog_11_method_3_code
def yX9_set : MethodName := ⟨RX9, "set", "(II)V"⟩
abbrev cX9_add : ByteArray := prog_11_method_4_code
def yX9_add : MethodName := ⟨RX9, "add", "(II)V"⟩
abbrev cX9_fill : ByteArray := prog_11_method_5_code
def yX9_fill : MethodName := ⟨RX9, "fill", "(I)V"⟩
abbrev cX9_copyFrom : ByteArray := prog_11_method_6_code
def yX9_copyFrom : MethodName := ⟨RX9, "copyFrom", "(LMosaicShop$Row;)V"⟩
def RX10 : String := "MosaicShop$Sheets"
def TX10 : u_T := fun k => match k with
  | 0 => ("MosaicShop$Sheets", "many", "I", false)
  | 1 => ("MosaicShop$Sheets", "weights", "LMosaicShop$Row;", true)
  | 2 => ("MosaicShop$Sheets", "drawing", "LMosaicShop$Drawing;", true)
  | 3 => ("MosaicShop$Sheets", "fields", "LMosaicShop$Fields;", true)
  | _ => ("MosaicShop$Sheets", "cubes", "LMosaicShop$Cubes;", true)
def tyX10 : Nat → FieldType := fun k => match k with
  | 0 => .int
  | 1 => .object "MosaicShop$Row"
  | 2 => .object "MosaicShop$Drawing"
  | 3 => .object "MosaicShop$Fields"
  | _ => .object "MosaicShop$Cubes"
abbrev wsX100 : List Cond := u_ws RX10 TX10 5
theorem nmX10 : ∀ a, a < 5 → ∀ b, b < 5 → a ≠ b → (TX10 a).2.1 ≠ (TX10 b).2.1 := by decide +kernel
theorem tyX10_ok : ∀ k, k < 5 → parseFieldDescriptor (TX10 k).2.2.1 = some (tyX10 k) := by decide +kernel
abbrev cX10_init : ByteArray := prog_12_method_1_code
def yX10_init : MethodName := ⟨RX10, "<init>", "(LMosaicShop$Drawing;LMosaicShop$Fields;LMosaicShop$Cubes;)V"⟩
abbrev cX10_cutWall : ByteArray := prog_12_method_2_code
def yX10_cutWall : MethodName := ⟨RX10, "cutWall", "(II)V"⟩
abbrev cX10_cutsLeftOf : ByteArray := prog_12_method_3_code
def yX10_cutsLeftOf : MethodName := ⟨RX10, "cutsLeftOf", "(II)I"⟩
abbrev cX10_cutNear : ByteArray := prog_12_method_4_code
def yX10_cutNear : MethodName := ⟨RX10, "cutNear", "(II)I"⟩
abbrev cX10_isBorder : ByteArray := prog_12_method_5_code
def yX10_isBorder : MethodName := ⟨RX10, "isBorder", "(II)Z"⟩
abbrev cX10_turnOver : ByteArray := prog_12_method_6_code
def yX10_turnOver : MethodName := ⟨RX10, "turnOver", "()V"⟩
abbrev cX10_tell : ByteArray := prog_12_method_7_code
def yX10_tell : MethodName := ⟨RX10, "tell", "(II)I"⟩
abbrev cX10_cubesOn : ByteArray := prog_12_method_8_code
def yX10_cubesOn : MethodName := ⟨RX10, "cubesOn", "(I)I"⟩
abbrev cX10_placesMarked : ByteArray := prog_12_method_9_code
def yX10_placesMarked : MethodName := ⟨RX10, "placesMarked", "(ILMosaicShop$Row;)I"⟩
abbrev cX10_hasHead : ByteArray := prog_12_method_10_code
def yX10_hasHead : MethodName := ⟨RX10, "hasHead", "(I)Z"⟩
abbrev cX10_leftEdge : ByteArray := prog_12_method_11_code
def yX10_leftEdge : MethodName := ⟨RX10, "leftEdge", "(I)I"⟩
abbrev cX10_rightEdge : ByteArray := prog_12_method_12_code
def yX10_rightEdge : MethodName := ⟨RX10, "rightEdge", "(I)I"⟩
abbrev cX10_latestCrate : ByteArray := prog_12_method_13_code
def yX10_latestCrate : MethodName := ⟨RX10, "latestCrate", "(II)I"⟩
def RX11 : String := "MosaicShop"
def TX11 : u_T := fun k => match k with
  | 0 => ("MosaicShop", "drawing", "LMosaicShop$Drawing;", true)
  | 1 => ("MosaicShop", "fields", "LMosaicShop$Fields;", true)
  | 2 => ("MosaicShop", "cubes", "LMosaicShop$Cubes;", true)
  | 3 => ("MosaicShop", "layer", "LMosaicShop$Layer;", true)
  | 4 => ("MosaicShop", "lots", "LMosaicShop$Lots;", true)
  | 5 => ("MosaicShop", "painter", "LMosaicShop$Painter;", true)
  | 6 => ("MosaicShop", "sheets", "LMosaicShop$Sheets;", true)
  | 7 => ("MosaicShop", "hands", "LMosaicShop$Hands;", true)
  | _ => ("MosaicShop", "dealer", "LMosaicShop$Dealer;", true)
def tyX11 : Nat → FieldType := fun k => match k with
  | 0 => .object "MosaicShop$Drawing"
  | 1 => .object "MosaicShop$Fields"
  | 2 => .object "MosaicShop$Cubes"
  | 3 => .object "MosaicShop$Layer"
  | 4 => .object "MosaicShop$Lots"
  | 5 => .object "MosaicShop$Painter"
  | 6 => .object "MosaicShop$Sheets"
  | 7 => .object "MosaicShop$Hands"
  | _ => .object "MosaicShop$Dealer"
abbrev wsX110 : List Cond := u_ws RX11 TX11 9
theorem nmX11 : ∀ a, a < 9 → ∀ b, b < 9 → a ≠ b → (TX11 a).2.1 ≠ (TX11 b).2.1 := by decide +kernel
theorem tyX11_ok : ∀ k, k < 9 → parseFieldDescriptor (TX11 k).2.2.1 = some (tyX11 k) := by decide +kernel
abbrev cX11_init : ByteArray := prog_1_method_1_code
def yX11_init : MethodName := ⟨RX11, "<init>", "()V"⟩
abbrev cX11_wall : ByteArray := prog_1_method_2_code
def yX11_wall : MethodName := ⟨RX11, "wall", "(II)I"⟩
abbrev cX11_draw : ByteArray := prog_1_method_3_code
def yX11_draw : MethodName := ⟨RX11, "draw", "(IIIII)I"⟩
abbrev cX11_field : ByteArray := prog_1_method_4_code
def yX11_field : MethodName := ⟨RX11, "field", "(II)I"⟩
abbrev cX11_colour : ByteArray := prog_1_method_5_code
def yX11_colour : MethodName := ⟨RX11, "colour", "(IIII)I"⟩
abbrev cX11_mark : ByteArray := prog_1_method_6_code
def yX11_mark : MethodName := ⟨RX11, "mark", "(IIZZ)I"⟩
abbrev cX11_lay : ByteArray := prog_1_method_7_code
def yX11_lay : MethodName := ⟨RX11, "lay", "()I"⟩
abbrev cX11_at : ByteArray := prog_1_method_8_code
def yX11_at : MethodName := ⟨RX11, "at", "(II)I"⟩
abbrev cX11_cube : ByteArray := prog_1_method_9_code
def yX11_cube : MethodName := ⟨RX11, "cube", "(II)I"⟩
abbrev cX11_lot : ByteArray := prog_1_method_10_code
def yX11_lot : MethodName := ⟨RX11, "lot", "(IIII)I"⟩
abbrev cX11_left : ByteArray := prog_1_method_11_code
def yX11_left : MethodName := ⟨RX11, "left", "(I)I"⟩
abbrev cX11_more : ByteArray := prog_1_method_12_code
def yX11_more : MethodName := ⟨RX11, "more", "(II)I"⟩
abbrev cX11_paint : ByteArray := prog_1_method_13_code
def yX11_paint : MethodName := ⟨RX11, "paint", "()I"⟩
abbrev cX11_scrape : ByteArray := prog_1_method_14_code
def yX11_scrape : MethodName := ⟨RX11, "scrape", "()I"⟩
abbrev cX11_changes : ByteArray := prog_1_method_15_code
def yX11_changes : MethodName := ⟨RX11, "changes", "(I)I"⟩
abbrev cX11_cut : ByteArray := prog_1_method_16_code
def yX11_cut : MethodName := ⟨RX11, "cut", "(II)I"⟩
abbrev cX11_sheet : ByteArray := prog_1_method_17_code
def yX11_sheet : MethodName := ⟨RX11, "sheet", "(II)I"⟩
abbrev cX11_broken : ByteArray := prog_1_method_18_code
def yX11_broken : MethodName := ⟨RX11, "broken", "(I)I"⟩
abbrev cX11_crates : ByteArray := prog_1_method_19_code
def yX11_crates : MethodName := ⟨RX11, "crates", "(I)I"⟩
abbrev cX11_crate : ByteArray := prog_1_method_20_code
def yX11_crate : MethodName := ⟨RX11, "crate", "(II)I"⟩
abbrev cX11_hand : ByteArray := prog_1_method_21_code
def yX11_hand : MethodName := ⟨RX11, "hand", "(IZ)I"⟩
abbrev cX11_days : ByteArray := prog_1_method_22_code
def yX11_days : MethodName := ⟨RX11, "days", "()I"⟩
abbrev cX11_dealt : ByteArray := prog_1_method_23_code
def yX11_dealt : MethodName := ⟨RX11, "dealt", "(I)I"⟩
abbrev cX11_count : ByteArray := prog_1_method_24_code
def yX11_count : MethodName := ⟨RX11, "count", "(I)I"⟩
abbrev cX11_digest : ByteArray := prog_1_method_25_code
def yX11_digest : MethodName := ⟨RX11, "digest", "()J"⟩
abbrev cX11_isLaid : ByteArray := prog_1_method_26_code
def yX11_isLaid : MethodName := ⟨RX11, "isLaid", "()Z"⟩
abbrev cX11_isCut : ByteArray := prog_1_method_27_code
def yX11_isCut : MethodName := ⟨RX11, "isCut", "()Z"⟩
abbrev cX11_takeDown : ByteArray := prog_1_method_28_code
def yX11_takeDown : MethodName := ⟨RX11, "takeDown", "()V"⟩
abbrev cX11_maySheet : ByteArray := prog_1_method_29_code
def yX11_maySheet : MethodName := ⟨RX11, "maySheet", "(I)Z"⟩
abbrev cX11_isField : ByteArray := prog_1_method_30_code
def yX11_isField : MethodName := ⟨RX11, "isField", "(I)Z"⟩
abbrev cX11_isColour : ByteArray := prog_1_method_31_code
def yX11_isColour : MethodName := ⟨RX11, "isColour", "(III)Z"⟩
abbrev cX11_within : ByteArray := prog_1_method_32_code
def yX11_within : MethodName := ⟨RX11, "within", "(III)Z"⟩
abbrev cX11_roundedUp : ByteArray := prog_1_method_33_code
def yX11_roundedUp : MethodName := ⟨RX11, "roundedUp", "(II)I"⟩
def RX12 : String := "MosaicShopModel"
def TX12 : u_T := fun k => match k with
  | 0 => ("MosaicShopModel", "wide", "I", false)
  | 1 => ("MosaicShopModel", "high", "I", false)
  | 2 => ("MosaicShopModel", "fields", "[I", true)
  | 3 => ("MosaicShopModel", "colours", "[I", true)
  | 4 => ("MosaicShopModel", "shorter", "[I", true)
  | 5 => ("MosaicShopModel", "gold", "[Z", true)
  | 6 => ("MosaicShopModel", "face", "[Z", true)
  | 7 => ("MosaicShopModel", "laid", "Z", false)
  | 8 => ("MosaicShopModel", "painted", "Z", false)
  | 9 => ("MosaicShopModel", "isCut", "Z", false)
  | 10 => ("MosaicShopModel", "cubes", "I", false)
  | 11 => ("MosaicShopModel", "cubeRow", "[I", true)
  | 12 => ("MosaicShopModel", "cubeLeft", "[I", true)
  | 13 => ("MosaicShopModel", "cubeSize", "[I", true)
  | 14 => ("MosaicShopModel", "cubeField", "[I", true)
  | 15 => ("MosaicShopModel", "cubeLot", "[I", true)
  | 16 => ("MosaicShopModel", "cubeSheet", "[I", true)
  | 17 => ("MosaicShopModel", "sheets", "I", false)
  | 18 => ("MosaicShopModel", "lots", "I", false)
  | 19 => ("MosaicShopModel", "lotColours", "[I", true)
  | 20 => ("MosaicShopModel", "lotLeft", "[I", true)
  | 21 => ("MosaicShopModel", "hands", "I", false)
  | 22 => ("MosaicShopModel", "skills", "[I", true)
  | 23 => ("MosaicShopModel", "masters", "[Z", true)
  | 24 => ("MosaicShopModel", "jointAhead", "[Z", true)
  | 25 => ("MosaicShopModel", "jointHere", "[Z", true)
  | 26 => ("MosaicShopModel", "fewest", "[I", true)
  | 27 => ("MosaicShopModel", "first", "[I", true)
  | 28 => ("MosaicShopModel", "wouldLeft", "[I", true)
  | 29 => ("MosaicShopModel", "wouldLot", "[I", true)
  | 30 => ("MosaicShopModel", "heavy", "[I", true)
  | 31 => ("MosaicShopModel", "heavyMany", "I", false)
  | 32 => ("MosaicShopModel", "dealt", "[I", true)
  | 33 => ("MosaicShopModel", "least", "I", false)
  | 34 => ("MosaicShopModel", "weights", "[I", true)
  | 35 => ("MosaicShopModel", "onlyMasters", "[Z", true)
  | _ => ("MosaicShopModel", "sums", "[I", true)
def tyX12 : Nat → FieldType := fun k => match k with
  | 0 => .int
  | 1 => .int
  | 2 => .array .int
  | 3 => .array .int
  | 4 => .array .int
  | 5 => .array .boolean
  | 6 => .array .boolean
  | 7 => .boolean
  | 8 => .boolean
  | 9 => .boolean
  | 10 => .int
  | 11 => .array .int
  | 12 => .array .int
  | 13 => .array .int
  | 14 => .array .int
  | 15 => .array .int
  | 16 => .array .int
  | 17 => .int
  | 18 => .int
  | 19 => .array .int
  | 20 => .array .int
  | 21 => .int
  | 22 => .array .int
  | 23 => .array .boolean
  | 24 => .array .boolean
  | 25 => .array .boolean
  | 26 => .array .int
  | 27 => .array .int
  | 28 => .array .int
  | 29 => .array .int
  | 30 => .array .int
  | 31 => .int
  | 32 => .array .int
  | 33 => .int
  | 34 => .array .int
  | 35 => .array .boolean
  | _ => .array .int
abbrev wsX120 : List Cond := u_ws RX12 TX12 37
theorem nmX12 : ∀ a, a < 37 → ∀ b, b < 37 → a ≠ b → (TX12 a).2.1 ≠ (TX12 b).2.1 := by decide +kernel
theorem tyX12_ok : ∀ k, k < 37 → parseFieldDescriptor (TX12 k).2.2.1 = some (tyX12 k) := by decide +kernel
abbrev cX12_init : ByteArray := prog_14_method_1_code
def yX12_init : MethodName := ⟨RX12, "<init>", "()V"⟩
abbrev cX12_in : ByteArray := prog_14_method_3_code
def yX12_in : MethodName := ⟨RX12, "in", "(III)Z"⟩
abbrev cX12_goes : ByteArray := prog_14_method_4_code
def yX12_goes : MethodName := ⟨RX12, "goes", "()V"⟩
abbrev cX12_wall : ByteArray := prog_14_method_5_code
def yX12_wall : MethodName := ⟨RX12, "wall", "(II)I"⟩
abbrev cX12_draw : ByteArray := prog_14_method_6_code
def yX12_draw : MethodName := ⟨RX12, "draw", "(IIIII)I"⟩
abbrev cX12_isPlace : ByteArray := prog_14_method_7_code
def yX12_isPlace : MethodName := ⟨RX12, "isPlace", "(II)Z"⟩
abbrev cX12_field : ByteArray := prog_14_method_8_code
def yX12_field : MethodName := ⟨RX12, "field", "(II)I"⟩
abbrev cX12_isColour : ByteArray := prog_14_method_9_code
def yX12_isColour : MethodName := ⟨RX12, "isColour", "(III)Z"⟩
abbrev cX12_colour : ByteArray := prog_14_method_10_code
def yX12_colour : MethodName := ⟨RX12, "colour", "(IIII)I"⟩
abbrev cX12_mark : ByteArray := prog_14_method_11_code
def yX12_mark : MethodName := ⟨RX12, "mark", "(IIZZ)I"⟩
abbrev cX12_strip : ByteArray := prog_14_method_12_code
def yX12_strip : MethodName := ⟨RX12, "strip", "(III)Z"⟩
abbrev cX12_lay : ByteArray := prog_14_method_13_code
def yX12_lay : MethodName := ⟨RX12, "lay", "()I"⟩
abbrev cX12_at : ByteArray := prog_14_method_14_code
def yX12_at : MethodName := ⟨RX12, "at", "(II)I"⟩
abbrev cX12_faceDown : ByteArray := prog_14_method_15_code
def yX12_faceDown : MethodName := ⟨RX12, "faceDown", "(I)I"⟩
abbrev cX12_cube : ByteArray := prog_14_method_16_code
def yX12_cube : MethodName := ⟨RX12, "cube", "(II)I"⟩
abbrev cX12_lot : ByteArray := prog_14_method_17_code
def yX12_lot : MethodName := ⟨RX12, "lot", "(IIII)I"⟩
abbrev cX12_left : ByteArray := prog_14_method_18_code
def yX12_left : MethodName := ⟨RX12, "left", "(I)I"⟩
abbrev cX12_more : ByteArray := prog_14_method_19_code
def yX12_more : MethodName := ⟨RX12, "more", "(II)I"⟩
abbrev cX12_nearest : ByteArray := prog_14_method_20_code
def yX12_nearest : MethodName := ⟨RX12, "nearest", "(II[I)I"⟩
abbrev cX12_bare : ByteArray := prog_14_method_21_code
def yX12_bare : MethodName := ⟨RX12, "bare", "()I"⟩
abbrev cX12_paint : ByteArray := prog_14_method_22_code
def yX12_paint : MethodName := ⟨RX12, "paint", "()I"⟩
abbrev cX12_scrape : ByteArray := prog_14_method_23_code
def yX12_scrape : MethodName := ⟨RX12, "scrape", "()I"⟩
abbrev cX12_changes : ByteArray := prog_14_method_24_code
def yX12_changes : MethodName := ⟨RX12, "changes", "(I)I"⟩
abbrev cX12_nearestBorder : ByteArray := prog_14_method_25_code
def yX12_nearestBorder : MethodName := ⟨RX12, "nearestBorder", "(II)I"⟩
abbrev cX12_cut : ByteArray := prog_14_method_26_code
def yX12_cut : MethodName := ⟨RX12, "cut", "(II)I"⟩
abbrev cX12_noSheet : ByteArray := prog_14_method_27_code
def yX12_noSheet : MethodName := ⟨RX12, "noSheet", "(I)I"⟩
abbrev cX12_sumOf : ByteArray := prog_14_method_28_code
def yX12_sumOf : MethodName := ⟨RX12, "sumOf", "(IZ)I"⟩
abbrev cX12_hasFace : ByteArray := prog_14_method_29_code
def yX12_hasFace : MethodName := ⟨RX12, "hasFace", "(I)Z"⟩
abbrev cX12_sheet : ByteArray := prog_14_method_30_code
def yX12_sheet : MethodName := ⟨RX12, "sheet", "(II)I"⟩
abbrev cX12_broken : ByteArray := prog_14_method_31_code
def yX12_broken : MethodName := ⟨RX12, "broken", "(I)I"⟩
abbrev cX12_cratesTo : ByteArray := prog_14_method_32_code
def yX12_cratesTo : MethodName := ⟨RX12, "cratesTo", "(II)I"⟩
abbrev cX12_crates : ByteArray := prog_14_method_33_code
def yX12_crates : MethodName := ⟨RX12, "crates", "(I)I"⟩
abbrev cX12_crate : ByteArray := prog_14_method_34_code
def yX12_crate : MethodName := ⟨RX12, "crate", "(II)I"⟩
abbrev cX12_hand : ByteArray := prog_14_method_35_code
def yX12_hand : MethodName := ⟨RX12, "hand", "(IZ)I"⟩
abbrev cX12_deal : ByteArray := prog_14_method_36_code
def yX12_deal : MethodName := ⟨RX12, "deal", "()Z"⟩
abbrev cX12_greatestOf : ByteArray := prog_14_method_37_code
def yX12_greatestOf : MethodName := ⟨RX12, "greatestOf", "(II)I"⟩
abbrev cX12_days : ByteArray := prog_14_method_38_code
def yX12_days : MethodName := ⟨RX12, "days", "()I"⟩
abbrev cX12_dealt : ByteArray := prog_14_method_39_code
def yX12_dealt : MethodName := ⟨RX12, "dealt", "(I)I"⟩
abbrev cX12_count : ByteArray := prog_14_method_40_code
def yX12_count : MethodName := ⟨RX12, "count", "(I)I"⟩
abbrev cX12_digest : ByteArray := prog_14_method_41_code
def yX12_digest : MethodName := ⟨RX12, "digest", "()J"⟩
def RJ9 : String := "java/lang/Math"
def TJ9 : u_T := fun k => match k with
  | _ => ("", "", "", false)
def tyJ9 : Nat → FieldType := fun k => match k with
  | _ => .int
abbrev wsJ90 : List Cond := u_ws RJ9 TJ9 0
theorem nmJ9 : ∀ a, a < 0 → ∀ b, b < 0 → a ≠ b → (TJ9 a).2.1 ≠ (TJ9 b).2.1 := by decide +kernel
theorem tyJ9_ok : ∀ k, k < 0 → parseFieldDescriptor (TJ9 k).2.2.1 = some (tyJ9 k) := by decide +kernel
abbrev cJ9_max_7cf53 : ByteArray := prog_15_method_65_code
def yJ9_max_7cf53 : MethodName := ⟨RJ9, "max", "(II)I"⟩
abbrev cJ9_min_7cf53 : ByteArray := prog_15_method_69_code
def yJ9_min_7cf53 : MethodName := ⟨RJ9, "min", "(II)I"⟩
def RL : String := "MosaicShopLaw"
abbrev cL_law : ByteArray := code
def yL_law : MethodName := ⟨RL, "law", "([I)Z"⟩
abbrev vwCl : List vw_C := [(RX0, TX0, 3), (RX1, TX1, 9), (RX2, TX2, 9), (RX3, TX3, 3), (RX4, TX4, 4), (RX5, TX5, 3), (RX6, TX6, 6), (RX7, TX7, 3), (RX8, TX8, 7), (RX9, TX9, 1), (RX10, TX10, 5), (RX11, TX11, 9), (RX12, TX12, 37)]
end
section
/-! tables: fields, constants by their pool numbers, as the words of the tables have them -/
def TB : List Cond := lw_tbl.filter goodWord
theorem TB_in {w : Cond} (h : w ∈ lw_tbl) (g : goodWord w = true) : w ∈ TB := List.mem_filter.mpr ⟨h, g⟩
theorem TB_at {w : Cond} (i : Nat) (h : lw_tbl[i]? = some w) (g : goodWord w = true) : w ∈ TB := TB_in (List.mem_of_getElem? h) g
theorem TB_G {ws : List Cond} (h : ∀ w ∈ ws, w ∈ TB) : GoodIn TB ws := fun w hw => ⟨h w hw, good_of_word (List.mem_filter.mp (h w hw)).2⟩
def cq (ci : Nat) : vw_C := vwCl.getD ci (RL, TX0, 0)
def cn (ci : Nat) : String := (cq ci).1
def cT (ci : Nat) : u_T := (cq ci).2.1
def cN (ci : Nat) : Nat := (cq ci).2.2
def cty (ci : Nat) : Nat → FieldType := fun k => (parseFieldDescriptor (cT ci k).2.2.1).getD .int
theorem cq_in : ∀ ci, ci < 13 → vwCl[ci]? = some (cn ci, cT ci, cN ci) := by
  intro ci h
  rcases (show ci = 0 ∨ ci = 1 ∨ ci = 2 ∨ ci = 3 ∨ ci = 4 ∨ ci = 5 ∨ ci = 6 ∨ ci = 7 ∨ ci = 8 ∨ ci = 9 ∨ ci = 10 ∨ ci = 11 ∨ ci = 12 by omega) with rfl | rfl | rfl | rfl | rfl | rfl | rfl | rfl | rfl | rfl | rfl | rfl | rfl
  · rfl
  · rfl
  · rfl
  · rfl
  · rfl
  · rfl
  · rfl
  · rfl
  · rfl
  · rfl
  · rfl
  · rfl
  · rfl
theorem ws_in : ∀ ci, ci < 13 → ∀ w ∈ u_ws (cn ci) (cT ci) (cN ci), w ∈ TB := by
  intro ci h
  rcases (show ci = 0 ∨ ci = 1 ∨ ci = 2 ∨ ci = 3 ∨ ci = 4 ∨ ci = 5 ∨ ci = 6 ∨ ci = 7 ∨ ci = 8 ∨ ci = 9 ∨ ci = 10 ∨ ci = 11 ∨ ci = 12 by omega) with rfl | rfl | rfl | rfl | rfl | rfl | rfl | rfl | rfl | rfl | rfl | rfl | rfl
  · exact fun w h => TB_in ((by decide +kernel : ∀ w ∈ u_ws RX0 TX0 3, w ∈ lw_tbl) w h) (List.all_eq_true.mp (by decide +kernel : (u_ws RX0 TX0 3).all goodWord = true) w h)
  · exact fun w h => TB_in ((by decide +kernel : ∀ w ∈ u_ws RX1 TX1 9, w ∈ lw_tbl) w h) (List.all_eq_true.mp (by decide +kernel : (u_ws RX1 TX1 9).all goodWord = true) w h)
  · exact fun w h => TB_in ((by decide +kernel : ∀ w ∈ u_ws RX2 TX2 9, w ∈ lw_tbl) w h) (List.all_eq_true.mp (by decide +kernel : (u_ws RX2 TX2 9).all goodWord = true) w h)
  · exact fun w h => TB_in ((by decide +kernel : ∀ w ∈ u_ws RX3 TX3 3, w ∈ lw_tbl) w h) (List.all_eq_true.mp (by decide +kernel : (u_ws RX3 TX3 3).all goodWord = true) w h)
  · exact fun w h => TB_in ((by decide +kernel : ∀ w ∈ u_ws RX4 TX4 4, w ∈ lw_tbl) w h) (List.all_eq_true.mp (by decide +kernel : (u_ws RX4 TX4 4).all goodWord = true) w h)
  · exact fun w h => TB_in ((by decide +kernel : ∀ w ∈ u_ws RX5 TX5 3, w ∈ lw_tbl) w h) (List.all_eq_true.mp (by decide +kernel : (u_ws RX5 TX5 3).all goodWord = true) w h)
  · exact fun w h => TB_in ((by decide +kernel : ∀ w ∈ u_ws RX6 TX6 6, w ∈ lw_tbl) w h) (List.all_eq_true.mp (by decide +kernel : (u_ws RX6 TX6 6).all goodWord = true) w h)
  · exact fun w h => TB_in ((by decide +kernel : ∀ w ∈ u_ws RX7 TX7 3, w ∈ lw_tbl) w h) (List.all_eq_true.mp (by decide +kernel : (u_ws RX7 TX7 3).all goodWord = true) w h)
  · exact fun w h => TB_in ((by decide +kernel : ∀ w ∈ u_ws RX8 TX8 7, w ∈ lw_tbl) w h) (List.all_eq_true.mp (by decide +kernel : (u_ws RX8 TX8 7).all goodWord = true) w h)
  · exact fun w h => TB_in ((by decide +kernel : ∀ w ∈ u_ws RX9 TX9 1, w ∈ lw_tbl) w h) (List.all_eq_true.mp (by decide +kernel : (u_ws RX9 TX9 1).all goodWord = true) w h)
  · exact fun w h => TB_in ((by decide +kernel : ∀ w ∈ u_ws RX10 TX10 5, w ∈ lw_tbl) w h) (List.all_eq_true.mp (by decide +kernel : (u_ws RX10 TX10 5).all goodWord = true) w h)
  · exact fun w h => TB_in ((by decide +kernel : ∀ w ∈ u_ws RX11 TX11 9, w ∈ lw_tbl) w h) (List.all_eq_true.mp (by decide +kernel : (u_ws RX11 TX11 9).all goodWord = true) w h)
  · exact fun w h => TB_in ((by decide +kernel : ∀ w ∈ u_ws RX12 TX12 37, w ∈ lw_tbl) w h) (List.all_eq_true.mp (by decide +kernel : (u_ws RX12 TX12 37).all goodWord = true) w h)
theorem cty_ok : ∀ ci, ci < 13 → ∀ k, k < cN ci → parseFieldDescriptor (cT ci k).2.2.1 = some (cty ci k) := by
  intro ci h
  rcases (show ci = 0 ∨ ci = 1 ∨ ci = 2 ∨ ci = 3 ∨ ci = 4 ∨ ci = 5 ∨ ci = 6 ∨ ci = 7 ∨ ci = 8 ∨ ci = 9 ∨ ci = 10 ∨ ci = 11 ∨ ci = 12 by omega) with rfl | rfl | rfl | rfl | rfl | rfl | rfl | rfl | rfl | rfl | rfl | rfl | rfl
  · decide +kernel
  · decide +kernel
  · decide +kernel
  · decide +kernel
  · decide +kernel
  · decide +kernel
  · decide +kernel
  · decide +kernel
  · decide +kernel
  · decide +kernel
  · decide +kernel
  · decide +kernel
  · decide +kernel
theorem cnm_ok : ∀ ci, ci < 13 → ∀ a, a < cN ci → ∀ b, b < cN ci → a ≠ b → (cT ci a).2.1 ≠ (cT ci b).2.1 := by
  intro ci h
  rcases (show ci = 0 ∨ ci = 1 ∨ ci = 2 ∨ ci = 3 ∨ ci = 4 ∨ ci = 5 ∨ ci = 6 ∨ ci = 7 ∨ ci = 8 ∨ ci = 9 ∨ ci = 10 ∨ ci = 11 ∨ ci = 12 by omega) with rfl | rfl | rfl | rfl | rfl | rfl | rfl | rfl | rfl | rfl | rfl | rfl | rfl
  · exact nmX0
  · exact nmX1
  · exact nmX2
  · exact nmX3
  · exact nmX4
  · exact nmX5
  · exact nmX6
  · exact nmX7
  · exact nmX8
  · exact nmX9
  · exact nmX10
  · exact nmX11
  · exact nmX12
def FLK : List (Nat × Nat × Nat × Nat) := [(9, 13, 9, 0), (3, 9, 3, 0), (10, 36, 3, 0), (6, 51, 3, 0), (11, 222, 3, 0), (3, 15, 3, 1), (6, 41, 3, 1), (10, 45, 3, 1), (11, 225, 3, 1), (3, 23, 3, 2), (0, 12, 0, 0), (0, 18, 0, 1), (0, 21, 0, 2), (4, 14, 4, 0), (8, 53, 4, 0), (11, 108, 4, 0), (4, 23, 4, 1), (6, 73, 4, 1), (11, 118, 4, 1), (4, 27, 4, 2), (11, 127, 4, 2), (10, 107, 4, 2), (4, 30, 4, 3), (11, 130, 4, 3), (10, 129, 4, 3), (1, 9, 1, 0), (10, 51, 1, 0), (8, 65, 1, 0), (11, 140, 1, 0), (1, 20, 1, 1), (10, 54, 1, 1), (1, 24, 1, 2), (10, 83, 1, 2), (1, 27, 1, 3), (10, 71, 1, 3), (8, 83, 1, 3), (1, 30, 1, 4), (8, 71, 1, 4), (10, 126, 1, 4), (1, 33, 1, 5), (8, 86, 1, 5), (1, 36, 1, 6), (10, 64, 1, 6), (8, 108, 1, 6), (1, 39, 1, 7), (10, 101, 1, 7), (1, 42, 1, 8), (6, 26, 6, 0), (6, 30, 6, 1), (6, 34, 6, 2), (6, 14, 6, 3), (6, 20, 6, 4), (6, 23, 6, 5), (7, 9, 7, 0), (11, 156, 7, 0), (7, 20, 7, 1), (8, 92, 7, 1), (11, 162, 7, 1), (7, 27, 7, 2), (8, 9, 8, 0), (11, 172, 8, 0), (8, 27, 8, 1), (8, 31, 8, 2), (8, 35, 8, 3), (8, 39, 8, 4), (8, 20, 8, 5), (8, 24, 8, 6), (10, 9, 10, 0), (2, 66, 10, 0), (11, 191, 10, 0), (10, 20, 10, 1), (2, 69, 10, 1), (11, 205, 10, 1), (10, 24, 10, 2), (10, 28, 10, 3), (10, 32, 10, 4), (5, 9, 5, 0), (2, 48, 5, 0), (11, 208, 5, 0), (5, 20, 5, 1), (5, 24, 5, 2), (2, 10, 2, 0), (11, 216, 2, 0), (2, 40, 2, 1), (2, 44, 2, 2), (2, 16, 2, 3), (2, 24, 2, 4), (2, 28, 2, 5), (2, 31, 2, 6), (2, 34, 2, 7), (2, 37, 2, 8), (11, 12, 11, 0), (11, 19, 11, 1), (11, 26, 11, 2), (11, 35, 11, 3), (11, 42, 11, 4), (11, 51, 11, 5), (11, 58, 11, 6), (11, 65, 11, 7), (11, 74, 11, 8), (12, 7, 12, 0), (12, 13, 12, 1), (12, 16, 12, 2), (12, 20, 12, 3), (12, 23, 12, 4), (12, 26, 12, 5), (12, 30, 12, 6), (12, 96, 12, 7), (12, 100, 12, 8), (12, 103, 12, 9), (12, 106, 12, 10), (12, 33, 12, 11), (12, 36, 12, 12), (12, 39, 12, 13), (12, 42, 12, 14), (12, 45, 12, 15), (12, 48, 12, 16), (12, 109, 12, 17), (12, 133, 12, 18), (12, 51, 12, 19), (12, 54, 12, 20), (12, 162, 12, 21), (12, 57, 12, 22), (12, 60, 12, 23), (12, 63, 12, 24), (12, 66, 12, 25), (12, 69, 12, 26), (12, 72, 12, 27), (12, 75, 12, 28), (12, 78, 12, 29), (12, 81, 12, 30), (12, 165, 12, 31), (12, 84, 12, 32), (12, 168, 12, 33), (12, 87, 12, 34), (12, 90, 12, 35), (12, 93, 12, 36)]
def FLW : List Nat := [71, 76, 77, 78, 79, 80, 81, 82, 83, 84, 106, 107, 108, 122, 123, 124, 125, 126, 127, 128, 129, 130, 131, 132, 133, 151, 152, 153, 154, 155, 156, 157, 158, 159, 160, 161, 162, 163, 164, 165, 166, 167, 168, 169, 170, 171, 172, 200, 201, 202, 203, 204, 205, 229, 230, 231, 232, 233, 234, 250, 251, 252, 253, 254, 255, 256, 257, 281, 282, 283, 284, 285, 286, 287, 288, 289, 309, 310, 311, 312, 313, 330, 331, 332, 333, 334, 335, 336, 337, 338, 339, 359, 360, 361, 362, 363, 364, 365, 366, 367, 795, 796, 797, 798, 799, 800, 801, 802, 803, 804, 805, 806, 807, 808, 809, 810, 811, 812, 813, 814, 815, 816, 817, 818, 819, 820, 821, 822, 823, 824, 825, 826, 827, 828, 829, 830, 831]
def flOk (q : Nat × Nat × Nat × Nat) (w : Nat) : Bool := decide (lw_tbl[w]? = some (Cond.fieldLink (cn q.1) q.2.1 (cn q.2.2.1) (cT q.2.2.1 q.2.2.2).2.1 (cT q.2.2.1 q.2.2.2).2.2.1)) && decide (q.2.2.1 < 13) && decide (q.2.2.2 < cN q.2.2.1) && decide ((cT q.2.2.1 q.2.2.2).1 = cn q.2.2.1)
theorem FLK_all : (FLK.zip FLW).all (fun x => flOk x.1 x.2) = true := by decide +kernel
theorem FLK_len : FLK.length = FLW.length := by decide +kernel
theorem FLK_ok {q : Nat × Nat × Nat × Nat} (h : q ∈ FLK) : Cond.fieldLink (cn q.1) q.2.1 (cn q.2.2.1) (cT q.2.2.1 q.2.2.2).2.1 (cT q.2.2.1 q.2.2.2).2.2.1 ∈ TB ∧ q.2.2.1 < 13 ∧ q.2.2.2 < cN q.2.2.1 ∧ (cT q.2.2.1 q.2.2.2).1 = cn q.2.2.1 := by
  obtain ⟨i, hi⟩ := List.getElem?_of_mem h
  have hl : i < FLW.length := by rw [← FLK_len]; exact (List.getElem?_eq_some_iff.mp hi).1
  have hz : (FLK.zip FLW)[i]? = some (q, FLW[i]) := by
    rw [List.getElem?_zip_eq_some]; exact ⟨hi, List.getElem?_eq_getElem hl⟩
  have h1 := List.all_eq_true.mp FLK_all _ (List.mem_of_getElem? hz)
  simp only [flOk, Bool.and_eq_true, decide_eq_true_eq] at h1
  exact ⟨TB_at _ h1.1.1.1 rfl, h1.1.1.2, h1.1.2, h1.2⟩
def CKI : List (Nat × Nat × Int32) := [(2, 9, 1000000), (6, 86, 1000000), (7, 39, 1000000)]
def CKL : List (Nat × Nat × Int64) := [(11, 235, 149), (11, 237, 31), (12, 178, 149), (12, 180, 31)]
theorem CKI_ok : ∀ q ∈ CKI, Cond.constant (cn q.1) q.2.1 q.2.2 ∈ TB := fun q h => TB_in ((by decide +kernel : ∀ q ∈ CKI, Cond.constant (cn q.1) q.2.1 q.2.2 ∈ lw_tbl) q h) rfl
theorem CKL_ok : ∀ q ∈ CKL, Cond.constantLong (cn q.1) q.2.1 q.2.2 ∈ TB := fun q h => TB_in ((by decide +kernel : ∀ q ∈ CKL, Cond.constantLong (cn q.1) q.2.1 q.2.2 ∈ lw_tbl) q h) rfl
end
section
/-! core: the world of cells as one function of places, the judgement RJ, plain instructions in stretches -/
abbrev SG : Type := Nat → Nat → Int32
abbrev FDs : Type := Option (Option Nat)
abbrev CDs : Type := (Nat × List FDs) ⊕ (Bool × Nat)
abbrev AI : Type := Nat × Nat × Nat × Value
def vC (b sc : Nat) : Value → Value
  | .ref k => .ref (b + k)
  | .null => .ref sc
  | v => v
def fvl (b : Nat) (g : Nat → Int32) (k : Nat) : FDs → Value
  | none => .int (g k)
  | some none => .null
  | some (some q) => .ref (b + q)
def czI (cI cZ : ClassId) : Bool → ClassId
  | true => cZ
  | false => cI
def cel (b : Nat) (cI cZ : ClassId) (g : Nat → Int32) : CDs → va_E
  | .inl o => .inr (o.1, o.2.mapIdx (fvl b g))
  | .inr a => .inl (czI cI cZ a.1, a.2, .inl g)
def wls (b : Nat) (cI cZ : ClassId) (σ : SG) (ds : List CDs) : va_W := ds.mapIdx (fun k d => (b + k, cel b cI cZ (σ k) d))
def up (σ : SG) (q k : Nat) (x : Int32) : SG := fun p => if p = q then upd (σ q) k x else σ p
def up0 (σ : SG) (q : Nat) : SG := fun p => if p = q then fun _ => 0 else σ p
def tyC (cI cZ : ClassId) : List (ClassId × FieldType) := [(cI, .int), (cZ, .boolean)]
def NWL : List (String × Nat × MethodName) := [("MosaicShop", 11, yX3_init), ("MosaicShop", 25, yX1_init), ("MosaicShop", 41, yX7_init), ("MosaicShop", 64, yX5_init), ("MosaicShop$Drawing", 27, yX11_within), ("MosaicShop$Sheets", 41, yX11_roundedUp), ("MosaicShop$Hands", 39, yX11_roundedUp)]
def NWs (U : State) : Prop := ∀ q ∈ NWL, va_Nw (.methodLinkNest q.1 q.2.1 q.2.2 "MosaicShop") U
def WD (b : Nat) (dC : Nat → ClassId) (dI : Nat → Nat → Nat) (cI cZ : ClassId) (ds : List CDs) (σ : SG) (H : Heap) : Prop := H.size = b + ds.length ∧ va_P (dC, dI) vwCl (wls b cI cZ σ ds) H
def CX (b : Nat) (dC : Nat → ClassId) (dI : Nat → Nat → Nat) (cI cZ : ClassId) (own : String) (bytes : ByteArray) (nL : Nat) (p : Program) (s : State) (m : MethodId) (args : Array Value) (c : Code) : Prop :=
  p.tables.exec = Jvm.exec ∧ c.code = bytes ∧ c.maxLocals = nL ∧ s.vm.findClass own = some m.cls ∧ (∀ w ∈ TB, w.before args s = true) ∧ va_K (dC, dI) vwCl (tyC cI cZ) s ∧ b ≤ s.heap.size ∧ NWs s
def lc (b sc : Nat) : Nat → List (Option Value) → List (Nat × Value)
  | _, [] => []
  | i, none :: r => lc b sc (i + 1) r
  | i, some v :: r => (i, vC b sc v) :: lc b sc (i + 1) r
def RJ (b sc : Nat) (dC : Nat → ClassId) (dI : Nat → Nat → Nat) (cI cZ : ClassId) (nL : Nat) (p : Program) (l : Launch) (e : Env) (R : Room) (s : State) (m : MethodId) (args : Array Value) (below : List Frame) (meth : Method) (c : Code) (cells slots : Nat) (Q : State → Prop) (pc : Nat) (L : List (Option Value)) (st : List Value) (ds : List CDs) (σ : SG) : Prop :=
  ∀ (H : Heap) (locs : List Loc) (ls : Array Slot), WD b dC dI cI cZ ds σ H → va_S (fun q => b ≤ q) s.heap H locs → lv_has ls nL (lc b sc 0 L) → W p l e R s m args below meth c H locs cells slots Q (F0 m pc ls (st.map (vC b sc)))
theorem lc_mem (b sc : Nat) : ∀ (L : List (Option Value)) (i j : Nat) (w : Value), (j, w) ∈ lc b sc i L ↔ ∃ k v, j = i + k ∧ L[k]? = some (some v) ∧ w = vC b sc v
  | [], i, j, w => by simp [lc]
  | none :: r, i, j, w => by
    rw [show lc b sc i (none :: r) = lc b sc (i + 1) r from rfl, lc_mem b sc r]
    constructor
    · rintro ⟨k, v, h1, h2, h3⟩
      exact ⟨k + 1, v, by omega, by simpa using h2, h3⟩
    · rintro ⟨k, v, h1, h2, h3⟩
      cases k with
      | zero => simp at h2
      | succ k => exact ⟨k, v, by omega, by simpa using h2, h3⟩
  | some u :: r, i, j, w => by
    rw [show lc b sc i (some u :: r) = (i, vC b sc u) :: lc b sc (i + 1) r from rfl, List.mem_cons, lc_mem b sc r]
    constructor
    · rintro (h | ⟨k, v, h1, h2, h3⟩)
      · cases h
        exact ⟨0, u, rfl, rfl, rfl⟩
      · exact ⟨k + 1, v, by omega, by simpa using h2, h3⟩
    · rintro ⟨k, v, h1, h2, h3⟩
      cases k with
      | zero =>
        simp at h2
        subst h2
        left
        rw [h1, h3]; rfl
      | succ k => exact Or.inr ⟨k, v, by omega, by simpa using h2, h3⟩
theorem lc_get {b sc nL : Nat} {ls : Array Slot} {L : List (Option Value)} (h : lv_has ls nL (lc b sc 0 L)) {a : Nat} {v : Value} (hv : L[a]? = some (some v)) : ls[a]? = some (.val (vC b sc v)) :=
  h.2.2 (a, vC b sc v) ((lc_mem b sc L 0 a _).mpr ⟨a, v, (Nat.zero_add a).symm, hv, rfl⟩)
theorem vC_cat (b sc : Nat) (v : Value) : (vC b sc v).category = v.category := by cases v <;> rfl
def okst (L : List (Option Value)) : Nat → Bool
  | 0 => true
  | a + 1 => match L[a]? with
    | some (some (.long _)) => false
    | some (some (.double _)) => false
    | _ => true
theorem lc_set {b sc nL : Nat} {ls : Array Slot} {L : List (Option Value)} {a : Nat} {v : Value} (ho : okst L a = true)
    (h : lv_has ls nL ((a, vC b sc v) :: (lc b sc 0 L).filter (fun q => !(q.1 == a) && !(q.1 + 1 == a && q.2.category == 2)))) : lv_has ls nL (lc b sc 0 (L.set a (some v))) := by
  refine ⟨h.1, h.2.1, fun q hq => h.2.2 q ?_⟩
  obtain ⟨j, w⟩ := q
  obtain ⟨k, u, h1, h2, h3⟩ := (lc_mem b sc _ 0 j w).mp hq
  rw [Nat.zero_add] at h1
  subst h1
  rw [List.getElem?_set] at h2
  by_cases hk : a = j
  · subst hk
    rw [if_pos rfl] at h2
    split at h2
    · cases h2
      rw [h3]; exact List.mem_cons_self
    · cases h2
  · rw [if_neg hk] at h2
    refine List.mem_cons_of_mem _ (List.mem_filter.mpr ⟨(lc_mem b sc L 0 j w).mpr ⟨j, u, (Nat.zero_add j).symm, h2, h3⟩, ?_⟩)
    have hja : (j == a) = false := by simpa using fun e : j = a => hk e.symm
    simp only [hja, Bool.not_false, Bool.true_and]
    by_cases hs : j + 1 = a
    · subst hs
      have hc : w.category = 1 := by
        rw [h3, vC_cat]
        simp only [okst, h2] at ho
        cases u <;> first | rfl | simp at ho
      simp [hc]
    · have : (j + 1 == a) = false := by simpa using hs
      simp [this]
theorem lc_setL {b sc nL : Nat} {ls : Array Slot} {L : List (Option Value)} {a : Nat} {v : Value} (ho : okst L a = true)
    (h : lv_has ls nL ((a, vC b sc v) :: (lc b sc 0 L).filter (fun q => !(q.1 == a) && (!(q.1 == a + 1) && !(q.1 + 1 == a && q.2.category == 2))))) : lv_has ls nL (lc b sc 0 ((L.set a (some v)).set (a + 1) none)) := by
  refine ⟨h.1, h.2.1, fun q hq => h.2.2 q ?_⟩
  obtain ⟨j, w⟩ := q
  obtain ⟨k, u, h1, h2, h3⟩ := (lc_mem b sc _ 0 j w).mp hq
  rw [Nat.zero_add] at h1
  subst h1
  rw [List.getElem?_set] at h2
  by_cases hk1 : a + 1 = j
  · rw [if_pos hk1] at h2
    split at h2 <;> cases h2
  rw [if_neg hk1, List.getElem?_set] at h2
  by_cases hk : a = j
  · subst hk
    rw [if_pos rfl] at h2
    split at h2
    · cases h2
      rw [h3]; exact List.mem_cons_self
    · cases h2
  · rw [if_neg hk] at h2
    refine List.mem_cons_of_mem _ (List.mem_filter.mpr ⟨(lc_mem b sc L 0 j w).mpr ⟨j, u, (Nat.zero_add j).symm, h2, h3⟩, ?_⟩)
    have hja : (j == a) = false := by simpa using fun e : j = a => hk e.symm
    have hja1 : (j == a + 1) = false := by simpa using fun e : j = a + 1 => hk1 e.symm
    simp only [hja, hja1, Bool.not_false, Bool.true_and]
    by_cases hs : j + 1 = a
    · subst hs
      have hc : w.category = 1 := by
        rw [h3, vC_cat]
        simp only [okst, h2] at ho
        cases u <;> first | rfl | simp at ho
      simp [hc]
    · have : (j + 1 == a) = false := by simpa using hs
      simp [this]
theorem wls_at {b : Nat} {cI cZ : ClassId} {σ : SG} {ds : List CDs} {q : Nat} {d : CDs} (h : ds[q]? = some d) : (wls b cI cZ σ ds)[q]? = some (b + q, cel b cI cZ (σ q) d) := by
  simp [wls, List.getElem?_mapIdx, h]
theorem wls_D (b : Nat) (cI cZ : ClassId) (σ : SG) (ds : List CDs) : va_D (fun q => b ≤ q) (wls b cI cZ σ ds) := by
  have key : ∀ (i : Nat) (p : Nat × va_E), (wls b cI cZ σ ds)[i]? = some p → p.1 = b + i := by
    intro i p hp
    simp only [wls, List.getElem?_mapIdx] at hp
    cases hd : ds[i]? with
    | none => rw [hd] at hp; cases hp
    | some d => rw [hd] at hp; cases hp; rfl
  refine ⟨fun i j p q hp hq hpq => ?_, fun k q hq => ?_⟩
  · have h1 := key i p hp
    have h2 := key j q hq
    omega
  · have h1 := key k q hq
    show b ≤ q.1
    omega
theorem wls_ext {b : Nat} {cI cZ : ClassId} {σ σ' : SG} {ds ds' : List CDs} {q : Nat} {e : va_E} (hlen : ds'.length = ds.length) (hq : ∀ d', ds'[q]? = some d' → cel b cI cZ (σ' q) d' = e)
    (hne : ∀ i, i ≠ q → ds'[i]? = ds[i]? ∧ σ' i = σ i) : (wls b cI cZ σ ds).set q (b + q, e) = wls b cI cZ σ' ds' := by
  apply List.ext_getElem?
  intro i
  rw [List.getElem?_set]
  by_cases hi : q = i
  · subst hi
    rw [if_pos rfl]
    cases hd : ds'[q]? with
    | none =>
      have h1 : ds'.length ≤ q := List.getElem?_eq_none_iff.mp hd
      rw [if_neg (by simp [wls]; omega)]
      simp [wls, List.getElem?_mapIdx, hd]
    | some d =>
      have h1 : q < ds'.length := (List.getElem?_eq_some_iff.mp hd).1
      rw [if_pos (by simp [wls]; omega)]
      simp [wls, List.getElem?_mapIdx, hd, hq d hd]
  · rw [if_neg hi]
    obtain ⟨e1, e2⟩ := hne i (fun h => hi h.symm)
    simp [wls, List.getElem?_mapIdx, e1, e2]
theorem fvl_cong {b : Nat} {g g' : Nat → Int32} {k : Nat} {f : FDs} (h : f = none → g k = g' k) : fvl b g k f = fvl b g' k f := by
  cases f with
  | none => simp [fvl, h rfl]
  | some o => cases o <;> rfl
theorem wls_put {b : Nat} {cI cZ : ClassId} {σ : SG} {ds : List CDs} {q k ci : Nat} {fs : List FDs} {x : Int32} (hd : ds[q]? = some (.inl (ci, fs))) (hk : fs[k]? = some none) :
    (wls b cI cZ σ ds).set q (b + q, .inr (ci, (fs.mapIdx (fvl b (σ q))).set k (.int x))) = wls b cI cZ (up σ q k x) ds := by
  refine wls_ext rfl (fun d' hd' => ?_) (fun i hi => ⟨rfl, by simp [up, hi]⟩)
  rw [hd] at hd'
  cases hd'
  show Sum.inr (ci, fs.mapIdx (fvl b (up σ q k x q))) = Sum.inr (ci, (fs.mapIdx (fvl b (σ q))).set k (.int x))
  congr 2
  apply List.ext_getElem?
  intro j
  rw [List.getElem?_set, List.getElem?_mapIdx, List.getElem?_mapIdx]
  by_cases hj : k = j
  · subst hj
    have hl : k < fs.length := (List.getElem?_eq_some_iff.mp hk).1
    rw [if_pos rfl, if_pos (by simpa using hl), hk]
    simp [fvl, up, upd]
  · rw [if_neg hj]
    have : (fvl b (up σ q k x q) j) = fvl b (σ q) j := by
      funext f
      exact fvl_cong (fun _ => by simp [up, upd]; intro e; exact absurd e.symm hj)
    rw [this]
theorem wls_putR {b : Nat} {cI cZ : ClassId} {σ : SG} {ds : List CDs} {q k ci r : Nat} {fs : List FDs} (hd : ds[q]? = some (.inl (ci, fs))) (hk : k < fs.length) :
    (wls b cI cZ σ ds).set q (b + q, .inr (ci, (fs.mapIdx (fvl b (σ q))).set k (.ref (b + r)))) = wls b cI cZ σ (ds.set q (.inl (ci, fs.set k (some (some r))))) := by
  have hq : q < ds.length := (List.getElem?_eq_some_iff.mp hd).1
  refine wls_ext (by simp) (fun d' hd' => ?_) (fun i hi => ⟨by rw [List.getElem?_set, if_neg (fun e => hi e.symm)], rfl⟩)
  rw [List.getElem?_set, if_pos rfl, if_pos hq] at hd'
  cases hd'
  show Sum.inr (ci, (fs.set k (some (some r))).mapIdx (fvl b (σ q))) = Sum.inr (ci, (fs.mapIdx (fvl b (σ q))).set k (.ref (b + r)))
  congr 2
  apply List.ext_getElem?
  intro j
  rw [List.getElem?_set, List.getElem?_mapIdx, List.getElem?_mapIdx, List.getElem?_set]
  by_cases hj : k = j
  · subst hj
    rw [if_pos rfl, if_pos rfl, if_pos hk, if_pos (by simpa using hk)]
    rfl
  · rw [if_neg hj, if_neg hj]
theorem wls_arr {b : Nat} {cI cZ : ClassId} {σ : SG} {ds : List CDs} {q k n : Nat} {z : Bool} {x : Int32} (hd : ds[q]? = some (.inr (z, n))) :
    (wls b cI cZ σ ds).set q (b + q, .inl (czI cI cZ z, n, .inl (upd (σ q) k x))) = wls b cI cZ (up σ q k x) ds := by
  refine wls_ext rfl (fun d' hd' => ?_) (fun i hi => ⟨rfl, by simp [up, hi]⟩)
  rw [hd] at hd'
  cases hd'
  show Sum.inl (czI cI cZ z, n, Sum.inl (up σ q k x q)) = _
  simp [up]
theorem wls_push (b : Nat) (cI cZ : ClassId) (σ : SG) (ds : List CDs) (d : CDs) :
    wls b cI cZ σ ds ++ [(b + ds.length, cel b cI cZ (fun _ => 0) d)] = wls b cI cZ (up0 σ ds.length) (ds ++ [d]) := by
  apply List.ext_getElem?
  intro i
  by_cases hi : i < ds.length
  · rw [List.getElem?_append_left (by simpa [wls] using hi)]
    simp only [wls, List.getElem?_mapIdx]
    rw [List.getElem?_append_left hi]
    simp [up0, Nat.ne_of_lt hi]
  · rw [List.getElem?_append_right (by simp [wls]; omega)]
    simp only [wls, List.getElem?_mapIdx, List.length_mapIdx]
    rw [List.getElem?_append_right (by omega)]
    by_cases h0 : i = ds.length
    · subst h0
      simp [up0]
    · have h1 : i - ds.length ≠ 0 := by omega
      obtain ⟨n, hn⟩ := Nat.exists_eq_succ_of_ne_zero h1
      rw [hn]
      simp
end
section
/-! steps: plain instructions, one and in stretches -/
def ex (ds : List CDs) (i : AI) (L : List (Option Value)) (st : List Value) (σ : SG) : Option (List (Option Value) × List Value × SG) :=
  match i.1 with
  | 0 => some (L, i.2.2.2 :: st, σ)
  | 1 => match L[i.2.1]? with
    | some (some (.int x)) => some (L, .int x :: st, σ)
    | _ => none
  | 2 => match L[i.2.1]? with
    | some (some (.ref x)) => some (L, .ref x :: st, σ)
    | some (some .null) => some (L, .null :: st, σ)
    | _ => none
  | 3 => match st with
    | .ref q :: r => match ds[q]? with
      | some (.inl o) => if o.1 = i.2.1 then (match o.2[i.2.2.1]? with
        | some none => some (L, .int (σ q i.2.2.1) :: r, σ)
        | some (some (some w)) => some (L, .ref w :: r, σ)
        | _ => none) else none
      | _ => none
    | _ => none
  | 4 => match st with
    | .int x :: r => match okst L i.2.1 with
      | true => some (L.set i.2.1 (some (.int x)), r, σ)
      | false => none
    | _ => none
  | 5 => match st with
    | .int y :: .int x :: r => some (L, .int (x + y) :: r, σ)
    | _ => none
  | 6 => match st with
    | .int y :: .int x :: r => some (L, .int (x - y) :: r, σ)
    | _ => none
  | 7 => match st with
    | .int y :: .int x :: r => some (L, .int (x * y) :: r, σ)
    | _ => none
  | 8 => match st with
    | .int y :: .int x :: r => some (L, .int (x &&& y) :: r, σ)
    | _ => none
  | 9 => match st with
    | .int x :: r => some (L, .int (-x) :: r, σ)
    | _ => none
  | 10 => match L[i.2.1]?, i.2.2.2 with
    | some (some (.int x)), .int n => match okst L i.2.1 with
      | true => some (L.set i.2.1 (some (.int (x + n))), st, σ)
      | false => none
    | _, _ => none
  | 11 => match st with
    | .int x :: r => some (L, .int x :: .int x :: r, σ)
    | .ref x :: r => some (L, .ref x :: .ref x :: r, σ)
    | _ => none
  | 12 => match st with
    | .int y :: .ref x :: r => some (L, .int y :: .ref x :: .int y :: .ref x :: r, σ)
    | _ => none
  | 13 => match st with
    | .int y :: .ref x :: r => some (L, .int y :: .ref x :: .int y :: r, σ)
    | _ => none
  | 14 => match st with
    | .int _ :: r => some (L, r, σ)
    | .ref _ :: r => some (L, r, σ)
    | _ => none
  | 15 => match st with
    | .int x :: .ref q :: r => match ds[q]? with
      | some (.inl o) => if o.1 = i.2.1 then (match o.2[i.2.2.1]? with
        | some none => some (L, r, up σ q i.2.2.1 x)
        | _ => none) else none
      | _ => none
    | _ => none
  | 16 => match st with
    | .int x :: .ref q :: r => match ds[q]? with
      | some (.inl o) => if o.1 = i.2.1 ∧ (x = 0 ∨ x = 1) then (match o.2[i.2.2.1]? with
        | some none => some (L, r, up σ q i.2.2.1 x)
        | _ => none) else none
      | _ => none
    | _ => none
  | 17 => match st with
    | .int x :: r => some (L, .long x.toInt64 :: r, σ)
    | _ => none
  | 18 => match st with
    | .long y :: .long x :: r => some (L, .long (x + y) :: r, σ)
    | _ => none
  | 19 => match st with
    | .long y :: .long x :: r => some (L, .long (x * y) :: r, σ)
    | _ => none
  | 20 => match L[i.2.1]? with
    | some (some (.long x)) => some (L, .long x :: st, σ)
    | _ => none
  | 21 => match st with
    | .long x :: r => match okst L i.2.1 with
      | true => some ((L.set i.2.1 (some (.long x))).set (i.2.1 + 1) none, r, σ)
      | false => none
    | _ => none
  | 22 => match st with
    | .ref x :: r => match okst L i.2.1 with
      | true => some (L.set i.2.1 (some (.ref x)), r, σ)
      | false => none
    | _ => none
  | 23 => some (L, st, σ)
  | _ => none
def ckV (oc idx : Nat) : Value → Bool
  | .int x => decide ((oc, idx, x) ∈ CKI)
  | .long x => decide ((oc, idx, x) ∈ CKL)
  | _ => false
def isIV : Value → Bool
  | .int _ => true
  | _ => false
def isLV : Value → Bool
  | .long _ => true
  | _ => false
def nx (oc nL : Nat) (code : ByteArray) (pc : Nat) (i : AI) : Option Nat :=
  match decode code pc with
  | .ok (.iconst n, 1) => if i = (0, 0, 0, .int (Int32.ofInt n)) then some (pc + 1) else none
  | .ok (.bipush n, 2) => if i = (0, 0, 0, .int (Int8.ofInt n).toInt32) then some (pc + 2) else none
  | .ok (.sipush n, 3) => if i = (0, 0, 0, .int (Int16.ofInt n).toInt32) then some (pc + 3) else none
  | .ok (.ldc idx, 2) => if i.1 = 0 ∧ ckV oc idx i.2.2.2 = true ∧ isIV i.2.2.2 = true then some (pc + 2) else none
  | .ok (.ldc2_w idx, 3) => if i.1 = 0 ∧ ckV oc idx i.2.2.2 = true ∧ isLV i.2.2.2 = true then some (pc + 3) else none
  | .ok (.iload_n k, 1) => if i = (1, k.val, 0, .null) then some (pc + 1) else none
  | .ok (.iload k, 2) => if i = (1, k, 0, .null) then some (pc + 2) else none
  | .ok (.aload_n k, 1) => if i = (2, k.val, 0, .null) then some (pc + 1) else none
  | .ok (.aload k, 2) => if i = (2, k, 0, .null) then some (pc + 2) else none
  | .ok (.lload_n k, 1) => if i = (20, k.val, 0, .null) then some (pc + 1) else none
  | .ok (.istore_n k, 1) => if i = (4, k.val, 0, .null) ∧ k.val < nL then some (pc + 1) else none
  | .ok (.istore k, 2) => if i = (4, k, 0, .null) ∧ k < nL then some (pc + 2) else none
  | .ok (.astore_n k, 1) => if i = (22, k.val, 0, .null) ∧ k.val < nL then some (pc + 1) else none
  | .ok (.lstore_n k, 1) => if i = (21, k.val, 0, .null) ∧ k.val + 1 < nL then some (pc + 1) else none
  | .ok (.iinc k n, 3) => if i = (10, k, 0, .int (Int32.ofInt n)) ∧ k < nL then some (pc + 3) else none
  | .ok (.iadd, 1) => if i.1 = 5 then some (pc + 1) else none
  | .ok (.isub, 1) => if i.1 = 6 then some (pc + 1) else none
  | .ok (.imul, 1) => if i.1 = 7 then some (pc + 1) else none
  | .ok (.iand, 1) => if i.1 = 8 then some (pc + 1) else none
  | .ok (.ineg, 1) => if i.1 = 9 then some (pc + 1) else none
  | .ok (.dup, 1) => if i.1 = 11 then some (pc + 1) else none
  | .ok (.dup2, 1) => if i.1 = 12 then some (pc + 1) else none
  | .ok (.dup_x1, 1) => if i.1 = 13 then some (pc + 1) else none
  | .ok (.pop, 1) => if i.1 = 14 then some (pc + 1) else none
  | .ok (.getfield idx, 3) => if i.1 = 3 ∧ (oc, idx, i.2.1, i.2.2.1) ∈ FLK then some (pc + 3) else none
  | .ok (.putfield idx, 3) => if ((i.1 = 15 ∧ parseFieldDescriptor (cT i.2.1 i.2.2.1).2.2.1 = some .int) ∨ (i.1 = 16 ∧ parseFieldDescriptor (cT i.2.1 i.2.2.1).2.2.1 = some .boolean)) ∧ (oc, idx, i.2.1, i.2.2.1) ∈ FLK ∧ (cT i.2.1 i.2.2.1).2.2.2 = false then some (pc + 3) else none
  | .ok (.i2l, 1) => if i.1 = 17 then some (pc + 1) else none
  | .ok (.ladd, 1) => if i.1 = 18 then some (pc + 1) else none
  | .ok (.lmul, 1) => if i.1 = 19 then some (pc + 1) else none
  | .ok (.goto off, 3) => if i.1 = 23 ∧ 0 ≤ (pc : Int) + off then some ((pc : Int) + off).toNat else none
  | _ => none
def nxs (oc nL : Nat) (code : ByteArray) : Nat → List AI → Option Nat
  | pc, [] => some pc
  | pc, i :: r => match nx oc nL code pc i with
    | some pc' => nxs oc nL code pc' r
    | none => none
def exs (ds : List CDs) : List AI → List (Option Value) → List Value → SG → Option (List (Option Value) × List Value × SG)
  | [], L, st, σ => some (L, st, σ)
  | i :: r, L, st, σ => match ex ds i L st σ with
    | some S => exs ds r S.1 S.2.1 S.2.2
    | none => none
section RJ1
variable {b sc : Nat} {dC : Nat → ClassId} {dI : Nat → Nat → Nat} {cI cZ : ClassId} {nL oc : Nat} {bytes : ByteArray} {p : Program} {l : Launch} {e : Env} {R : Room} {s : State} {m : MethodId} {args : Array Value} {below : List Frame} {meth : Method} {c : Code} {cells slots : Nat} {Q : State → Prop} {pc pc' : Nat} {L L' : List (Option Value)} {st st' : List Value} {ds : List CDs} {σ σ' : SG}
theorem RJ.put (hC : CX b dC dI cI cZ (cn oc) bytes nL p s m args c) {idx ci k q : Nat} {ty : FieldType} {x : Int32} {fs : List FDs} (hdg : decode bytes pc = .ok (.putfield idx, 3)) (hf : (oc, idx, ci, k) ∈ FLK) (hnf : (cT ci k).2.2.2 = false) (hty : parseFieldDescriptor (cT ci k).2.2.1 = some ty)
    (hn : narrow ty (.int x) = .int x) (hfit : fits ty (.int x) = true) (hd : ds[q]? = some (.inl (ci, fs))) (hfk : fs[k]? = some none)
    (K : RJ b sc dC dI cI cZ nL p l e R s m args below meth c cells slots Q (pc + 3) L st ds (up σ q k x)) : RJ b sc dC dI cI cZ nL p l e R s m args below meth c cells slots Q pc L (.int x :: .ref q :: st) ds σ := by
  obtain ⟨hx, hb, hml, hown, hts, hK, hbs, hnw⟩ := hC
  intro H locs ls hW hS hl
  obtain ⟨hz, hP⟩ := hW
  obtain ⟨h1, h13, hkN, hsame⟩ := FLK_ok hf
  have hcq := cq_in ci h13
  have hin := ws_in ci h13
  have hap := va_apart (own := cn oc) hts hin (cty ci) (cty_ok ci h13) (cnm_ok ci h13) hK hcq
  have hwq := wls_at (b := b) (cI := cI) (cZ := cZ) (σ := σ) hd
  obtain ⟨r, h2, cell, q1, q2, q3, q4⟩ := hP q _ hwq
  have hr : r = (cn ci, cT ci, cN ci) := Option.some.inj (h2.symm.trans hcq)
  subst hr
  obtain ⟨hSl, hfc, kC, hkC, hkind⟩ := hK.1 ci _ hcq
  obtain ⟨cf, kf, fi, f, hi, hsl⟩ := hSl k hkN
  have hlay := hts _ (hin _ (u_in_lay hkN))
  unfold u_lay at hlay
  rw [if_neg (by rw [hnf]; decide)] at hlay
  have hstt := (u_facts hfc hkC (u_lays hts hin hkN) hi).1
  have h6 := u_store hfc hkC hkind hlay hi hty hn hfit
  refine W.putK hx hb (f := f) ⟨hown, hts _ h1, ⟨cf, kf, fi, by rw [← hsame]; exact hi⟩, hstt⟩ (by rw [q2]; exact h6) q1 q3 (by rw [hsl]; exact k2_hasslot (q4 k hkN)) rfl rfl hdg fun H' e1 e2 e3 => ?_
  rw [hsl] at e1 ⊢
  have hlen : k < (fs.mapIdx (fvl b (σ q))).length := by simpa using (List.getElem?_eq_some_iff.mp hfk).1
  refine K H' _ ls ⟨e2.trans hz, ?_⟩ (hS.put e2 e3 (Nat.le_add_right b q)) hl
  rw [← wls_put hd hfk]
  exact hP.set (wls_D b cI cZ σ ds) hwq ⟨_, hcq, t_OB.to (V := updV (vp_V (fs.mapIdx (fvl b (σ q)))) k (.int x)) ⟨_, e1, q2, q3, t_set q4 hap hkN _⟩ (fun j _ => vp_updV_set hlen _ j)⟩ e3
theorem RJ.ex1 (hC : CX b dC dI cI cZ (cn oc) bytes nL p s m args c) {i : AI} (hk : nx oc nL bytes pc i = some pc') (he : ex ds i L st σ = some (L', st', σ'))
    (K : RJ b sc dC dI cI cZ nL p l e R s m args below meth c cells slots Q pc' L' st' ds σ') : RJ b sc dC dI cI cZ nL p l e R s m args below meth c cells slots Q pc L st ds σ := by
  obtain ⟨hx, hb, hml, hown, hts, hK, hbs, hnw⟩ := id hC
  obtain ⟨op, a, k, v⟩ := i
  unfold nx at hk
  split at hk
  · rename_i n hd
    split at hk
    rotate_left
    · cases hk
    rename_i h
    cases h; cases hk
    simp only [ex] at he; cases he
    exact fun H locs ls hW hS hl => lv_iconst hx hb hd rfl (K H locs ls hW hS hl)
  · rename_i n hd
    split at hk
    rotate_left
    · cases hk
    rename_i h
    cases h; cases hk
    simp only [ex] at he; cases he
    exact fun H locs ls hW hS hl => lv_bipush hx hb hd rfl (K H locs ls hW hS hl)
  · rename_i n hd
    split at hk
    rotate_left
    · cases hk
    rename_i h
    cases h; cases hk
    simp only [ex] at he; cases he
    exact fun H locs ls hW hS hl => lv_sipush hx hb hd rfl (K H locs ls hW hS hl)
  · rename_i idx hd
    split at hk
    rotate_left
    · cases hk
    rename_i h
    obtain ⟨h1, h2, h3⟩ := h
    cases hk
    dsimp only at h1 h2 h3
    subst h1
    cases v <;> first | (cases h3; done) | skip
    simp only [ex] at he; cases he
    exact fun H locs ls hW hS hl => lv_ldc hx hb hown (hts _ (CKI_ok _ (of_decide_eq_true h2))) hd (K H locs ls hW hS hl)
  · rename_i idx hd
    split at hk
    rotate_left
    · cases hk
    rename_i h
    obtain ⟨h1, h2, h3⟩ := h
    cases hk
    dsimp only at h1 h2 h3
    subst h1
    cases v <;> first | (cases h3; done) | skip
    simp only [ex] at he; cases he
    exact fun H locs ls hW hS hl => lv_ldc2 hx hb hown (hts _ (CKL_ok _ (of_decide_eq_true h2))) hd (K H locs ls hW hS hl)
  · rename_i kk hd
    split at hk
    rotate_left
    · cases hk
    rename_i h
    cases h; cases hk
    simp only [ex] at he
    split at he
    rotate_left
    · cases he
    rename_i hL
    cases he
    exact fun H locs ls hW hS hl => lv_iload_n hx hb hd rfl (lc_get hl hL) (K H locs ls hW hS hl)
  · rename_i kk hd
    split at hk
    rotate_left
    · cases hk
    rename_i h
    cases h; cases hk
    simp only [ex] at he
    split at he
    rotate_left
    · cases he
    rename_i hL
    cases he
    exact fun H locs ls hW hS hl => lv_iload hx hb hd (lc_get hl hL) (K H locs ls hW hS hl)
  · rename_i kk hd
    split at hk
    rotate_left
    · cases hk
    rename_i h
    cases h; cases hk
    simp only [ex] at he
    split at he
    · rename_i hL
      cases he
      exact fun H locs ls hW hS hl => lv_aload_n hx hb hd rfl (lc_get hl hL) (K H locs ls hW hS hl)
    · rename_i hL
      cases he
      exact fun H locs ls hW hS hl => lv_aload_n hx hb hd rfl (lc_get hl hL) (K H locs ls hW hS hl)
    · cases he
  · rename_i kk hd
    split at hk
    rotate_left
    · cases hk
    rename_i h
    cases h; cases hk
    simp only [ex] at he
    split at he
    · rename_i hL
      cases he
      exact fun H locs ls hW hS hl => lv_aload hx hb hd (lc_get hl hL) (K H locs ls hW hS hl)
    · rename_i hL
      cases he
      exact fun H locs ls hW hS hl => lv_aload hx hb hd (lc_get hl hL) (K H locs ls hW hS hl)
    · cases he
  · rename_i kk hd
    split at hk
    rotate_left
    · cases hk
    rename_i h
    cases h; cases hk
    simp only [ex] at he
    split at he
    rotate_left
    · cases he
    rename_i hL
    cases he
    exact fun H locs ls hW hS hl => lv_lload_n hx hb hd rfl (lc_get hl hL) (K H locs ls hW hS hl)
  · rename_i kk hd
    split at hk
    rotate_left
    · cases hk
    rename_i h
    obtain ⟨h, hlt⟩ := h
    cases h; cases hk
    simp only [ex] at he
    split at he
    rotate_left
    · cases he
    split at he
    rotate_left
    · cases he
    rename_i ho
    cases he
    exact fun H locs ls hW hS hl => lv_istore_n hx hb hd rfl hl hlt rfl (fun ls' hl' => K H locs ls' hW hS (lc_set ho hl'))
  · rename_i kk hd
    split at hk
    rotate_left
    · cases hk
    rename_i h
    obtain ⟨h, hlt⟩ := h
    cases h; cases hk
    simp only [ex] at he
    split at he
    rotate_left
    · cases he
    split at he
    rotate_left
    · cases he
    rename_i ho
    cases he
    exact fun H locs ls hW hS hl => lv_istore hx hb hd hl hlt rfl (fun ls' hl' => K H locs ls' hW hS (lc_set ho hl'))
  · rename_i kk hd
    split at hk
    rotate_left
    · cases hk
    rename_i h
    obtain ⟨h, hlt⟩ := h
    cases h; cases hk
    simp only [ex] at he
    split at he
    rotate_left
    · cases he
    split at he
    rotate_left
    · cases he
    rename_i ho
    cases he
    exact fun H locs ls hW hS hl => lv_astore_n hx hb hd rfl hl hlt rfl (fun ls' hl' => K H locs ls' hW hS (lc_set ho hl'))
  · rename_i kk hd
    split at hk
    rotate_left
    · cases hk
    rename_i h
    obtain ⟨h, hlt⟩ := h
    cases h; cases hk
    simp only [ex] at he
    split at he
    rotate_left
    · cases he
    split at he
    rotate_left
    · cases he
    rename_i ho
    cases he
    exact fun H locs ls hW hS hl => lv_lstore_n hx hb hd rfl hl hlt rfl (fun ls' hl' => K H locs ls' hW hS (lc_setL ho hl'))
  · rename_i kk n hd
    split at hk
    rotate_left
    · cases hk
    rename_i h
    obtain ⟨h, hlt⟩ := h
    cases h; cases hk
    simp only [ex] at he
    split at he
    rotate_left
    · cases he
    rename_i hL hv
    split at he
    rotate_left
    · cases he
    rename_i ho
    cases he
    cases hv
    intro H locs ls hW hS hl
    obtain ⟨j, hj⟩ := List.getElem?_of_mem ((lc_mem b sc L 0 _ _).mpr ⟨_, _, (Nat.zero_add _).symm, hL, rfl⟩)
    exact lv_iinc hx hb hd hl hj rfl hlt rfl (fun ls' hl' => K H locs ls' hW hS (lc_set ho hl'))
  · rename_i hd
    split at hk
    rotate_left
    · cases hk
    rename_i h
    cases hk
    dsimp only at h
    subst h
    simp only [ex] at he
    split at he
    rotate_left
    · cases he
    cases he
    exact fun H locs ls hW hS hl => lv_iadd hx hb hd (K H locs ls hW hS hl)
  · rename_i hd
    split at hk
    rotate_left
    · cases hk
    rename_i h
    cases hk
    dsimp only at h
    subst h
    simp only [ex] at he
    split at he
    rotate_left
    · cases he
    cases he
    exact fun H locs ls hW hS hl => lv_isub hx hb hd (K H locs ls hW hS hl)
  · rename_i hd
    split at hk
    rotate_left
    · cases hk
    rename_i h
    cases hk
    dsimp only at h
    subst h
    simp only [ex] at he
    split at he
    rotate_left
    · cases he
    cases he
    exact fun H locs ls hW hS hl => lv_imul hx hb hd (K H locs ls hW hS hl)
  · rename_i hd
    split at hk
    rotate_left
    · cases hk
    rename_i h
    cases hk
    dsimp only at h
    subst h
    simp only [ex] at he
    split at he
    rotate_left
    · cases he
    cases he
    exact fun H locs ls hW hS hl => lv_iand hx hb hd (K H locs ls hW hS hl)
  · rename_i hd
    split at hk
    rotate_left
    · cases hk
    rename_i h
    cases hk
    dsimp only at h
    subst h
    simp only [ex] at he
    split at he
    rotate_left
    · cases he
    cases he
    exact fun H locs ls hW hS hl => lv_ineg hx hb hd (K H locs ls hW hS hl)
  · rename_i hd
    split at hk
    rotate_left
    · cases hk
    rename_i h
    cases hk
    dsimp only at h
    subst h
    simp only [ex] at he
    split at he
    · cases he
      exact fun H locs ls hW hS hl => lv_dup hx hb hd rfl (K H locs ls hW hS hl)
    · cases he
      exact fun H locs ls hW hS hl => lv_dup hx hb hd rfl (K H locs ls hW hS hl)
    · cases he
  · rename_i hd
    split at hk
    rotate_left
    · cases hk
    rename_i h
    cases hk
    dsimp only at h
    subst h
    simp only [ex] at he
    split at he
    rotate_left
    · cases he
    cases he
    exact fun H locs ls hW hS hl => lv_dup2_11 hx hb hd rfl rfl (K H locs ls hW hS hl)
  · rename_i hd
    split at hk
    rotate_left
    · cases hk
    rename_i h
    cases hk
    dsimp only at h
    subst h
    simp only [ex] at he
    split at he
    rotate_left
    · cases he
    cases he
    exact fun H locs ls hW hS hl => lv_dup_x1 hx hb hd rfl rfl (K H locs ls hW hS hl)
  · rename_i hd
    split at hk
    rotate_left
    · cases hk
    rename_i h
    cases hk
    dsimp only at h
    subst h
    simp only [ex] at he
    split at he
    · cases he
      exact fun H locs ls hW hS hl => lv_pop hx hb hd rfl (K H locs ls hW hS hl)
    · cases he
      exact fun H locs ls hW hS hl => lv_pop hx hb hd rfl (K H locs ls hW hS hl)
    · cases he
  · rename_i idx hd
    split at hk
    rotate_left
    · cases hk
    rename_i h
    cases hk
    obtain ⟨h, hf⟩ := h
    dsimp only at h hf
    subst h
    simp only [ex] at he
    split at he
    rotate_left
    · cases he
    rename_i q r
    split at he
    rotate_left
    · cases he
    rename_i o hq
    split at he
    rotate_left
    · cases he
    rename_i hci
    obtain ⟨ci, fs⟩ := o
    dsimp only at hci he
    subst hci
    obtain ⟨h1, h13, hkN, hsame⟩ := FLK_ok hf
    split at he
    · rename_i hfk
      cases he
      intro H locs ls hW hS hl
      exact va_get (D := (dC, dI)) hx hb hts (ws_in _ h13) hown hK hW.2 q (wls_at hq) (cq_in _ h13) k hkN (hts _ h1) (fun z hz => by rw [← hsame]; exact hz) (v := .int (σ q k)) (by simp [List.getElem?_mapIdx, hfk, fvl]) hd (K H locs ls hW hS hl)
    · rename_i w hfk
      cases he
      intro H locs ls hW hS hl
      exact va_get (D := (dC, dI)) hx hb hts (ws_in _ h13) hown hK hW.2 q (wls_at hq) (cq_in _ h13) k hkN (hts _ h1) (fun z hz => by rw [← hsame]; exact hz) (v := .ref (b + w)) (by simp [List.getElem?_mapIdx, hfk, fvl]) hd (K H locs ls hW hS hl)
    · cases he
  · rename_i idx hd
    split at hk
    rotate_left
    · cases hk
    rename_i h
    cases hk
    obtain ⟨h, hf, hnf⟩ := h
    dsimp only at h hf hnf
    rcases h with ⟨h, hty⟩ | ⟨h, hty⟩
    · subst h
      simp only [ex] at he
      split at he
      rotate_left
      · cases he
      rename_i x q r
      split at he
      rotate_left
      · cases he
      rename_i o hq
      split at he
      rotate_left
      · cases he
      rename_i hci
      obtain ⟨ci, fs⟩ := o
      dsimp only at hci he
      subst hci
      split at he
      rotate_left
      · cases he
      rename_i hfk
      cases he
      exact RJ.put hC hd hf hnf hty rfl rfl hq hfk K
    · subst h
      simp only [ex] at he
      split at he
      rotate_left
      · cases he
      rename_i x q r
      split at he
      rotate_left
      · cases he
      rename_i o hq
      split at he
      rotate_left
      · cases he
      rename_i hci
      obtain ⟨ci, fs⟩ := o
      obtain ⟨hci, hx01⟩ := hci
      dsimp only at hci he
      subst hci
      split at he
      rotate_left
      · cases he
      rename_i hfk
      cases he
      exact RJ.put hC hd hf hnf hty (by rcases hx01 with rfl | rfl <;> rfl) (by rcases hx01 with rfl | rfl <;> rfl) hq hfk K
  · rename_i hd
    split at hk
    rotate_left
    · cases hk
    rename_i h
    cases hk
    dsimp only at h
    subst h
    simp only [ex] at he
    split at he
    rotate_left
    · cases he
    cases he
    exact fun H locs ls hW hS hl => lv_i2l hx hb hd rfl (K H locs ls hW hS hl)
  · rename_i hd
    split at hk
    rotate_left
    · cases hk
    rename_i h
    cases hk
    dsimp only at h
    subst h
    simp only [ex] at he
    split at he
    rotate_left
    · cases he
    cases he
    exact fun H locs ls hW hS hl => lv_ladd hx hb hd (K H locs ls hW hS hl)
  · rename_i hd
    split at hk
    rotate_left
    · cases hk
    rename_i h
    cases hk
    dsimp only at h
    subst h
    simp only [ex] at he
    split at he
    rotate_left
    · cases he
    cases he
    exact fun H locs ls hW hS hl => lv_lmul hx hb hd (K H locs ls hW hS hl)
  · rename_i off hd
    split at hk
    rotate_left
    · cases hk
    rename_i h
    cases hk
    obtain ⟨h, ho⟩ := h
    dsimp only at h
    subst h
    simp only [ex] at he
    cases he
    exact fun H locs ls hW hS hl => lv_goto hx hb hd (by omega) (K H locs ls hW hS hl)
  · cases hk
theorem RJ.blk (hC : CX b dC dI cI cZ (cn oc) bytes nL p s m args c) : ∀ (is : List AI) {pc : Nat} {L : List (Option Value)} {st : List Value} {σ : SG}, nxs oc nL bytes pc is = some pc' → exs ds is L st σ = some (L', st', σ') →
    RJ b sc dC dI cI cZ nL p l e R s m args below meth c cells slots Q pc' L' st' ds σ' → RJ b sc dC dI cI cZ nL p l e R s m args below meth c cells slots Q pc L st ds σ
  | [], pc, L, st, σ, hk, he, K => by
    simp only [nxs] at hk
    simp only [exs] at he
    cases hk; cases he
    exact K
  | i :: r, pc, L, st, σ, hk, he, K => by
    simp only [nxs] at hk
    simp only [exs] at he
    split at hk
    rotate_left
    · cases hk
    rename_i pc1 h1
    split at he
    rotate_left
    · cases he
    rename_i S h2
    obtain ⟨L1, st1, σ1⟩ := S
    exact RJ.ex1 hC h1 h2 (RJ.blk hC r hk he K)
end RJ1
end
section
/-! rules: branches, arrays, division, calls, returns, making, entry -/
def brc (bytes : ByteArray) (pc : Nat) : Option (Nat × Nat) :=
  match decode bytes pc with
  | .ok (.ifCond cd off, 3) => if 0 ≤ (pc : Int) + off then some ((match cd with | .eq => 0 | .ne => 1 | .lt => 2 | .ge => 3 | .gt => 4 | .le => 5), ((pc : Int) + off).toNat) else none
  | .ok (.if_icmp cd off, 3) => if 0 ≤ (pc : Int) + off then some ((match cd with | .eq => 6 | .ne => 7 | .lt => 8 | .ge => 9 | .gt => 10 | .le => 11), ((pc : Int) + off).toNat) else none
  | _ => none
theorem brc_0 {bytes : ByteArray} {pc tgt : Nat} (h : brc bytes pc = some (0, tgt)) : ∃ off : Int, decode bytes pc = .ok (.ifCond .eq off, 3) ∧ (pc : Int) + off = (tgt : Int) := by
  unfold brc at h
  split at h
  · rename_i cd off hd
    split at h
    · rename_i h0
      cases cd <;> (simp only [Option.some.injEq, Prod.mk.injEq] at h; first | (exact absurd h.1 (by decide)) | exact ⟨off, hd, by omega⟩)
    · cases h
  · rename_i cd off hd
    split at h
    · rename_i h0
      cases cd <;> (simp only [Option.some.injEq, Prod.mk.injEq] at h; first | (exact absurd h.1 (by decide)) | exact ⟨off, hd, by omega⟩)
    · cases h
  · cases h
theorem brc_6 {bytes : ByteArray} {pc tgt : Nat} (h : brc bytes pc = some (6, tgt)) : ∃ off : Int, decode bytes pc = .ok (.if_icmp .eq off, 3) ∧ (pc : Int) + off = (tgt : Int) := by
  unfold brc at h
  split at h
  · rename_i cd off hd
    split at h
    · rename_i h0
      cases cd <;> (simp only [Option.some.injEq, Prod.mk.injEq] at h; first | (exact absurd h.1 (by decide)) | exact ⟨off, hd, by omega⟩)
    · cases h
  · rename_i cd off hd
    split at h
    · rename_i h0
      cases cd <;> (simp only [Option.some.injEq, Prod.mk.injEq] at h; first | (exact absurd h.1 (by decide)) | exact ⟨off, hd, by omega⟩)
    · cases h
  · cases h
theorem brc_1 {bytes : ByteArray} {pc tgt : Nat} (h : brc bytes pc = some (1, tgt)) : ∃ off : Int, decode bytes pc = .ok (.ifCond .ne off, 3) ∧ (pc : Int) + off = (tgt : Int) := by
  unfold brc at h
  split at h
  · rename_i cd off hd
    split at h
    · rename_i h0
      cases cd <;> (simp only [Option.some.injEq, Prod.mk.injEq] at h; first | (exact absurd h.1 (by decide)) | exact ⟨off, hd, by omega⟩)
    · cases h
  · rename_i cd off hd
    split at h
    · rename_i h0
      cases cd <;> (simp only [Option.some.injEq, Prod.mk.injEq] at h; first | (exact absurd h.1 (by decide)) | exact ⟨off, hd, by omega⟩)
    · cases h
  · cases h
theorem brc_7 {bytes : ByteArray} {pc tgt : Nat} (h : brc bytes pc = some (7, tgt)) : ∃ off : Int, decode bytes pc = .ok (.if_icmp .ne off, 3) ∧ (pc : Int) + off = (tgt : Int) := by
  unfold brc at h
  split at h
  · rename_i cd off hd
    split at h
    · rename_i h0
      cases cd <;> (simp only [Option.some.injEq, Prod.mk.injEq] at h; first | (exact absurd h.1 (by decide)) | exact ⟨off, hd, by omega⟩)
    · cases h
  · rename_i cd off hd
    split at h
    · rename_i h0
      cases cd <;> (simp only [Option.some.injEq, Prod.mk.injEq] at h; first | (exact absurd h.1 (by decide)) | exact ⟨off, hd, by omega⟩)
    · cases h
  · cases h
theorem brc_2 {bytes : ByteArray} {pc tgt : Nat} (h : brc bytes pc = some (2, tgt)) : ∃ off : Int, decode bytes pc = .ok (.ifCond .lt off, 3) ∧ (pc : Int) + off = (tgt : Int) := by
  unfold brc at h
  split at h
  · rename_i cd off hd
    split at h
    · rename_i h0
      cases cd <;> (simp only [Option.some.injEq, Prod.mk.injEq] at h; first | (exact absurd h.1 (by decide)) | exact ⟨off, hd, by omega⟩)
    · cases h
  · rename_i cd off hd
    split at h
    · rename_i h0
      cases cd <;> (simp only [Option.some.injEq, Prod.mk.injEq] at h; first | (exact absurd h.1 (by decide)) | exact ⟨off, hd, by omega⟩)
    · cases h
  · cases h
theorem brc_8 {bytes : ByteArray} {pc tgt : Nat} (h : brc bytes pc = some (8, tgt)) : ∃ off : Int, decode bytes pc = .ok (.if_icmp .lt off, 3) ∧ (pc : Int) + off = (tgt : Int) := by
  unfold brc at h
  split at h
  · rename_i cd off hd
    split at h
    · rename_i h0
      cases cd <;> (simp only [Option.some.injEq, Prod.mk.injEq] at h; first | (exact absurd h.1 (by decide)) | exact ⟨off, hd, by omega⟩)
    · cases h
  · rename_i cd off hd
    split at h
    · rename_i h0
      cases cd <;> (simp only [Option.some.injEq, Prod.mk.injEq] at h; first | (exact absurd h.1 (by decide)) | exact ⟨off, hd, by omega⟩)
    · cases h
  · cases h
theorem brc_3 {bytes : ByteArray} {pc tgt : Nat} (h : brc bytes pc = some (3, tgt)) : ∃ off : Int, decode bytes pc = .ok (.ifCond .ge off, 3) ∧ (pc : Int) + off = (tgt : Int) := by
  unfold brc at h
  split at h
  · rename_i cd off hd
    split at h
    · rename_i h0
      cases cd <;> (simp only [Option.some.injEq, Prod.mk.injEq] at h; first | (exact absurd h.1 (by decide)) | exact ⟨off, hd, by omega⟩)
    · cases h
  · rename_i cd off hd
    split at h
    · rename_i h0
      cases cd <;> (simp only [Option.some.injEq, Prod.mk.injEq] at h; first | (exact absurd h.1 (by decide)) | exact ⟨off, hd, by omega⟩)
    · cases h
  · cases h
theorem brc_9 {bytes : ByteArray} {pc tgt : Nat} (h : brc bytes pc = some (9, tgt)) : ∃ off : Int, decode bytes pc = .ok (.if_icmp .ge off, 3) ∧ (pc : Int) + off = (tgt : Int) := by
  unfold brc at h
  split at h
  · rename_i cd off hd
    split at h
    · rename_i h0
      cases cd <;> (simp only [Option.some.injEq, Prod.mk.injEq] at h; first | (exact absurd h.1 (by decide)) | exact ⟨off, hd, by omega⟩)
    · cases h
  · rename_i cd off hd
    split at h
    · rename_i h0
      cases cd <;> (simp only [Option.some.injEq, Prod.mk.injEq] at h; first | (exact absurd h.1 (by decide)) | exact ⟨off, hd, by omega⟩)
    · cases h
  · cases h
theorem brc_4 {bytes : ByteArray} {pc tgt : Nat} (h : brc bytes pc = some (4, tgt)) : ∃ off : Int, decode bytes pc = .ok (.ifCond .gt off, 3) ∧ (pc : Int) + off = (tgt : Int) := by
  unfold brc at h
  split at h
  · rename_i cd off hd
    split at h
    · rename_i h0
      cases cd <;> (simp only [Option.some.injEq, Prod.mk.injEq] at h; first | (exact absurd h.1 (by decide)) | exact ⟨off, hd, by omega⟩)
    · cases h
  · rename_i cd off hd
    split at h
    · rename_i h0
      cases cd <;> (simp only [Option.some.injEq, Prod.mk.injEq] at h; first | (exact absurd h.1 (by decide)) | exact ⟨off, hd, by omega⟩)
    · cases h
  · cases h
theorem brc_10 {bytes : ByteArray} {pc tgt : Nat} (h : brc bytes pc = some (10, tgt)) : ∃ off : Int, decode bytes pc = .ok (.if_icmp .gt off, 3) ∧ (pc : Int) + off = (tgt : Int) := by
  unfold brc at h
  split at h
  · rename_i cd off hd
    split at h
    · rename_i h0
      cases cd <;> (simp only [Option.some.injEq, Prod.mk.injEq] at h; first | (exact absurd h.1 (by decide)) | exact ⟨off, hd, by omega⟩)
    · cases h
  · rename_i cd off hd
    split at h
    · rename_i h0
      cases cd <;> (simp only [Option.some.injEq, Prod.mk.injEq] at h; first | (exact absurd h.1 (by decide)) | exact ⟨off, hd, by omega⟩)
    · cases h
  · cases h
theorem brc_5 {bytes : ByteArray} {pc tgt : Nat} (h : brc bytes pc = some (5, tgt)) : ∃ off : Int, decode bytes pc = .ok (.ifCond .le off, 3) ∧ (pc : Int) + off = (tgt : Int) := by
  unfold brc at h
  split at h
  · rename_i cd off hd
    split at h
    · rename_i h0
      cases cd <;> (simp only [Option.some.injEq, Prod.mk.injEq] at h; first | (exact absurd h.1 (by decide)) | exact ⟨off, hd, by omega⟩)
    · cases h
  · rename_i cd off hd
    split at h
    · rename_i h0
      cases cd <;> (simp only [Option.some.injEq, Prod.mk.injEq] at h; first | (exact absurd h.1 (by decide)) | exact ⟨off, hd, by omega⟩)
    · cases h
  · cases h
theorem brc_11 {bytes : ByteArray} {pc tgt : Nat} (h : brc bytes pc = some (11, tgt)) : ∃ off : Int, decode bytes pc = .ok (.if_icmp .le off, 3) ∧ (pc : Int) + off = (tgt : Int) := by
  unfold brc at h
  split at h
  · rename_i cd off hd
    split at h
    · rename_i h0
      cases cd <;> (simp only [Option.some.injEq, Prod.mk.injEq] at h; first | (exact absurd h.1 (by decide)) | exact ⟨off, hd, by omega⟩)
    · cases h
  · rename_i cd off hd
    split at h
    · rename_i h0
      cases cd <;> (simp only [Option.some.injEq, Prod.mk.injEq] at h; first | (exact absurd h.1 (by decide)) | exact ⟨off, hd, by omega⟩)
    · cases h
  · cases h
def bI (z : Bool) : Int32 := match z with
  | true => 1
  | false => 0
theorem bI_0 (z : Bool) : bI z = 0 ↔ z = false := by cases z <;> simp [bI]
theorem bI_n (z : Bool) : ¬ bI z = 0 ↔ z = true := by cases z <;> simp [bI]
theorem bI_nar (z : Bool) : narrow .boolean (.int (bI z)) = .int (bI z) := by cases z <;> rfl
theorem bI_nar2 (z : Bool) : vp_nar .boolean (bI z) = bI z := by cases z <;> rfl
def ix (x : Int32) : Nat := x.toNatClampNeg
section RJ2
variable {b sc : Nat} {dC : Nat → ClassId} {dI : Nat → Nat → Nat} {cI cZ : ClassId} {nL oc : Nat} {bytes : ByteArray} {p : Program} {l : Launch} {e : Env} {R : Room} {s : State} {m : MethodId} {args : Array Value} {below : List Frame} {meth : Method} {c : Code} {cells slots : Nat} {Q : State → Prop} {pc pc' : Nat} {L L' : List (Option Value)} {st st' : List Value} {ds ds' : List CDs} {σ σ' : SG}
theorem RJ.if_eq (hC : CX b dC dI cI cZ (cn oc) bytes nL p s m args c) {x : Int32} {tgt : Nat} (hb : brc bytes pc = some (0, tgt)) (kt : x = 0 → RJ b sc dC dI cI cZ nL p l e R s m args below meth c cells slots Q tgt L st ds σ) (kf : ¬ x = 0 → RJ b sc dC dI cI cZ nL p l e R s m args below meth c cells slots Q (pc + 3) L st ds σ) : RJ b sc dC dI cI cZ nL p l e R s m args below meth c cells slots Q pc L (.int x :: st) ds σ := by
  obtain ⟨off, hd, ht⟩ := brc_0 hb
  exact fun H locs ls hW hS hl => lv_if_eq hC.1 hC.2.1 hd ht (fun h => kt h H locs ls hW hS hl) (fun h => kf h H locs ls hW hS hl)
theorem RJ.icmp_eq (hC : CX b dC dI cI cZ (cn oc) bytes nL p s m args c) {x y : Int32} {tgt : Nat} (hb : brc bytes pc = some (6, tgt)) (kt : x = y → RJ b sc dC dI cI cZ nL p l e R s m args below meth c cells slots Q tgt L st ds σ) (kf : ¬ x = y → RJ b sc dC dI cI cZ nL p l e R s m args below meth c cells slots Q (pc + 3) L st ds σ) : RJ b sc dC dI cI cZ nL p l e R s m args below meth c cells slots Q pc L (.int y :: .int x :: st) ds σ := by
  obtain ⟨off, hd, ht⟩ := brc_6 hb
  exact fun H locs ls hW hS hl => lv_icmp_eq hC.1 hC.2.1 hd ht (fun h => kt h H locs ls hW hS hl) (fun h => kf h H locs ls hW hS hl)
theorem RJ.if_ne (hC : CX b dC dI cI cZ (cn oc) bytes nL p s m args c) {x : Int32} {tgt : Nat} (hb : brc bytes pc = some (1, tgt)) (kt : ¬ x = 0 → RJ b sc dC dI cI cZ nL p l e R s m args below meth c cells slots Q tgt L st ds σ) (kf : x = 0 → RJ b sc dC dI cI cZ nL p l e R s m args below meth c cells slots Q (pc + 3) L st ds σ) : RJ b sc dC dI cI cZ nL p l e R s m args below meth c cells slots Q pc L (.int x :: st) ds σ := by
  obtain ⟨off, hd, ht⟩ := brc_1 hb
  exact fun H locs ls hW hS hl => lv_if_ne hC.1 hC.2.1 hd ht (fun h => kt h H locs ls hW hS hl) (fun h => kf h H locs ls hW hS hl)
theorem RJ.icmp_ne (hC : CX b dC dI cI cZ (cn oc) bytes nL p s m args c) {x y : Int32} {tgt : Nat} (hb : brc bytes pc = some (7, tgt)) (kt : ¬ x = y → RJ b sc dC dI cI cZ nL p l e R s m args below meth c cells slots Q tgt L st ds σ) (kf : x = y → RJ b sc dC dI cI cZ nL p l e R s m args below meth c cells slots Q (pc + 3) L st ds σ) : RJ b sc dC dI cI cZ nL p l e R s m args below meth c cells slots Q pc L (.int y :: .int x :: st) ds σ := by
  obtain ⟨off, hd, ht⟩ := brc_7 hb
  exact fun H locs ls hW hS hl => lv_icmp_ne hC.1 hC.2.1 hd ht (fun h => kt h H locs ls hW hS hl) (fun h => kf h H locs ls hW hS hl)
theorem RJ.if_lt (hC : CX b dC dI cI cZ (cn oc) bytes nL p s m args c) {x : Int32} {tgt : Nat} (hb : brc bytes pc = some (2, tgt)) (kt : x < 0 → RJ b sc dC dI cI cZ nL p l e R s m args below meth c cells slots Q tgt L st ds σ) (kf : ¬ x < 0 → RJ b sc dC dI cI cZ nL p l e R s m args below meth c cells slots Q (pc + 3) L st ds σ) : RJ b sc dC dI cI cZ nL p l e R s m args below meth c cells slots Q pc L (.int x :: st) ds σ := by
  obtain ⟨off, hd, ht⟩ := brc_2 hb
  exact fun H locs ls hW hS hl => lv_if_lt hC.1 hC.2.1 hd ht (fun h => kt h H locs ls hW hS hl) (fun h => kf h H locs ls hW hS hl)
theorem RJ.icmp_lt (hC : CX b dC dI cI cZ (cn oc) bytes nL p s m args c) {x y : Int32} {tgt : Nat} (hb : brc bytes pc = some (8, tgt)) (kt : x < y → RJ b sc dC dI cI cZ nL p l e R s m args below meth c cells slots Q tgt L st ds σ) (kf : ¬ x < y → RJ b sc dC dI cI cZ nL p l e R s m args below meth c cells slots Q (pc + 3) L st ds σ) : RJ b sc dC dI cI cZ nL p l e R s m args below meth c cells slots Q pc L (.int y :: .int x :: st) ds σ := by
  obtain ⟨off, hd, ht⟩ := brc_8 hb
  exact fun H locs ls hW hS hl => lv_icmp_lt hC.1 hC.2.1 hd ht (fun h => kt h H locs ls hW hS hl) (fun h => kf h H locs ls hW hS hl)
theorem RJ.if_ge (hC : CX b dC dI cI cZ (cn oc) bytes nL p s m args c) {x : Int32} {tgt : Nat} (hb : brc bytes pc = some (3, tgt)) (kt : 0 ≤ x → RJ b sc dC dI cI cZ nL p l e R s m args below meth c cells slots Q tgt L st ds σ) (kf : ¬ 0 ≤ x → RJ b sc dC dI cI cZ nL p l e R s m args below meth c cells slots Q (pc + 3) L st ds σ) : RJ b sc dC dI cI cZ nL p l e R s m args below meth c cells slots Q pc L (.int x :: st) ds σ := by
  obtain ⟨off, hd, ht⟩ := brc_3 hb
  exact fun H locs ls hW hS hl => lv_if_ge hC.1 hC.2.1 hd ht (fun h => kt h H locs ls hW hS hl) (fun h => kf h H locs ls hW hS hl)
theorem RJ.icmp_ge (hC : CX b dC dI cI cZ (cn oc) bytes nL p s m args c) {x y : Int32} {tgt : Nat} (hb : brc bytes pc = some (9, tgt)) (kt : y ≤ x → RJ b sc dC dI cI cZ nL p l e R s m args below meth c cells slots Q tgt L st ds σ) (kf : ¬ y ≤ x → RJ b sc dC dI cI cZ nL p l e R s m args below meth c cells slots Q (pc + 3) L st ds σ) : RJ b sc dC dI cI cZ nL p l e R s m args below meth c cells slots Q pc L (.int y :: .int x :: st) ds σ := by
  obtain ⟨off, hd, ht⟩ := brc_9 hb
  exact fun H locs ls hW hS hl => lv_icmp_ge hC.1 hC.2.1 hd ht (fun h => kt h H locs ls hW hS hl) (fun h => kf h H locs ls hW hS hl)
theorem RJ.if_gt (hC : CX b dC dI cI cZ (cn oc) bytes nL p s m args c) {x : Int32} {tgt : Nat} (hb : brc bytes pc = some (4, tgt)) (kt : 0 < x → RJ b sc dC dI cI cZ nL p l e R s m args below meth c cells slots Q tgt L st ds σ) (kf : ¬ 0 < x → RJ b sc dC dI cI cZ nL p l e R s m args below meth c cells slots Q (pc + 3) L st ds σ) : RJ b sc dC dI cI cZ nL p l e R s m args below meth c cells slots Q pc L (.int x :: st) ds σ := by
  obtain ⟨off, hd, ht⟩ := brc_4 hb
  exact fun H locs ls hW hS hl => lv_if_gt hC.1 hC.2.1 hd ht (fun h => kt h H locs ls hW hS hl) (fun h => kf h H locs ls hW hS hl)
theorem RJ.icmp_gt (hC : CX b dC dI cI cZ (cn oc) bytes nL p s m args c) {x y : Int32} {tgt : Nat} (hb : brc bytes pc = some (10, tgt)) (kt : y < x → RJ b sc dC dI cI cZ nL p l e R s m args below meth c cells slots Q tgt L st ds σ) (kf : ¬ y < x → RJ b sc dC dI cI cZ nL p l e R s m args below meth c cells slots Q (pc + 3) L st ds σ) : RJ b sc dC dI cI cZ nL p l e R s m args below meth c cells slots Q pc L (.int y :: .int x :: st) ds σ := by
  obtain ⟨off, hd, ht⟩ := brc_10 hb
  exact fun H locs ls hW hS hl => lv_icmp_gt hC.1 hC.2.1 hd ht (fun h => kt h H locs ls hW hS hl) (fun h => kf h H locs ls hW hS hl)
theorem RJ.if_le (hC : CX b dC dI cI cZ (cn oc) bytes nL p s m args c) {x : Int32} {tgt : Nat} (hb : brc bytes pc = some (5, tgt)) (kt : x ≤ 0 → RJ b sc dC dI cI cZ nL p l e R s m args below meth c cells slots Q tgt L st ds σ) (kf : ¬ x ≤ 0 → RJ b sc dC dI cI cZ nL p l e R s m args below meth c cells slots Q (pc + 3) L st ds σ) : RJ b sc dC dI cI cZ nL p l e R s m args below meth c cells slots Q pc L (.int x :: st) ds σ := by
  obtain ⟨off, hd, ht⟩ := brc_5 hb
  exact fun H locs ls hW hS hl => lv_if_le hC.1 hC.2.1 hd ht (fun h => kt h H locs ls hW hS hl) (fun h => kf h H locs ls hW hS hl)
theorem RJ.icmp_le (hC : CX b dC dI cI cZ (cn oc) bytes nL p s m args c) {x y : Int32} {tgt : Nat} (hb : brc bytes pc = some (11, tgt)) (kt : x ≤ y → RJ b sc dC dI cI cZ nL p l e R s m args below meth c cells slots Q tgt L st ds σ) (kf : ¬ x ≤ y → RJ b sc dC dI cI cZ nL p l e R s m args below meth c cells slots Q (pc + 3) L st ds σ) : RJ b sc dC dI cI cZ nL p l e R s m args below meth c cells slots Q pc L (.int y :: .int x :: st) ds σ := by
  obtain ⟨off, hd, ht⟩ := brc_11 hb
  exact fun H locs ls hW hS hl => lv_icmp_le hC.1 hC.2.1 hd ht (fun h => kt h H locs ls hW hS hl) (fun h => kf h H locs ls hW hS hl)
theorem RJ.idiv (hC : CX b dC dI cI cZ (cn oc) bytes nL p s m args c) {x y : Int32} (hd : decode bytes pc = .ok (.idiv, 1)) (hy : ¬ y = 0) (K : RJ b sc dC dI cI cZ nL p l e R s m args below meth c cells slots Q (pc + 1) L (.int (x / y) :: st) ds σ) : RJ b sc dC dI cI cZ nL p l e R s m args below meth c cells slots Q pc L (.int y :: .int x :: st) ds σ :=
  fun H locs ls hW hS hl => lv_idiv hC.1 hC.2.1 hd hy (K H locs ls hW hS hl)
theorem RJ.irem (hC : CX b dC dI cI cZ (cn oc) bytes nL p s m args c) {x y : Int32} (hd : decode bytes pc = .ok (.irem, 1)) (hy : ¬ y = 0) (K : RJ b sc dC dI cI cZ nL p l e R s m args below meth c cells slots Q (pc + 1) L (.int (x - x / y * y) :: st) ds σ) : RJ b sc dC dI cI cZ nL p l e R s m args below meth c cells slots Q pc L (.int y :: .int x :: st) ds σ :=
  fun H locs ls hW hS hl => lv_irem hC.1 hC.2.1 hd hy (K H locs ls hW hS hl)
theorem RJ.iald (hC : CX b dC dI cI cZ (cn oc) bytes nL p s m args c) {i : Int32} {q n : Nat} (hd : decode bytes pc = .ok (.iaload, 1)) (hq : ds[q]? = some (.inr (false, n))) (hin : vp_in i n) (K : RJ b sc dC dI cI cZ nL p l e R s m args below meth c cells slots Q (pc + 1) L (.int (σ q (ix i)) :: st) ds σ) : RJ b sc dC dI cI cZ nL p l e R s m args below meth c cells slots Q pc L (.int i :: .ref q :: st) ds σ :=
  fun H locs ls hW hS hl => va_iald (D := (dC, dI)) hC.1 hC.2.1 hC.2.2.2.2.2.1 hW.2 q 0 (wls_at hq) rfl hin hd (K H locs ls hW hS hl)
theorem RJ.zald (hC : CX b dC dI cI cZ (cn oc) bytes nL p s m args c) {i : Int32} {q n : Nat} (hd : decode bytes pc = .ok (.baload, 1)) (hq : ds[q]? = some (.inr (true, n))) (hin : vp_in i n) (K : RJ b sc dC dI cI cZ nL p l e R s m args below meth c cells slots Q (pc + 1) L (.int (σ q (ix i)) :: st) ds σ) : RJ b sc dC dI cI cZ nL p l e R s m args below meth c cells slots Q pc L (.int i :: .ref q :: st) ds σ :=
  fun H locs ls hW hS hl => va_zald (D := (dC, dI)) hC.1 hC.2.1 hC.2.2.2.2.2.1 hW.2 q 1 (wls_at hq) rfl hin hd (K H locs ls hW hS hl)
theorem RJ.alen (hC : CX b dC dI cI cZ (cn oc) bytes nL p s m args c) {q n : Nat} {z : Bool} (hd : decode bytes pc = .ok (.arraylength, 1)) (hq : ds[q]? = some (.inr (z, n))) (K : RJ b sc dC dI cI cZ nL p l e R s m args below meth c cells slots Q (pc + 1) L (.int (nI n) :: st) ds σ) : RJ b sc dC dI cI cZ nL p l e R s m args below meth c cells slots Q pc L (.ref q :: st) ds σ := by
  intro H locs ls hW hS hl
  cases z
  · exact va_alen (D := (dC, dI)) hC.1 hC.2.1 hC.2.2.2.2.2.1 hW.2 q 0 (wls_at hq) rfl rfl hd (K H locs ls hW hS hl)
  · exact va_alen (D := (dC, dI)) hC.1 hC.2.1 hC.2.2.2.2.2.1 hW.2 q 1 (wls_at hq) rfl rfl hd (K H locs ls hW hS hl)
theorem RJ.iast (hC : CX b dC dI cI cZ (cn oc) bytes nL p s m args c) {i x : Int32} {q n : Nat} (hd : decode bytes pc = .ok (.iastore, 1)) (hq : ds[q]? = some (.inr (false, n))) (hin : vp_in i n) (K : RJ b sc dC dI cI cZ nL p l e R s m args below meth c cells slots Q (pc + 1) L st ds (up σ q (ix i) x)) : RJ b sc dC dI cI cZ nL p l e R s m args below meth c cells slots Q pc L (.int x :: .int i :: .ref q :: st) ds σ := by
  intro H locs ls hW hS hl
  refine W.iast hC.1 hC.2.1 (hW.2 q _ (wls_at hq)) ((hC.2.2.2.2.2.1.2 0 _ rfl).1 n (fun j => .int (σ q j))) (fun q => by cases q) (by show ¬ (i < 0 ∨ (arrV _ _ _).slots.size ≤ _); rw [arrV_size]; exact hin) rfl rfl hd fun H1 e1 z oq => ?_
  refine K H1 _ ls ⟨z.trans hW.1, ?_⟩ (hS.put z oq (Nat.le_add_right b q)) hl
  rw [← wls_arr hq]
  refine hW.2.set (wls_D b cI cZ σ ds) (wls_at hq) ?_ oq
  show H1[b + q]? = some (vp_cell _ _)
  rw [e1]
  show some (Cell.setSlot (vp_cell (czI cI cZ false) (n, .inl (σ q))) _ _) = some (vp_cell (czI cI cZ false) (n, .inl (upd (σ q) (ix i) x)))
  rw [vp_cell_i, vp_cell_i, arrV_store]
  congr 2
  funext j
  by_cases hj : j = i.toNatClampNeg
  · subst hj
    simp [updV, upd, ix]
  · simp [updV, upd, ix, hj]
theorem RJ.zast (hC : CX b dC dI cI cZ (cn oc) bytes nL p s m args c) {i x : Int32} {q n : Nat} (hd : decode bytes pc = .ok (.bastore, 1)) (hq : ds[q]? = some (.inr (true, n))) (hin : vp_in i n) (hx : vp_nar .boolean x = x) (K : RJ b sc dC dI cI cZ nL p l e R s m args below meth c cells slots Q (pc + 1) L st ds (up σ q (ix i) x)) : RJ b sc dC dI cI cZ nL p l e R s m args below meth c cells slots Q pc L (.int x :: .int i :: .ref q :: st) ds σ := by
  intro H locs ls hW hS hl
  refine W.zast hC.1 hC.2.1 (hW.2 q _ (wls_at hq)) ((hC.2.2.2.2.2.1.2 1 _ rfl).1 n (fun j => .int (σ q j))) (fun q => by cases q) (by show ¬ (i < 0 ∨ (arrV _ _ _).slots.size ≤ _); rw [arrV_size]; exact hin) rfl rfl hd fun H1 e1 z oq => ?_
  refine K H1 _ ls ⟨z.trans hW.1, ?_⟩ (hS.put z oq (Nat.le_add_right b q)) hl
  rw [← wls_arr hq]
  refine hW.2.set (wls_D b cI cZ σ ds) (wls_at hq) ?_ oq
  show H1[b + q]? = some (vp_cell _ _)
  rw [e1]
  show some (Cell.setSlot (vp_cell (czI cI cZ true) (n, .inl (σ q))) _ _) = some (vp_cell (czI cI cZ true) (n, .inl (upd (σ q) (ix i) x)))
  have hnv : narrow .boolean (.int x) = .int x := by
    have h2 : narrow .boolean (.int x) = .int (vp_nar .boolean x) := rfl
    rw [h2, hx]
  rw [vp_cell_i, vp_cell_i, arrV_store, hnv]
  congr 2
  funext j
  by_cases hj : j = i.toNatClampNeg
  · subst hj
    simp [updV, upd, ix]
  · simp [updV, upd, ix, hj]
def tsc (bytes : ByteArray) (pc : Nat) : Option (List Nat × Nat) :=
  match decode bytes pc with
  | .ok (.tableswitch dflt lo hi offs, _) => if lo = 0 ∧ hi + 1 = offs.size ∧ 0 ≤ (pc : Int) + dflt ∧ offs.toList.all (fun o => decide (0 ≤ (pc : Int) + o)) = true then some (offs.toList.map (fun o => ((pc : Int) + o).toNat), ((pc : Int) + dflt).toNat) else none
  | _ => none
def tsK (P : Nat → Prop) (x : Int32) : Nat → List Nat → Prop
  | _, [] => True
  | k, t :: r => (x = nI k → P t) ∧ tsK P x (k + 1) r
theorem tsK_at {P : Nat → Prop} {x : Int32} : ∀ {r : List Nat} {k j t : Nat}, tsK P x k r → r[j]? = some t → x = nI (k + j) → P t
  | [], k, j, t, _, h, _ => by simp at h
  | u :: r, k, 0, t, hK, h, hx => by
    simp at h
    subst h
    exact hK.1 hx
  | u :: r, k, j + 1, t, hK, h, hx => tsK_at (k := k + 1) (j := j) hK.2 (by simpa using h) (by rw [hx]; congr 1; omega)
theorem RJ.tsw (hC : CX b dC dI cI cZ (cn oc) bytes nL p s m args c) {x : Int32} {ts : List Nat} {df : Nat} (hb : tsc bytes pc = some (ts, df)) (hlen : ts.length < 1000) (K : tsK (fun t => RJ b sc dC dI cI cZ nL p l e R s m args below meth c cells slots Q t L st ds σ) x 0 ts) (Kd : (x < 0 ∨ nI ts.length ≤ x) → RJ b sc dC dI cI cZ nL p l e R s m args below meth c cells slots Q df L st ds σ) : RJ b sc dC dI cI cZ nL p l e R s m args below meth c cells slots Q pc L (.int x :: st) ds σ := by
  unfold tsc at hb
  split at hb
  rotate_left
  · cases hb
  rename_i dflt lo hi offs len hd
  split at hb
  rotate_left
  · cases hb
  rename_i h
  obtain ⟨rfl, h2, h3, h4⟩ := h
  simp only [Option.some.injEq, Prod.mk.injEq] at hb
  obtain ⟨hts, hdf⟩ := hb
  have hsz : ts.length = offs.size := by rw [← hts]; simp
  intro H locs ls hW hS hl
  by_cases hx : x.toInt < 0 ∨ hi < x.toInt
  · refine lv_tableOut hC.1 hC.2.1 hd hx (by omega) (Kd ?_ H locs ls hW hS hl)
    rcases hx with hx | hx
    · left
      show x < 0
      rw [Int32.lt_iff_toInt_lt]; simpa using hx
    · right
      rw [Int32.le_iff_toInt_le, nI_toInt (by omega)]; omega
  · have h0 : 0 ≤ x.toInt := by omega
    have h1 : x.toInt ≤ hi := by omega
    have hj : x.toInt.toNat < offs.size := by omega
    refine lv_tableIn (off := offs[x.toInt.toNat]) hC.1 hC.2.1 hd (by omega) (by omega) ?_ (tgt := ts[x.toInt.toNat]'(by omega)) ?_ ?_
    · rw [Int.sub_zero]; exact Array.getElem?_eq_getElem hj
    · have h5 := List.all_eq_true.mp h4 offs[x.toInt.toNat] (by simp)
      have h6 : ts[x.toInt.toNat]'(by omega) = ((pc : Int) + offs[x.toInt.toNat]).toNat := by subst hts; simp
      rw [h6]
      have := of_decide_eq_true h5
      omega
    · refine tsK_at (k := 0) (j := x.toInt.toNat) (t := ts[x.toInt.toNat]'(by omega)) K (List.getElem?_eq_getElem (by omega)) ?_ H locs ls hW hS hl
      rw [Nat.zero_add, ← Int32.toInt_inj, nI_toInt (by omega)]; omega
theorem RJ.mmax (hC : CX b dC dI cI cZ (cn oc) bytes nL p s m args c) {x y : Int32} {idx : Nat} (hd : decode bytes pc = .ok (.invokestatic idx, 3)) (hlk : Cond.methodLink (cn oc) idx Lib.Math.max.name ∈ TB) (hm : Cond.static Lib.Math.max.name ∈ TB ∧ Cond.initialized "java/lang/Math" ∈ TB ∧ Cond.code Lib.Math.max.name Lib.Math.max.code 2 (some .int) ∈ TB)
    (hR : 1 ≤ R.frames ∧ (st.map fun v => v.category).sum + 13 ≤ R.locals ∧ cells ≤ R.cells ∧ slots ≤ R.slots) (K : RJ b sc dC dI cI cZ nL p l e R s m args below meth c cells slots Q (pc + 3) L (.int (if x < y then y else x) :: st) ds σ) : RJ b sc dC dI cI cZ nL p l e R s m args below meth c cells slots Q pc L (.int y :: .int x :: st) ds σ := by
  obtain ⟨hx, hb, hml, hown, hts, -⟩ := hC
  intro H locs ls hW hS hl
  refine va_mmax hx hb (by rw [hl.1]; exact hml) hown (hts _ hlk) (hts _ hm.1) (hts _ hm.2.1) (hts _ hm.2.2) hR.1 ?_ hR.2.2.1 hR.2.2.2 hd (K H locs ls hW hS hl)
  rw [List.map_map, show ((fun v => v.category) ∘ vC b sc) = (fun v : Value => v.category) from funext fun v => vC_cat b sc v]
  exact hR.2.1
theorem RJ.mmin (hC : CX b dC dI cI cZ (cn oc) bytes nL p s m args c) {x y : Int32} {idx : Nat} (hd : decode bytes pc = .ok (.invokestatic idx, 3)) (hlk : Cond.methodLink (cn oc) idx Lib.Math.min.name ∈ TB) (hm : Cond.static Lib.Math.min.name ∈ TB ∧ Cond.initialized "java/lang/Math" ∈ TB ∧ Cond.code Lib.Math.min.name Lib.Math.min.code 2 (some .int) ∈ TB)
    (hR : 1 ≤ R.frames ∧ (st.map fun v => v.category).sum + 13 ≤ R.locals ∧ cells ≤ R.cells ∧ slots ≤ R.slots) (K : RJ b sc dC dI cI cZ nL p l e R s m args below meth c cells slots Q (pc + 3) L (.int (if y < x then y else x) :: st) ds σ) : RJ b sc dC dI cI cZ nL p l e R s m args below meth c cells slots Q pc L (.int y :: .int x :: st) ds σ := by
  obtain ⟨hx, hb, hml, hown, hts, -⟩ := hC
  intro H locs ls hW hS hl
  refine va_mmin hx hb (by rw [hl.1]; exact hml) hown (hts _ hlk) (hts _ hm.1) (hts _ hm.2.1) (hts _ hm.2.2) hR.1 ?_ hR.2.2.1 hR.2.2.2 hd (K H locs ls hW hS hl)
  rw [List.map_map, show ((fun v => v.category) ∘ vC b sc) = (fun v : Value => v.category) from funext fun v => vC_cat b sc v]
  exact hR.2.1
end RJ2
end
section
/-! calls: contracts Sp, the closed judgement RM, calls, returns, making, entry -/
abbrev MI : Type := MethodName × ByteArray × Nat × Option FieldType × Nat
def MI.y (M : MI) : MethodName := M.1
def MI.cc (M : MI) : ByteArray := M.2.1
def MI.nL (M : MI) : Nat := M.2.2.1
def MI.rt (M : MI) : Option FieldType := M.2.2.2.1
def MI.oc (M : MI) : Nat := M.2.2.2.2
def MI.ws (M : MI) : List Cond := Cond.code M.y M.cc M.nL M.rt :: TB
def rmD (d mc ms : Nat) : Room := { frames := d, cells := mc, slots := ms, locals := 40 * d }
def PWs (b : Nat) (dC : Nat → ClassId) (dI : Nat → Nat → Nat) (cI cZ : ClassId) (ds : List CDs) (σ : SG) (U : State) : Prop := WD b dC dI cI cZ ds σ U.heap ∧ va_K (dC, dI) vwCl (tyC cI cZ) U ∧ NWs U
def QcR (b sc : Nat) (dC : Nat → ClassId) (dI : Nat → Nat → Nat) (cI cZ : ClassId) (r : Option Value) (ds : List CDs) (σ : SG) : Array Value → State → Outcome → State → Prop := fun _ st oc t => (oc = .returned (r.map (vC b sc)) ∧ WD b dC dI cI cZ ds σ t.heap) ∧ va_F (fun q => b ≤ q) st t
def Sp (d : Nat) (M : MI) (mc ms : Nat) (as : List Value) (ds : List CDs) (σ : SG) (r : Option Value) (ds' : List CDs) (σ' : SG) : Prop :=
  ∀ (l : Launch) (b sc : Nat) (dC : Nat → ClassId) (dI : Nat → Nat → Nat) (cI cZ : ClassId), Met l M.y M.ws (rmD d mc ms) (va_Pc (as.map (vC b sc)) (PWs b dC dI cI cZ ds σ)) (QcR b sc dC dI cI cZ r ds' σ') mc ms (fun q => b ≤ q)
def RM (d : Nat) (M : MI) (mc ms : Nat) (r : Option Value) (ds' : List CDs) (σ' : SG) (cl sl pc : Nat) (L : List (Option Value)) (st : List Value) (ds : List CDs) (σ : SG) : Prop :=
  ∀ (l : Launch) (b sc : Nat) (dC : Nat → ClassId) (dI : Nat → Nat → Nat) (cI cZ : ClassId) (p : Program) (e : Env) (s : State) (m : MethodId) (args : Array Value) (below : List Frame) (meth : Method) (c : Code),
    CX b dC dI cI cZ (cn M.oc) M.cc M.nL p s m args c → meth.sig.returnType = M.rt → meth.locks = false → meth.name = M.y.name →
    RJ b sc dC dI cI cZ M.nL p l e (rmD d mc ms) s m args below meth c cl sl (MQ below (QcR b sc dC dI cI cZ r ds' σ') args s mc ms (fun q => b ≤ q)) pc L st ds σ
/-- what is the same for every call of a method -/
def mOK (M : MI) (n : Nat) : Bool := decide (M.y.cls = cn M.oc) && decide (M.y.cls ≠ "java/lang/invoke/MethodHandle") && decide (M.y.cls ≠ "java/lang/invoke/VarHandle") && decide ((parseMethodDescriptor M.y.desc).map (fun d => d.parameters.length) = some n) && decide (Cond.code M.y M.cc M.nL M.rt ∈ lw_tbl) && decide (Cond.initialized M.y.cls ∈ lw_tbl) && plainName M.y.cls && decide (M.nL ≤ 20)
theorem mOK_of {M : MI} {n : Nat} (h : mOK M n = true) : M.y.cls = cn M.oc ∧ M.y.cls ≠ "java/lang/invoke/MethodHandle" ∧ M.y.cls ≠ "java/lang/invoke/VarHandle" ∧ (parseMethodDescriptor M.y.desc).map (fun d => d.parameters.length) = some n ∧ Cond.code M.y M.cc M.nL M.rt ∈ TB ∧ Cond.initialized M.y.cls ∈ TB ∧ plainName M.y.cls = true ∧ M.nL ≤ 20 := by
  simp only [mOK, Bool.and_eq_true, decide_eq_true_eq] at h
  obtain ⟨⟨⟨⟨⟨⟨⟨h1, h2⟩, h3⟩, h4⟩, h5⟩, h6⟩, h7⟩, h8⟩ := h
  exact ⟨h1, h2, h3, h4, TB_in h5 rfl, TB_in h6 rfl, h7, h8⟩
def vOK (oc : Nat) (bytes : ByteArray) (pc : Nat) (M : MI) : Bool := match decode bytes pc with
  | .ok (.invokevirtual idx, 3) => decide (Cond.methodLink (cn oc) idx M.y ∈ lw_tbl) && decide (Cond.instanceMethod M.y ∈ lw_tbl) && decide (Cond.selects M.y.cls M.y M.y ∈ lw_tbl)
  | _ => false
theorem vOK_of {oc : Nat} {bytes : ByteArray} {pc : Nat} {M : MI} (h : vOK oc bytes pc M = true) : ∃ idx, decode bytes pc = .ok (.invokevirtual idx, 3) ∧ Cond.methodLink (cn oc) idx M.y ∈ TB ∧ Cond.instanceMethod M.y ∈ TB ∧ Cond.selects M.y.cls M.y M.y ∈ TB := by
  unfold vOK at h
  split at h
  · rename_i idx hd
    simp only [Bool.and_eq_true, decide_eq_true_eq] at h
    exact ⟨idx, hd, TB_in h.1.1 rfl, TB_in h.1.2 rfl, TB_in h.2 rfl⟩
  · cases h
def sOK (oc : Nat) (bytes : ByteArray) (pc : Nat) (M : MI) : Bool := match decode bytes pc with
  | .ok (.invokestatic idx, 3) => (decide (Cond.methodLink (cn oc) idx M.y ∈ lw_tbl) || decide ((cn oc, idx, M.y) ∈ NWL)) && decide (Cond.static M.y ∈ lw_tbl)
  | _ => false
theorem sOK_of {oc : Nat} {bytes : ByteArray} {pc : Nat} {M : MI} (h : sOK oc bytes pc M = true) : ∃ idx, decode bytes pc = .ok (.invokestatic idx, 3) ∧ (Cond.methodLink (cn oc) idx M.y ∈ TB ∨ (cn oc, idx, M.y) ∈ NWL) ∧ Cond.static M.y ∈ TB := by
  unfold sOK at h
  split at h
  · rename_i idx hd
    simp only [Bool.and_eq_true, Bool.or_eq_true, decide_eq_true_eq] at h
    exact ⟨idx, hd, h.1.imp (fun h => TB_in h rfl) id, TB_in h.2 rfl⟩
  · cases h
def iOK (oc : Nat) (bytes : ByteArray) (pc : Nat) (M : MI) : Bool := match decode bytes pc with
  | .ok (.invokespecial idx, 3) => (decide (Cond.methodLink (cn oc) idx M.y ∈ lw_tbl) || decide ((cn oc, idx, M.y) ∈ NWL)) && decide (Cond.instanceMethod M.y ∈ lw_tbl) && decide (M.y.name = "<init>") && decide (M.rt = none)
  | _ => false
theorem iOK_of {oc : Nat} {bytes : ByteArray} {pc : Nat} {M : MI} (h : iOK oc bytes pc M = true) : ∃ idx, decode bytes pc = .ok (.invokespecial idx, 3) ∧ (Cond.methodLink (cn oc) idx M.y ∈ TB ∨ (cn oc, idx, M.y) ∈ NWL) ∧ Cond.instanceMethod M.y ∈ TB ∧ M.y.name = "<init>" ∧ M.rt = none := by
  unfold iOK at h
  split at h
  · rename_i idx hd
    simp only [Bool.and_eq_true, Bool.or_eq_true, decide_eq_true_eq] at h
    exact ⟨idx, hd, h.1.1.1.imp (fun h => TB_in h rfl) id, TB_in h.1.1.2 rfl, h.1.2, h.2⟩
  · cases h
theorem MI.good (M : MI) {n : Nat} (h : mOK M n = true) : GoodIn TB M.ws := TB_G fun w hw => by
  rcases List.mem_cons.mp hw with rfl | hw
  · exact (mOK_of h).2.2.2.2.1
  · exact hw
theorem sum_map_vC (b sc : Nat) (st : List Value) : ((st.map (vC b sc)).map fun v => v.category) = st.map fun v => v.category := by
  rw [List.map_map, show ((fun v => v.category) ∘ vC b sc) = (fun v : Value => v.category) from funext fun v => vC_cat b sc v]
section RJ3
variable {b sc : Nat} {dC : Nat → ClassId} {dI : Nat → Nat → Nat} {cI cZ : ClassId} {nL oc : Nat} {bytes : ByteArray} {p : Program} {l : Launch} {e : Env} {R : Room} {s : State} {m : MethodId} {args : Array Value} {below : List Frame} {meth : Method} {c : Code} {cells slots : Nat} {Q : State → Prop} {pc pc' : Nat} {L L' : List (Option Value)} {st st' : List Value} {ds ds' : List CDs} {σ σ' : SG}
theorem PW_blind (as : List Value) (ds : List CDs) (σ : SG) : FrameBlind (va_Pc (as.map (vC b sc)) (PWs b dC dI cI cZ ds σ)) := fun a U g mk q =>
  ⟨q.1, q.2.1, va_K.moved (u := U) (U := U.calling g mk a) (Vm.Alike.refl U.vm) q.2.2.1, fun x hx => va_Nw.same rfl rfl (q.2.2.2 x hx)⟩
theorem PW_start (hC : CX b dC dI cI cZ (cn oc) bytes nL p s m args c) {H : Heap} (hW : WD b dC dI cI cZ ds σ H) (as : List Value) : ∀ U : State, U.heap = H → s.WarmedH U.vm → va_Pc (as.map (vC b sc)) (PWs b dC dI cI cZ ds σ) (as.map (vC b sc)).toArray U := fun U hU hWm =>
  ⟨rfl, by rw [hU]; exact hW, va_K.moved hWm.alike hC.2.2.2.2.2.1, fun x hx => va_Nw.warmM hWm (hC.2.2.2.2.2.2.2 x hx)⟩
theorem RJ.back {H : Heap} {locs : List Loc} {ls : Array Slot} {st0 : List Value} {mc ms : Nat} {r : Option Value} {a : Array Value} (hr : va_Run p l e R s m args below meth c H locs cells slots mc ms (F0 m pc ls st0) (st.map (vC b sc)) (QcR b sc dC dI cI cZ r ds' σ' a) (fun q => b ≤ q)) (hS : va_S (fun q => b ≤ q) s.heap H locs) (hl : lv_has ls nL (lc b sc 0 L))
    (K : RJ b sc dC dI cI cZ nL p l e R s m args below meth c (cells + mc) (slots + ms) Q (pc + 3) L (r.toList ++ st) ds' σ') : W p l e R s m args below meth c H locs cells slots Q (F0 m pc ls st0) := by
  intro T hT X
  obtain ⟨v, st₀, t, T', L2, h0, X', hL, e1, e2, ⟨⟨hv, hw⟩, hz, hk⟩, stp⟩ := hr T hT X
  have hv2 : v = r.map (vC b sc) := by injection hv
  subst hv2
  rw [h0] at hz hk
  have hS2 : va_S (fun q => b ≤ q) s.heap T'.heap (locs ++ L2) := ⟨Nat.le_trans hS.1 (by rw [e1]; exact hz), fun q h1 h2 => by rw [e1, hk q (Nat.lt_of_lt_of_le h1 hS.1) h2]; exact hS.2.1 q h1 h2, fun q hq => by
      rcases List.mem_append.mp hq with h | h
      · exact hS.2.2 q h
      · exact hL q h⟩
  obtain ⟨t2, a1, b1⟩ := K T'.heap (locs ++ L2) ls (by rw [e1]; exact hw) hS2 hl T' rfl X'
  refine ⟨t2, stp t2 ?_, b1⟩
  have he : (r.toList ++ st).map (vC b sc) = (r.map (vC b sc)).toList ++ st.map (vC b sc) := by cases r <;> simp
  rw [he] at a1
  exact a1
theorem RJ.callV (hC : CX b dC dI cI cZ (cn oc) bytes nL p s m args c) {M : MI} {d n mc ms : Nat} {r : Option Value} {As : List Value} {q ci : Nat} {fs : List FDs} (hS1 : Sp d M mc ms (.ref q :: As) ds σ r ds' σ') (ho : vOK oc bytes pc M = true) (hm : mOK M n = true) (hn : As.length = n) (hq : ds[q]? = some (.inl (ci, fs))) (hci : ci < 13) (hcn : ci = M.oc)
    (hR : d + 1 ≤ R.frames ∧ 8 + (20 + 11) + 40 * d ≤ R.locals ∧ cells + mc ≤ R.cells ∧ slots + ms ≤ R.slots) (hst : (st.map fun v => v.category).sum ≤ 8) {st0 : List Value} (hst0 : st0 = As.reverse ++ .ref q :: st)
    (K : RJ b sc dC dI cI cZ nL p l e R s m args below meth c (cells + mc) (slots + ms) Q (pc + 3) L (r.toList ++ st) ds' σ') : RJ b sc dC dI cI cZ nL p l e R s m args below meth c cells slots Q pc L st0 ds σ := by
  subst hst0
  obtain ⟨idx, hd, hlk, hin, hsel⟩ := vOK_of ho
  obtain ⟨m1, m2, m3, m4, m5, m6, m7, m8⟩ := mOK_of hm
  obtain ⟨hx, hb, hml, hown, hts, hK, hbs, hnw⟩ := id hC
  intro H locs ls hW hS hl
  have hstk : ((As.reverse ++ .ref q :: st).map (vC b sc)) = (As.map (vC b sc)).reverse ++ Value.ref (b + q) :: st.map (vC b sc) := by simp [vC]
  have hcw : CallW R s args (cn oc) M.y.cls idx M.y M.cc M.nL M.rt M.ws (rmD d mc ms) mc ms n :=
    ⟨callB_of n hts (M.good hm) rfl rfl rfl (hts _ m6) (hts _ hlk) ⟨m2, m3, m4⟩ ⟨hR.1, by show 8 + (M.nL + 11) + 40 * d ≤ R.locals; omega⟩, hts _ hin, hts _ hsel⟩
  have hpre : PreV s H M.y.cls (b + q) (va_Pc ((Value.ref q :: As).map (vC b sc)) (PWs b dC dI cI cZ ds σ)) (As.map (vC b sc)) := by
    refine ⟨PW_blind _ ds σ, ?_, PW_start hC hW _⟩
    have h := va_recv hK hW.2 (cq_in ci hci) (wls_at hq)
    rw [m1, ← hcn]
    exact h
  exact RJ.back (va_runV (g := F0 m pc ls ((As.reverse ++ .ref q :: st).map (vC b sc))) (cc := bytes) (nL := nL) (Ts := TB) ⟨hx, hb, hml, hown, hts⟩ (hS1 l b sc dC dI cI cZ) hcw hpre rfl (by simpa using hn) hl.1 hstk (by rw [sum_map_vC]; show 2 * 0 + _ ≤ 8; omega) hd ⟨hR.2.2.1, hR.2.2.2⟩) hS hl K
theorem RJ.callS (hC : CX b dC dI cI cZ (cn oc) bytes nL p s m args c) {M : MI} {d n mc ms : Nat} {r : Option Value} {As : List Value} (hS1 : Sp d M mc ms As ds σ r ds' σ') (ho : sOK oc bytes pc M = true) (hm : mOK M n = true) (hn : As.length = n)
    (hR : d + 1 ≤ R.frames ∧ 8 + (20 + 11) + 40 * d ≤ R.locals ∧ cells + mc ≤ R.cells ∧ slots + ms ≤ R.slots) (hst : (st.map fun v => v.category).sum ≤ 8) {st0 : List Value} (hst0 : st0 = As.reverse ++ st)
    (K : RJ b sc dC dI cI cZ nL p l e R s m args below meth c (cells + mc) (slots + ms) Q (pc + 3) L (r.toList ++ st) ds' σ') : RJ b sc dC dI cI cZ nL p l e R s m args below meth c cells slots Q pc L st0 ds σ := by
  subst hst0
  obtain ⟨idx, hd, hlk, hsta⟩ := sOK_of ho
  obtain ⟨m1, m2, m3, m4, m5, m6, m7, m8⟩ := mOK_of hm
  obtain ⟨hx, hb, hml, hown, hts, hK, hbs, hnw⟩ := id hC
  intro H locs ls hW hS hl
  have hstk : ((As.reverse ++ st).map (vC b sc)) = (As.map (vC b sc)).reverse ++ st.map (vC b sc) := by simp
  have hpre : PreS s H (va_Pc (As.map (vC b sc)) (PWs b dC dI cI cZ ds σ)) (As.map (vC b sc)) := ⟨PW_blind _ ds σ, PW_start hC hW _⟩
  have hsm : 2 * (F0 m pc ls ((As.reverse ++ st).map (vC b sc))).monitorRoom + ((st.map (vC b sc)).map fun v => v.category).sum ≤ 8 := by rw [sum_map_vC]; show 2 * 0 + _ ≤ 8; omega
  rcases hlk with hlk | hlk
  · have hcw : CallB R s args (cn oc) idx M.y M.cc M.nL M.rt M.ws (rmD d mc ms) mc ms n ∧ (Cond.static M.y).before args s = true :=
      ⟨callB_of n hts (M.good hm) rfl rfl rfl (hts _ m6) (hts _ hlk) ⟨m2, m3, m4⟩ ⟨hR.1, by show 8 + (M.nL + 11) + 40 * d ≤ R.locals; omega⟩, hts _ hsta⟩
    exact RJ.back (va_runS (g := F0 m pc ls ((As.reverse ++ st).map (vC b sc))) (cc := bytes) (nL := nL) (Ts := TB) ⟨hx, hb, hml, hown, hts⟩ (hS1 l b sc dC dI cI cZ) hcw hpre rfl (by simpa using hn) hl.1 hstk hsm hd ⟨hR.2.2.1, hR.2.2.2⟩) hS hl K
  · have hcw : va_CN R s args (cn oc) idx M.y "MosaicShop" M.cc M.nL M.rt M.ws (rmD d mc ms) mc ms n ∧ (Cond.static M.y).before args s = true ∧ True :=
      ⟨va_cnB n hts (M.good hm) rfl rfl rfl (hnw _ hlk) (hts _ m6) ⟨m2, m3, m4⟩ ⟨hR.1, by show 8 + (M.nL + 11) + 40 * d ≤ R.locals; omega⟩, hts _ hsta, trivial⟩
    exact RJ.back (va_runSN (g := F0 m pc ls ((As.reverse ++ st).map (vC b sc))) (cc := bytes) (nL := nL) (Ts := TB) ⟨hx, hb, hml, hown, hts⟩ (hS1 l b sc dC dI cI cZ) hcw hpre rfl (by simpa using hn) hl.1 hstk hsm hd ⟨hR.2.2.1, hR.2.2.2⟩) hS hl K
theorem RJ.callI (hC : CX b dC dI cI cZ (cn oc) bytes nL p s m args c) {M : MI} {d n mc ms : Nat} {r : Option Value} {As : List Value} {q : Nat} (hS1 : Sp d M mc ms (.ref q :: As) ds σ r ds' σ') (ho : iOK oc bytes pc M = true) (hm : mOK M n = true) (hn : As.length = n)
    (hR : d + 1 ≤ R.frames ∧ 8 + (20 + 11) + 40 * d ≤ R.locals ∧ cells + mc ≤ R.cells ∧ slots + ms ≤ R.slots) (hst : (st.map fun v => v.category).sum ≤ 8) {st0 : List Value} (hst0 : st0 = As.reverse ++ .ref q :: st)
    (K : RJ b sc dC dI cI cZ nL p l e R s m args below meth c (cells + mc) (slots + ms) Q (pc + 3) L (r.toList ++ st) ds' σ') : RJ b sc dC dI cI cZ nL p l e R s m args below meth c cells slots Q pc L st0 ds σ := by
  subst hst0
  obtain ⟨idx, hd, hlk, hin, hname, hrt⟩ := iOK_of ho
  obtain ⟨m1, m2, m3, m4, m5, m6, m7, m8⟩ := mOK_of hm
  obtain ⟨hx, hb, hml, hown, hts, hK, hbs, hnw⟩ := id hC
  intro H locs ls hW hS hl
  have hstk : ((As.reverse ++ .ref q :: st).map (vC b sc)) = (As.map (vC b sc)).reverse ++ Value.ref (b + q) :: st.map (vC b sc) := by simp [vC]
  have hpre : PreS s H (va_Pc ((Value.ref q :: As).map (vC b sc)) (PWs b dC dI cI cZ ds σ)) (Value.ref (b + q) :: As.map (vC b sc)) := ⟨PW_blind _ ds σ, PW_start hC hW _⟩
  have hsm : 2 * (F0 m pc ls ((As.reverse ++ .ref q :: st).map (vC b sc))).monitorRoom + ((st.map (vC b sc)).map fun v => v.category).sum ≤ 8 := by rw [sum_map_vC]; show 2 * 0 + _ ≤ 8; omega
  have hwsE : M.ws = Cond.code M.y M.cc M.nL none :: TB := by unfold MI.ws; rw [hrt]
  rcases hlk with hlk | hlk
  · have hcw : CallB R s args (cn oc) idx M.y M.cc M.nL none M.ws (rmD d mc ms) mc ms n ∧ M.y.name = "<init>" ∧ (Cond.instanceMethod M.y).before args s = true :=
      ⟨callB_of n hts (M.good hm) hwsE rfl rfl (hts _ m6) (hts _ hlk) ⟨m2, m3, m4⟩ ⟨hR.1, by show 8 + (M.nL + 11) + 40 * d ≤ R.locals; omega⟩, hname, hts _ hin⟩
    exact RJ.back (va_runI (g := F0 m pc ls ((As.reverse ++ .ref q :: st).map (vC b sc))) (cc := bytes) (nL := nL) (Ts := TB) ⟨hx, hb, hml, hown, hts⟩ (hS1 l b sc dC dI cI cZ) hcw hpre rfl (by simpa using hn) hl.1 hstk hsm hd ⟨hR.2.2.1, hR.2.2.2⟩) hS hl K
  · have hcw : va_CN R s args (cn oc) idx M.y "MosaicShop" M.cc M.nL none M.ws (rmD d mc ms) mc ms n ∧ M.y.name = "<init>" ∧ (Cond.instanceMethod M.y).before args s = true :=
      ⟨va_cnB n hts (M.good hm) hwsE rfl rfl (hnw _ hlk) (hts _ m6) ⟨m2, m3, m4⟩ ⟨hR.1, by show 8 + (M.nL + 11) + 40 * d ≤ R.locals; omega⟩, hname, hts _ hin⟩
    exact RJ.back (va_runIN (g := F0 m pc ls ((As.reverse ++ .ref q :: st).map (vC b sc))) (cc := bytes) (nL := nL) (Ts := TB) ⟨hx, hb, hml, hown, hts⟩ (hS1 l b sc dC dI cI cZ) hcw hpre rfl (by simpa using hn) hl.1 hstk hsm hd ⟨hR.2.2.1, hR.2.2.2⟩) hS hl K
def oOK (oc : Nat) (bytes : ByteArray) (pc : Nat) : Bool := match decode bytes pc with
  | .ok (.invokespecial idx, 3) => decide (Cond.methodLink (cn oc) idx Lib.objectInit ∈ lw_tbl) && decide (Cond.instanceMethod Lib.objectInit ∈ lw_tbl) && decide (Cond.code Lib.objectInit ⟨#[0xb1]⟩ 1 none ∈ lw_tbl)
  | _ => false
theorem RJ.obj (hC : CX b dC dI cI cZ (cn oc) bytes nL p s m args c) {q : Nat} (ho : oOK oc bytes pc = true) (hR : 1 ≤ R.frames ∧ (st.map fun v => v.category).sum + 12 ≤ R.locals) (K : RJ b sc dC dI cI cZ nL p l e R s m args below meth c cells slots Q (pc + 3) L st ds σ) : RJ b sc dC dI cI cZ nL p l e R s m args below meth c cells slots Q pc L (.ref q :: st) ds σ := by
  unfold oOK at ho
  split at ho
  rotate_left
  · cases ho
  rename_i idx hd
  simp only [Bool.and_eq_true, decide_eq_true_eq] at ho
  obtain ⟨hx, hb, hml, hown, hts, -⟩ := hC
  intro H locs ls hW hS hl
  exact W.objInit (g := F0 m pc ls (.ref (b + q) :: st.map (vC b sc))) hx hb hown (hts _ (TB_in ho.1.1 rfl)) (hts _ (TB_in ho.1.2 rfl)) (hts _ (TB_in ho.2 rfl)) rfl (hl.1.trans hml.symm) rfl hd hR.1 (by rw [sum_map_vC]; show 2 * 0 + _ + 12 ≤ R.locals; omega) (K H locs ls hW hS hl)
def fs0 (ci : Nat) : List FDs := (List.range (cN ci)).map (fun k => match cty ci k with
  | .int => none
  | .boolean => none
  | _ => some none)
def dv0 : FDs → Value
  | none => .int 0
  | some _ => .null
def nOK (oc : Nat) (bytes : ByteArray) (pc ci : Nat) : Bool := match decode bytes pc with
  | .ok (.new idx, 3) => decide (Cond.classLink (cn oc) idx (cn ci) ∈ lw_tbl) && decide (Cond.instantiable (cn ci) (cN ci) ∈ lw_tbl) && decide (Cond.initialized (cn ci) ∈ lw_tbl) && decide (ci < 13) && (List.range (cN ci)).all (fun j => decide (((fs0 ci).map dv0)[j]? = some (defaultValue (cty ci j)))) && (fs0 ci).all (fun f => match f with | some (some _) => false | _ => true)
  | _ => false
theorem fvl_0 {b : Nat} : ∀ (fs : List FDs), fs.all (fun f => match f with | some (some _) => false | _ => true) = true → fs.mapIdx (fvl b (fun _ => 0)) = fs.map dv0 := by
  intro fs h
  apply List.ext_getElem?
  intro j
  rw [List.getElem?_mapIdx, List.getElem?_map]
  cases hj : fs[j]? with
  | none => rfl
  | some f =>
    have h1 := List.all_eq_true.mp h f (List.mem_of_getElem? hj)
    cases f with
    | none => rfl
    | some o => cases o with
      | none => rfl
      | some q => cases h1
theorem RJ.new (hC : CX b dC dI cI cZ (cn oc) bytes nL p s m args c) {ci : Nat} (ho : nOK oc bytes pc ci = true) (hR : cells + 1 ≤ R.cells ∧ slots + cN ci ≤ R.slots)
    (K : RJ b sc dC dI cI cZ nL p l e R s m args below meth c (cells + 1) (slots + cN ci) Q (pc + 3) L (.ref ds.length :: st) (ds ++ [.inl (ci, fs0 ci)]) (up0 σ ds.length)) : RJ b sc dC dI cI cZ nL p l e R s m args below meth c cells slots Q pc L st ds σ := by
  unfold nOK at ho
  split at ho
  rotate_left
  · cases ho
  rename_i idx hd
  simp only [Bool.and_eq_true, decide_eq_true_eq] at ho
  obtain ⟨⟨⟨⟨⟨h1, h2⟩, h3⟩, h4⟩, h5⟩, h6⟩ := ho
  obtain ⟨hx, hb, hml, hown, hts, hK, hbs, hnw⟩ := id hC
  intro H locs ls hW hS hl
  have hKn := hK.1 ci _ (cq_in ci h4)
  refine W.newcK hx hb hown (hts _ (TB_in h1 rfl)) (hts _ (TB_in h2 rfl)) (hts _ (TB_in h3 rfl)) rfl hd hR.1 hR.2 hKn.2.1 hW.1 fun H1 kC hkC e1 z1 o1 => ?_
  have hk : ∀ (k : Nat) (x : Nat × va_E), (wls b cI cZ σ ds)[k]? = some x → H1[x.1]? = H[x.1]? := fun k x hx => o1 x.1 (by rw [← hW.1]; exact (hW.2 k x hx).lt)
  refine K H1 locs ls ⟨by rw [z1]; simp; omega, ?_⟩ ⟨Nat.le_trans hS.1 (by rw [z1, hW.1]; omega), fun x g1 g2 => (o1 x (by rw [← hW.1]; exact Nat.lt_of_lt_of_le g1 hS.1)).trans (hS.2.1 x g1 g2), hS.2.2⟩ hl
  rw [← wls_push]
  refine (hW.2.kept hk).app (fun k x hx => ?_)
  have hz : k < 1 := (List.getElem?_eq_some_iff.mp hx).1
  rw [show k = 0 by omega] at hx
  cases hx
  refine ⟨_, cq_in ci h4, (u_born (cty ci) hts (ws_in ci h4) hKn hkC e1 (cty_ok ci h4)).to fun j hj => ?_⟩
  show defaultValue (cty ci j) = vp_V ((fs0 ci).mapIdx (fvl b (fun _ => 0))) j
  rw [fvl_0 _ h6]
  have h7 := of_decide_eq_true (List.all_eq_true.mp h5 j (List.mem_range.mpr hj))
  simp [vp_V, h7]
theorem vp_cell0 (cA : ClassId) (n : Nat) (z : Bool) : vp_cell cA (n, .inl (fun _ => 0)) = arrV cA n (fun _ => defaultValue (match z with | true => .boolean | false => .int)) := by
  cases z <;> rfl
theorem RJ.newI (hC : CX b dC dI cI cZ (cn oc) bytes nL p s m args c) {k : Nat} (hd : decode bytes pc = .ok (.newarray .int, 2)) (hk : k ≤ 65536) (hR : cells + 1 ≤ R.cells ∧ slots + k ≤ R.slots)
    (K : RJ b sc dC dI cI cZ nL p l e R s m args below meth c (cells + 1) (slots + k) Q (pc + 2) L (.ref ds.length :: st) (ds ++ [.inr (false, k)]) (up0 σ ds.length)) : RJ b sc dC dI cI cZ nL p l e R s m args below meth c cells slots Q pc L (.int (nI k) :: st) ds σ := by
  obtain ⟨hx, hb, hml, hown, hts, hK, hbs, hnw⟩ := id hC
  intro H locs ls hW hS hl
  refine va_newaK (atype := .int) (N := k) hx hb (hts _ (TB_in (by decide +kernel : Cond.arrayClass .int ∈ lw_tbl) rfl)) rfl hd rfl (nI_pos (by omega)) (nI_clamp (by omega)) (by show k * 4 ≤ _; omega) hR.1 hR.2 hW.1 fun H1 cA e1 z1 o1 hAr hNm => ?_
  have hcA : cA = cI := by
    have h1 : s.vm.findClass ("[" ++ (newarray.typeOf .int).toString) = some cI := (hK.2 0 _ rfl).2
    exact Option.some.inj (hNm.symm.trans h1)
  have hkp : ∀ (k : Nat) (x : Nat × va_E), (wls b cI cZ σ ds)[k]? = some x → H1[x.1]? = H[x.1]? := fun k x hx => o1 x.1 (by rw [← hW.1]; exact (hW.2 k x hx).lt)
  refine K H1 locs ls ⟨by rw [z1]; simp; omega, ?_⟩ ⟨Nat.le_trans hS.1 (by rw [z1, hW.1]; omega), fun x g1 g2 => (o1 x (by rw [← hW.1]; exact Nat.lt_of_lt_of_le g1 hS.1)).trans (hS.2.1 x g1 g2), hS.2.2⟩ hl
  rw [← wls_push]
  refine (hW.2.kept hkp).app (fun k x hx => ?_)
  have hz : k < 1 := (List.getElem?_eq_some_iff.mp hx).1
  rw [show k = 0 by omega] at hx
  cases hx
  show H1[b + ds.length]? = some (vp_cell (czI cI cZ false) (_, .inl (fun _ => 0)))
  rw [vp_cell0 _ _ false, e1, hcA]
  rfl
theorem RJ.newZ (hC : CX b dC dI cI cZ (cn oc) bytes nL p s m args c) {k : Nat} (hd : decode bytes pc = .ok (.newarray .boolean, 2)) (hk : k ≤ 65536) (hR : cells + 1 ≤ R.cells ∧ slots + k ≤ R.slots)
    (K : RJ b sc dC dI cI cZ nL p l e R s m args below meth c (cells + 1) (slots + k) Q (pc + 2) L (.ref ds.length :: st) (ds ++ [.inr (true, k)]) (up0 σ ds.length)) : RJ b sc dC dI cI cZ nL p l e R s m args below meth c cells slots Q pc L (.int (nI k) :: st) ds σ := by
  obtain ⟨hx, hb, hml, hown, hts, hK, hbs, hnw⟩ := id hC
  intro H locs ls hW hS hl
  refine va_newaK (atype := .boolean) (N := k) hx hb (hts _ (TB_in (by decide +kernel : Cond.arrayClass .boolean ∈ lw_tbl) rfl)) rfl hd rfl (nI_pos (by omega)) (nI_clamp (by omega)) (by show k * 1 ≤ _; omega) hR.1 hR.2 hW.1 fun H1 cA e1 z1 o1 hAr hNm => ?_
  have hcA : cA = cZ := by
    have h1 : s.vm.findClass ("[" ++ (newarray.typeOf .boolean).toString) = some cZ := (hK.2 1 _ rfl).2
    exact Option.some.inj (hNm.symm.trans h1)
  have hkp : ∀ (k : Nat) (x : Nat × va_E), (wls b cI cZ σ ds)[k]? = some x → H1[x.1]? = H[x.1]? := fun k x hx => o1 x.1 (by rw [← hW.1]; exact (hW.2 k x hx).lt)
  refine K H1 locs ls ⟨by rw [z1]; simp; omega, ?_⟩ ⟨Nat.le_trans hS.1 (by rw [z1, hW.1]; omega), fun x g1 g2 => (o1 x (by rw [← hW.1]; exact Nat.lt_of_lt_of_le g1 hS.1)).trans (hS.2.1 x g1 g2), hS.2.2⟩ hl
  rw [← wls_push]
  refine (hW.2.kept hkp).app (fun k x hx => ?_)
  have hz : k < 1 := (List.getElem?_eq_some_iff.mp hx).1
  rw [show k = 0 by omega] at hx
  cases hx
  show H1[b + ds.length]? = some (vp_cell (czI cI cZ true) (_, .inl (fun _ => 0)))
  rw [vp_cell0 _ _ true, e1, hcA]
  rfl
def pOK (oc : Nat) (bytes : ByteArray) (pc ci k : Nat) : Bool := match decode bytes pc with
  | .ok (.putfield idx, 3) => decide ((oc, idx, ci, k) ∈ FLK) && decide ((cT ci k).2.2.2 = true) && decide (oc = ci) && (match parseFieldDescriptor (cT ci k).2.2.1 with
    | some (.object _) => true
    | some (.array _) => true
    | _ => false)
  | _ => false
/-- a constructor keeps a cell in a final field -/
theorem RJ.putR (hC : CX b dC dI cI cZ (cn oc) bytes nL p s m args c) {ci k q w : Nat} {fs : List FDs} (ho : pOK oc bytes pc ci k = true) (hname : meth.name = "<init>") (hd : ds[q]? = some (.inl (ci, fs))) (hfk : k < fs.length)
    (K : RJ b sc dC dI cI cZ nL p l e R s m args below meth c cells slots Q (pc + 3) L st (ds.set q (.inl (ci, fs.set k (some (some w))))) σ) : RJ b sc dC dI cI cZ nL p l e R s m args below meth c cells slots Q pc L (.ref w :: .ref q :: st) ds σ := by
  unfold pOK at ho
  split at ho
  rotate_left
  · cases ho
  rename_i idx hdg
  simp only [Bool.and_eq_true, decide_eq_true_eq] at ho
  obtain ⟨⟨⟨hf, hfin⟩, hoc⟩, hty0⟩ := ho
  obtain ⟨ty, hty, href⟩ : ∃ ty, parseFieldDescriptor (cT ci k).2.2.1 = some ty ∧ (narrow ty (.ref (b + w)) = .ref (b + w) ∧ fits ty (.ref (b + w)) = true) := by
    split at hty0
    · rename_i h; exact ⟨_, h, rfl, rfl⟩
    · rename_i h; exact ⟨_, h, rfl, rfl⟩
    · cases hty0
  subst hoc
  obtain ⟨hx, hb, hml, hown, hts, hK, hbs, hnw⟩ := hC
  intro H locs ls hW hS hl
  obtain ⟨hz, hP⟩ := hW
  obtain ⟨h1, h13, hkN, hsame⟩ := FLK_ok hf
  dsimp only at h1 h13 hkN hsame
  have hcq := cq_in oc h13
  have hin := ws_in oc h13
  have hap := va_apart (own := cn oc) hts hin (cty oc) (cty_ok oc h13) (cnm_ok oc h13) hK hcq
  have hwq := wls_at (b := b) (cI := cI) (cZ := cZ) (σ := σ) hd
  obtain ⟨r, h2, cell, q1, q2, q3, q4⟩ := hP q _ hwq
  have hr : r = (cn oc, cT oc, cN oc) := Option.some.inj (h2.symm.trans hcq)
  subst hr
  obtain ⟨hSl, hfc, kC, hkC, hkind⟩ := hK.1 oc _ hcq
  obtain ⟨cf, kf, fi, f, hi, hsl⟩ := hSl k hkN
  have hlay := hts _ (hin _ (u_in_lay hkN))
  unfold u_lay at hlay
  rw [if_pos hfin] at hlay
  have hstt := (u_facts hfc hkC (u_lays hts hin hkN) hi).1
  have hcf : m.cls = cf := by
    obtain ⟨_, _, c', _, _, _, -, -, hf', -, -, -, hown2, -⟩ := Cond.laysFinal_spec hlay
    have e1 : c' = cf := by have := hi.symm.trans hf'; simp at this; exact this.1.symm
    rw [hsame] at hown2
    rw [← e1]; exact Option.some.inj (hown.symm.trans hown2)
  have h6 := u_fits hfc hkC hkind (Or.inr hlay) hi hty href.1 href.2
  refine W.putFinK hx hb hown (hts _ h1) (by rw [← hsame]; exact hi) hstt hcf hname (by rw [q2]; exact h6) q1 q3 (by rw [hsl]; exact k2_hasslot (q4 k hkN)) rfl rfl hdg fun H' e1 e2 e3 => ?_
  rw [hsl] at e1 ⊢
  have hlen : k < (fs.mapIdx (fvl b (σ q))).length := by simpa using hfk
  refine K H' _ ls ⟨by rw [e2, hz]; simp, ?_⟩ (hS.put e2 e3 (Nat.le_add_right b q)) hl
  rw [← wls_putR hd hfk]
  exact hP.set (wls_D b cI cZ σ ds) hwq ⟨_, hcq, t_OB.to (V := updV (vp_V (fs.mapIdx (fvl b (σ q)))) k (.ref (b + w))) ⟨_, e1, q2, q3, t_set q4 hap hkN _⟩ (fun j _ => vp_updV_set hlen _ j)⟩ e3
end RJ3
end
section
/-! rm: the closed judgement: rules, returns, entry -/
section RM1
variable {d : Nat} {M : MI} {mc ms : Nat} {r : Option Value} {ds' : List CDs} {σ' : SG} {cl sl pc : Nat} {L : List (Option Value)} {st : List Value} {ds : List CDs} {σ : SG}
theorem RM.blk (is : List AI) {pc' : Nat} {L' : List (Option Value)} {st' : List Value} {σ1 : SG} (hx : nxs M.oc M.nL M.cc pc is = some pc') (he : exs ds is L st σ = some (L', st', σ1)) (K : RM d M mc ms r ds' σ' cl sl pc' L' st' ds σ1) : RM d M mc ms r ds' σ' cl sl pc L st ds σ := by
  intro l b sc dC dI cI cZ p e s m args below meth c hC hr hk hn
  exact RJ.blk hC is hx he (K l b sc dC dI cI cZ p e s m args below meth c hC hr hk hn)
theorem RM.eq {L1 : List (Option Value)} {st1 : List Value} {σ1 : SG} (h1 : L = L1) (h2 : st = st1) (h3 : σ = σ1) (K : RM d M mc ms r ds' σ' cl sl pc L1 st1 ds σ1) : RM d M mc ms r ds' σ' cl sl pc L st ds σ := by
  subst h1; subst h2; subst h3; exact K
theorem RM.if_eq {x : Int32} {tgt : Nat} (hb : brc M.cc pc = some (0, tgt)) (kt : x = 0 → RM d M mc ms r ds' σ' cl sl tgt L st ds σ) (kf : ¬ x = 0 → RM d M mc ms r ds' σ' cl sl (pc + 3) L st ds σ) : RM d M mc ms r ds' σ' cl sl pc L (.int x :: st) ds σ := by
  intro l b sc dC dI cI cZ p e s m args below meth c hC hr hk hn
  exact RJ.if_eq hC hb (fun h => kt h l b sc dC dI cI cZ p e s m args below meth c hC hr hk hn) (fun h => kf h l b sc dC dI cI cZ p e s m args below meth c hC hr hk hn)
theorem RM.icmp_eq {x y : Int32} {tgt : Nat} (hb : brc M.cc pc = some (6, tgt)) (kt : x = y → RM d M mc ms r ds' σ' cl sl tgt L st ds σ) (kf : ¬ x = y → RM d M mc ms r ds' σ' cl sl (pc + 3) L st ds σ) : RM d M mc ms r ds' σ' cl sl pc L (.int y :: .int x :: st) ds σ := by
  intro l b sc dC dI cI cZ p e s m args below meth c hC hr hk hn
  exact RJ.icmp_eq hC hb (fun h => kt h l b sc dC dI cI cZ p e s m args below meth c hC hr hk hn) (fun h => kf h l b sc dC dI cI cZ p e s m args below meth c hC hr hk hn)
theorem RM.if_ne {x : Int32} {tgt : Nat} (hb : brc M.cc pc = some (1, tgt)) (kt : ¬ x = 0 → RM d M mc ms r ds' σ' cl sl tgt L st ds σ) (kf : x = 0 → RM d M mc ms r ds' σ' cl sl (pc + 3) L st ds σ) : RM d M mc ms r ds' σ' cl sl pc L (.int x :: st) ds σ := by
  intro l b sc dC dI cI cZ p e s m args below meth c hC hr hk hn
  exact RJ.if_ne hC hb (fun h => kt h l b sc dC dI cI cZ p e s m args below meth c hC hr hk hn) (fun h => kf h l b sc dC dI cI cZ p e s m args below meth c hC hr hk hn)
theorem RM.icmp_ne {x y : Int32} {tgt : Nat} (hb : brc M.cc pc = some (7, tgt)) (kt : ¬ x = y → RM d M mc ms r ds' σ' cl sl tgt L st ds σ) (kf : x = y → RM d M mc ms r ds' σ' cl sl (pc + 3) L st ds σ) : RM d M mc ms r ds' σ' cl sl pc L (.int y :: .int x :: st) ds σ := by
  intro l b sc dC dI cI cZ p e s m args below meth c hC hr hk hn
  exact RJ.icmp_ne hC hb (fun h => kt h l b sc dC dI cI cZ p e s m args below meth c hC hr hk hn) (fun h => kf h l b sc dC dI cI cZ p e s m args below meth c hC hr hk hn)
theorem RM.if_lt {x : Int32} {tgt : Nat} (hb : brc M.cc pc = some (2, tgt)) (kt : x < 0 → RM d M mc ms r ds' σ' cl sl tgt L st ds σ) (kf : ¬ x < 0 → RM d M mc ms r ds' σ' cl sl (pc + 3) L st ds σ) : RM d M mc ms r ds' σ' cl sl pc L (.int x :: st) ds σ := by
  intro l b sc dC dI cI cZ p e s m args below meth c hC hr hk hn
  exact RJ.if_lt hC hb (fun h => kt h l b sc dC dI cI cZ p e s m args below meth c hC hr hk hn) (fun h => kf h l b sc dC dI cI cZ p e s m args below meth c hC hr hk hn)
theorem RM.icmp_lt {x y : Int32} {tgt : Nat} (hb : brc M.cc pc = some (8, tgt)) (kt : x < y → RM d M mc ms r ds' σ' cl sl tgt L st ds σ) (kf : ¬ x < y → RM d M mc ms r ds' σ' cl sl (pc + 3) L st ds σ) : RM d M mc ms r ds' σ' cl sl pc L (.int y :: .int x :: st) ds σ := by
  intro l b sc dC dI cI cZ p e s m args below meth c hC hr hk hn
  exact RJ.icmp_lt hC hb (fun h => kt h l b sc dC dI cI cZ p e s m args below meth c hC hr hk hn) (fun h => kf h l b sc dC dI cI cZ p e s m args below meth c hC hr hk hn)
theorem RM.if_ge {x : Int32} {tgt : Nat} (hb : brc M.cc pc = some (3, tgt)) (kt : 0 ≤ x → RM d M mc ms r ds' σ' cl sl tgt L st ds σ) (kf : ¬ 0 ≤ x → RM d M mc ms r ds' σ' cl sl (pc + 3) L st ds σ) : RM d M mc ms r ds' σ' cl sl pc L (.int x :: st) ds σ := by
  intro l b sc dC dI cI cZ p e s m args below meth c hC hr hk hn
  exact RJ.if_ge hC hb (fun h => kt h l b sc dC dI cI cZ p e s m args below meth c hC hr hk hn) (fun h => kf h l b sc dC dI cI cZ p e s m args below meth c hC hr hk hn)
theorem RM.icmp_ge {x y : Int32} {tgt : Nat} (hb : brc M.cc pc = some (9, tgt)) (kt : y ≤ x → RM d M mc ms r ds' σ' cl sl tgt L st ds σ) (kf : ¬ y ≤ x → RM d M mc ms r ds' σ' cl sl (pc + 3) L st ds σ) : RM d M mc ms r ds' σ' cl sl pc L (.int y :: .int x :: st) ds σ := by
  intro l b sc dC dI cI cZ p e s m args below meth c hC hr hk hn
  exact RJ.icmp_ge hC hb (fun h => kt h l b sc dC dI cI cZ p e s m args below meth c hC hr hk hn) (fun h => kf h l b sc dC dI cI cZ p e s m args below meth c hC hr hk hn)
theorem RM.if_gt {x : Int32} {tgt : Nat} (hb : brc M.cc pc = some (4, tgt)) (kt : 0 < x → RM d M mc ms r ds' σ' cl sl tgt L st ds σ) (kf : ¬ 0 < x → RM d M mc ms r ds' σ' cl sl (pc + 3) L st ds σ) : RM d M mc ms r ds' σ' cl sl pc L (.int x :: st) ds σ := by
  intro l b sc dC dI cI cZ p e s m args below meth c hC hr hk hn
  exact RJ.if_gt hC hb (fun h => kt h l b sc dC dI cI cZ p e s m args below meth c hC hr hk hn) (fun h => kf h l b sc dC dI cI cZ p e s m args below meth c hC hr hk hn)
theorem RM.icmp_gt {x y : Int32} {tgt : Nat} (hb : brc M.cc pc = some (10, tgt)) (kt : y < x → RM d M mc ms r ds' σ' cl sl tgt L st ds σ) (kf : ¬ y < x → RM d M mc ms r ds' σ' cl sl (pc + 3) L st ds σ) : RM d M mc ms r ds' σ' cl sl pc L (.int y :: .int x :: st) ds σ := by
  intro l b sc dC dI cI cZ p e s m args below meth c hC hr hk hn
  exact RJ.icmp_gt hC hb (fun h => kt h l b sc dC dI cI cZ p e s m args below meth c hC hr hk hn) (fun h => kf h l b sc dC dI cI cZ p e s m args below meth c hC hr hk hn)
theorem RM.if_le {x : Int32} {tgt : Nat} (hb : brc M.cc pc = some (5, tgt)) (kt : x ≤ 0 → RM d M mc ms r ds' σ' cl sl tgt L st ds σ) (kf : ¬ x ≤ 0 → RM d M mc ms r ds' σ' cl sl (pc + 3) L st ds σ) : RM d M mc ms r ds' σ' cl sl pc L (.int x :: st) ds σ := by
  intro l b sc dC dI cI cZ p e s m args below meth c hC hr hk hn
  exact RJ.if_le hC hb (fun h => kt h l b sc dC dI cI cZ p e s m args below meth c hC hr hk hn) (fun h => kf h l b sc dC dI cI cZ p e s m args below meth c hC hr hk hn)
theorem RM.icmp_le {x y : Int32} {tgt : Nat} (hb : brc M.cc pc = some (11, tgt)) (kt : x ≤ y → RM d M mc ms r ds' σ' cl sl tgt L st ds σ) (kf : ¬ x ≤ y → RM d M mc ms r ds' σ' cl sl (pc + 3) L st ds σ) : RM d M mc ms r ds' σ' cl sl pc L (.int y :: .int x :: st) ds σ := by
  intro l b sc dC dI cI cZ p e s m args below meth c hC hr hk hn
  exact RJ.icmp_le hC hb (fun h => kt h l b sc dC dI cI cZ p e s m args below meth c hC hr hk hn) (fun h => kf h l b sc dC dI cI cZ p e s m args below meth c hC hr hk hn)
theorem RM.zeq {z : Bool} {tgt : Nat} (hb : brc M.cc pc = some (0, tgt)) (kt : z = false → RM d M mc ms r ds' σ' cl sl tgt L st ds σ) (kf : z = true → RM d M mc ms r ds' σ' cl sl (pc + 3) L st ds σ) : RM d M mc ms r ds' σ' cl sl pc L (.int (bI z) :: st) ds σ :=
  RM.if_eq hb (fun h => kt ((bI_0 z).mp h)) (fun h => kf ((bI_n z).mp h))
theorem RM.zne {z : Bool} {tgt : Nat} (hb : brc M.cc pc = some (1, tgt)) (kt : z = true → RM d M mc ms r ds' σ' cl sl tgt L st ds σ) (kf : z = false → RM d M mc ms r ds' σ' cl sl (pc + 3) L st ds σ) : RM d M mc ms r ds' σ' cl sl pc L (.int (bI z) :: st) ds σ :=
  RM.if_ne hb (fun h => kt ((bI_n z).mp h)) (fun h => kf ((bI_0 z).mp h))
theorem RM.idiv {x y : Int32} (hd : decode M.cc pc = .ok (.idiv, 1)) (hy : ¬ y = 0) (K : RM d M mc ms r ds' σ' cl sl (pc + 1) L (.int (x / y) :: st) ds σ) : RM d M mc ms r ds' σ' cl sl pc L (.int y :: .int x :: st) ds σ := by
  intro l b sc dC dI cI cZ p e s m args below meth c hC hr hk hn
  exact RJ.idiv hC hd hy (K l b sc dC dI cI cZ p e s m args below meth c hC hr hk hn)
theorem RM.irem {x y : Int32} (hd : decode M.cc pc = .ok (.irem, 1)) (hy : ¬ y = 0) (K : RM d M mc ms r ds' σ' cl sl (pc + 1) L (.int (x - x / y * y) :: st) ds σ) : RM d M mc ms r ds' σ' cl sl pc L (.int y :: .int x :: st) ds σ := by
  intro l b sc dC dI cI cZ p e s m args below meth c hC hr hk hn
  exact RJ.irem hC hd hy (K l b sc dC dI cI cZ p e s m args below meth c hC hr hk hn)
theorem RM.iald {i : Int32} {q n : Nat} (hd : decode M.cc pc = .ok (.iaload, 1)) (hq : ds[q]? = some (.inr (false, n))) (hin : vp_in i n) (K : RM d M mc ms r ds' σ' cl sl (pc + 1) L (.int (σ q (ix i)) :: st) ds σ) : RM d M mc ms r ds' σ' cl sl pc L (.int i :: .ref q :: st) ds σ := by
  intro l b sc dC dI cI cZ p e s m args below meth c hC hr hk hn
  exact RJ.iald hC hd hq hin (K l b sc dC dI cI cZ p e s m args below meth c hC hr hk hn)
theorem RM.zald {i : Int32} {q n : Nat} (hd : decode M.cc pc = .ok (.baload, 1)) (hq : ds[q]? = some (.inr (true, n))) (hin : vp_in i n) (K : RM d M mc ms r ds' σ' cl sl (pc + 1) L (.int (σ q (ix i)) :: st) ds σ) : RM d M mc ms r ds' σ' cl sl pc L (.int i :: .ref q :: st) ds σ := by
  intro l b sc dC dI cI cZ p e s m args below meth c hC hr hk hn
  exact RJ.zald hC hd hq hin (K l b sc dC dI cI cZ p e s m args below meth c hC hr hk hn)
theorem RM.alen {q n : Nat} {z : Bool} (hd : decode M.cc pc = .ok (.arraylength, 1)) (hq : ds[q]? = some (.inr (z, n))) (K : RM d M mc ms r ds' σ' cl sl (pc + 1) L (.int (nI n) :: st) ds σ) : RM d M mc ms r ds' σ' cl sl pc L (.ref q :: st) ds σ := by
  intro l b sc dC dI cI cZ p e s m args below meth c hC hr hk hn
  exact RJ.alen hC hd hq (K l b sc dC dI cI cZ p e s m args below meth c hC hr hk hn)
theorem RM.iast {i x : Int32} {q n : Nat} (hd : decode M.cc pc = .ok (.iastore, 1)) (hq : ds[q]? = some (.inr (false, n))) (hin : vp_in i n) (K : RM d M mc ms r ds' σ' cl sl (pc + 1) L st ds (up σ q (ix i) x)) : RM d M mc ms r ds' σ' cl sl pc L (.int x :: .int i :: .ref q :: st) ds σ := by
  intro l b sc dC dI cI cZ p e s m args below meth c hC hr hk hn
  exact RJ.iast hC hd hq hin (K l b sc dC dI cI cZ p e s m args below meth c hC hr hk hn)
theorem RM.zast {i x : Int32} {q n : Nat} (hd : decode M.cc pc = .ok (.bastore, 1)) (hq : ds[q]? = some (.inr (true, n))) (hin : vp_in i n) (hx : vp_nar .boolean x = x) (K : RM d M mc ms r ds' σ' cl sl (pc + 1) L st ds (up σ q (ix i) x)) : RM d M mc ms r ds' σ' cl sl pc L (.int x :: .int i :: .ref q :: st) ds σ := by
  intro l b sc dC dI cI cZ p e s m args below meth c hC hr hk hn
  exact RJ.zast hC hd hq hin hx (K l b sc dC dI cI cZ p e s m args below meth c hC hr hk hn)
theorem tsK_imp {P P2 : Nat → Prop} {x : Int32} (h : ∀ t, P t → P2 t) : ∀ {r : List Nat} {k : Nat}, tsK P x k r → tsK P2 x k r
  | [], _, _ => trivial
  | t :: r, k, hK => ⟨fun e => h t (hK.1 e), tsK_imp h hK.2⟩
theorem RM.tsw {x : Int32} {ts : List Nat} {df : Nat} (hb : tsc M.cc pc = some (ts, df)) (hlen : ts.length < 1000) (K : tsK (fun t => RM d M mc ms r ds' σ' cl sl t L st ds σ) x 0 ts) (Kd : (x < 0 ∨ nI ts.length ≤ x) → RM d M mc ms r ds' σ' cl sl df L st ds σ) : RM d M mc ms r ds' σ' cl sl pc L (.int x :: st) ds σ := by
  intro l b sc dC dI cI cZ p e s m args below meth c hC hr hk hn
  exact RJ.tsw hC hb hlen (tsK_imp (fun t h => h l b sc dC dI cI cZ p e s m args below meth c hC hr hk hn) K) (fun h => Kd h l b sc dC dI cI cZ p e s m args below meth c hC hr hk hn)
def mxOK (oc : Nat) (bytes : ByteArray) (pc : Nat) : Bool := match decode bytes pc with
  | .ok (.invokestatic idx, 3) => decide (Cond.methodLink (cn oc) idx Lib.Math.max.name ∈ lw_tbl)
  | _ => false
def mnOK (oc : Nat) (bytes : ByteArray) (pc : Nat) : Bool := match decode bytes pc with
  | .ok (.invokestatic idx, 3) => decide (Cond.methodLink (cn oc) idx Lib.Math.min.name ∈ lw_tbl)
  | _ => false
theorem mx_ws : Cond.static Lib.Math.max.name ∈ TB ∧ Cond.initialized "java/lang/Math" ∈ TB ∧ Cond.code Lib.Math.max.name Lib.Math.max.code 2 (some .int) ∈ TB := ⟨TB_in (by decide +kernel) rfl, TB_in (by decide +kernel) rfl, TB_in (by decide +kernel) rfl⟩
theorem mn_ws : Cond.static Lib.Math.min.name ∈ TB ∧ Cond.initialized "java/lang/Math" ∈ TB ∧ Cond.code Lib.Math.min.name Lib.Math.min.code 2 (some .int) ∈ TB := ⟨TB_in (by decide +kernel) rfl, TB_in (by decide +kernel) rfl, TB_in (by decide +kernel) rfl⟩
def mxI (x y : Int32) : Int32 := if x < y then y else x
def mnI (x y : Int32) : Int32 := if y < x then y else x
theorem RM.mmax {x y : Int32} (ho : mxOK M.oc M.cc pc = true) (hd : 1 ≤ d) (hs : (st.map fun v => v.category).sum ≤ 8) (hcl : cl ≤ mc ∧ sl ≤ ms) (K : RM d M mc ms r ds' σ' cl sl (pc + 3) L (.int (mxI x y) :: st) ds σ) : RM d M mc ms r ds' σ' cl sl pc L (.int y :: .int x :: st) ds σ := by
  unfold mxOK at ho
  split at ho
  · rename_i idx hdg
    intro l b sc dC dI cI cZ p e s m args below meth c hC hr hk hn
    exact RJ.mmax hC hdg (TB_in (of_decide_eq_true ho) rfl) mx_ws ⟨hd, by show _ ≤ 40 * d; omega, hcl.1, hcl.2⟩ (K l b sc dC dI cI cZ p e s m args below meth c hC hr hk hn)
  · cases ho
theorem RM.mmin {x y : Int32} (ho : mnOK M.oc M.cc pc = true) (hd : 1 ≤ d) (hs : (st.map fun v => v.category).sum ≤ 8) (hcl : cl ≤ mc ∧ sl ≤ ms) (K : RM d M mc ms r ds' σ' cl sl (pc + 3) L (.int (mnI x y) :: st) ds σ) : RM d M mc ms r ds' σ' cl sl pc L (.int y :: .int x :: st) ds σ := by
  unfold mnOK at ho
  split at ho
  · rename_i idx hdg
    intro l b sc dC dI cI cZ p e s m args below meth c hC hr hk hn
    exact RJ.mmin hC hdg (TB_in (of_decide_eq_true ho) rfl) mn_ws ⟨hd, by show _ ≤ 40 * d; omega, hcl.1, hcl.2⟩ (K l b sc dC dI cI cZ p e s m args below meth c hC hr hk hn)
  · cases ho
theorem RM.callV {M2 : MI} {d2 n mc2 ms2 : Nat} {r2 : Option Value} {ds2 : List CDs} {σ2 : SG} (As : List Value) {q ci : Nat} {fs : List FDs} (hS1 : Sp d2 M2 mc2 ms2 (.ref q :: As) ds σ r2 ds2 σ2) (ho : vOK M.oc M.cc pc M2 = true) (hm : mOK M2 n = true) (hna : As.length = n) (hq : ds[q]? = some (.inl (ci, fs))) (hci : ci < 13) (hcn : ci = M2.oc)
    (hd : d2 < d) (hcl : cl + mc2 ≤ mc ∧ sl + ms2 ≤ ms) (hst : (st.map fun v => v.category).sum ≤ 8) {st0 : List Value} (hst0 : st0 = As.reverse ++ .ref q :: st)
    (K : RM d M mc ms r ds' σ' (cl + mc2) (sl + ms2) (pc + 3) L (r2.toList ++ st) ds2 σ2) : RM d M mc ms r ds' σ' cl sl pc L st0 ds σ := by
  intro l b sc dC dI cI cZ p e s m args below meth c hC hr hk hn
  exact RJ.callV hC hS1 ho hm hna hq hci hcn (R := rmD d mc ms) ⟨hd, by show 8 + (20 + 11) + 40 * d2 ≤ 40 * d; omega, hcl.1, hcl.2⟩ hst hst0 (K l b sc dC dI cI cZ p e s m args below meth c hC hr hk hn)
theorem RM.callS {M2 : MI} {d2 n mc2 ms2 : Nat} {r2 : Option Value} {ds2 : List CDs} {σ2 : SG} (As : List Value) (hS1 : Sp d2 M2 mc2 ms2 As ds σ r2 ds2 σ2) (ho : sOK M.oc M.cc pc M2 = true) (hm : mOK M2 n = true) (hna : As.length = n)
    (hd : d2 < d) (hcl : cl + mc2 ≤ mc ∧ sl + ms2 ≤ ms) (hst : (st.map fun v => v.category).sum ≤ 8) {st0 : List Value} (hst0 : st0 = As.reverse ++ st)
    (K : RM d M mc ms r ds' σ' (cl + mc2) (sl + ms2) (pc + 3) L (r2.toList ++ st) ds2 σ2) : RM d M mc ms r ds' σ' cl sl pc L st0 ds σ := by
  intro l b sc dC dI cI cZ p e s m args below meth c hC hr hk hn
  exact RJ.callS hC hS1 ho hm hna (R := rmD d mc ms) ⟨hd, by show 8 + (20 + 11) + 40 * d2 ≤ 40 * d; omega, hcl.1, hcl.2⟩ hst hst0 (K l b sc dC dI cI cZ p e s m args below meth c hC hr hk hn)
theorem RM.callI {M2 : MI} {d2 n mc2 ms2 : Nat} {r2 : Option Value} {ds2 : List CDs} {σ2 : SG} (As : List Value) {q : Nat} (hS1 : Sp d2 M2 mc2 ms2 (.ref q :: As) ds σ r2 ds2 σ2) (ho : iOK M.oc M.cc pc M2 = true) (hm : mOK M2 n = true) (hna : As.length = n)
    (hd : d2 < d) (hcl : cl + mc2 ≤ mc ∧ sl + ms2 ≤ ms) (hst : (st.map fun v => v.category).sum ≤ 8) {st0 : List Value} (hst0 : st0 = As.reverse ++ .ref q :: st)
    (K : RM d M mc ms r ds' σ' (cl + mc2) (sl + ms2) (pc + 3) L (r2.toList ++ st) ds2 σ2) : RM d M mc ms r ds' σ' cl sl pc L st0 ds σ := by
  intro l b sc dC dI cI cZ p e s m args below meth c hC hr hk hn
  exact RJ.callI hC hS1 ho hm hna (R := rmD d mc ms) ⟨hd, by show 8 + (20 + 11) + 40 * d2 ≤ 40 * d; omega, hcl.1, hcl.2⟩ hst hst0 (K l b sc dC dI cI cZ p e s m args below meth c hC hr hk hn)
theorem RM.obj {q : Nat} (ho : oOK M.oc M.cc pc = true) (hd : 1 ≤ d) (hst : (st.map fun v => v.category).sum ≤ 8) (K : RM d M mc ms r ds' σ' cl sl (pc + 3) L st ds σ) : RM d M mc ms r ds' σ' cl sl pc L (.ref q :: st) ds σ := by
  intro l b sc dC dI cI cZ p e s m args below meth c hC hr hk hn
  exact RJ.obj hC ho ⟨hd, by show _ ≤ 40 * d; omega⟩ (K l b sc dC dI cI cZ p e s m args below meth c hC hr hk hn)
theorem RM.new {ci : Nat} (ho : nOK M.oc M.cc pc ci = true) (hcl : cl + 1 ≤ mc ∧ sl + cN ci ≤ ms)
    (K : RM d M mc ms r ds' σ' (cl + 1) (sl + cN ci) (pc + 3) L (.ref ds.length :: st) (ds ++ [.inl (ci, fs0 ci)]) (up0 σ ds.length)) : RM d M mc ms r ds' σ' cl sl pc L st ds σ := by
  intro l b sc dC dI cI cZ p e s m args below meth c hC hr hk hn
  exact RJ.new hC ho hcl (K l b sc dC dI cI cZ p e s m args below meth c hC hr hk hn)
theorem RM.newI {k : Nat} (hd : decode M.cc pc = .ok (.newarray .int, 2)) (hkk : k ≤ 65536) (hcl : cl + 1 ≤ mc ∧ sl + k ≤ ms)
    (K : RM d M mc ms r ds' σ' (cl + 1) (sl + k) (pc + 2) L (.ref ds.length :: st) (ds ++ [.inr (false, k)]) (up0 σ ds.length)) : RM d M mc ms r ds' σ' cl sl pc L (.int (nI k) :: st) ds σ := by
  intro l b sc dC dI cI cZ p e s m args below meth c hC hr hk hn
  exact RJ.newI hC hd hkk hcl (K l b sc dC dI cI cZ p e s m args below meth c hC hr hk hn)
theorem RM.newZ {k : Nat} (hd : decode M.cc pc = .ok (.newarray .boolean, 2)) (hkk : k ≤ 65536) (hcl : cl + 1 ≤ mc ∧ sl + k ≤ ms)
    (K : RM d M mc ms r ds' σ' (cl + 1) (sl + k) (pc + 2) L (.ref ds.length :: st) (ds ++ [.inr (true, k)]) (up0 σ ds.length)) : RM d M mc ms r ds' σ' cl sl pc L (.int (nI k) :: st) ds σ := by
  intro l b sc dC dI cI cZ p e s m args below meth c hC hr hk hn
  exact RJ.newZ hC hd hkk hcl (K l b sc dC dI cI cZ p e s m args below meth c hC hr hk hn)
theorem RM.putR {ci k q w : Nat} {fs : List FDs} (ho : pOK M.oc M.cc pc ci k = true) (hname : M.y.name = "<init>") (hd : ds[q]? = some (.inl (ci, fs))) (hfk : k < fs.length)
    (K : RM d M mc ms r ds' σ' cl sl (pc + 3) L st (ds.set q (.inl (ci, fs.set k (some (some w))))) σ) : RM d M mc ms r ds' σ' cl sl pc L (.ref w :: .ref q :: st) ds σ := by
  intro l b sc dC dI cI cZ p e s m args below meth c hC hr hk hn
  exact RJ.putR hC ho (hn.trans hname) hd hfk (K l b sc dC dI cI cZ p e s m args below meth c hC hr hk hn)
end RM1
section RM2
variable {d : Nat} {M : MI} {mc ms : Nat} {pc : Nat} {L : List (Option Value)} {ds : List CDs} {σ : SG}
theorem RM.reti {v : Int32} (hd : decode M.cc pc = .ok (.ireturn, 1)) (hrt : M.rt = some .int) : RM d M mc ms (some (.int v)) ds σ mc ms pc L [.int v] ds σ := by
  intro l b sc dC dI cI cZ p e s m args below meth c hC hr hk hn
  exact fun H locs ls hW hS hl => W.iret hC.1 hC.2.1 (hr.trans hrt) (fun t ht _ => ⟨⟨rfl, by rw [ht]; exact hW⟩, hS.F ht⟩) (fun q hq => hS.2.2 q hq) hd hk
theorem RM.retz {z : Bool} (hd : decode M.cc pc = .ok (.ireturn, 1)) (hrt : M.rt = some .boolean) : RM d M mc ms (some (.int (bI z))) ds σ mc ms pc L [.int (bI z)] ds σ := by
  intro l b sc dC dI cI cZ p e s m args below meth c hC hr hk hn
  exact fun H locs ls hW hS hl => W.zret hC.1 hC.2.1 (hr.trans hrt) (bI_nar z) (fun t ht _ => ⟨⟨rfl, by rw [ht]; exact hW⟩, hS.F ht⟩) (fun q hq => hS.2.2 q hq) hd hk
theorem RM.retl {v : Int64} (hd : decode M.cc pc = .ok (.lreturn, 1)) (hrt : M.rt = some .long) : RM d M mc ms (some (.long v)) ds σ mc ms pc L [.long v] ds σ := by
  intro l b sc dC dI cI cZ p e s m args below meth c hC hr hk hn
  exact fun H locs ls hW hS hl => W.lret hC.1 hC.2.1 (hr.trans hrt) (fun t ht _ => ⟨⟨rfl, by rw [ht]; exact hW⟩, hS.F ht⟩) (fun q hq => hS.2.2 q hq) hd hk
theorem RM.retv (hd : decode M.cc pc = .ok (.return_, 1)) (hrt : M.rt = none) : RM d M mc ms none ds σ mc ms pc L [] ds σ := by
  intro l b sc dC dI cI cZ p e s m args below meth c hC hr hk hn
  exact fun H locs ls hW hS hl => W.vret hC.1 hC.2.1 (hr.trans hrt) (fun t ht _ => ⟨⟨rfl, by rw [ht]; exact hW⟩, hS.F ht⟩) (fun q hq => hS.2.2 q hq) hd hk
def cat1 (as : List Value) : Bool := as.all (fun v => v.category == 1)
theorem lv_args_mem (b sc : Nat) : ∀ (as : List Value) (n i : Nat) (q : Nat × Value), cat1 as = true → q ∈ lc b sc i (as.map some ++ List.replicate n none) → q ∈ lv_args i (as.map (vC b sc))
  | [], 0, i, q, _, h => by simp [lc] at h
  | [], n + 1, i, q, hc, h => by
    rw [List.replicate_succ] at h
    exact absurd (lv_args_mem b sc [] n (i + 1) q hc h) (by simp [lv_args])
  | v :: as, n, i, q, hc, h => by
    simp only [cat1, List.all_cons, Bool.and_eq_true, beq_iff_eq] at hc
    rw [List.map_cons, List.cons_append, show lc b sc i (some v :: (as.map some ++ List.replicate n none)) = (i, vC b sc v) :: lc b sc (i + 1) (as.map some ++ List.replicate n none) from rfl] at h
    rw [List.map_cons, show lv_args i (vC b sc v :: as.map (vC b sc)) = (i, vC b sc v) :: lv_args (if (vC b sc v).category = 2 then i + 2 else i + 1) (as.map (vC b sc)) from rfl, vC_cat, hc.1, if_neg (by decide)]
    rcases List.mem_cons.mp h with h | h
    · exact List.mem_cons.mpr (Or.inl h)
    · exact List.mem_cons_of_mem _ (lv_args_mem b sc as n (i + 1) q hc.2 h)
theorem lg_sl_len (b sc : Nat) : ∀ (as : List Value), cat1 as = true → (lg_sl (as.map (vC b sc))).length = as.length
  | [], _ => rfl
  | v :: as, hc => by
    simp only [cat1, List.all_cons, Bool.and_eq_true, beq_iff_eq] at hc
    have ih := lg_sl_len b sc as hc.2
    simp only [lg_sl, List.map_cons, List.flatMap_cons, List.length_append] at ih ⊢
    rw [vC_cat, hc.1, if_neg (by decide), ih]
    simp
    omega
/-- the entry: a walk from pc 0 is a contract -/
theorem Sp.of {n : Nat} {as : List Value} {r : Option Value} {ds' : List CDs} {σ' : SG} (hm : mOK M n = true) (hcat : cat1 as = true) (hlen : as.length ≤ M.nL) (h : RM d M mc ms r ds' σ' 0 0 0 (as.map some ++ List.replicate (M.nL - as.length) none) [] ds σ) : Sp d M mc ms as ds σ r ds' σ' := by
  obtain ⟨m1, m2, m3, m4, m5, m6, m7, m8⟩ := mOK_of hm
  intro l b sc dC dI cI cZ
  refine Met.ofW (cc := M.cc) (maxL := M.nL) (ret := M.rt) m7 rfl ?_
  intro p e s m args below meth c s₁ B hml hv
  obtain ⟨rfl, hW, hK, hN⟩ := hv
  have hts := atoms_spec (ws := M.ws) B.pre
  have hown : s.vm.findClass (cn M.oc) = some m.cls := by rw [← m1]; exact findClass_of_methodNamed B.named
  have hl := lv_entry (as.map (vC b sc)) (n := M.nL) (by rw [lg_sl_len b sc as hcat]; exact hlen)
  rw [lg_entry_eq]
  generalize (lg_sl (as.map (vC b sc)) ++ List.replicate (M.nL - (lg_sl (as.map (vC b sc))).length) Slot.unset).toArray = ls at hl ⊢
  have hl2 : lv_has ls M.nL (lc b sc 0 (as.map some ++ List.replicate (M.nL - as.length) none)) := ⟨hl.1, hl.2.1, fun q hq => hl.2.2 q (lv_args_mem b sc as _ 0 q hcat hq)⟩
  exact h l b sc dC dI cI cZ p e s m _ below meth c ⟨B.exec, B.bytes, hml, hown, fun w hw => hts w (List.mem_cons_of_mem _ hw), hK, by have := hW.1; omega, hN⟩ B.returns B.notSynchronized (name_of_methodNamed B.named B.method).1 s.heap [] ls hW va_S.rf hl2
end RM2
end
section
/-! rn: the fixed world of all cells, ordinary contracts, loops, rows of numbers -/
def DS : List CDs := [.inl (11, [some (some 1), some (some 4), some (some 18), some (some 35), some (some 42), some (some 52), some (some 57), some (some 60), some (some 65)]), .inl (3, [none, none, some (some 2)]), .inl (9, [some (some 3)]), .inr (false, 240), .inl (4, [some (some 5), some (some 12), some (some 14), some (some 16)]), .inl (0, [some (some 6), some (some 8), some (some 10)]), .inl (9, [some (some 7)]), .inr (false, 8), .inl (9, [some (some 9)]), .inr (false, 8), .inl (9, [some (some 11)]), .inr (false, 8), .inl (9, [some (some 13)]), .inr (false, 8), .inl (9, [some (some 15)]), .inr (false, 8), .inl (9, [some (some 17)]), .inr (false, 8), .inl (1, [none, some (some 19), some (some 21), some (some 23), some (some 25), some (some 27), some (some 29), some (some 31), some (some 33)]), .inl (9, [some (some 20)]), .inr (false, 240), .inl (9, [some (some 22)]), .inr (false, 240), .inl (9, [some (some 24)]), .inr (false, 240), .inl (9, [some (some 26)]), .inr (false, 240), .inl (9, [some (some 28)]), .inr (false, 240), .inl (9, [some (some 30)]), .inr (false, 240), .inl (9, [some (some 32)]), .inr (false, 240), .inl (9, [some (some 34)]), .inr (false, 240), .inl (6, [some (some 1), some (some 4), some (some 18), some (some 36), some (some 38), some (some 40)]), .inl (9, [some (some 37)]), .inr (false, 25), .inl (9, [some (some 39)]), .inr (false, 25), .inl (9, [some (some 41)]), .inr (false, 25), .inl (7, [none, some (some 43), some (some 45)]), .inl (9, [some (some 44)]), .inr (false, 10), .inl (0, [some (some 46), some (some 48), some (some 50)]), .inl (9, [some (some 47)]), .inr (false, 10), .inl (9, [some (some 49)]), .inr (false, 10), .inl (9, [some (some 51)]), .inr (false, 10), .inl (8, [none, some (some 1), some (some 4), some (some 18), some (some 42), some (some 53), some (some 55)]), .inl (9, [some (some 54)]), .inr (false, 10), .inl (9, [some (some 56)]), .inr (false, 240), .inl (10, [none, some (some 58), some (some 1), some (some 4), some (some 18)]), .inl (9, [some (some 59)]), .inr (false, 240), .inl (5, [none, some (some 61), some (some 63)]), .inl (9, [some (some 62)]), .inr (false, 4), .inl (9, [some (some 64)]), .inr (false, 4), .inl (2, [none, some (some 57), some (some 60), none, some (some 66), some (some 68), some (some 70), some (some 72), some (some 74)]), .inl (9, [some (some 67)]), .inr (false, 9), .inl (9, [some (some 69)]), .inr (false, 9), .inl (9, [some (some 71)]), .inr (false, 9), .inl (9, [some (some 73)]), .inr (false, 9), .inl (9, [some (some 75)]), .inr (false, 4), .inl (12, [none, none, some (some 77), some (some 78), some (some 79), some (some 80), some (some 81), none, none, none, none, some (some 82), some (some 83), some (some 84), some (some 85), some (some 86), some (some 87), none, none, some (some 88), some (some 89), none, some (some 90), some (some 91), some (some 92), some (some 93), some (some 94), some (some 95), some (some 96), some (some 97), some (some 98), none, some (some 99), none, some (some 100), some (some 101), some (some 102)]), .inr (false, 240), .inr (false, 24), .inr (false, 8), .inr (true, 8), .inr (true, 8), .inr (false, 240), .inr (false, 240), .inr (false, 240), .inr (false, 240), .inr (false, 240), .inr (false, 240), .inr (false, 30), .inr (false, 10), .inr (false, 4), .inr (true, 4), .inr (true, 25), .inr (true, 25), .inr (false, 25), .inr (false, 25), .inr (false, 10), .inr (false, 240), .inr (false, 9), .inr (false, 9), .inr (false, 9), .inr (true, 9), .inr (false, 4)]
abbrev SpN (d : Nat) (M : MI) (as : List Value) (σ : SG) (r : Option Value) (σ' : SG) : Prop := Sp d M 0 0 as DS σ r DS σ'
abbrev RN (d : Nat) (M : MI) (r : Option Value) (σ' : SG) (pc : Nat) (L : List (Option Value)) (st : List Value) (σ : SG) : Prop := RM d M 0 0 r DS σ' 0 0 pc L st DS σ
def ob {A B : Type} (o : Option A) (k : A → Option B) : Option B := match o with
  | none => none
  | some a => k a
theorem ob_some {A B : Type} {o : Option A} {k : A → Option B} {b : B} (h : ob o k = some b) : ∃ a, o = some a ∧ k a = some b := by
  cases o with
  | none => cases h
  | some a => exact ⟨a, rfl, h⟩
theorem ob_of {A B : Type} {o : Option A} {k : A → Option B} {a : A} (h : o = some a) : ob o k = k a := by rw [h]; rfl
def og {B : Type} (c : Bool) (k : Option B) : Option B := match c with
  | true => k
  | false => none
theorem og_some {B : Type} {c : Bool} {k : Option B} {b : B} (h : og c k = some b) : c = true ∧ k = some b := by
  cases c with
  | false => cases h
  | true => exact ⟨rfl, h⟩
theorem og_of {B : Type} {c : Bool} {k : Option B} (h : c = true) : og c k = k := by rw [h]; rfl
def lpW {X Y : Type} (f : X → Option (X ⊕ Y)) : Nat → X → Option Y
  | 0, _ => none
  | n + 1, x => ob (f x) (Sum.elim (lpW f n) some)
def FU : Nat := 1048576
def vin (i : Int32) (n : Nat) : Bool := decide (¬ i < 0) && decide (ix i < n)
theorem vin_of {i : Int32} {n : Nat} (h : vin i n = true) : vp_in i n := by
  simp only [vin, Bool.and_eq_true, decide_eq_true_eq] at h
  rintro (h1 | h1)
  · exact h.1 h1
  · have := h.2
    unfold ix at this
    omega
def nz (y : Int32) : Bool := decide (¬ y = 0)
theorem nz_of {y : Int32} (h : nz y = true) : ¬ y = 0 := of_decide_eq_true h
theorem bf {z : Bool} (h : z = false) : ¬ z = true := by rw [h]; exact Bool.false_ne_true
section RN1
variable {d : Nat} {M : MI} {r : Option Value} {σ' : SG} {pc : Nat} {L : List (Option Value)} {st : List Value} {σ : SG}
theorem RN.callV {M2 : MI} {d2 n : Nat} {r2 : Option Value} {σ2 : SG} (As : List Value) {q ci : Nat} {fs : List FDs} (hS1 : SpN d2 M2 (.ref q :: As) σ r2 σ2) (st : List Value) {pc3 : Nat} {st3 st0 : List Value} (ho : vOK M.oc M.cc pc M2 = true) (hm : mOK M2 n = true) (hd : d2 < d) (K : RN d M r σ' pc3 L st3 σ2) (hst : Nat.ble (st.map fun v => v.category).sum 8 = true := by rfl) (hna : As.length = n := by rfl) (hq : DS[q]? = some (.inl (ci, fs)) := by rfl) (hci : ci < 13 := by decide) (hcn : ci = M2.oc := by rfl) (hst0 : st0 = As.reverse ++ .ref q :: st := by rfl) (hp : pc + 3 = pc3 := by rfl) (hs3 : r2.toList ++ st = st3 := by rfl) : RN d M r σ' pc L st0 σ := by
  subst hp; subst hs3
  exact RM.callV As hS1 ho hm hna hq hci hcn hd ⟨Nat.le_refl _, Nat.le_refl _⟩ (Nat.le_of_ble_eq_true hst) hst0 K
theorem RN.callS {M2 : MI} {d2 n : Nat} {r2 : Option Value} {σ2 : SG} (As : List Value) (hS1 : SpN d2 M2 As σ r2 σ2) (st : List Value) {pc3 : Nat} {st3 st0 : List Value} (ho : sOK M.oc M.cc pc M2 = true) (hm : mOK M2 n = true) (hd : d2 < d) (K : RN d M r σ' pc3 L st3 σ2) (hst : Nat.ble (st.map fun v => v.category).sum 8 = true := by rfl) (hna : As.length = n := by rfl) (hst0 : st0 = As.reverse ++ st := by rfl) (hp : pc + 3 = pc3 := by rfl) (hs3 : r2.toList ++ st = st3 := by rfl) : RN d M r σ' pc L st0 σ := by
  subst hp; subst hs3
  exact RM.callS As hS1 ho hm hna hd ⟨Nat.le_refl _, Nat.le_refl _⟩ (Nat.le_of_ble_eq_true hst) hst0 K
theorem RN.drop {L2 : List (Option Value)} (h : ∀ (i : Nat) (v : Value), L2[i]? = some (some v) → L[i]? = some (some v)) (K : RN d M r σ' pc L2 st σ) : RN d M r σ' pc L st σ := by
  intro l b sc dC dI cI cZ p e s m args below meth c hC hr hk hn H locs ls hW hS hl
  refine K l b sc dC dI cI cZ p e s m args below meth c hC hr hk hn H locs ls hW hS ⟨hl.1, hl.2.1, fun q hq => hl.2.2 q ?_⟩
  obtain ⟨j, w⟩ := q
  obtain ⟨k, v, h1, h2, h3⟩ := (lc_mem b sc L2 0 j w).mp hq
  exact (lc_mem b sc L 0 j w).mpr ⟨k, v, h1, h k v h2, h3⟩
def dropL : List (Option Value) → List Bool → List (Option Value)
  | o :: r, true :: t => o :: dropL r t
  | _ :: r, false :: t => none :: dropL r t
  | [], _ => []
  | r, [] => r.map (fun _ => none)
theorem dropL_ok : ∀ (L : List (Option Value)) (t : List Bool) (i : Nat) (v : Value), (dropL L t)[i]? = some (some v) → L[i]? = some (some v)
  | o :: r, true :: t, 0, v, h => h
  | o :: r, true :: t, i + 1, v, h => by
    have := dropL_ok r t i v (by simpa [dropL] using h)
    simpa using this
  | o :: r, false :: t, 0, v, h => by simp [dropL] at h
  | o :: r, false :: t, i + 1, v, h => by
    have := dropL_ok r t i v (by simpa [dropL] using h)
    simpa using this
  | [], t, i, v, h => by cases t <;> simp [dropL] at h
  | o :: r, [], i, v, h => by
    simp only [dropL, List.getElem?_map, Option.map_eq_some_iff] at h
    obtain ⟨_, _, h⟩ := h
    cases h
theorem RN.dropB (t : List Bool) {L2 : List (Option Value)} (hL : dropL L t = L2) (K : RN d M r σ' pc L2 st σ) : RN d M r σ' pc L st σ := by
  subst hL
  exact RN.drop (dropL_ok L t) K
end RN1
/-! rows of numbers: a row object at q, its cells at a -/
def rg (σ : SG) (a n : Nat) (i : Int32) : Int32 := if i < 0 then 0 else if nI n ≤ i then 0 else σ a (ix i)
def rs (σ : SG) (a n : Nat) (i x : Int32) : SG := if i < 0 then σ else if nI n ≤ i then σ else up σ a (ix i) x
def ra (σ : SG) (a n : Nat) (i x : Int32) : SG := rs σ a n i (rg σ a n i + x)
def rf (σ : SG) (a n : Nat) (x : Int32) : SG := fun p => if p = a then (fun j => if j < n then x else σ a j) else σ p
def rc (σ : SG) (a n a2 n2 : Nat) : SG := fun p => if p = a then (fun j => if j < n then rg σ a2 n2 (nI j) else σ a j) else σ p
theorem ix_nI {n : Nat} (h : n < 2 ^ 31) : ix (nI n) = n := nI_clamp h
theorem in_nI {i : Int32} {n : Nat} (hn : n < 2 ^ 31) (h1 : ¬ i < 0) (h2 : ¬ nI n ≤ i) : vp_in i n := by
  obtain ⟨j, hj, rfl⟩ := nI_of h1
  exact vp_in_nI (by rcases Nat.lt_or_ge j n with q | q; exact q; exact absurd (nI_le q hj) h2) hn
def rowAt (q a n : Nat) : Prop := DS[q]? = some (.inl (9, [some (some a)])) ∧ DS[a]? = some (.inr (false, n)) ∧ n < 2 ^ 31
def M_Row_get : MI := (yX9_get, cX9_get, 2, some .int, 9)
theorem mk_Row_get : mOK M_Row_get 1 = true := by decide +kernel
def M_Row_set : MI := (yX9_set, cX9_set, 3, none, 9)
theorem mk_Row_set : mOK M_Row_set 2 = true := by decide +kernel
def M_Row_add : MI := (yX9_add, cX9_add, 3, none, 9)
theorem mk_Row_add : mOK M_Row_add 2 = true := by decide +kernel
def M_Row_fill : MI := (yX9_fill, cX9_fill, 3, none, 9)
theorem mk_Row_fill : mOK M_Row_fill 1 = true := by decide +kernel
def M_Row_copyFrom : MI := (yX9_copyFrom, cX9_copyFrom, 3, none, 9)
theorem mk_Row_copyFrom : mOK M_Row_copyFrom 1 = true := by decide +kernel
theorem exs_cells {q a n k : Nat} (hq : rowAt q a n) {L : List (Option Value)} {st : List Value} {σ : SG} : ex DS (3, 9, 0, .null) L (.ref q :: st) σ = some (L, .ref a :: st, σ) := by
  simp only [ex, hq.1]
  rfl
theorem RN.cells {d : Nat} {M : MI} {r : Option Value} {σ' : SG} {pc pc3 : Nat} {L : List (Option Value)} {st : List Value} {σ : SG} {q a n : Nat} (hq : rowAt q a n) (hx : nxs M.oc M.nL M.cc pc [(3, 9, 0, .null)] = some pc3) (K : RN d M r σ' pc3 L (.ref a :: st) σ) : RN d M r σ' pc L (.ref q :: st) σ :=
  RM.blk [(3, 9, 0, .null)] hx (by simp only [exs, exs_cells (k := 0) hq]) K
theorem s_Row_get {q a n : Nat} (hq : rowAt q a n) (σ : SG) (i : Int32) : SpN 2 M_Row_get [.ref q, .int i] σ (some (.int (rg σ a n i))) σ := by
  generalize h : rg σ a n i = rr
  unfold rg at h
  refine Sp.of mk_Row_get rfl (Nat.le_of_ble_eq_true rfl) ?_
  refine RM.blk [(1, 1, 0, .null)] (pc' := 1) (L' := [some (.ref q), some (.int i)]) (st' := [.int i]) (by decide +kernel) rfl ?_
  refine RM.if_lt (tgt := 22) (by decide +kernel) (fun hc => ?_) (fun hc => ?_)
  · rw [if_pos hc] at h
    subst h
    refine RM.blk [(0, 0, 0, .int 0)] (pc' := 23) (L' := [some (.ref q), some (.int i)]) (st' := [.int 0]) (by decide +kernel) rfl ?_
    exact RM.reti (by decide +kernel) rfl
  · rw [if_neg hc] at h
    refine RM.blk [(1, 1, 0, .null), (2, 0, 0, .null)] (pc' := 6) (L' := [some (.ref q), some (.int i)]) (st' := [.ref q, .int i]) (by decide +kernel) rfl ?_
    refine RN.cells hq (pc3 := 9) (by decide +kernel) ?_
    refine RM.alen (by decide +kernel) hq.2.1 ?_
    refine RM.icmp_ge (tgt := 22) (by decide +kernel) (fun hc2 => ?_) (fun hc2 => ?_)
    · rw [if_pos hc2] at h
      subst h
      refine RM.blk [(0, 0, 0, .int 0)] (pc' := 23) (L' := [some (.ref q), some (.int i)]) (st' := [.int 0]) (by decide +kernel) rfl ?_
      exact RM.reti (by decide +kernel) rfl
    · rw [if_neg hc2] at h
      subst h
      refine RM.blk [(2, 0, 0, .null)] (pc' := 14) (L' := [some (.ref q), some (.int i)]) (st' := [.ref q]) (by decide +kernel) rfl ?_
      refine RN.cells hq (pc3 := 17) (by decide +kernel) ?_
      refine RM.blk [(1, 1, 0, .null)] (pc' := 18) (L' := [some (.ref q), some (.int i)]) (st' := [.int i, .ref a]) (by decide +kernel) rfl ?_
      refine RM.iald (by decide +kernel) hq.2.1 (in_nI hq.2.2 hc hc2) ?_
      refine RM.blk [(23, 0, 0, .null)] (pc' := 23) (L' := [some (.ref q), some (.int i)]) (st' := [.int (σ a (ix i))]) (by decide +kernel) rfl ?_
      exact RM.reti (by decide +kernel) rfl
theorem s_Row_set {q a n : Nat} (hq : rowAt q a n) (σ : SG) (i x : Int32) : SpN 2 M_Row_set [.ref q, .int i, .int x] σ none (rs σ a n i x) := by
  generalize h : rs σ a n i x = rr
  unfold rs at h
  refine Sp.of mk_Row_set rfl (Nat.le_of_ble_eq_true rfl) ?_
  refine RM.blk [(1, 1, 0, .null)] (pc' := 1) (L' := [some (.ref q), some (.int i), some (.int x)]) (st' := [.int i]) (by decide +kernel) rfl ?_
  refine RM.if_lt (tgt := 20) (by decide +kernel) (fun hc => ?_) (fun hc => ?_)
  · rw [if_pos hc] at h
    subst h
    exact RM.retv (by decide +kernel) rfl
  · rw [if_neg hc] at h
    refine RM.blk [(1, 1, 0, .null), (2, 0, 0, .null)] (pc' := 6) (L' := [some (.ref q), some (.int i), some (.int x)]) (st' := [.ref q, .int i]) (by decide +kernel) rfl ?_
    refine RN.cells hq (pc3 := 9) (by decide +kernel) ?_
    refine RM.alen (by decide +kernel) hq.2.1 ?_
    refine RM.icmp_ge (tgt := 20) (by decide +kernel) (fun hc2 => ?_) (fun hc2 => ?_)
    · rw [if_pos hc2] at h
      subst h
      exact RM.retv (by decide +kernel) rfl
    · rw [if_neg hc2] at h
      subst h
      refine RM.blk [(2, 0, 0, .null)] (pc' := 14) (L' := [some (.ref q), some (.int i), some (.int x)]) (st' := [.ref q]) (by decide +kernel) rfl ?_
      refine RN.cells hq (pc3 := 17) (by decide +kernel) ?_
      refine RM.blk [(1, 1, 0, .null), (1, 2, 0, .null)] (pc' := 19) (L' := [some (.ref q), some (.int i), some (.int x)]) (st' := [.int x, .int i, .ref a]) (by decide +kernel) rfl ?_
      refine RM.iast (by decide +kernel) hq.2.1 (in_nI hq.2.2 hc hc2) ?_
      exact RM.retv (by decide +kernel) rfl
end
section
/-! rows of numbers: add, fill, copyFrom -/
theorem s_Row_add {q a n : Nat} (hq : rowAt q a n) (σ : SG) (i x : Int32) : SpN 3 M_Row_add [.ref q, .int i, .int x] σ none (ra σ a n i x) := by
  refine Sp.of mk_Row_add rfl (Nat.le_of_ble_eq_true rfl) ?_
  refine RM.blk [(2, 0, 0, .null), (1, 1, 0, .null), (2, 0, 0, .null), (1, 1, 0, .null)] (pc' := 4) (L' := [some (.ref q), some (.int i), some (.int x)]) (st' := [.int i, .ref q, .int i, .ref q]) (by decide +kernel) rfl ?_
  refine RN.callV [.int i] (s_Row_get hq σ i) [.int i, .ref q] (pc3 := 7) (st3 := [.int (rg σ a n i), .int i, .ref q]) (by decide +kernel) mk_Row_get (by decide) ?_ (hq := hq.1)
  refine RM.blk [(1, 2, 0, .null), (5, 0, 0, .null)] (pc' := 9) (L' := [some (.ref q), some (.int i), some (.int x)]) (st' := [.int (rg σ a n i + x), .int i, .ref q]) (by decide +kernel) rfl ?_
  refine RN.callV [.int i, .int (rg σ a n i + x)] (s_Row_set hq σ i (rg σ a n i + x)) [] (pc3 := 12) (st3 := []) (by decide +kernel) mk_Row_set (by decide) ?_ (hq := hq.1)
  exact RM.retv (by decide +kernel) rfl
def rfI (σ : SG) (a i : Nat) (x : Int32) : SG := fun p => if p = a then (fun j => if j < i then x else σ a j) else σ p
theorem rfI_0 (σ : SG) (a : Nat) (x : Int32) : rfI σ a 0 x = σ := by
  funext p j
  unfold rfI
  by_cases h : p = a
  · rw [if_pos h, h]; rfl
  · rw [if_neg h]
theorem rfI_s (σ : SG) (a i : Nat) (x : Int32) : up (rfI σ a i x) a i x = rfI σ a (i + 1) x := by
  funext p j
  unfold up rfI
  by_cases h : p = a
  · simp only [h, if_true, upd]
    by_cases hj : j = i
    · simp [hj]
    · simp only [hj, if_false]
      by_cases h2 : j < i
      · rw [if_pos h2, if_pos (by omega)]
      · rw [if_neg h2, if_neg (by omega)]
  · simp only [h, if_false]
theorem s_Row_fill {q a n : Nat} (hq : rowAt q a n) (σ : SG) (x : Int32) : SpN 2 M_Row_fill [.ref q, .int x] σ none (rf σ a n x) := by
  refine Sp.of mk_Row_fill rfl (Nat.le_of_ble_eq_true rfl) ?_
  have hn := hq.2.2
  have key : ∀ k i, i + k = n → RN 2 M_Row_fill none (rf σ a n x) 2 [some (.ref q), some (.int x), some (.int (nI i))] [] (rfI σ a i x) := by
    intro k
    induction k with
    | zero =>
      intro i hi
      refine RM.blk [(1, 2, 0, .null), (2, 0, 0, .null)] (pc' := 4) (L' := [some (.ref q), some (.int x), some (.int (nI i))]) (st' := [.ref q, .int (nI i)]) (by decide +kernel) rfl ?_
      refine RN.cells hq (pc3 := 7) (by decide +kernel) ?_
      refine RM.alen (by decide +kernel) hq.2.1 ?_
      refine RM.icmp_ge (tgt := 24) (by decide +kernel) (fun hc => ?_) (fun hc => absurd (nI_le (by omega) (by omega)) hc)
      have hi2 : i = n := by omega
      subst hi2
      exact RM.retv (by decide +kernel) rfl
    | succ k ih =>
      intro i hi
      refine RM.blk [(1, 2, 0, .null), (2, 0, 0, .null)] (pc' := 4) (L' := [some (.ref q), some (.int x), some (.int (nI i))]) (st' := [.ref q, .int (nI i)]) (by decide +kernel) rfl ?_
      refine RN.cells hq (pc3 := 7) (by decide +kernel) ?_
      refine RM.alen (by decide +kernel) hq.2.1 ?_
      refine RM.icmp_ge (tgt := 24) (by decide +kernel) (fun hc => absurd hc (nI_ge (by omega) (by omega))) (fun hc => ?_)
      refine RM.blk [(2, 0, 0, .null)] (pc' := 12) (L' := [some (.ref q), some (.int x), some (.int (nI i))]) (st' := [.ref q]) (by decide +kernel) rfl ?_
      refine RN.cells hq (pc3 := 15) (by decide +kernel) ?_
      refine RM.blk [(1, 2, 0, .null), (1, 1, 0, .null)] (pc' := 17) (L' := [some (.ref q), some (.int x), some (.int (nI i))]) (st' := [.int x, .int (nI i), .ref a]) (by decide +kernel) rfl ?_
      refine RM.iast (by decide +kernel) hq.2.1 (vp_in_nI (by omega) hn) ?_
      refine RM.blk [(10, 2, 0, .int 1), (23, 0, 0, .null)] (pc' := 2) (L' := [some (.ref q), some (.int x), some (.int (nI i + 1))]) (st' := []) (by decide +kernel) rfl ?_
      rw [ix_nI (by omega), rfI_s, nI_1]
      exact ih (i + 1) (by omega)
  refine RM.blk [(0, 0, 0, .int 0), (4, 2, 0, .null)] (pc' := 2) (L' := [some (.ref q), some (.int x), some (.int 0)]) (st' := []) (by decide +kernel) rfl ?_
  have h := key n 0 (by omega)
  rw [rfI_0] at h
  exact h
def rcI (σ : SG) (a i a2 n2 : Nat) : SG := fun p => if p = a then (fun j => if j < i then rg σ a2 n2 (nI j) else σ a j) else σ p
theorem rcI_0 (σ : SG) (a a2 n2 : Nat) : rcI σ a 0 a2 n2 = σ := by
  funext p j
  unfold rcI
  by_cases h : p = a
  · rw [if_pos h, h]; rfl
  · rw [if_neg h]
theorem rcI_s (σ : SG) (a i a2 n2 : Nat) : up (rcI σ a i a2 n2) a i (rg σ a2 n2 (nI i)) = rcI σ a (i + 1) a2 n2 := by
  funext p j
  unfold up rcI
  by_cases h : p = a
  · simp only [h, if_true, upd]
    by_cases hj : j = i
    · simp [hj]
    · simp only [hj, if_false]
      by_cases h2 : j < i
      · rw [if_pos h2, if_pos (by omega)]
      · rw [if_neg h2, if_neg (by omega)]
  · simp only [h, if_false]
theorem rcI_g (σ : SG) {a a2 : Nat} (h : a2 ≠ a) (i n2 : Nat) (x : Int32) : rg (rcI σ a i a2 n2) a2 n2 x = rg σ a2 n2 x := by
  unfold rg rcI
  rw [if_neg h]
theorem s_Row_copyFrom {q a n q2 a2 n2 : Nat} (hq : rowAt q a n) (hq2 : rowAt q2 a2 n2) (hne : a2 ≠ a) (σ : SG) : SpN 3 M_Row_copyFrom [.ref q, .ref q2] σ none (rc σ a n a2 n2) := by
  refine Sp.of mk_Row_copyFrom rfl (Nat.le_of_ble_eq_true rfl) ?_
  have hn := hq.2.2
  have key : ∀ k i, i + k = n → RN 3 M_Row_copyFrom none (rc σ a n a2 n2) 2 [some (.ref q), some (.ref q2), some (.int (nI i))] [] (rcI σ a i a2 n2) := by
    intro k
    induction k with
    | zero =>
      intro i hi
      refine RM.blk [(1, 2, 0, .null), (2, 0, 0, .null)] (pc' := 4) (L' := [some (.ref q), some (.ref q2), some (.int (nI i))]) (st' := [.ref q, .int (nI i)]) (by decide +kernel) rfl ?_
      refine RN.cells hq (pc3 := 7) (by decide +kernel) ?_
      refine RM.alen (by decide +kernel) hq.2.1 ?_
      refine RM.icmp_ge (tgt := 28) (by decide +kernel) (fun hc => ?_) (fun hc => absurd (nI_le (by omega) (by omega)) hc)
      have hi2 : i = n := by omega
      subst hi2
      exact RM.retv (by decide +kernel) rfl
    | succ k ih =>
      intro i hi
      refine RM.blk [(1, 2, 0, .null), (2, 0, 0, .null)] (pc' := 4) (L' := [some (.ref q), some (.ref q2), some (.int (nI i))]) (st' := [.ref q, .int (nI i)]) (by decide +kernel) rfl ?_
      refine RN.cells hq (pc3 := 7) (by decide +kernel) ?_
      refine RM.alen (by decide +kernel) hq.2.1 ?_
      refine RM.icmp_ge (tgt := 28) (by decide +kernel) (fun hc => absurd hc (nI_ge (by omega) (by omega))) (fun hc => ?_)
      refine RM.blk [(2, 0, 0, .null)] (pc' := 12) (L' := [some (.ref q), some (.ref q2), some (.int (nI i))]) (st' := [.ref q]) (by decide +kernel) rfl ?_
      refine RN.cells hq (pc3 := 15) (by decide +kernel) ?_
      refine RM.blk [(1, 2, 0, .null), (2, 1, 0, .null), (1, 2, 0, .null)] (pc' := 18) (L' := [some (.ref q), some (.ref q2), some (.int (nI i))]) (st' := [.int (nI i), .ref q2, .int (nI i), .ref a]) (by decide +kernel) rfl ?_
      refine RN.callV [.int (nI i)] (s_Row_get hq2 _ (nI i)) [.int (nI i), .ref a] (pc3 := 21) (st3 := [.int (rg (rcI σ a i a2 n2) a2 n2 (nI i)), .int (nI i), .ref a]) (by decide +kernel) mk_Row_get (by decide) ?_ (hq := hq2.1)
      rw [rcI_g σ hne]
      refine RM.iast (by decide +kernel) hq.2.1 (vp_in_nI (by omega) hn) ?_
      refine RM.blk [(10, 2, 0, .int 1), (23, 0, 0, .null)] (pc' := 2) (L' := [some (.ref q), some (.ref q2), some (.int (nI i + 1))]) (st' := []) (by decide +kernel) rfl ?_
      rw [ix_nI (by omega), rcI_s, nI_1]
      exact ih (i + 1) (by omega)
  refine RM.blk [(0, 0, 0, .int 0), (4, 2, 0, .null)] (pc' := 2) (L' := [some (.ref q), some (.ref q2), some (.int 0)]) (st' := []) (by decide +kernel) rfl ?_
  have h := key n 0 (by omega)
  rw [rcI_0] at h
  exact h
end
section
/-! misc: the words of the mirrors -/
def tsS {A : Type} (x : Int32) : Nat → List A → A → A
  | _, [], d => d
  | k, a :: r, d => if x = nI k then a else tsS x (k + 1) r d
theorem tsS_at {A : Type} {x : Int32} {d a : A} : ∀ {r : List A} {k j : Nat}, x = nI (k + j) → r[j]? = some a → Nat.ble (k + r.length) 1000 = true → tsS x k r d = a
  | [], k, j, _, h, _ => by simp at h
  | b :: r, k, 0, hx, h, hl => by
    simp at h
    subst h
    rw [tsS, if_pos (by rw [hx]; rfl)]
  | b :: r, k, j + 1, hx, h, hl => by
    have hl2 := Nat.le_of_ble_eq_true hl
    simp only [List.length_cons] at hl2
    have hj : j < r.length := (List.getElem?_eq_some_iff.mp (by simpa using h)).1
    rw [tsS, if_neg (fun e => by rw [hx, nI_eq (by omega) (by omega)] at e; omega)]
    exact tsS_at (k := k + 1) (j := j) (by rw [hx]; congr 1; omega) (by simpa using h) (Nat.ble_eq.mpr (by omega))
theorem tsS_out {A : Type} {x : Int32} {d : A} : ∀ {r : List A} {k : Nat}, (x < 0 ∨ nI (k + r.length) ≤ x) → Nat.ble (k + r.length) 1000 = true → tsS x k r d = d
  | [], k, _, _ => rfl
  | b :: r, k, h, hl => by
    have hl2 := Nat.le_of_ble_eq_true hl
    simp only [List.length_cons] at hl2
    have hne : ¬ x = nI k := by
      intro e
      rcases h with h | h
      · exact nI_pos (by omega) (e ▸ h)
      · rw [e] at h
        exact nI_ge (by simp) (by simp; omega) h
    rw [tsS, if_neg hne]
    refine tsS_out (k := k + 1) ?_ (Nat.ble_eq.mpr (by omega))
    rw [List.length_cons] at h
    rwa [Nat.add_assoc, Nat.add_comm 1]
def nbz (x : Int32) : Bool := decide (vp_nar .boolean x = x)
theorem nbz_of {x : Int32} (h : nbz x = true) : vp_nar .boolean x = x := of_decide_eq_true h
def nm {A B : Type} (a : A) (k : A → B) : B := k a
theorem nm_h {A B : Type} {a : A} {k : A → B} {b : B} (h : nm a k = b) : k a = b := h
end
section
/-! methods: Shop_within, Drawing_begin, Cubes_clear, Shop_takeDown, Shop_wall, Drawing_has, Shop_isField, Drawing_place, Drawing_fieldAt, Drawing_fill, Shop_draw, Shop_field, Shop_isColour, Colours_put_5, Shop_colour, Shop_mark, Drawing_stripEnd, Layer_mayEnd, Layer_countFewest, Layer_widestOfFewest, Cubes_put, Layer_layStrip, Layer_layRows, Shop_lay, Shop_isLaid, Cubes_over, Shop_at, Cubes_has, Cubes_tell, Shop_cube, Colours_put_45, Lots_bring, Shop_lot, Lots_has, Shop_left -/
def M_Shop_within : MI := (yX11_within, cX11_within, 3, some .boolean, 11)
theorem mk_Shop_within : mOK M_Shop_within 3 = true := by decide +kernel
def F_Shop_within (p0 : Int32) (p1 : Int32) (p2 : Int32) : Bool := (if p0 < p1 then false else (if p2 < p0 then false else true))
set_option maxRecDepth 100000 in
set_option maxHeartbeats 4000000 in
theorem s_Shop_within (σ : SG) (p0 : Int32) (p1 : Int32) (p2 : Int32) : SpN 1 M_Shop_within [.int p0, .int p1, .int p2] σ (some (.int (bI (F_Shop_within p0 p1 p2)))) σ := by
  generalize h : F_Shop_within p0 p1 p2 = rr
  unfold F_Shop_within at h
  refine Sp.of mk_Shop_within rfl (Nat.le_of_ble_eq_true rfl) ?_
  refine RM.blk [(1, 0, 0, .null), (1, 1, 0, .null)] (pc' := 2) (L' := [some (.int p0), some (.int p1), some (.int p2)]) (st' := [.int p1, .int p0]) (σ1 := σ) (by decide +kernel) rfl ?_
  refine RM.icmp_lt (tgt := 14) (by decide +kernel) (fun c1 => ?_) (fun c1 => ?_)
  · rw [if_pos c1] at h
    refine RM.blk [(0, 0, 0, .int 0)] (pc' := 15) (L' := [some (.int p0), some (.int p1), some (.int p2)]) (st' := [.int 0]) (σ1 := σ) (by decide +kernel) rfl ?_
    obtain rfl := h
    exact RM.retz (z := false) (by decide +kernel) rfl
  · rw [if_neg c1] at h
    refine RM.blk [(1, 0, 0, .null), (1, 2, 0, .null)] (pc' := 7) (L' := [some (.int p0), some (.int p1), some (.int p2)]) (st' := [.int p2, .int p0]) (σ1 := σ) (by decide +kernel) rfl ?_
    refine RM.icmp_gt (tgt := 14) (by decide +kernel) (fun c2 => ?_) (fun c2 => ?_)
    · rw [if_pos c2] at h
      refine RM.blk [(0, 0, 0, .int 0)] (pc' := 15) (L' := [some (.int p0), some (.int p1), some (.int p2)]) (st' := [.int 0]) (σ1 := σ) (by decide +kernel) rfl ?_
      obtain rfl := h
      exact RM.retz (z := false) (by decide +kernel) rfl
    · rw [if_neg c2] at h
      refine RM.blk [(0, 0, 0, .int 1), (23, 0, 0, .null)] (pc' := 15) (L' := [some (.int p0), some (.int p1), some (.int p2)]) (st' := [.int 1]) (σ1 := σ) (by decide +kernel) rfl ?_
      obtain rfl := h
      exact RM.retz (z := true) (by decide +kernel) rfl
def M_Drawing_begin : MI := (yX3_begin, cX3_begin, 3, none, 3)
theorem mk_Drawing_begin : mOK M_Drawing_begin 2 = true := by decide +kernel
def F_Drawing_begin (σ : SG) (p0 : Int32) (p1 : Int32) : SG := (rf (up (up σ 1 0 p0) 1 1 p1) 3 240 0)
set_option maxRecDepth 100000 in
set_option maxHeartbeats 4000000 in
theorem s_Drawing_begin (σ : SG) (p0 : Int32) (p1 : Int32) (so : SG) (h : F_Drawing_begin σ p0 p1 = so) : SpN 3 M_Drawing_begin [.ref 1, .int p0, .int p1] σ none so := by
  unfold F_Drawing_begin at h
  refine Sp.of mk_Drawing_begin rfl (Nat.le_of_ble_eq_true rfl) ?_
  refine RM.blk [(2, 0, 0, .null), (1, 1, 0, .null), (15, 3, 0, .null), (2, 0, 0, .null), (1, 2, 0, .null), (15, 3, 1, .null), (2, 0, 0, .null), (3, 3, 2, .null), (0, 0, 0, .int 0)] (pc' := 15) (L' := [some (.ref 1), some (.int p0), some (.int p1)]) (st' := [.int 0, .ref 2]) (σ1 := (up (up σ 1 0 p0) 1 1 p1)) (by decide +kernel) rfl ?_
  refine RN.callV [.int 0] (s_Row_fill (q := 2) (a := 3) (n := 240) ⟨rfl, rfl, by decide⟩ (up (up σ 1 0 p0) 1 1 p1) 0) [] (pc3 := 18) (st3 := []) (by decide +kernel) mk_Row_fill (by decide) ?_
  obtain rfl := h
  exact RM.retv (by decide +kernel) rfl
def M_Cubes_clear : MI := (yX1_clear, cX1_clear, 1, none, 1)
theorem mk_Cubes_clear : mOK M_Cubes_clear 0 = true := by decide +kernel
def F_Cubes_clear (σ : SG) : SG := (up σ 18 0 0)
set_option maxRecDepth 100000 in
set_option maxHeartbeats 4000000 in
theorem s_Cubes_clear (σ : SG) (so : SG) (h : F_Cubes_clear σ = so) : SpN 1 M_Cubes_clear [.ref 18] σ none so := by
  unfold F_Cubes_clear at h
  refine Sp.of mk_Cubes_clear rfl (Nat.le_of_ble_eq_true rfl) ?_
  refine RM.blk [(2, 0, 0, .null), (0, 0, 0, .int 0), (15, 1, 0, .null)] (pc' := 5) (L' := [some (.ref 18)]) (st' := []) (σ1 := (up σ 18 0 0)) (by decide +kernel) rfl ?_
  obtain rfl := h
  exact RM.retv (by decide +kernel) rfl
def M_Shop_takeDown : MI := (yX11_takeDown, cX11_takeDown, 1, none, 11)
theorem mk_Shop_takeDown : mOK M_Shop_takeDown 0 = true := by decide +kernel
def F_Shop_takeDown (σ : SG) : SG := (up (up (F_Cubes_clear σ) 52 0 0) 57 0 0)
set_option maxRecDepth 100000 in
set_option maxHeartbeats 4000000 in
theorem s_Shop_takeDown (σ : SG) (so : SG) (h : F_Shop_takeDown σ = so) : SpN 2 M_Shop_takeDown [.ref 0] σ none so := by
  unfold F_Shop_takeDown at h
  refine Sp.of mk_Shop_takeDown rfl (Nat.le_of_ble_eq_true rfl) ?_
  refine RM.blk [(2, 0, 0, .null), (3, 11, 2, .null)] (pc' := 4) (L' := [some (.ref 0)]) (st' := [.ref 18]) (σ1 := σ) (by decide +kernel) rfl ?_
  refine RN.callV [] (s_Cubes_clear σ _ rfl) [] (pc3 := 7) (st3 := []) (by decide +kernel) mk_Cubes_clear (by decide) ?_
  refine RM.blk [(2, 0, 0, .null), (3, 11, 5, .null), (0, 0, 0, .int 0), (16, 8, 0, .null), (2, 0, 0, .null), (3, 11, 6, .null), (0, 0, 0, .int 0), (15, 10, 0, .null)] (pc' := 23) (L' := [some (.ref 0)]) (st' := []) (σ1 := (up (up (F_Cubes_clear σ) 52 0 0) 57 0 0)) (by decide +kernel) rfl ?_
  obtain rfl := h
  exact RM.retv (by decide +kernel) rfl
def M_Shop_wall : MI := (yX11_wall, cX11_wall, 3, some .int, 11)
theorem mk_Shop_wall : mOK M_Shop_wall 2 = true := by decide +kernel
def F_Shop_wall (σ : SG) (p0 : Int32) (p1 : Int32) : Int32 × SG := (if (F_Shop_within p0 1 24) = true then (if (F_Shop_within p1 1 10) = true then (1, (F_Shop_takeDown (F_Drawing_begin σ p0 p1))) else ((-2), σ)) else ((-2), σ))
set_option maxRecDepth 100000 in
set_option maxHeartbeats 4000000 in
theorem s_Shop_wall (σ : SG) (p0 : Int32) (p1 : Int32) (rr : Int32) (so : SG) (h : F_Shop_wall σ p0 p1 = (rr, so)) : SpN 4 M_Shop_wall [.ref 0, .int p0, .int p1] σ (some (.int rr)) so := by
  unfold F_Shop_wall at h
  refine Sp.of mk_Shop_wall rfl (Nat.le_of_ble_eq_true rfl) ?_
  refine RM.blk [(1, 1, 0, .null), (0, 0, 0, .int 1), (0, 0, 0, .int 24)] (pc' := 4) (L' := [some (.ref 0), some (.int p0), some (.int p1)]) (st' := [.int 24, .int 1, .int p0]) (σ1 := σ) (by decide +kernel) rfl ?_
  refine RN.callS [.int p0, .int 1, .int 24] (s_Shop_within σ p0 1 24) [] (pc3 := 7) (st3 := [.int (bI (F_Shop_within p0 1 24))]) (by decide +kernel) mk_Shop_within (by decide) ?_
  refine RM.zeq (tgt := 20) (by decide +kernel) (fun c1 => ?_) (fun c1 => ?_)
  · rw [if_neg (bf c1)] at h
    refine RM.blk [(0, 0, 0, .int (-2))] (pc' := 22) (L' := [some (.ref 0), some (.int p0), some (.int p1)]) (st' := [.int (-2)]) (σ1 := σ) (by decide +kernel) rfl ?_
    obtain ⟨rfl, rfl⟩ := Prod.mk.inj h
    exact RM.reti (by decide +kernel) rfl
  · rw [if_pos c1] at h
    refine RM.blk [(1, 2, 0, .null), (0, 0, 0, .int 1), (0, 0, 0, .int 10)] (pc' := 14) (L' := [some (.ref 0), some (.int p0), some (.int p1)]) (st' := [.int 10, .int 1, .int p1]) (σ1 := σ) (by decide +kernel) rfl ?_
    refine RN.callS [.int p1, .int 1, .int 10] (s_Shop_within σ p1 1 10) [] (pc3 := 17) (st3 := [.int (bI (F_Shop_within p1 1 10))]) (by decide +kernel) mk_Shop_within (by decide) ?_
    refine RM.zne (tgt := 23) (by decide +kernel) (fun c2 => ?_) (fun c2 => ?_)
    · rw [if_pos c2] at h
      refine RM.blk [(2, 0, 0, .null), (3, 11, 0, .null), (1, 1, 0, .null), (1, 2, 0, .null)] (pc' := 29) (L' := [some (.ref 0), some (.int p0), some (.int p1)]) (st' := [.int p1, .int p0, .ref 1]) (σ1 := σ) (by decide +kernel) rfl ?_
      refine RN.callV [.int p0, .int p1] (s_Drawing_begin σ p0 p1 _ rfl) [] (pc3 := 32) (st3 := []) (by decide +kernel) mk_Drawing_begin (by decide) ?_
      refine RM.blk [(2, 0, 0, .null)] (pc' := 33) (L' := [some (.ref 0), some (.int p0), some (.int p1)]) (st' := [.ref 0]) (σ1 := (F_Drawing_begin σ p0 p1)) (by decide +kernel) rfl ?_
      refine RN.callV [] (s_Shop_takeDown (F_Drawing_begin σ p0 p1) _ rfl) [] (pc3 := 36) (st3 := []) (by decide +kernel) mk_Shop_takeDown (by decide) ?_
      refine RM.blk [(0, 0, 0, .int 1)] (pc' := 37) (L' := [some (.ref 0), some (.int p0), some (.int p1)]) (st' := [.int 1]) (σ1 := (F_Shop_takeDown (F_Drawing_begin σ p0 p1))) (by decide +kernel) rfl ?_
      obtain ⟨rfl, rfl⟩ := Prod.mk.inj h
      exact RM.reti (by decide +kernel) rfl
    · rw [if_neg (bf c2)] at h
      refine RM.blk [(0, 0, 0, .int (-2))] (pc' := 22) (L' := [some (.ref 0), some (.int p0), some (.int p1)]) (st' := [.int (-2)]) (σ1 := σ) (by decide +kernel) rfl ?_
      obtain ⟨rfl, rfl⟩ := Prod.mk.inj h
      exact RM.reti (by decide +kernel) rfl
def M_Drawing_has : MI := (yX3_has, cX3_has, 3, some .boolean, 3)
theorem mk_Drawing_has : mOK M_Drawing_has 2 = true := by decide +kernel
def F_Drawing_has (σ : SG) (p0 : Int32) (p1 : Int32) : Bool := (if (F_Shop_within p0 0 ((σ 1 0) - 1)) = true then (if (F_Shop_within p1 0 ((σ 1 1) - 1)) = true then true else false) else false)
set_option maxRecDepth 100000 in
set_option maxHeartbeats 4000000 in
theorem s_Drawing_has (σ : SG) (p0 : Int32) (p1 : Int32) : SpN 2 M_Drawing_has [.ref 1, .int p0, .int p1] σ (some (.int (bI (F_Drawing_has σ p0 p1)))) σ := by
  generalize h : F_Drawing_has σ p0 p1 = rr
  unfold F_Drawing_has at h
  refine Sp.of mk_Drawing_has rfl (Nat.le_of_ble_eq_true rfl) ?_
  refine RM.blk [(1, 1, 0, .null), (0, 0, 0, .int 0), (2, 0, 0, .null), (3, 3, 0, .null), (0, 0, 0, .int 1), (6, 0, 0, .null)] (pc' := 8) (L' := [some (.ref 1), some (.int p0), some (.int p1)]) (st' := [.int ((σ 1 0) - 1), .int 0, .int p0]) (σ1 := σ) (by decide +kernel) rfl ?_
  refine RN.callS [.int p0, .int 0, .int ((σ 1 0) - 1)] (s_Shop_within σ p0 0 ((σ 1 0) - 1)) [] (pc3 := 11) (st3 := [.int (bI (F_Shop_within p0 0 ((σ 1 0) - 1)))]) (by decide +kernel) mk_Shop_within (by decide) ?_
  refine RM.zeq (tgt := 32) (by decide +kernel) (fun c1 => ?_) (fun c1 => ?_)
  · rw [if_neg (bf c1)] at h
    refine RM.blk [(0, 0, 0, .int 0)] (pc' := 33) (L' := [some (.ref 1), some (.int p0), some (.int p1)]) (st' := [.int 0]) (σ1 := σ) (by decide +kernel) rfl ?_
    obtain rfl := h
    exact RM.retz (z := false) (by decide +kernel) rfl
  · rw [if_pos c1] at h
    refine RM.blk [(1, 2, 0, .null), (0, 0, 0, .int 0), (2, 0, 0, .null), (3, 3, 1, .null), (0, 0, 0, .int 1), (6, 0, 0, .null)] (pc' := 22) (L' := [some (.ref 1), some (.int p0), some (.int p1)]) (st' := [.int ((σ 1 1) - 1), .int 0, .int p1]) (σ1 := σ) (by decide +kernel) rfl ?_
    refine RN.callS [.int p1, .int 0, .int ((σ 1 1) - 1)] (s_Shop_within σ p1 0 ((σ 1 1) - 1)) [] (pc3 := 25) (st3 := [.int (bI (F_Shop_within p1 0 ((σ 1 1) - 1)))]) (by decide +kernel) mk_Shop_within (by decide) ?_
    refine RM.zeq (tgt := 32) (by decide +kernel) (fun c2 => ?_) (fun c2 => ?_)
    · rw [if_neg (bf c2)] at h
      refine RM.blk [(0, 0, 0, .int 0)] (pc' := 33) (L' := [some (.ref 1), some (.int p0), some (.int p1)]) (st' := [.int 0]) (σ1 := σ) (by decide +kernel) rfl ?_
      obtain rfl := h
      exact RM.retz (z := false) (by decide +kernel) rfl
    · rw [if_pos c2] at h
      refine RM.blk [(0, 0, 0, .int 1), (23, 0, 0, .null)] (pc' := 33) (L' := [some (.ref 1), some (.int p0), some (.int p1)]) (st' := [.int 1]) (σ1 := σ) (by decide +kernel) rfl ?_
      obtain rfl := h
      exact RM.retz (z := true) (by decide +kernel) rfl
def M_Shop_isField : MI := (yX11_isField, cX11_isField, 1, some .boolean, 11)
theorem mk_Shop_isField : mOK M_Shop_isField 1 = true := by decide +kernel
def F_Shop_isField (p0 : Int32) : Bool := (F_Shop_within p0 0 7)
set_option maxRecDepth 100000 in
set_option maxHeartbeats 4000000 in
theorem s_Shop_isField (σ : SG) (p0 : Int32) : SpN 2 M_Shop_isField [.int p0] σ (some (.int (bI (F_Shop_isField p0)))) σ := by
  generalize h : F_Shop_isField p0 = rr
  unfold F_Shop_isField at h
  refine Sp.of mk_Shop_isField rfl (Nat.le_of_ble_eq_true rfl) ?_
  refine RM.blk [(1, 0, 0, .null), (0, 0, 0, .int 0), (0, 0, 0, .int 7)] (pc' := 4) (L' := [some (.int p0)]) (st' := [.int 7, .int 0, .int p0]) (σ1 := σ) (by decide +kernel) rfl ?_
  refine RN.callS [.int p0, .int 0, .int 7] (s_Shop_within σ p0 0 7) [] (pc3 := 7) (st3 := [.int (bI (F_Shop_within p0 0 7))]) (by decide +kernel) mk_Shop_within (by decide) ?_
  obtain rfl := h
  exact RM.retz (z := (F_Shop_within p0 0 7)) (by decide +kernel) rfl
def M_Drawing_place : MI := (yX3_place, cX3_place, 2, some .int, 3)
theorem mk_Drawing_place : mOK M_Drawing_place 2 = true := by decide +kernel
def F_Drawing_place (p0 : Int32) (p1 : Int32) : Int32 := ((p1 * 24) + p0)
set_option maxRecDepth 100000 in
set_option maxHeartbeats 4000000 in
theorem s_Drawing_place (σ : SG) (p0 : Int32) (p1 : Int32) : SpN 1 M_Drawing_place [.int p0, .int p1] σ (some (.int (F_Drawing_place p0 p1))) σ := by
  generalize h : F_Drawing_place p0 p1 = rr
  unfold F_Drawing_place at h
  refine Sp.of mk_Drawing_place rfl (Nat.le_of_ble_eq_true rfl) ?_
  refine RM.blk [(1, 1, 0, .null), (0, 0, 0, .int 24), (7, 0, 0, .null), (1, 0, 0, .null), (5, 0, 0, .null)] (pc' := 6) (L' := [some (.int p0), some (.int p1)]) (st' := [.int ((p1 * 24) + p0)]) (σ1 := σ) (by decide +kernel) rfl ?_
  obtain rfl := h
  exact RM.reti (by decide +kernel) rfl
def M_Drawing_fieldAt : MI := (yX3_fieldAt, cX3_fieldAt, 3, some .int, 3)
theorem mk_Drawing_fieldAt : mOK M_Drawing_fieldAt 2 = true := by decide +kernel
def F_Drawing_fieldAt (σ : SG) (p0 : Int32) (p1 : Int32) : Int32 := (rg σ 3 240 (F_Drawing_place p0 p1))
set_option maxRecDepth 100000 in
set_option maxHeartbeats 4000000 in
theorem s_Drawing_fieldAt (σ : SG) (p0 : Int32) (p1 : Int32) : SpN 3 M_Drawing_fieldAt [.ref 1, .int p0, .int p1] σ (some (.int (F_Drawing_fieldAt σ p0 p1))) σ := by
  generalize h : F_Drawing_fieldAt σ p0 p1 = rr
  unfold F_Drawing_fieldAt at h
  refine Sp.of mk_Drawing_fieldAt rfl (Nat.le_of_ble_eq_true rfl) ?_
  refine RM.blk [(2, 0, 0, .null), (3, 3, 2, .null), (1, 1, 0, .null), (1, 2, 0, .null)] (pc' := 6) (L' := [some (.ref 1), some (.int p0), some (.int p1)]) (st' := [.int p1, .int p0, .ref 2]) (σ1 := σ) (by decide +kernel) rfl ?_
  refine RN.callS [.int p0, .int p1] (s_Drawing_place σ p0 p1) [.ref 2] (pc3 := 9) (st3 := [.int (F_Drawing_place p0 p1), .ref 2]) (by decide +kernel) mk_Drawing_place (by decide) ?_
  refine RN.callV [.int (F_Drawing_place p0 p1)] (s_Row_get (q := 2) (a := 3) (n := 240) ⟨rfl, rfl, by decide⟩ σ (F_Drawing_place p0 p1)) [] (pc3 := 12) (st3 := [.int (rg σ 3 240 (F_Drawing_place p0 p1))]) (by decide +kernel) mk_Row_get (by decide) ?_
  obtain rfl := h
  exact RM.reti (by decide +kernel) rfl
def M_Drawing_fill : MI := (yX3_fill, cX3_fill, 9, some .int, 3)
theorem mk_Drawing_fill : mOK M_Drawing_fill 5 = true := by decide +kernel
def L_Drawing_fill_16 (p2 : Int32) (p4 : Int32) (x1 : Int32 × Int32 × SG) (x3 : Int32 × Int32 × SG) : Option ((Int32 × Int32 × SG) ⊕ (Int32 × SG)) := (if p2 < x3.2.1 then some (.inr (x3.1, x3.2.2)) else (if (F_Drawing_fieldAt x3.2.2 x3.2.1 x1.2.1) = p4 then some (.inl (x3.1, (x3.2.1 + 1), x3.2.2)) else (nm (rs x3.2.2 3 240 (F_Drawing_place x3.2.1 x1.2.1) p4) (fun s6 => some (.inl ((x3.1 + 1), (x3.2.1 + 1), s6))))))
def L_Drawing_fill_6 (p0 : Int32) (p2 : Int32) (p3 : Int32) (p4 : Int32) (x1 : Int32 × Int32 × SG) : Option ((Int32 × Int32 × SG) ⊕ (Int32 × SG)) := (if p3 < x1.2.1 then some (.inr (x1.1, x1.2.2)) else (ob (lpW (L_Drawing_fill_16 p2 p4 x1) FU (x1.1, p0, x1.2.2)) (fun y3 => some (.inl (y3.1, (x1.2.1 + 1), y3.2)))))
def F_Drawing_fill (σ : SG) (p0 : Int32) (p1 : Int32) (p2 : Int32) (p3 : Int32) (p4 : Int32) : Option (Int32 × SG) := (ob (lpW (L_Drawing_fill_6 p0 p2 p3 p4) FU (0, p1, σ)) (fun y1 => some (y1.1, y1.2)))
set_option maxRecDepth 100000 in
set_option maxHeartbeats 4000000 in
theorem s_Drawing_fill (σ : SG) (p0 : Int32) (p1 : Int32) (p2 : Int32) (p3 : Int32) (p4 : Int32) (rr : Int32) (so : SG) (h : F_Drawing_fill σ p0 p1 p2 p3 p4 = some (rr, so)) : SpN 4 M_Drawing_fill [.ref 1, .int p0, .int p1, .int p2, .int p3, .int p4] σ (some (.int rr)) so := by
  unfold F_Drawing_fill at h
  refine Sp.of mk_Drawing_fill rfl (Nat.le_of_ble_eq_true rfl) ?_
  refine RM.blk [(0, 0, 0, .int 0), (4, 6, 0, .null), (1, 2, 0, .null), (4, 7, 0, .null)] (pc' := 6) (L' := [some (.ref 1), some (.int p0), some (.int p1), some (.int p2), some (.int p3), some (.int p4), some (.int 0), some (.int p1), none]) (st' := []) (σ1 := σ) (by decide +kernel) rfl ?_
  have hL1 : ∀ (n : Nat) (x1 : Int32 × Int32 × SG) (y1 : Int32 × SG), lpW (L_Drawing_fill_6 p0 p2 p3 p4) n x1 = some y1 → RN 4 M_Drawing_fill (some (.int rr)) so 66 [none, none, none, none, none, none, some (.int y1.1), none, none] [] y1.2 → RN 4 M_Drawing_fill (some (.int rr)) so 6 [some (.ref 1), some (.int p0), none, some (.int p2), some (.int p3), some (.int p4), some (.int x1.1), some (.int x1.2.1), none] [] x1.2.2 := by
    intro n
    induction n with
    | zero => intro x1 y1 hy1; cases hy1
    | succ n ih1 =>
      intro x1 y1 hy1 hK1
      obtain ⟨z1, e1, hy1⟩ := ob_some hy1
      unfold L_Drawing_fill_6 at e1
      refine RM.blk [(1, 7, 0, .null), (1, 4, 0, .null)] (pc' := 10) (L' := [some (.ref 1), some (.int p0), none, some (.int p2), some (.int p3), some (.int p4), some (.int x1.1), some (.int x1.2.1), none]) (st' := [.int p3, .int x1.2.1]) (σ1 := x1.2.2) (by decide +kernel) rfl ?_
      refine RM.icmp_gt (tgt := 66) (by decide +kernel) (fun c2 => ?_) (fun c2 => ?_)
      · rw [if_pos c2] at e1
        obtain rfl := Option.some.inj e1
        obtain rfl := Option.some.inj (show some ((x1.1, x1.2.2) : Int32 × SG) = some y1 from hy1)
        refine RN.dropB [false, false, false, false, false, false, true, false, false] rfl ?_
        exact hK1
      · rw [if_neg c2] at e1
        refine RM.blk [(1, 1, 0, .null), (4, 8, 0, .null)] (pc' := 16) (L' := [some (.ref 1), some (.int p0), none, some (.int p2), some (.int p3), some (.int p4), some (.int x1.1), some (.int x1.2.1), some (.int p0)]) (st' := []) (σ1 := x1.2.2) (by decide +kernel) rfl ?_
        have hL3 : ∀ (n : Nat) (x3 : Int32 × Int32 × SG) (y3 : Int32 × SG), lpW (L_Drawing_fill_16 p2 p4 x1) n x3 = some y3 → RN 4 M_Drawing_fill (some (.int rr)) so 60 [some (.ref 1), some (.int p0), none, some (.int p2), some (.int p3), some (.int p4), some (.int y3.1), some (.int x1.2.1), none] [] y3.2 → RN 4 M_Drawing_fill (some (.int rr)) so 16 [some (.ref 1), some (.int p0), none, some (.int p2), some (.int p3), some (.int p4), some (.int x3.1), some (.int x1.2.1), some (.int x3.2.1)] [] x3.2.2 := by
          intro n
          induction n with
          | zero => intro x3 y3 hy3; cases hy3
          | succ n ih3 =>
            intro x3 y3 hy3 hK3
            obtain ⟨z3, e3, hy3⟩ := ob_some hy3
            unfold L_Drawing_fill_16 at e3
            refine RM.blk [(1, 8, 0, .null), (1, 3, 0, .null)] (pc' := 19) (L' := [some (.ref 1), some (.int p0), none, some (.int p2), some (.int p3), some (.int p4), some (.int x3.1), some (.int x1.2.1), some (.int x3.2.1)]) (st' := [.int p2, .int x3.2.1]) (σ1 := x3.2.2) (by decide +kernel) rfl ?_
            refine RM.icmp_gt (tgt := 60) (by decide +kernel) (fun c4 => ?_) (fun c4 => ?_)
            · rw [if_pos c4] at e3
              obtain rfl := Option.some.inj e3
              obtain rfl := Option.some.inj (show some ((x3.1, x3.2.2) : Int32 × SG) = some y3 from hy3)
              refine RN.dropB [true, true, false, true, true, true, true, true, false] rfl ?_
              exact hK3
            · rw [if_neg c4] at e3
              refine RM.blk [(2, 0, 0, .null), (1, 8, 0, .null), (1, 7, 0, .null)] (pc' := 27) (L' := [some (.ref 1), some (.int p0), none, some (.int p2), some (.int p3), some (.int p4), some (.int x3.1), some (.int x1.2.1), some (.int x3.2.1)]) (st' := [.int x1.2.1, .int x3.2.1, .ref 1]) (σ1 := x3.2.2) (by decide +kernel) rfl ?_
              refine RN.callV [.int x3.2.1, .int x1.2.1] (s_Drawing_fieldAt x3.2.2 x3.2.1 x1.2.1) [] (pc3 := 30) (st3 := [.int (F_Drawing_fieldAt x3.2.2 x3.2.1 x1.2.1)]) (by decide +kernel) mk_Drawing_fieldAt (by decide) ?_
              refine RM.blk [(1, 5, 0, .null)] (pc' := 32) (L' := [some (.ref 1), some (.int p0), none, some (.int p2), some (.int p3), some (.int p4), some (.int x3.1), some (.int x1.2.1), some (.int x3.2.1)]) (st' := [.int p4, .int (F_Drawing_fieldAt x3.2.2 x3.2.1 x1.2.1)]) (σ1 := x3.2.2) (by decide +kernel) rfl ?_
              refine RM.icmp_eq (tgt := 54) (by decide +kernel) (fun c5 => ?_) (fun c5 => ?_)
              · rw [if_pos c5] at e3
                refine RM.blk [(10, 8, 0, .int 1), (23, 0, 0, .null)] (pc' := 16) (L' := [some (.ref 1), some (.int p0), none, some (.int p2), some (.int p3), some (.int p4), some (.int x3.1), some (.int x1.2.1), some (.int (x3.2.1 + 1))]) (st' := []) (σ1 := x3.2.2) (by decide +kernel) rfl ?_
                obtain rfl := Option.some.inj e3
                refine RN.dropB [true, true, false, true, true, true, true, true, true] rfl ?_
                exact ih3 (x3.1, (x3.2.1 + 1), x3.2.2) _ hy3 hK3
              · rw [if_neg c5] at e3
                refine RM.blk [(2, 0, 0, .null), (3, 3, 2, .null), (1, 8, 0, .null), (1, 7, 0, .null)] (pc' := 43) (L' := [some (.ref 1), some (.int p0), none, some (.int p2), some (.int p3), some (.int p4), some (.int x3.1), some (.int x1.2.1), some (.int x3.2.1)]) (st' := [.int x1.2.1, .int x3.2.1, .ref 2]) (σ1 := x3.2.2) (by decide +kernel) rfl ?_
                refine RN.callS [.int x3.2.1, .int x1.2.1] (s_Drawing_place x3.2.2 x3.2.1 x1.2.1) [.ref 2] (pc3 := 46) (st3 := [.int (F_Drawing_place x3.2.1 x1.2.1), .ref 2]) (by decide +kernel) mk_Drawing_place (by decide) ?_
                refine RM.blk [(1, 5, 0, .null)] (pc' := 48) (L' := [some (.ref 1), some (.int p0), none, some (.int p2), some (.int p3), some (.int p4), some (.int x3.1), some (.int x1.2.1), some (.int x3.2.1)]) (st' := [.int p4, .int (F_Drawing_place x3.2.1 x1.2.1), .ref 2]) (σ1 := x3.2.2) (by decide +kernel) rfl ?_
                refine RN.callV [.int (F_Drawing_place x3.2.1 x1.2.1), .int p4] (s_Row_set (q := 2) (a := 3) (n := 240) ⟨rfl, rfl, by decide⟩ x3.2.2 (F_Drawing_place x3.2.1 x1.2.1) p4) [] (pc3 := 51) (st3 := []) (by decide +kernel) mk_Row_set (by decide) ?_
                generalize ns6 : (rs x3.2.2 3 240 (F_Drawing_place x3.2.1 x1.2.1) p4) = s6 at e3 ⊢
                replace e3 := nm_h e3
                refine RM.blk [(10, 6, 0, .int 1), (10, 8, 0, .int 1), (23, 0, 0, .null)] (pc' := 16) (L' := [some (.ref 1), some (.int p0), none, some (.int p2), some (.int p3), some (.int p4), some (.int (x3.1 + 1)), some (.int x1.2.1), some (.int (x3.2.1 + 1))]) (st' := []) (σ1 := s6) (by decide +kernel) rfl ?_
                obtain rfl := Option.some.inj e3
                refine RN.dropB [true, true, false, true, true, true, true, true, true] rfl ?_
                exact ih3 ((x3.1 + 1), (x3.2.1 + 1), s6) _ hy3 hK3
        obtain ⟨y3, hl3, e1⟩ := ob_some e1
        refine RN.dropB [true, true, false, true, true, true, true, true, true] rfl ?_
        refine hL3 FU (x1.1, p0, x1.2.2) y3 hl3 ?_
        refine RM.blk [(10, 7, 0, .int 1), (23, 0, 0, .null)] (pc' := 6) (L' := [some (.ref 1), some (.int p0), none, some (.int p2), some (.int p3), some (.int p4), some (.int y3.1), some (.int (x1.2.1 + 1)), none]) (st' := []) (σ1 := y3.2) (by decide +kernel) rfl ?_
        obtain rfl := Option.some.inj e1
        refine RN.dropB [true, true, false, true, true, true, true, true, false] rfl ?_
        exact ih1 (y3.1, (x1.2.1 + 1), y3.2) _ hy1 hK1
  obtain ⟨y1, hl1, h⟩ := ob_some h
  refine RN.dropB [true, true, false, true, true, true, true, true, false] rfl ?_
  refine hL1 FU (0, p1, σ) y1 hl1 ?_
  refine RM.blk [(1, 6, 0, .null)] (pc' := 68) (L' := [none, none, none, none, none, none, some (.int y1.1), none, none]) (st' := [.int y1.1]) (σ1 := y1.2) (by decide +kernel) rfl ?_
  obtain ⟨rfl, rfl⟩ := Prod.mk.inj (Option.some.inj h)
  exact RM.reti (by decide +kernel) rfl
def M_Shop_draw : MI := (yX11_draw, cX11_draw, 7, some .int, 11)
theorem mk_Shop_draw : mOK M_Shop_draw 5 = true := by decide +kernel
def F_Shop_draw (σ : SG) (p0 : Int32) (p1 : Int32) (p2 : Int32) (p3 : Int32) (p4 : Int32) : Option (Int32 × SG) := (if (F_Drawing_has σ p0 p1) = true then (if (F_Drawing_has σ p2 p3) = true then (if p2 < p0 then some ((-2), σ) else (if p3 < p1 then some ((-2), σ) else (if (F_Shop_isField p4) = true then (ob (F_Drawing_fill σ p0 p1 p2 p3 p4) (fun v6 => (if v6.1 ≤ 0 then some (v6.1, v6.2) else some (v6.1, (F_Shop_takeDown v6.2))))) else some ((-2), σ)))) else some ((-2), σ)) else some ((-2), σ))
set_option maxRecDepth 100000 in
set_option maxHeartbeats 4000000 in
theorem s_Shop_draw (σ : SG) (p0 : Int32) (p1 : Int32) (p2 : Int32) (p3 : Int32) (p4 : Int32) (rr : Int32) (so : SG) (h : F_Shop_draw σ p0 p1 p2 p3 p4 = some (rr, so)) : SpN 5 M_Shop_draw [.ref 0, .int p0, .int p1, .int p2, .int p3, .int p4] σ (some (.int rr)) so := by
  unfold F_Shop_draw at h
  refine Sp.of mk_Shop_draw rfl (Nat.le_of_ble_eq_true rfl) ?_
  refine RM.blk [(2, 0, 0, .null), (3, 11, 0, .null), (1, 1, 0, .null), (1, 2, 0, .null)] (pc' := 6) (L' := [some (.ref 0), some (.int p0), some (.int p1), some (.int p2), some (.int p3), some (.int p4), none]) (st' := [.int p1, .int p0, .ref 1]) (σ1 := σ) (by decide +kernel) rfl ?_
  refine RN.callV [.int p0, .int p1] (s_Drawing_has σ p0 p1) [] (pc3 := 9) (st3 := [.int (bI (F_Drawing_has σ p0 p1))]) (by decide +kernel) mk_Drawing_has (by decide) ?_
  refine RM.zeq (tgt := 44) (by decide +kernel) (fun c1 => ?_) (fun c1 => ?_)
  · rw [if_neg (bf c1)] at h
    refine RM.blk [(0, 0, 0, .int (-2))] (pc' := 46) (L' := [some (.ref 0), some (.int p0), some (.int p1), some (.int p2), some (.int p3), some (.int p4), none]) (st' := [.int (-2)]) (σ1 := σ) (by decide +kernel) rfl ?_
    obtain ⟨rfl, rfl⟩ := Prod.mk.inj (Option.some.inj h)
    exact RM.reti (by decide +kernel) rfl
  · rw [if_pos c1] at h
    refine RM.blk [(2, 0, 0, .null), (3, 11, 0, .null), (1, 3, 0, .null), (1, 4, 0, .null)] (pc' := 19) (L' := [some (.ref 0), some (.int p0), some (.int p1), some (.int p2), some (.int p3), some (.int p4), none]) (st' := [.int p3, .int p2, .ref 1]) (σ1 := σ) (by decide +kernel) rfl ?_
    refine RN.callV [.int p2, .int p3] (s_Drawing_has σ p2 p3) [] (pc3 := 22) (st3 := [.int (bI (F_Drawing_has σ p2 p3))]) (by decide +kernel) mk_Drawing_has (by decide) ?_
    refine RM.zeq (tgt := 44) (by decide +kernel) (fun c2 => ?_) (fun c2 => ?_)
    · rw [if_neg (bf c2)] at h
      refine RM.blk [(0, 0, 0, .int (-2))] (pc' := 46) (L' := [some (.ref 0), some (.int p0), some (.int p1), some (.int p2), some (.int p3), some (.int p4), none]) (st' := [.int (-2)]) (σ1 := σ) (by decide +kernel) rfl ?_
      obtain ⟨rfl, rfl⟩ := Prod.mk.inj (Option.some.inj h)
      exact RM.reti (by decide +kernel) rfl
    · rw [if_pos c2] at h
      refine RM.blk [(1, 1, 0, .null), (1, 3, 0, .null)] (pc' := 27) (L' := [some (.ref 0), some (.int p0), some (.int p1), some (.int p2), some (.int p3), some (.int p4), none]) (st' := [.int p2, .int p0]) (σ1 := σ) (by decide +kernel) rfl ?_
      refine RM.icmp_gt (tgt := 44) (by decide +kernel) (fun c3 => ?_) (fun c3 => ?_)
      · rw [if_pos c3] at h
        refine RM.blk [(0, 0, 0, .int (-2))] (pc' := 46) (L' := [some (.ref 0), some (.int p0), some (.int p1), some (.int p2), some (.int p3), some (.int p4), none]) (st' := [.int (-2)]) (σ1 := σ) (by decide +kernel) rfl ?_
        obtain ⟨rfl, rfl⟩ := Prod.mk.inj (Option.some.inj h)
        exact RM.reti (by decide +kernel) rfl
      · rw [if_neg c3] at h
        refine RM.blk [(1, 2, 0, .null), (1, 4, 0, .null)] (pc' := 33) (L' := [some (.ref 0), some (.int p0), some (.int p1), some (.int p2), some (.int p3), some (.int p4), none]) (st' := [.int p3, .int p1]) (σ1 := σ) (by decide +kernel) rfl ?_
        refine RM.icmp_gt (tgt := 44) (by decide +kernel) (fun c4 => ?_) (fun c4 => ?_)
        · rw [if_pos c4] at h
          refine RM.blk [(0, 0, 0, .int (-2))] (pc' := 46) (L' := [some (.ref 0), some (.int p0), some (.int p1), some (.int p2), some (.int p3), some (.int p4), none]) (st' := [.int (-2)]) (σ1 := σ) (by decide +kernel) rfl ?_
          obtain ⟨rfl, rfl⟩ := Prod.mk.inj (Option.some.inj h)
          exact RM.reti (by decide +kernel) rfl
        · rw [if_neg c4] at h
          refine RM.blk [(1, 5, 0, .null)] (pc' := 38) (L' := [some (.ref 0), some (.int p0), some (.int p1), some (.int p2), some (.int p3), some (.int p4), none]) (st' := [.int p4]) (σ1 := σ) (by decide +kernel) rfl ?_
          refine RN.callS [.int p4] (s_Shop_isField σ p4) [] (pc3 := 41) (st3 := [.int (bI (F_Shop_isField p4))]) (by decide +kernel) mk_Shop_isField (by decide) ?_
          refine RM.zne (tgt := 47) (by decide +kernel) (fun c5 => ?_) (fun c5 => ?_)
          · rw [if_pos c5] at h
            refine RM.blk [(2, 0, 0, .null), (3, 11, 0, .null), (1, 1, 0, .null), (1, 2, 0, .null), (1, 3, 0, .null), (1, 4, 0, .null), (1, 5, 0, .null)] (pc' := 58) (L' := [some (.ref 0), some (.int p0), some (.int p1), some (.int p2), some (.int p3), some (.int p4), none]) (st' := [.int p4, .int p3, .int p2, .int p1, .int p0, .ref 1]) (σ1 := σ) (by decide +kernel) rfl ?_
            obtain ⟨v6, hv6, h⟩ := ob_some h
            refine RN.callV [.int p0, .int p1, .int p2, .int p3, .int p4] (s_Drawing_fill σ p0 p1 p2 p3 p4 v6.1 v6.2 hv6) [] (pc3 := 61) (st3 := [.int v6.1]) (by decide +kernel) mk_Drawing_fill (by decide) ?_
            refine RM.blk [(4, 6, 0, .null), (1, 6, 0, .null)] (pc' := 65) (L' := [some (.ref 0), some (.int p0), some (.int p1), some (.int p2), some (.int p3), some (.int p4), some (.int v6.1)]) (st' := [.int v6.1]) (σ1 := v6.2) (by decide +kernel) rfl ?_
            refine RM.if_le (tgt := 72) (by decide +kernel) (fun c7 => ?_) (fun c7 => ?_)
            · rw [if_pos c7] at h
              refine RM.blk [(1, 6, 0, .null)] (pc' := 74) (L' := [some (.ref 0), some (.int p0), some (.int p1), some (.int p2), some (.int p3), some (.int p4), some (.int v6.1)]) (st' := [.int v6.1]) (σ1 := v6.2) (by decide +kernel) rfl ?_
              obtain ⟨rfl, rfl⟩ := Prod.mk.inj (Option.some.inj h)
              exact RM.reti (by decide +kernel) rfl
            · rw [if_neg c7] at h
              refine RM.blk [(2, 0, 0, .null)] (pc' := 69) (L' := [some (.ref 0), some (.int p0), some (.int p1), some (.int p2), some (.int p3), some (.int p4), some (.int v6.1)]) (st' := [.ref 0]) (σ1 := v6.2) (by decide +kernel) rfl ?_
              refine RN.callV [] (s_Shop_takeDown v6.2 _ rfl) [] (pc3 := 72) (st3 := []) (by decide +kernel) mk_Shop_takeDown (by decide) ?_
              refine RM.blk [(1, 6, 0, .null)] (pc' := 74) (L' := [some (.ref 0), some (.int p0), some (.int p1), some (.int p2), some (.int p3), some (.int p4), some (.int v6.1)]) (st' := [.int v6.1]) (σ1 := (F_Shop_takeDown v6.2)) (by decide +kernel) rfl ?_
              obtain ⟨rfl, rfl⟩ := Prod.mk.inj (Option.some.inj h)
              exact RM.reti (by decide +kernel) rfl
          · rw [if_neg (bf c5)] at h
            refine RM.blk [(0, 0, 0, .int (-2))] (pc' := 46) (L' := [some (.ref 0), some (.int p0), some (.int p1), some (.int p2), some (.int p3), some (.int p4), none]) (st' := [.int (-2)]) (σ1 := σ) (by decide +kernel) rfl ?_
            obtain ⟨rfl, rfl⟩ := Prod.mk.inj (Option.some.inj h)
            exact RM.reti (by decide +kernel) rfl
def M_Shop_field : MI := (yX11_field, cX11_field, 3, some .int, 11)
theorem mk_Shop_field : mOK M_Shop_field 2 = true := by decide +kernel
def F_Shop_field (σ : SG) (p0 : Int32) (p1 : Int32) : Int32 := (if (F_Drawing_has σ p0 p1) = true then (F_Drawing_fieldAt σ p0 p1) else (-2))
set_option maxRecDepth 100000 in
set_option maxHeartbeats 4000000 in
theorem s_Shop_field (σ : SG) (p0 : Int32) (p1 : Int32) : SpN 4 M_Shop_field [.ref 0, .int p0, .int p1] σ (some (.int (F_Shop_field σ p0 p1))) σ := by
  generalize h : F_Shop_field σ p0 p1 = rr
  unfold F_Shop_field at h
  refine Sp.of mk_Shop_field rfl (Nat.le_of_ble_eq_true rfl) ?_
  refine RM.blk [(2, 0, 0, .null), (3, 11, 0, .null), (1, 1, 0, .null), (1, 2, 0, .null)] (pc' := 6) (L' := [some (.ref 0), some (.int p0), some (.int p1)]) (st' := [.int p1, .int p0, .ref 1]) (σ1 := σ) (by decide +kernel) rfl ?_
  refine RN.callV [.int p0, .int p1] (s_Drawing_has σ p0 p1) [] (pc3 := 9) (st3 := [.int (bI (F_Drawing_has σ p0 p1))]) (by decide +kernel) mk_Drawing_has (by decide) ?_
  refine RM.zeq (tgt := 24) (by decide +kernel) (fun c1 => ?_) (fun c1 => ?_)
  · rw [if_neg (bf c1)] at h
    refine RM.blk [(0, 0, 0, .int (-2))] (pc' := 26) (L' := [some (.ref 0), some (.int p0), some (.int p1)]) (st' := [.int (-2)]) (σ1 := σ) (by decide +kernel) rfl ?_
    obtain rfl := h
    exact RM.reti (by decide +kernel) rfl
  · rw [if_pos c1] at h
    refine RM.blk [(2, 0, 0, .null), (3, 11, 0, .null), (1, 1, 0, .null), (1, 2, 0, .null)] (pc' := 18) (L' := [some (.ref 0), some (.int p0), some (.int p1)]) (st' := [.int p1, .int p0, .ref 1]) (σ1 := σ) (by decide +kernel) rfl ?_
    refine RN.callV [.int p0, .int p1] (s_Drawing_fieldAt σ p0 p1) [] (pc3 := 21) (st3 := [.int (F_Drawing_fieldAt σ p0 p1)]) (by decide +kernel) mk_Drawing_fieldAt (by decide) ?_
    refine RM.blk [(23, 0, 0, .null)] (pc' := 26) (L' := [some (.ref 0), some (.int p0), some (.int p1)]) (st' := [.int (F_Drawing_fieldAt σ p0 p1)]) (σ1 := σ) (by decide +kernel) rfl ?_
    obtain rfl := h
    exact RM.reti (by decide +kernel) rfl
def M_Shop_isColour : MI := (yX11_isColour, cX11_isColour, 3, some .boolean, 11)
theorem mk_Shop_isColour : mOK M_Shop_isColour 3 = true := by decide +kernel
def F_Shop_isColour (p0 : Int32) (p1 : Int32) (p2 : Int32) : Bool := (if (F_Shop_within p0 0 255) = true then (if (F_Shop_within p1 0 255) = true then (if (F_Shop_within p2 0 255) = true then true else false) else false) else false)
set_option maxRecDepth 100000 in
set_option maxHeartbeats 4000000 in
theorem s_Shop_isColour (σ : SG) (p0 : Int32) (p1 : Int32) (p2 : Int32) : SpN 2 M_Shop_isColour [.int p0, .int p1, .int p2] σ (some (.int (bI (F_Shop_isColour p0 p1 p2)))) σ := by
  generalize h : F_Shop_isColour p0 p1 p2 = rr
  unfold F_Shop_isColour at h
  refine Sp.of mk_Shop_isColour rfl (Nat.le_of_ble_eq_true rfl) ?_
  refine RM.blk [(1, 0, 0, .null), (0, 0, 0, .int 0), (0, 0, 0, .int 255)] (pc' := 5) (L' := [some (.int p0), some (.int p1), some (.int p2)]) (st' := [.int 255, .int 0, .int p0]) (σ1 := σ) (by decide +kernel) rfl ?_
  refine RN.callS [.int p0, .int 0, .int 255] (s_Shop_within σ p0 0 255) [] (pc3 := 8) (st3 := [.int (bI (F_Shop_within p0 0 255))]) (by decide +kernel) mk_Shop_within (by decide) ?_
  refine RM.zeq (tgt := 37) (by decide +kernel) (fun c1 => ?_) (fun c1 => ?_)
  · rw [if_neg (bf c1)] at h
    refine RM.blk [(0, 0, 0, .int 0)] (pc' := 38) (L' := [some (.int p0), some (.int p1), some (.int p2)]) (st' := [.int 0]) (σ1 := σ) (by decide +kernel) rfl ?_
    obtain rfl := h
    exact RM.retz (z := false) (by decide +kernel) rfl
  · rw [if_pos c1] at h
    refine RM.blk [(1, 1, 0, .null), (0, 0, 0, .int 0), (0, 0, 0, .int 255)] (pc' := 16) (L' := [some (.int p0), some (.int p1), some (.int p2)]) (st' := [.int 255, .int 0, .int p1]) (σ1 := σ) (by decide +kernel) rfl ?_
    refine RN.callS [.int p1, .int 0, .int 255] (s_Shop_within σ p1 0 255) [] (pc3 := 19) (st3 := [.int (bI (F_Shop_within p1 0 255))]) (by decide +kernel) mk_Shop_within (by decide) ?_
    refine RM.zeq (tgt := 37) (by decide +kernel) (fun c2 => ?_) (fun c2 => ?_)
    · rw [if_neg (bf c2)] at h
      refine RM.blk [(0, 0, 0, .int 0)] (pc' := 38) (L' := [some (.int p0), some (.int p1), some (.int p2)]) (st' := [.int 0]) (σ1 := σ) (by decide +kernel) rfl ?_
      obtain rfl := h
      exact RM.retz (z := false) (by decide +kernel) rfl
    · rw [if_pos c2] at h
      refine RM.blk [(1, 2, 0, .null), (0, 0, 0, .int 0), (0, 0, 0, .int 255)] (pc' := 27) (L' := [some (.int p0), some (.int p1), some (.int p2)]) (st' := [.int 255, .int 0, .int p2]) (σ1 := σ) (by decide +kernel) rfl ?_
      refine RN.callS [.int p2, .int 0, .int 255] (s_Shop_within σ p2 0 255) [] (pc3 := 30) (st3 := [.int (bI (F_Shop_within p2 0 255))]) (by decide +kernel) mk_Shop_within (by decide) ?_
      refine RM.zeq (tgt := 37) (by decide +kernel) (fun c3 => ?_) (fun c3 => ?_)
      · rw [if_neg (bf c3)] at h
        refine RM.blk [(0, 0, 0, .int 0)] (pc' := 38) (L' := [some (.int p0), some (.int p1), some (.int p2)]) (st' := [.int 0]) (σ1 := σ) (by decide +kernel) rfl ?_
        obtain rfl := h
        exact RM.retz (z := false) (by decide +kernel) rfl
      · rw [if_pos c3] at h
        refine RM.blk [(0, 0, 0, .int 1), (23, 0, 0, .null)] (pc' := 38) (L' := [some (.int p0), some (.int p1), some (.int p2)]) (st' := [.int 1]) (σ1 := σ) (by decide +kernel) rfl ?_
        obtain rfl := h
        exact RM.retz (z := true) (by decide +kernel) rfl
def M_Colours_put : MI := (yX0_put, cX0_put, 5, none, 0)
theorem mk_Colours_put : mOK M_Colours_put 4 = true := by decide +kernel
def F_Colours_put_5 (σ : SG) (p0 : Int32) (p1 : Int32) (p2 : Int32) (p3 : Int32) : SG := (nm (rs (rs (rs σ 7 8 p0 p1) 9 8 p0 p2) 11 8 p0 p3) (fun s1 => s1))
set_option maxRecDepth 100000 in
set_option maxHeartbeats 4000000 in
theorem s_Colours_put_5 (σ : SG) (p0 : Int32) (p1 : Int32) (p2 : Int32) (p3 : Int32) (so : SG) (h : F_Colours_put_5 σ p0 p1 p2 p3 = so) : SpN 3 M_Colours_put [.ref 5, .int p0, .int p1, .int p2, .int p3] σ none so := by
  unfold F_Colours_put_5 at h
  refine Sp.of mk_Colours_put rfl (Nat.le_of_ble_eq_true rfl) ?_
  refine RM.blk [(2, 0, 0, .null), (3, 0, 0, .null), (1, 1, 0, .null), (1, 2, 0, .null)] (pc' := 6) (L' := [some (.ref 5), some (.int p0), some (.int p1), some (.int p2), some (.int p3)]) (st' := [.int p1, .int p0, .ref 6]) (σ1 := σ) (by decide +kernel) rfl ?_
  refine RN.callV [.int p0, .int p1] (s_Row_set (q := 6) (a := 7) (n := 8) ⟨rfl, rfl, by decide⟩ σ p0 p1) [] (pc3 := 9) (st3 := []) (by decide +kernel) mk_Row_set (by decide) ?_
  refine RM.blk [(2, 0, 0, .null), (3, 0, 1, .null), (1, 1, 0, .null), (1, 3, 0, .null)] (pc' := 15) (L' := [some (.ref 5), some (.int p0), some (.int p1), some (.int p2), some (.int p3)]) (st' := [.int p2, .int p0, .ref 8]) (σ1 := (rs σ 7 8 p0 p1)) (by decide +kernel) rfl ?_
  refine RN.callV [.int p0, .int p2] (s_Row_set (q := 8) (a := 9) (n := 8) ⟨rfl, rfl, by decide⟩ (rs σ 7 8 p0 p1) p0 p2) [] (pc3 := 18) (st3 := []) (by decide +kernel) mk_Row_set (by decide) ?_
  refine RM.blk [(2, 0, 0, .null), (3, 0, 2, .null), (1, 1, 0, .null), (1, 4, 0, .null)] (pc' := 25) (L' := [some (.ref 5), some (.int p0), some (.int p1), some (.int p2), some (.int p3)]) (st' := [.int p3, .int p0, .ref 10]) (σ1 := (rs (rs σ 7 8 p0 p1) 9 8 p0 p2)) (by decide +kernel) rfl ?_
  refine RN.callV [.int p0, .int p3] (s_Row_set (q := 10) (a := 11) (n := 8) ⟨rfl, rfl, by decide⟩ (rs (rs σ 7 8 p0 p1) 9 8 p0 p2) p0 p3) [] (pc3 := 28) (st3 := []) (by decide +kernel) mk_Row_set (by decide) ?_
  generalize ns1 : (rs (rs (rs σ 7 8 p0 p1) 9 8 p0 p2) 11 8 p0 p3) = s1 at h ⊢
  replace h := nm_h h
  obtain rfl := h
  exact RM.retv (by decide +kernel) rfl
def M_Shop_colour : MI := (yX11_colour, cX11_colour, 5, some .int, 11)
theorem mk_Shop_colour : mOK M_Shop_colour 4 = true := by decide +kernel
def F_Shop_colour (σ : SG) (p0 : Int32) (p1 : Int32) (p2 : Int32) (p3 : Int32) : Int32 × SG := (if (F_Shop_isField p0) = true then (if (F_Shop_isColour p1 p2 p3) = true then (1, (F_Colours_put_5 σ p0 p1 p2 p3)) else ((-2), σ)) else ((-2), σ))
set_option maxRecDepth 100000 in
set_option maxHeartbeats 4000000 in
theorem s_Shop_colour (σ : SG) (p0 : Int32) (p1 : Int32) (p2 : Int32) (p3 : Int32) (rr : Int32) (so : SG) (h : F_Shop_colour σ p0 p1 p2 p3 = (rr, so)) : SpN 4 M_Shop_colour [.ref 0, .int p0, .int p1, .int p2, .int p3] σ (some (.int rr)) so := by
  unfold F_Shop_colour at h
  refine Sp.of mk_Shop_colour rfl (Nat.le_of_ble_eq_true rfl) ?_
  refine RM.blk [(1, 1, 0, .null)] (pc' := 1) (L' := [some (.ref 0), some (.int p0), some (.int p1), some (.int p2), some (.int p3)]) (st' := [.int p0]) (σ1 := σ) (by decide +kernel) rfl ?_
  refine RN.callS [.int p0] (s_Shop_isField σ p0) [] (pc3 := 4) (st3 := [.int (bI (F_Shop_isField p0))]) (by decide +kernel) mk_Shop_isField (by decide) ?_
  refine RM.zeq (tgt := 17) (by decide +kernel) (fun c1 => ?_) (fun c1 => ?_)
  · rw [if_neg (bf c1)] at h
    refine RM.blk [(0, 0, 0, .int (-2))] (pc' := 19) (L' := [some (.ref 0), some (.int p0), some (.int p1), some (.int p2), some (.int p3)]) (st' := [.int (-2)]) (σ1 := σ) (by decide +kernel) rfl ?_
    obtain ⟨rfl, rfl⟩ := Prod.mk.inj h
    exact RM.reti (by decide +kernel) rfl
  · rw [if_pos c1] at h
    refine RM.blk [(1, 2, 0, .null), (1, 3, 0, .null), (1, 4, 0, .null)] (pc' := 11) (L' := [some (.ref 0), some (.int p0), some (.int p1), some (.int p2), some (.int p3)]) (st' := [.int p3, .int p2, .int p1]) (σ1 := σ) (by decide +kernel) rfl ?_
    refine RN.callS [.int p1, .int p2, .int p3] (s_Shop_isColour σ p1 p2 p3) [] (pc3 := 14) (st3 := [.int (bI (F_Shop_isColour p1 p2 p3))]) (by decide +kernel) mk_Shop_isColour (by decide) ?_
    refine RM.zne (tgt := 20) (by decide +kernel) (fun c2 => ?_) (fun c2 => ?_)
    · rw [if_pos c2] at h
      refine RM.blk [(2, 0, 0, .null), (3, 11, 1, .null), (3, 4, 0, .null), (1, 1, 0, .null), (1, 2, 0, .null), (1, 3, 0, .null), (1, 4, 0, .null)] (pc' := 32) (L' := [some (.ref 0), some (.int p0), some (.int p1), some (.int p2), some (.int p3)]) (st' := [.int p3, .int p2, .int p1, .int p0, .ref 5]) (σ1 := σ) (by decide +kernel) rfl ?_
      refine RN.callV [.int p0, .int p1, .int p2, .int p3] (s_Colours_put_5 σ p0 p1 p2 p3 _ rfl) [] (pc3 := 35) (st3 := []) (by decide +kernel) mk_Colours_put (by decide) ?_
      refine RM.blk [(0, 0, 0, .int 1)] (pc' := 36) (L' := [some (.ref 0), some (.int p0), some (.int p1), some (.int p2), some (.int p3)]) (st' := [.int 1]) (σ1 := (F_Colours_put_5 σ p0 p1 p2 p3)) (by decide +kernel) rfl ?_
      obtain ⟨rfl, rfl⟩ := Prod.mk.inj h
      exact RM.reti (by decide +kernel) rfl
    · rw [if_neg (bf c2)] at h
      refine RM.blk [(0, 0, 0, .int (-2))] (pc' := 19) (L' := [some (.ref 0), some (.int p0), some (.int p1), some (.int p2), some (.int p3)]) (st' := [.int (-2)]) (σ1 := σ) (by decide +kernel) rfl ?_
      obtain ⟨rfl, rfl⟩ := Prod.mk.inj h
      exact RM.reti (by decide +kernel) rfl
def M_Shop_mark : MI := (yX11_mark, cX11_mark, 5, some .int, 11)
theorem mk_Shop_mark : mOK M_Shop_mark 4 = true := by decide +kernel
def F_Shop_mark (σ : SG) (p0 : Int32) (p1 : Int32) (p2 : Bool) (p3 : Bool) : Int32 × SG := (if (F_Shop_isField p0) = true then (if (F_Shop_within p1 1 3) = true then (if p2 = true then (if p3 = true then (nm (rs (rs (rs σ 13 8 p0 p1) 15 8 p0 1) 17 8 p0 1) (fun s9 => (1, s9))) else (nm (rs (rs (rs σ 13 8 p0 p1) 15 8 p0 1) 17 8 p0 0) (fun s8 => (1, s8)))) else (if p3 = true then (nm (rs (rs (rs σ 13 8 p0 p1) 15 8 p0 0) 17 8 p0 1) (fun s6 => (1, s6))) else (nm (rs (rs (rs σ 13 8 p0 p1) 15 8 p0 0) 17 8 p0 0) (fun s5 => (1, s5))))) else ((-2), σ)) else ((-2), σ))
set_option maxRecDepth 100000 in
set_option maxHeartbeats 4000000 in
theorem s_Shop_mark (σ : SG) (p0 : Int32) (p1 : Int32) (p2 : Bool) (p3 : Bool) (rr : Int32) (so : SG) (h : F_Shop_mark σ p0 p1 p2 p3 = (rr, so)) : SpN 3 M_Shop_mark [.ref 0, .int p0, .int p1, .int (bI p2), .int (bI p3)] σ (some (.int rr)) so := by
  unfold F_Shop_mark at h
  refine Sp.of mk_Shop_mark rfl (Nat.le_of_ble_eq_true rfl) ?_
  refine RM.blk [(1, 1, 0, .null)] (pc' := 1) (L' := [some (.ref 0), some (.int p0), some (.int p1), some (.int (bI p2)), some (.int (bI p3))]) (st' := [.int p0]) (σ1 := σ) (by decide +kernel) rfl ?_
  refine RN.callS [.int p0] (s_Shop_isField σ p0) [] (pc3 := 4) (st3 := [.int (bI (F_Shop_isField p0))]) (by decide +kernel) mk_Shop_isField (by decide) ?_
  refine RM.zeq (tgt := 16) (by decide +kernel) (fun c1 => ?_) (fun c1 => ?_)
  · rw [if_neg (bf c1)] at h
    refine RM.blk [(0, 0, 0, .int (-2))] (pc' := 18) (L' := [some (.ref 0), some (.int p0), some (.int p1), some (.int (bI p2)), some (.int (bI p3))]) (st' := [.int (-2)]) (σ1 := σ) (by decide +kernel) rfl ?_
    obtain ⟨rfl, rfl⟩ := Prod.mk.inj h
    exact RM.reti (by decide +kernel) rfl
  · rw [if_pos c1] at h
    refine RM.blk [(1, 2, 0, .null), (0, 0, 0, .int 1), (0, 0, 0, .int 3)] (pc' := 10) (L' := [some (.ref 0), some (.int p0), some (.int p1), some (.int (bI p2)), some (.int (bI p3))]) (st' := [.int 3, .int 1, .int p1]) (σ1 := σ) (by decide +kernel) rfl ?_
    refine RN.callS [.int p1, .int 1, .int 3] (s_Shop_within σ p1 1 3) [] (pc3 := 13) (st3 := [.int (bI (F_Shop_within p1 1 3))]) (by decide +kernel) mk_Shop_within (by decide) ?_
    refine RM.zne (tgt := 19) (by decide +kernel) (fun c2 => ?_) (fun c2 => ?_)
    · rw [if_pos c2] at h
      refine RM.blk [(2, 0, 0, .null), (3, 11, 1, .null), (3, 4, 1, .null), (1, 1, 0, .null), (1, 2, 0, .null)] (pc' := 28) (L' := [some (.ref 0), some (.int p0), some (.int p1), some (.int (bI p2)), some (.int (bI p3))]) (st' := [.int p1, .int p0, .ref 12]) (σ1 := σ) (by decide +kernel) rfl ?_
      refine RN.callV [.int p0, .int p1] (s_Row_set (q := 12) (a := 13) (n := 8) ⟨rfl, rfl, by decide⟩ σ p0 p1) [] (pc3 := 31) (st3 := []) (by decide +kernel) mk_Row_set (by decide) ?_
      refine RM.blk [(2, 0, 0, .null), (3, 11, 1, .null), (3, 4, 2, .null), (1, 1, 0, .null), (1, 3, 0, .null)] (pc' := 40) (L' := [some (.ref 0), some (.int p0), some (.int p1), some (.int (bI p2)), some (.int (bI p3))]) (st' := [.int (bI p2), .int p0, .ref 14]) (σ1 := (rs σ 13 8 p0 p1)) (by decide +kernel) rfl ?_
      refine RM.zeq (tgt := 47) (by decide +kernel) (fun c3 => ?_) (fun c3 => ?_)
      · rw [if_neg (bf c3)] at h
        refine RM.blk [(0, 0, 0, .int 0)] (pc' := 48) (L' := [some (.ref 0), some (.int p0), some (.int p1), some (.int (bI p2)), some (.int (bI p3))]) (st' := [.int 0, .int p0, .ref 14]) (σ1 := (rs σ 13 8 p0 p1)) (by decide +kernel) rfl ?_
        refine RN.callV [.int p0, .int 0] (s_Row_set (q := 14) (a := 15) (n := 8) ⟨rfl, rfl, by decide⟩ (rs σ 13 8 p0 p1) p0 0) [] (pc3 := 51) (st3 := []) (by decide +kernel) mk_Row_set (by decide) ?_
        refine RM.blk [(2, 0, 0, .null), (3, 11, 1, .null), (3, 4, 3, .null), (1, 1, 0, .null), (1, 4, 0, .null)] (pc' := 61) (L' := [some (.ref 0), some (.int p0), some (.int p1), some (.int (bI p2)), some (.int (bI p3))]) (st' := [.int (bI p3), .int p0, .ref 16]) (σ1 := (rs (rs σ 13 8 p0 p1) 15 8 p0 0)) (by decide +kernel) rfl ?_
        refine RM.zeq (tgt := 68) (by decide +kernel) (fun c4 => ?_) (fun c4 => ?_)
        · rw [if_neg (bf c4)] at h
          refine RM.blk [(0, 0, 0, .int 0)] (pc' := 69) (L' := [some (.ref 0), some (.int p0), some (.int p1), some (.int (bI p2)), some (.int (bI p3))]) (st' := [.int 0, .int p0, .ref 16]) (σ1 := (rs (rs σ 13 8 p0 p1) 15 8 p0 0)) (by decide +kernel) rfl ?_
          refine RN.callV [.int p0, .int 0] (s_Row_set (q := 16) (a := 17) (n := 8) ⟨rfl, rfl, by decide⟩ (rs (rs σ 13 8 p0 p1) 15 8 p0 0) p0 0) [] (pc3 := 72) (st3 := []) (by decide +kernel) mk_Row_set (by decide) ?_
          generalize ns5 : (rs (rs (rs σ 13 8 p0 p1) 15 8 p0 0) 17 8 p0 0) = s5 at h ⊢
          replace h := nm_h h
          refine RM.blk [(0, 0, 0, .int 1)] (pc' := 73) (L' := [some (.ref 0), some (.int p0), some (.int p1), some (.int (bI p2)), some (.int (bI p3))]) (st' := [.int 1]) (σ1 := s5) (by decide +kernel) rfl ?_
          obtain ⟨rfl, rfl⟩ := Prod.mk.inj h
          exact RM.reti (by decide +kernel) rfl
        · rw [if_pos c4] at h
          refine RM.blk [(0, 0, 0, .int 1), (23, 0, 0, .null)] (pc' := 69) (L' := [some (.ref 0), some (.int p0), some (.int p1), some (.int (bI p2)), some (.int (bI p3))]) (st' := [.int 1, .int p0, .ref 16]) (σ1 := (rs (rs σ 13 8 p0 p1) 15 8 p0 0)) (by decide +kernel) rfl ?_
          refine RN.callV [.int p0, .int 1] (s_Row_set (q := 16) (a := 17) (n := 8) ⟨rfl, rfl, by decide⟩ (rs (rs σ 13 8 p0 p1) 15 8 p0 0) p0 1) [] (pc3 := 72) (st3 := []) (by decide +kernel) mk_Row_set (by decide) ?_
          generalize ns6 : (rs (rs (rs σ 13 8 p0 p1) 15 8 p0 0) 17 8 p0 1) = s6 at h ⊢
          replace h := nm_h h
          refine RM.blk [(0, 0, 0, .int 1)] (pc' := 73) (L' := [some (.ref 0), some (.int p0), some (.int p1), some (.int (bI p2)), some (.int (bI p3))]) (st' := [.int 1]) (σ1 := s6) (by decide +kernel) rfl ?_
          obtain ⟨rfl, rfl⟩ := Prod.mk.inj h
          exact RM.reti (by decide +kernel) rfl
      · rw [if_pos c3] at h
        refine RM.blk [(0, 0, 0, .int 1), (23, 0, 0, .null)] (pc' := 48) (L' := [some (.ref 0), some (.int p0), some (.int p1), some (.int (bI p2)), some (.int (bI p3))]) (st' := [.int 1, .int p0, .ref 14]) (σ1 := (rs σ 13 8 p0 p1)) (by decide +kernel) rfl ?_
        refine RN.callV [.int p0, .int 1] (s_Row_set (q := 14) (a := 15) (n := 8) ⟨rfl, rfl, by decide⟩ (rs σ 13 8 p0 p1) p0 1) [] (pc3 := 51) (st3 := []) (by decide +kernel) mk_Row_set (by decide) ?_
        refine RM.blk [(2, 0, 0, .null), (3, 11, 1, .null), (3, 4, 3, .null), (1, 1, 0, .null), (1, 4, 0, .null)] (pc' := 61) (L' := [some (.ref 0), some (.int p0), some (.int p1), some (.int (bI p2)), some (.int (bI p3))]) (st' := [.int (bI p3), .int p0, .ref 16]) (σ1 := (rs (rs σ 13 8 p0 p1) 15 8 p0 1)) (by decide +kernel) rfl ?_
        refine RM.zeq (tgt := 68) (by decide +kernel) (fun c7 => ?_) (fun c7 => ?_)
        · rw [if_neg (bf c7)] at h
          refine RM.blk [(0, 0, 0, .int 0)] (pc' := 69) (L' := [some (.ref 0), some (.int p0), some (.int p1), some (.int (bI p2)), some (.int (bI p3))]) (st' := [.int 0, .int p0, .ref 16]) (σ1 := (rs (rs σ 13 8 p0 p1) 15 8 p0 1)) (by decide +kernel) rfl ?_
          refine RN.callV [.int p0, .int 0] (s_Row_set (q := 16) (a := 17) (n := 8) ⟨rfl, rfl, by decide⟩ (rs (rs σ 13 8 p0 p1) 15 8 p0 1) p0 0) [] (pc3 := 72) (st3 := []) (by decide +kernel) mk_Row_set (by decide) ?_
          generalize ns8 : (rs (rs (rs σ 13 8 p0 p1) 15 8 p0 1) 17 8 p0 0) = s8 at h ⊢
          replace h := nm_h h
          refine RM.blk [(0, 0, 0, .int 1)] (pc' := 73) (L' := [some (.ref 0), some (.int p0), some (.int p1), some (.int (bI p2)), some (.int (bI p3))]) (st' := [.int 1]) (σ1 := s8) (by decide +kernel) rfl ?_
          obtain ⟨rfl, rfl⟩ := Prod.mk.inj h
          exact RM.reti (by decide +kernel) rfl
        · rw [if_pos c7] at h
          refine RM.blk [(0, 0, 0, .int 1), (23, 0, 0, .null)] (pc' := 69) (L' := [some (.ref 0), some (.int p0), some (.int p1), some (.int (bI p2)), some (.int (bI p3))]) (st' := [.int 1, .int p0, .ref 16]) (σ1 := (rs (rs σ 13 8 p0 p1) 15 8 p0 1)) (by decide +kernel) rfl ?_
          refine RN.callV [.int p0, .int 1] (s_Row_set (q := 16) (a := 17) (n := 8) ⟨rfl, rfl, by decide⟩ (rs (rs σ 13 8 p0 p1) 15 8 p0 1) p0 1) [] (pc3 := 72) (st3 := []) (by decide +kernel) mk_Row_set (by decide) ?_
          generalize ns9 : (rs (rs (rs σ 13 8 p0 p1) 15 8 p0 1) 17 8 p0 1) = s9 at h ⊢
          replace h := nm_h h
          refine RM.blk [(0, 0, 0, .int 1)] (pc' := 73) (L' := [some (.ref 0), some (.int p0), some (.int p1), some (.int (bI p2)), some (.int (bI p3))]) (st' := [.int 1]) (σ1 := s9) (by decide +kernel) rfl ?_
          obtain ⟨rfl, rfl⟩ := Prod.mk.inj h
          exact RM.reti (by decide +kernel) rfl
    · rw [if_neg (bf c2)] at h
      refine RM.blk [(0, 0, 0, .int (-2))] (pc' := 18) (L' := [some (.ref 0), some (.int p0), some (.int p1), some (.int (bI p2)), some (.int (bI p3))]) (st' := [.int (-2)]) (σ1 := σ) (by decide +kernel) rfl ?_
      obtain ⟨rfl, rfl⟩ := Prod.mk.inj h
      exact RM.reti (by decide +kernel) rfl
def M_Drawing_stripEnd : MI := (yX3_stripEnd, cX3_stripEnd, 4, some .int, 3)
theorem mk_Drawing_stripEnd : mOK M_Drawing_stripEnd 2 = true := by decide +kernel
def L_Drawing_stripEnd_4 (σ : SG) (p0 : Int32) (p1 : Int32) (x1 : Int32) : Option ((Int32) ⊕ (Int32)) := (if (σ 1 0) ≤ x1 then some (.inr x1) else (if (F_Drawing_fieldAt σ x1 p1) = (F_Drawing_fieldAt σ p0 p1) then some (.inl (x1 + 1)) else some (.inr x1)))
def F_Drawing_stripEnd (σ : SG) (p0 : Int32) (p1 : Int32) : Option (Int32) := (ob (lpW (L_Drawing_stripEnd_4 σ p0 p1) FU (p0 + 1)) (fun y1 => some y1))
set_option maxRecDepth 100000 in
set_option maxHeartbeats 4000000 in
theorem s_Drawing_stripEnd (σ : SG) (p0 : Int32) (p1 : Int32) (rr : Int32) (h : F_Drawing_stripEnd σ p0 p1 = some rr) : SpN 4 M_Drawing_stripEnd [.ref 1, .int p0, .int p1] σ (some (.int rr)) σ := by
  unfold F_Drawing_stripEnd at h
  refine Sp.of mk_Drawing_stripEnd rfl (Nat.le_of_ble_eq_true rfl) ?_
  refine RM.blk [(1, 1, 0, .null), (0, 0, 0, .int 1), (5, 0, 0, .null), (4, 3, 0, .null)] (pc' := 4) (L' := [some (.ref 1), some (.int p0), some (.int p1), some (.int (p0 + 1))]) (st' := []) (σ1 := σ) (by decide +kernel) rfl ?_
  have hL1 : ∀ (n : Nat) (x1 : Int32) (y1 : Int32), lpW (L_Drawing_stripEnd_4 σ p0 p1) n x1 = some y1 → RN 4 M_Drawing_stripEnd (some (.int rr)) σ 33 [none, none, none, some (.int y1)] [] σ → RN 4 M_Drawing_stripEnd (some (.int rr)) σ 4 [some (.ref 1), some (.int p0), some (.int p1), some (.int x1)] [] σ := by
    intro n
    induction n with
    | zero => intro x1 y1 hy1; cases hy1
    | succ n ih1 =>
      intro x1 y1 hy1 hK1
      obtain ⟨z1, e1, hy1⟩ := ob_some hy1
      unfold L_Drawing_stripEnd_4 at e1
      refine RM.blk [(1, 3, 0, .null), (2, 0, 0, .null), (3, 3, 0, .null)] (pc' := 9) (L' := [some (.ref 1), some (.int p0), some (.int p1), some (.int x1)]) (st' := [.int (σ 1 0), .int x1]) (σ1 := σ) (by decide +kernel) rfl ?_
      refine RM.icmp_ge (tgt := 33) (by decide +kernel) (fun c2 => ?_) (fun c2 => ?_)
      · rw [if_pos c2] at e1
        obtain rfl := Option.some.inj e1
        obtain rfl := Option.some.inj (show some (x1 : Int32) = some y1 from hy1)
        refine RN.dropB [false, false, false, true] rfl ?_
        exact hK1
      · rw [if_neg c2] at e1
        refine RM.blk [(2, 0, 0, .null), (1, 3, 0, .null), (1, 2, 0, .null)] (pc' := 15) (L' := [some (.ref 1), some (.int p0), some (.int p1), some (.int x1)]) (st' := [.int p1, .int x1, .ref 1]) (σ1 := σ) (by decide +kernel) rfl ?_
        refine RN.callV [.int x1, .int p1] (s_Drawing_fieldAt σ x1 p1) [] (pc3 := 18) (st3 := [.int (F_Drawing_fieldAt σ x1 p1)]) (by decide +kernel) mk_Drawing_fieldAt (by decide) ?_
        refine RM.blk [(2, 0, 0, .null), (1, 1, 0, .null), (1, 2, 0, .null)] (pc' := 21) (L' := [some (.ref 1), some (.int p0), some (.int p1), some (.int x1)]) (st' := [.int p1, .int p0, .ref 1, .int (F_Drawing_fieldAt σ x1 p1)]) (σ1 := σ) (by decide +kernel) rfl ?_
        refine RN.callV [.int p0, .int p1] (s_Drawing_fieldAt σ p0 p1) [.int (F_Drawing_fieldAt σ x1 p1)] (pc3 := 24) (st3 := [.int (F_Drawing_fieldAt σ p0 p1), .int (F_Drawing_fieldAt σ x1 p1)]) (by decide +kernel) mk_Drawing_fieldAt (by decide) ?_
        refine RM.icmp_ne (tgt := 33) (by decide +kernel) (fun c3 => ?_) (fun c3 => ?_)
        · rw [if_neg c3] at e1
          obtain rfl := Option.some.inj e1
          obtain rfl := Option.some.inj (show some (x1 : Int32) = some y1 from hy1)
          refine RN.dropB [false, false, false, true] rfl ?_
          exact hK1
        · rw [if_pos c3] at e1
          refine RM.blk [(10, 3, 0, .int 1), (23, 0, 0, .null)] (pc' := 4) (L' := [some (.ref 1), some (.int p0), some (.int p1), some (.int (x1 + 1))]) (st' := []) (σ1 := σ) (by decide +kernel) rfl ?_
          obtain rfl := Option.some.inj e1
          refine RN.dropB [true, true, true, true] rfl ?_
          exact ih1 (x1 + 1) _ hy1 hK1
  obtain ⟨y1, hl1, h⟩ := ob_some h
  refine RN.dropB [true, true, true, true] rfl ?_
  refine hL1 FU (p0 + 1) y1 hl1 ?_
  refine RM.blk [(1, 3, 0, .null)] (pc' := 34) (L' := [none, none, none, some (.int y1)]) (st' := [.int y1]) (σ1 := σ) (by decide +kernel) rfl ?_
  obtain rfl := (Option.some.inj h)
  exact RM.reti (by decide +kernel) rfl
def M_Layer_mayEnd : MI := (yX6_mayEnd, cX6_mayEnd, 3, some .boolean, 6)
theorem mk_Layer_mayEnd : mOK M_Layer_mayEnd 2 = true := by decide +kernel
def F_Layer_mayEnd (σ : SG) (p0 : Int32) (p1 : Int32) : Bool := (if p0 = p1 then true else (if p1 ≤ p0 then false else (if (rg σ 37 25 p0) = 0 then true else false)))
set_option maxRecDepth 100000 in
set_option maxHeartbeats 4000000 in
theorem s_Layer_mayEnd (σ : SG) (p0 : Int32) (p1 : Int32) : SpN 3 M_Layer_mayEnd [.ref 35, .int p0, .int p1] σ (some (.int (bI (F_Layer_mayEnd σ p0 p1)))) σ := by
  generalize h : F_Layer_mayEnd σ p0 p1 = rr
  unfold F_Layer_mayEnd at h
  refine Sp.of mk_Layer_mayEnd rfl (Nat.le_of_ble_eq_true rfl) ?_
  refine RM.blk [(1, 1, 0, .null), (1, 2, 0, .null)] (pc' := 2) (L' := [some (.ref 35), some (.int p0), some (.int p1)]) (st' := [.int p1, .int p0]) (σ1 := σ) (by decide +kernel) rfl ?_
  refine RM.icmp_eq (tgt := 21) (by decide +kernel) (fun c1 => ?_) (fun c1 => ?_)
  · rw [if_pos c1] at h
    refine RM.blk [(0, 0, 0, .int 1), (23, 0, 0, .null)] (pc' := 26) (L' := [some (.ref 35), some (.int p0), some (.int p1)]) (st' := [.int 1]) (σ1 := σ) (by decide +kernel) rfl ?_
    obtain rfl := h
    exact RM.retz (z := true) (by decide +kernel) rfl
  · rw [if_neg c1] at h
    refine RM.blk [(1, 1, 0, .null), (1, 2, 0, .null)] (pc' := 7) (L' := [some (.ref 35), some (.int p0), some (.int p1)]) (st' := [.int p1, .int p0]) (σ1 := σ) (by decide +kernel) rfl ?_
    refine RM.icmp_ge (tgt := 25) (by decide +kernel) (fun c2 => ?_) (fun c2 => ?_)
    · rw [if_pos c2] at h
      refine RM.blk [(0, 0, 0, .int 0)] (pc' := 26) (L' := [some (.ref 35), some (.int p0), some (.int p1)]) (st' := [.int 0]) (σ1 := σ) (by decide +kernel) rfl ?_
      obtain rfl := h
      exact RM.retz (z := false) (by decide +kernel) rfl
    · rw [if_neg c2] at h
      refine RM.blk [(2, 0, 0, .null), (3, 6, 3, .null), (1, 1, 0, .null)] (pc' := 15) (L' := [some (.ref 35), some (.int p0), some (.int p1)]) (st' := [.int p0, .ref 36]) (σ1 := σ) (by decide +kernel) rfl ?_
      refine RN.callV [.int p0] (s_Row_get (q := 36) (a := 37) (n := 25) ⟨rfl, rfl, by decide⟩ σ p0) [] (pc3 := 18) (st3 := [.int (rg σ 37 25 p0)]) (by decide +kernel) mk_Row_get (by decide) ?_
      refine RM.if_ne (tgt := 25) (by decide +kernel) (fun c3 => ?_) (fun c3 => ?_)
      · rw [if_neg c3] at h
        refine RM.blk [(0, 0, 0, .int 0)] (pc' := 26) (L' := [some (.ref 35), some (.int p0), some (.int p1)]) (st' := [.int 0]) (σ1 := σ) (by decide +kernel) rfl ?_
        obtain rfl := h
        exact RM.retz (z := false) (by decide +kernel) rfl
      · rw [if_pos c3] at h
        refine RM.blk [(0, 0, 0, .int 1), (23, 0, 0, .null)] (pc' := 26) (L' := [some (.ref 35), some (.int p0), some (.int p1)]) (st' := [.int 1]) (σ1 := σ) (by decide +kernel) rfl ?_
        obtain rfl := h
        exact RM.retz (z := true) (by decide +kernel) rfl
def M_Layer_countFewest : MI := (yX6_countFewest, cX6_countFewest, 7, none, 6)
theorem mk_Layer_countFewest : mOK M_Layer_countFewest 3 = true := by decide +kernel
def L_Layer_countFewest_27 (p1 : Int32) (p2 : Int32) (x1 : Int32 × SG) (x3 : Int32 × Int32) : Option ((Int32 × Int32) ⊕ (Int32)) := (if p2 < x3.2 then some (.inr x3.1) else (if (F_Layer_mayEnd x1.2 (x1.1 + x3.2) p1) = true then some (.inl ((mnI x3.1 ((rg x1.2 41 25 (x1.1 + x3.2)) + 1)), (x3.2 + 1))) else some (.inl (x3.1, (x3.2 + 1)))))
def L_Layer_countFewest_14 (p0 : Int32) (p1 : Int32) (p2 : Int32) (x1 : Int32 × SG) : Option ((Int32 × SG) ⊕ (SG)) := (if x1.1 < p0 then some (.inr x1.2) else (ob (lpW (L_Layer_countFewest_27 p1 p2 x1) FU (1000000, 1)) (fun y3 => some (.inl ((x1.1 + (-1)), (rs x1.2 41 25 x1.1 y3))))))
def F_Layer_countFewest (σ : SG) (p0 : Int32) (p1 : Int32) (p2 : Int32) : Option (SG) := (ob (lpW (L_Layer_countFewest_14 p0 p1 p2) FU ((p1 - 1), (rs σ 41 25 p1 0))) (fun y1 => some y1))
set_option maxRecDepth 100000 in
set_option maxHeartbeats 4000000 in
theorem s_Layer_countFewest (σ : SG) (p0 : Int32) (p1 : Int32) (p2 : Int32) (so : SG) (h : F_Layer_countFewest σ p0 p1 p2 = some so) : SpN 4 M_Layer_countFewest [.ref 35, .int p0, .int p1, .int p2] σ none so := by
  unfold F_Layer_countFewest at h
  refine Sp.of mk_Layer_countFewest rfl (Nat.le_of_ble_eq_true rfl) ?_
  refine RM.blk [(2, 0, 0, .null), (3, 6, 5, .null), (1, 2, 0, .null), (0, 0, 0, .int 0)] (pc' := 6) (L' := [some (.ref 35), some (.int p0), some (.int p1), some (.int p2), none, none, none]) (st' := [.int 0, .int p1, .ref 40]) (σ1 := σ) (by decide +kernel) rfl ?_
  refine RN.callV [.int p1, .int 0] (s_Row_set (q := 40) (a := 41) (n := 25) ⟨rfl, rfl, by decide⟩ σ p1 0) [] (pc3 := 9) (st3 := []) (by decide +kernel) mk_Row_set (by decide) ?_
  refine RM.blk [(1, 2, 0, .null), (0, 0, 0, .int 1), (6, 0, 0, .null), (4, 4, 0, .null)] (pc' := 14) (L' := [some (.ref 35), some (.int p0), some (.int p1), some (.int p2), some (.int (p1 - 1)), none, none]) (st' := []) (σ1 := (rs σ 41 25 p1 0)) (by decide +kernel) rfl ?_
  have hL1 : ∀ (n : Nat) (x1 : Int32 × SG) (y1 : SG), lpW (L_Layer_countFewest_14 p0 p1 p2) n x1 = some y1 → RN 4 M_Layer_countFewest none so 90 [none, none, none, none, none, none, none] [] y1 → RN 4 M_Layer_countFewest none so 14 [some (.ref 35), some (.int p0), some (.int p1), some (.int p2), some (.int x1.1), none, none] [] x1.2 := by
    intro n
    induction n with
    | zero => intro x1 y1 hy1; cases hy1
    | succ n ih1 =>
      intro x1 y1 hy1 hK1
      obtain ⟨z1, e1, hy1⟩ := ob_some hy1
      unfold L_Layer_countFewest_14 at e1
      refine RM.blk [(1, 4, 0, .null), (1, 1, 0, .null)] (pc' := 17) (L' := [some (.ref 35), some (.int p0), some (.int p1), some (.int p2), some (.int x1.1), none, none]) (st' := [.int p0, .int x1.1]) (σ1 := x1.2) (by decide +kernel) rfl ?_
      refine RM.icmp_lt (tgt := 90) (by decide +kernel) (fun c2 => ?_) (fun c2 => ?_)
      · rw [if_pos c2] at e1
        obtain rfl := Option.some.inj e1
        obtain rfl := Option.some.inj (show some (x1.2 : SG) = some y1 from hy1)
        refine RN.dropB [false, false, false, false, false, false, false] rfl ?_
        exact hK1
      · rw [if_neg c2] at e1
        refine RM.blk [(0, 0, 0, .int 1000000), (4, 5, 0, .null), (0, 0, 0, .int 1), (4, 6, 0, .null)] (pc' := 27) (L' := [some (.ref 35), some (.int p0), some (.int p1), some (.int p2), some (.int x1.1), some (.int 1000000), some (.int 1)]) (st' := []) (σ1 := x1.2) (by decide +kernel) rfl ?_
        have hL3 : ∀ (n : Nat) (x3 : Int32 × Int32) (y3 : Int32), lpW (L_Layer_countFewest_27 p1 p2 x1) n x3 = some y3 → RN 4 M_Layer_countFewest none so 73 [some (.ref 35), some (.int p0), some (.int p1), some (.int p2), some (.int x1.1), some (.int y3), none] [] x1.2 → RN 4 M_Layer_countFewest none so 27 [some (.ref 35), some (.int p0), some (.int p1), some (.int p2), some (.int x1.1), some (.int x3.1), some (.int x3.2)] [] x1.2 := by
          intro n
          induction n with
          | zero => intro x3 y3 hy3; cases hy3
          | succ n ih3 =>
            intro x3 y3 hy3 hK3
            obtain ⟨z3, e3, hy3⟩ := ob_some hy3
            unfold L_Layer_countFewest_27 at e3
            refine RM.blk [(1, 6, 0, .null), (1, 3, 0, .null)] (pc' := 30) (L' := [some (.ref 35), some (.int p0), some (.int p1), some (.int p2), some (.int x1.1), some (.int x3.1), some (.int x3.2)]) (st' := [.int p2, .int x3.2]) (σ1 := x1.2) (by decide +kernel) rfl ?_
            refine RM.icmp_gt (tgt := 73) (by decide +kernel) (fun c4 => ?_) (fun c4 => ?_)
            · rw [if_pos c4] at e3
              obtain rfl := Option.some.inj e3
              obtain rfl := Option.some.inj (show some (x3.1 : Int32) = some y3 from hy3)
              refine RN.dropB [true, true, true, true, true, true, false] rfl ?_
              exact hK3
            · rw [if_neg c4] at e3
              refine RM.blk [(2, 0, 0, .null), (1, 4, 0, .null), (1, 6, 0, .null), (5, 0, 0, .null), (1, 2, 0, .null)] (pc' := 40) (L' := [some (.ref 35), some (.int p0), some (.int p1), some (.int p2), some (.int x1.1), some (.int x3.1), some (.int x3.2)]) (st' := [.int p1, .int (x1.1 + x3.2), .ref 35]) (σ1 := x1.2) (by decide +kernel) rfl ?_
              refine RN.callV [.int (x1.1 + x3.2), .int p1] (s_Layer_mayEnd x1.2 (x1.1 + x3.2) p1) [] (pc3 := 43) (st3 := [.int (bI (F_Layer_mayEnd x1.2 (x1.1 + x3.2) p1))]) (by decide +kernel) mk_Layer_mayEnd (by decide) ?_
              refine RM.zeq (tgt := 67) (by decide +kernel) (fun c5 => ?_) (fun c5 => ?_)
              · rw [if_neg (bf c5)] at e3
                refine RM.blk [(10, 6, 0, .int 1), (23, 0, 0, .null)] (pc' := 27) (L' := [some (.ref 35), some (.int p0), some (.int p1), some (.int p2), some (.int x1.1), some (.int x3.1), some (.int (x3.2 + 1))]) (st' := []) (σ1 := x1.2) (by decide +kernel) rfl ?_
                obtain rfl := Option.some.inj e3
                refine RN.dropB [true, true, true, true, true, true, true] rfl ?_
                exact ih3 (x3.1, (x3.2 + 1)) _ hy3 hK3
              · rw [if_pos c5] at e3
                refine RM.blk [(1, 5, 0, .null), (2, 0, 0, .null), (3, 6, 5, .null), (1, 4, 0, .null), (1, 6, 0, .null), (5, 0, 0, .null)] (pc' := 57) (L' := [some (.ref 35), some (.int p0), some (.int p1), some (.int p2), some (.int x1.1), some (.int x3.1), some (.int x3.2)]) (st' := [.int (x1.1 + x3.2), .ref 40, .int x3.1]) (σ1 := x1.2) (by decide +kernel) rfl ?_
                refine RN.callV [.int (x1.1 + x3.2)] (s_Row_get (q := 40) (a := 41) (n := 25) ⟨rfl, rfl, by decide⟩ x1.2 (x1.1 + x3.2)) [.int x3.1] (pc3 := 60) (st3 := [.int (rg x1.2 41 25 (x1.1 + x3.2)), .int x3.1]) (by decide +kernel) mk_Row_get (by decide) ?_
                refine RM.blk [(0, 0, 0, .int 1), (5, 0, 0, .null)] (pc' := 62) (L' := [some (.ref 35), some (.int p0), some (.int p1), some (.int p2), some (.int x1.1), some (.int x3.1), some (.int x3.2)]) (st' := [.int ((rg x1.2 41 25 (x1.1 + x3.2)) + 1), .int x3.1]) (σ1 := x1.2) (by decide +kernel) rfl ?_
                refine RM.mmin (by decide +kernel) (by decide) (Nat.le_of_ble_eq_true rfl) ⟨Nat.le_refl _, Nat.le_refl _⟩ ?_
                refine RM.blk [(4, 5, 0, .null), (10, 6, 0, .int 1), (23, 0, 0, .null)] (pc' := 27) (L' := [some (.ref 35), some (.int p0), some (.int p1), some (.int p2), some (.int x1.1), some (.int (mnI x3.1 ((rg x1.2 41 25 (x1.1 + x3.2)) + 1))), some (.int (x3.2 + 1))]) (st' := []) (σ1 := x1.2) (by decide +kernel) rfl ?_
                obtain rfl := Option.some.inj e3
                refine RN.dropB [true, true, true, true, true, true, true] rfl ?_
                exact ih3 ((mnI x3.1 ((rg x1.2 41 25 (x1.1 + x3.2)) + 1)), (x3.2 + 1)) _ hy3 hK3
        obtain ⟨y3, hl3, e1⟩ := ob_some e1
        refine RN.dropB [true, true, true, true, true, true, true] rfl ?_
        refine hL3 FU (1000000, 1) y3 hl3 ?_
        refine RM.blk [(2, 0, 0, .null), (3, 6, 5, .null), (1, 4, 0, .null), (1, 5, 0, .null)] (pc' := 81) (L' := [some (.ref 35), some (.int p0), some (.int p1), some (.int p2), some (.int x1.1), some (.int y3), none]) (st' := [.int y3, .int x1.1, .ref 40]) (σ1 := x1.2) (by decide +kernel) rfl ?_
        refine RN.callV [.int x1.1, .int y3] (s_Row_set (q := 40) (a := 41) (n := 25) ⟨rfl, rfl, by decide⟩ x1.2 x1.1 y3) [] (pc3 := 84) (st3 := []) (by decide +kernel) mk_Row_set (by decide) ?_
        refine RM.blk [(10, 4, 0, .int (-1)), (23, 0, 0, .null)] (pc' := 14) (L' := [some (.ref 35), some (.int p0), some (.int p1), some (.int p2), some (.int (x1.1 + (-1))), some (.int y3), none]) (st' := []) (σ1 := (rs x1.2 41 25 x1.1 y3)) (by decide +kernel) rfl ?_
        obtain rfl := Option.some.inj e1
        refine RN.dropB [true, true, true, true, true, false, false] rfl ?_
        exact ih1 ((x1.1 + (-1)), (rs x1.2 41 25 x1.1 y3)) _ hy1 hK1
  obtain ⟨y1, hl1, h⟩ := ob_some h
  refine RN.dropB [true, true, true, true, true, false, false] rfl ?_
  refine hL1 FU ((p1 - 1), (rs σ 41 25 p1 0)) y1 hl1 ?_
  obtain rfl := (Option.some.inj h)
  exact RM.retv (by decide +kernel) rfl
def M_Layer_widestOfFewest : MI := (yX6_widestOfFewest, cX6_widestOfFewest, 5, some .int, 6)
theorem mk_Layer_widestOfFewest : mOK M_Layer_widestOfFewest 3 = true := by decide +kernel
def L_Layer_widestOfFewest_3 (σ : SG) (p0 : Int32) (p1 : Int32) (x1 : Int32) : Option ((Int32) ⊕ ((Unit) ⊕ (Int32))) := (if x1 ≤ 1 then some (.inr (.inl ())) else (if (F_Layer_mayEnd σ (p0 + x1) p1) = true then (if (rg σ 41 25 (p0 + x1)) = ((rg σ 41 25 p0) - 1) then some (.inr (.inr x1)) else some (.inl (x1 + (-1)))) else some (.inl (x1 + (-1)))))
def F_Layer_widestOfFewest (σ : SG) (p0 : Int32) (p1 : Int32) (p2 : Int32) : Option (Int32) := (ob (lpW (L_Layer_widestOfFewest_3 σ p0 p1) FU p2) (fun y1 => Sum.elim (fun y1 : Unit => some 1) (fun q1 : Int32 => some q1) y1))
set_option maxRecDepth 100000 in
set_option maxHeartbeats 4000000 in
theorem s_Layer_widestOfFewest (σ : SG) (p0 : Int32) (p1 : Int32) (p2 : Int32) (rr : Int32) (h : F_Layer_widestOfFewest σ p0 p1 p2 = some rr) : SpN 4 M_Layer_widestOfFewest [.ref 35, .int p0, .int p1, .int p2] σ (some (.int rr)) σ := by
  unfold F_Layer_widestOfFewest at h
  refine Sp.of mk_Layer_widestOfFewest rfl (Nat.le_of_ble_eq_true rfl) ?_
  refine RM.blk [(1, 3, 0, .null), (4, 4, 0, .null)] (pc' := 3) (L' := [some (.ref 35), some (.int p0), some (.int p1), some (.int p2), some (.int p2)]) (st' := []) (σ1 := σ) (by decide +kernel) rfl ?_
  have hL1 : ∀ (n : Nat) (x1 : Int32) (y1 : (Unit) ⊕ (Int32)), lpW (L_Layer_widestOfFewest_3 σ p0 p1) n x1 = some y1 → Sum.elim (fun y1 : Unit => RN 4 M_Layer_widestOfFewest (some (.int rr)) σ 54 [none, none, none, none, none] [] σ) (fun q : Int32 => q = rr) y1 → RN 4 M_Layer_widestOfFewest (some (.int rr)) σ 3 [some (.ref 35), some (.int p0), some (.int p1), none, some (.int x1)] [] σ := by
    intro n
    induction n with
    | zero => intro x1 y1 hy1; cases hy1
    | succ n ih1 =>
      intro x1 y1 hy1 hK1
      obtain ⟨z1, e1, hy1⟩ := ob_some hy1
      unfold L_Layer_widestOfFewest_3 at e1
      refine RM.blk [(1, 4, 0, .null), (0, 0, 0, .int 1)] (pc' := 6) (L' := [some (.ref 35), some (.int p0), some (.int p1), none, some (.int x1)]) (st' := [.int 1, .int x1]) (σ1 := σ) (by decide +kernel) rfl ?_
      refine RM.icmp_le (tgt := 54) (by decide +kernel) (fun c2 => ?_) (fun c2 => ?_)
      · rw [if_pos c2] at e1
        obtain rfl := Option.some.inj e1
        obtain rfl := Option.some.inj (show some ((.inl ()) : (Unit) ⊕ (Int32)) = some y1 from hy1)
        refine RN.dropB [false, false, false, false, false] rfl ?_
        exact hK1
      · rw [if_neg c2] at e1
        refine RM.blk [(2, 0, 0, .null), (1, 1, 0, .null), (1, 4, 0, .null), (5, 0, 0, .null), (1, 2, 0, .null)] (pc' := 15) (L' := [some (.ref 35), some (.int p0), some (.int p1), none, some (.int x1)]) (st' := [.int p1, .int (p0 + x1), .ref 35]) (σ1 := σ) (by decide +kernel) rfl ?_
        refine RN.callV [.int (p0 + x1), .int p1] (s_Layer_mayEnd σ (p0 + x1) p1) [] (pc3 := 18) (st3 := [.int (bI (F_Layer_mayEnd σ (p0 + x1) p1))]) (by decide +kernel) mk_Layer_mayEnd (by decide) ?_
        refine RM.zeq (tgt := 48) (by decide +kernel) (fun c3 => ?_) (fun c3 => ?_)
        · rw [if_neg (bf c3)] at e1
          refine RM.blk [(10, 4, 0, .int (-1)), (23, 0, 0, .null)] (pc' := 3) (L' := [some (.ref 35), some (.int p0), some (.int p1), none, some (.int (x1 + (-1)))]) (st' := []) (σ1 := σ) (by decide +kernel) rfl ?_
          obtain rfl := Option.some.inj e1
          refine RN.dropB [true, true, true, false, true] rfl ?_
          exact ih1 (x1 + (-1)) _ hy1 hK1
        · rw [if_pos c3] at e1
          refine RM.blk [(2, 0, 0, .null), (3, 6, 5, .null), (1, 1, 0, .null), (1, 4, 0, .null), (5, 0, 0, .null)] (pc' := 29) (L' := [some (.ref 35), some (.int p0), some (.int p1), none, some (.int x1)]) (st' := [.int (p0 + x1), .ref 40]) (σ1 := σ) (by decide +kernel) rfl ?_
          refine RN.callV [.int (p0 + x1)] (s_Row_get (q := 40) (a := 41) (n := 25) ⟨rfl, rfl, by decide⟩ σ (p0 + x1)) [] (pc3 := 32) (st3 := [.int (rg σ 41 25 (p0 + x1))]) (by decide +kernel) mk_Row_get (by decide) ?_
          refine RM.blk [(2, 0, 0, .null), (3, 6, 5, .null), (1, 1, 0, .null)] (pc' := 37) (L' := [some (.ref 35), some (.int p0), some (.int p1), none, some (.int x1)]) (st' := [.int p0, .ref 40, .int (rg σ 41 25 (p0 + x1))]) (σ1 := σ) (by decide +kernel) rfl ?_
          refine RN.callV [.int p0] (s_Row_get (q := 40) (a := 41) (n := 25) ⟨rfl, rfl, by decide⟩ σ p0) [.int (rg σ 41 25 (p0 + x1))] (pc3 := 40) (st3 := [.int (rg σ 41 25 p0), .int (rg σ 41 25 (p0 + x1))]) (by decide +kernel) mk_Row_get (by decide) ?_
          refine RM.blk [(0, 0, 0, .int 1), (6, 0, 0, .null)] (pc' := 42) (L' := [some (.ref 35), some (.int p0), some (.int p1), none, some (.int x1)]) (st' := [.int ((rg σ 41 25 p0) - 1), .int (rg σ 41 25 (p0 + x1))]) (σ1 := σ) (by decide +kernel) rfl ?_
          refine RM.icmp_ne (tgt := 48) (by decide +kernel) (fun c4 => ?_) (fun c4 => ?_)
          · rw [if_neg c4] at e1
            refine RM.blk [(10, 4, 0, .int (-1)), (23, 0, 0, .null)] (pc' := 3) (L' := [some (.ref 35), some (.int p0), some (.int p1), none, some (.int (x1 + (-1)))]) (st' := []) (σ1 := σ) (by decide +kernel) rfl ?_
            obtain rfl := Option.some.inj e1
            refine RN.dropB [true, true, true, false, true] rfl ?_
            exact ih1 (x1 + (-1)) _ hy1 hK1
          · rw [if_pos c4] at e1
            refine RM.blk [(1, 4, 0, .null)] (pc' := 47) (L' := [some (.ref 35), some (.int p0), some (.int p1), none, some (.int x1)]) (st' := [.int x1]) (σ1 := σ) (by decide +kernel) rfl ?_
            obtain rfl := Option.some.inj e1
            obtain rfl := Option.some.inj (show some (.inr x1 : (Unit) ⊕ (Int32)) = some y1 from hy1)
            obtain rfl := (show (x1 : Int32) = rr from hK1)
            exact RM.reti (by decide +kernel) rfl
  obtain ⟨y1, hl1, h⟩ := ob_some h
  refine RN.dropB [true, true, true, false, true] rfl ?_
  refine hL1 FU p2 y1 hl1 ?_
  rcases y1 with y1 | q1
  · simp only [Sum.elim_inl] at h ⊢
    refine RM.blk [(0, 0, 0, .int 1)] (pc' := 55) (L' := [none, none, none, none, none]) (st' := [.int 1]) (σ1 := σ) (by decide +kernel) rfl ?_
    obtain rfl := (Option.some.inj h)
    exact RM.reti (by decide +kernel) rfl
  · simp only [Sum.elim_inr] at h ⊢
    exact Option.some.inj h
def M_Cubes_put : MI := (yX1_put, cX1_put, 6, none, 1)
theorem mk_Cubes_put : mOK M_Cubes_put 4 = true := by decide +kernel
def L_Cubes_put_88 (p0 : Int32) (p1 : Int32) (p2 : Int32) (x4 : Int32 × SG) : Option ((Int32 × SG) ⊕ (SG)) := (if (p1 + p2) ≤ x4.1 then some (.inr x4.2) else (nm (rs x4.2 34 240 (F_Drawing_place x4.1 p0) (x4.2 18 0)) (fun s6 => some (.inl ((x4.1 + 1), s6)))))
def F_Cubes_put (σ : SG) (p0 : Int32) (p1 : Int32) (p2 : Int32) (p3 : Int32) : Option (SG) := (nm (rs (rs σ 20 240 (σ 18 0) p0) 22 240 ((rs σ 20 240 (σ 18 0) p0) 18 0) p1) (fun s1 => (nm (rs (rs s1 24 240 (s1 18 0) p2) 26 240 ((rs s1 24 240 (s1 18 0) p2) 18 0) p3) (fun s2 => (nm (rs (rs s2 28 240 (s2 18 0) (-1)) 30 240 ((rs s2 28 240 (s2 18 0) (-1)) 18 0) (-1)) (fun s3 => (ob (lpW (L_Cubes_put_88 p0 p1 p2) FU (p1, (rs s3 32 240 (s3 18 0) (-1)))) (fun y4 => some (up y4 18 0 ((y4 18 0) + 1))))))))))
set_option maxRecDepth 100000 in
set_option maxHeartbeats 4000000 in
theorem s_Cubes_put (σ : SG) (p0 : Int32) (p1 : Int32) (p2 : Int32) (p3 : Int32) (so : SG) (h : F_Cubes_put σ p0 p1 p2 p3 = some so) : SpN 3 M_Cubes_put [.ref 18, .int p0, .int p1, .int p2, .int p3] σ none so := by
  unfold F_Cubes_put at h
  refine Sp.of mk_Cubes_put rfl (Nat.le_of_ble_eq_true rfl) ?_
  refine RM.blk [(2, 0, 0, .null), (3, 1, 1, .null), (2, 0, 0, .null), (3, 1, 0, .null), (1, 1, 0, .null)] (pc' := 9) (L' := [some (.ref 18), some (.int p0), some (.int p1), some (.int p2), some (.int p3), none]) (st' := [.int p0, .int (σ 18 0), .ref 19]) (σ1 := σ) (by decide +kernel) rfl ?_
  refine RN.callV [.int (σ 18 0), .int p0] (s_Row_set (q := 19) (a := 20) (n := 240) ⟨rfl, rfl, by decide⟩ σ (σ 18 0) p0) [] (pc3 := 12) (st3 := []) (by decide +kernel) mk_Row_set (by decide) ?_
  refine RM.blk [(2, 0, 0, .null), (3, 1, 2, .null), (2, 0, 0, .null), (3, 1, 0, .null), (1, 2, 0, .null)] (pc' := 21) (L' := [some (.ref 18), some (.int p0), some (.int p1), some (.int p2), some (.int p3), none]) (st' := [.int p1, .int ((rs σ 20 240 (σ 18 0) p0) 18 0), .ref 21]) (σ1 := (rs σ 20 240 (σ 18 0) p0)) (by decide +kernel) rfl ?_
  refine RN.callV [.int ((rs σ 20 240 (σ 18 0) p0) 18 0), .int p1] (s_Row_set (q := 21) (a := 22) (n := 240) ⟨rfl, rfl, by decide⟩ (rs σ 20 240 (σ 18 0) p0) ((rs σ 20 240 (σ 18 0) p0) 18 0) p1) [] (pc3 := 24) (st3 := []) (by decide +kernel) mk_Row_set (by decide) ?_
  generalize ns1 : (rs (rs σ 20 240 (σ 18 0) p0) 22 240 ((rs σ 20 240 (σ 18 0) p0) 18 0) p1) = s1 at h ⊢
  replace h := nm_h h
  refine RM.blk [(2, 0, 0, .null), (3, 1, 3, .null), (2, 0, 0, .null), (3, 1, 0, .null), (1, 3, 0, .null)] (pc' := 33) (L' := [some (.ref 18), some (.int p0), some (.int p1), some (.int p2), some (.int p3), none]) (st' := [.int p2, .int (s1 18 0), .ref 23]) (σ1 := s1) (by decide +kernel) rfl ?_
  refine RN.callV [.int (s1 18 0), .int p2] (s_Row_set (q := 23) (a := 24) (n := 240) ⟨rfl, rfl, by decide⟩ s1 (s1 18 0) p2) [] (pc3 := 36) (st3 := []) (by decide +kernel) mk_Row_set (by decide) ?_
  refine RM.blk [(2, 0, 0, .null), (3, 1, 4, .null), (2, 0, 0, .null), (3, 1, 0, .null), (1, 4, 0, .null)] (pc' := 46) (L' := [some (.ref 18), some (.int p0), some (.int p1), some (.int p2), some (.int p3), none]) (st' := [.int p3, .int ((rs s1 24 240 (s1 18 0) p2) 18 0), .ref 25]) (σ1 := (rs s1 24 240 (s1 18 0) p2)) (by decide +kernel) rfl ?_
  refine RN.callV [.int ((rs s1 24 240 (s1 18 0) p2) 18 0), .int p3] (s_Row_set (q := 25) (a := 26) (n := 240) ⟨rfl, rfl, by decide⟩ (rs s1 24 240 (s1 18 0) p2) ((rs s1 24 240 (s1 18 0) p2) 18 0) p3) [] (pc3 := 49) (st3 := []) (by decide +kernel) mk_Row_set (by decide) ?_
  generalize ns2 : (rs (rs s1 24 240 (s1 18 0) p2) 26 240 ((rs s1 24 240 (s1 18 0) p2) 18 0) p3) = s2 at h ⊢
  replace h := nm_h h
  refine RM.blk [(2, 0, 0, .null), (3, 1, 5, .null), (2, 0, 0, .null), (3, 1, 0, .null), (0, 0, 0, .int (-1))] (pc' := 58) (L' := [some (.ref 18), some (.int p0), some (.int p1), some (.int p2), some (.int p3), none]) (st' := [.int (-1), .int (s2 18 0), .ref 27]) (σ1 := s2) (by decide +kernel) rfl ?_
  refine RN.callV [.int (s2 18 0), .int (-1)] (s_Row_set (q := 27) (a := 28) (n := 240) ⟨rfl, rfl, by decide⟩ s2 (s2 18 0) (-1)) [] (pc3 := 61) (st3 := []) (by decide +kernel) mk_Row_set (by decide) ?_
  refine RM.blk [(2, 0, 0, .null), (3, 1, 6, .null), (2, 0, 0, .null), (3, 1, 0, .null), (0, 0, 0, .int (-1))] (pc' := 70) (L' := [some (.ref 18), some (.int p0), some (.int p1), some (.int p2), some (.int p3), none]) (st' := [.int (-1), .int ((rs s2 28 240 (s2 18 0) (-1)) 18 0), .ref 29]) (σ1 := (rs s2 28 240 (s2 18 0) (-1))) (by decide +kernel) rfl ?_
  refine RN.callV [.int ((rs s2 28 240 (s2 18 0) (-1)) 18 0), .int (-1)] (s_Row_set (q := 29) (a := 30) (n := 240) ⟨rfl, rfl, by decide⟩ (rs s2 28 240 (s2 18 0) (-1)) ((rs s2 28 240 (s2 18 0) (-1)) 18 0) (-1)) [] (pc3 := 73) (st3 := []) (by decide +kernel) mk_Row_set (by decide) ?_
  generalize ns3 : (rs (rs s2 28 240 (s2 18 0) (-1)) 30 240 ((rs s2 28 240 (s2 18 0) (-1)) 18 0) (-1)) = s3 at h ⊢
  replace h := nm_h h
  refine RM.blk [(2, 0, 0, .null), (3, 1, 7, .null), (2, 0, 0, .null), (3, 1, 0, .null), (0, 0, 0, .int (-1))] (pc' := 82) (L' := [some (.ref 18), some (.int p0), some (.int p1), some (.int p2), some (.int p3), none]) (st' := [.int (-1), .int (s3 18 0), .ref 31]) (σ1 := s3) (by decide +kernel) rfl ?_
  refine RN.callV [.int (s3 18 0), .int (-1)] (s_Row_set (q := 31) (a := 32) (n := 240) ⟨rfl, rfl, by decide⟩ s3 (s3 18 0) (-1)) [] (pc3 := 85) (st3 := []) (by decide +kernel) mk_Row_set (by decide) ?_
  refine RM.blk [(1, 2, 0, .null), (4, 5, 0, .null)] (pc' := 88) (L' := [some (.ref 18), some (.int p0), some (.int p1), some (.int p2), some (.int p3), some (.int p1)]) (st' := []) (σ1 := (rs s3 32 240 (s3 18 0) (-1))) (by decide +kernel) rfl ?_
  have hL4 : ∀ (n : Nat) (x4 : Int32 × SG) (y4 : SG), lpW (L_Cubes_put_88 p0 p1 p2) n x4 = some y4 → RN 3 M_Cubes_put none so 119 [some (.ref 18), none, none, none, none, none] [] y4 → RN 3 M_Cubes_put none so 88 [some (.ref 18), some (.int p0), some (.int p1), some (.int p2), none, some (.int x4.1)] [] x4.2 := by
    intro n
    induction n with
    | zero => intro x4 y4 hy4; cases hy4
    | succ n ih4 =>
      intro x4 y4 hy4 hK4
      obtain ⟨z4, e4, hy4⟩ := ob_some hy4
      unfold L_Cubes_put_88 at e4
      refine RM.blk [(1, 5, 0, .null), (1, 2, 0, .null), (1, 3, 0, .null), (5, 0, 0, .null)] (pc' := 93) (L' := [some (.ref 18), some (.int p0), some (.int p1), some (.int p2), none, some (.int x4.1)]) (st' := [.int (p1 + p2), .int x4.1]) (σ1 := x4.2) (by decide +kernel) rfl ?_
      refine RM.icmp_ge (tgt := 119) (by decide +kernel) (fun c5 => ?_) (fun c5 => ?_)
      · rw [if_pos c5] at e4
        obtain rfl := Option.some.inj e4
        obtain rfl := Option.some.inj (show some (x4.2 : SG) = some y4 from hy4)
        refine RN.dropB [true, false, false, false, false, false] rfl ?_
        exact hK4
      · rw [if_neg c5] at e4
        refine RM.blk [(2, 0, 0, .null), (3, 1, 8, .null), (1, 5, 0, .null), (1, 1, 0, .null)] (pc' := 103) (L' := [some (.ref 18), some (.int p0), some (.int p1), some (.int p2), none, some (.int x4.1)]) (st' := [.int p0, .int x4.1, .ref 33]) (σ1 := x4.2) (by decide +kernel) rfl ?_
        refine RN.callS [.int x4.1, .int p0] (s_Drawing_place x4.2 x4.1 p0) [.ref 33] (pc3 := 106) (st3 := [.int (F_Drawing_place x4.1 p0), .ref 33]) (by decide +kernel) mk_Drawing_place (by decide) ?_
        refine RM.blk [(2, 0, 0, .null), (3, 1, 0, .null)] (pc' := 110) (L' := [some (.ref 18), some (.int p0), some (.int p1), some (.int p2), none, some (.int x4.1)]) (st' := [.int (x4.2 18 0), .int (F_Drawing_place x4.1 p0), .ref 33]) (σ1 := x4.2) (by decide +kernel) rfl ?_
        refine RN.callV [.int (F_Drawing_place x4.1 p0), .int (x4.2 18 0)] (s_Row_set (q := 33) (a := 34) (n := 240) ⟨rfl, rfl, by decide⟩ x4.2 (F_Drawing_place x4.1 p0) (x4.2 18 0)) [] (pc3 := 113) (st3 := []) (by decide +kernel) mk_Row_set (by decide) ?_
        generalize ns6 : (rs x4.2 34 240 (F_Drawing_place x4.1 p0) (x4.2 18 0)) = s6 at e4 ⊢
        replace e4 := nm_h e4
        refine RM.blk [(10, 5, 0, .int 1), (23, 0, 0, .null)] (pc' := 88) (L' := [some (.ref 18), some (.int p0), some (.int p1), some (.int p2), none, some (.int (x4.1 + 1))]) (st' := []) (σ1 := s6) (by decide +kernel) rfl ?_
        obtain rfl := Option.some.inj e4
        refine RN.dropB [true, true, true, true, false, true] rfl ?_
        exact ih4 ((x4.1 + 1), s6) _ hy4 hK4
  obtain ⟨y4, hl4, h⟩ := ob_some h
  refine RN.dropB [true, true, true, true, false, true] rfl ?_
  refine hL4 FU (p1, (rs s3 32 240 (s3 18 0) (-1))) y4 hl4 ?_
  refine RM.blk [(2, 0, 0, .null), (11, 0, 0, .null), (3, 1, 0, .null), (0, 0, 0, .int 1), (5, 0, 0, .null), (15, 1, 0, .null)] (pc' := 129) (L' := [some (.ref 18), none, none, none, none, none]) (st' := []) (σ1 := (up y4 18 0 ((y4 18 0) + 1))) (by decide +kernel) rfl ?_
  obtain rfl := (Option.some.inj h)
  exact RM.retv (by decide +kernel) rfl
def M_Layer_layStrip : MI := (yX6_layStrip, cX6_layStrip, 8, some .boolean, 6)
theorem mk_Layer_layStrip : mOK M_Layer_layStrip 3 = true := by decide +kernel
def L_Layer_layStrip_54 (σ : SG) (p0 : Int32) (p1 : Int32) (p2 : Int32) (x3 : Int32 × SG) : Option ((Int32 × SG) ⊕ (SG)) := (if p2 ≤ x3.1 then some (.inr x3.2) else (ob (F_Layer_widestOfFewest x3.2 x3.1 p2 (rg σ 13 8 (F_Drawing_fieldAt σ p1 p0))) (fun v5 => (ob (F_Cubes_put x3.2 p0 x3.1 (mxI 1 v5) (F_Drawing_fieldAt σ p1 p0)) (fun v6 => (if p2 ≤ (x3.1 + (mxI 1 v5)) then some (.inl ((x3.1 + (mxI 1 v5)), v6)) else some (.inl ((x3.1 + (mxI 1 v5)), (rs v6 39 25 (x3.1 + (mxI 1 v5)) 1)))))))))
def F_Layer_layStrip (σ : SG) (p0 : Int32) (p1 : Int32) (p2 : Int32) : Option (Bool × SG) := (ob (F_Layer_countFewest σ p1 p2 (rg σ 13 8 (F_Drawing_fieldAt σ p1 p0))) (fun v1 => (if (rg v1 41 25 p1) < 1000000 then (ob (lpW (L_Layer_layStrip_54 σ p0 p1 p2) FU (p1, v1)) (fun y3 => some (true, y3))) else some (false, v1))))
set_option maxRecDepth 100000 in
set_option maxHeartbeats 4000000 in
theorem s_Layer_layStrip (σ : SG) (p0 : Int32) (p1 : Int32) (p2 : Int32) (rr : Bool) (so : SG) (h : F_Layer_layStrip σ p0 p1 p2 = some (rr, so)) : SpN 5 M_Layer_layStrip [.ref 35, .int p0, .int p1, .int p2] σ (some (.int (bI rr))) so := by
  unfold F_Layer_layStrip at h
  refine Sp.of mk_Layer_layStrip rfl (Nat.le_of_ble_eq_true rfl) ?_
  refine RM.blk [(2, 0, 0, .null), (3, 6, 0, .null), (1, 2, 0, .null), (1, 1, 0, .null)] (pc' := 6) (L' := [some (.ref 35), some (.int p0), some (.int p1), some (.int p2), none, none, none, none]) (st' := [.int p0, .int p1, .ref 1]) (σ1 := σ) (by decide +kernel) rfl ?_
  refine RN.callV [.int p1, .int p0] (s_Drawing_fieldAt σ p1 p0) [] (pc3 := 9) (st3 := [.int (F_Drawing_fieldAt σ p1 p0)]) (by decide +kernel) mk_Drawing_fieldAt (by decide) ?_
  refine RM.blk [(4, 4, 0, .null), (2, 0, 0, .null), (3, 6, 1, .null), (3, 4, 1, .null), (1, 4, 0, .null)] (pc' := 20) (L' := [some (.ref 35), some (.int p0), some (.int p1), some (.int p2), some (.int (F_Drawing_fieldAt σ p1 p0)), none, none, none]) (st' := [.int (F_Drawing_fieldAt σ p1 p0), .ref 12]) (σ1 := σ) (by decide +kernel) rfl ?_
  refine RN.callV [.int (F_Drawing_fieldAt σ p1 p0)] (s_Row_get (q := 12) (a := 13) (n := 8) ⟨rfl, rfl, by decide⟩ σ (F_Drawing_fieldAt σ p1 p0)) [] (pc3 := 23) (st3 := [.int (rg σ 13 8 (F_Drawing_fieldAt σ p1 p0))]) (by decide +kernel) mk_Row_get (by decide) ?_
  refine RM.blk [(4, 5, 0, .null), (2, 0, 0, .null), (1, 2, 0, .null), (1, 3, 0, .null), (1, 5, 0, .null)] (pc' := 30) (L' := [some (.ref 35), some (.int p0), some (.int p1), some (.int p2), some (.int (F_Drawing_fieldAt σ p1 p0)), some (.int (rg σ 13 8 (F_Drawing_fieldAt σ p1 p0))), none, none]) (st' := [.int (rg σ 13 8 (F_Drawing_fieldAt σ p1 p0)), .int p2, .int p1, .ref 35]) (σ1 := σ) (by decide +kernel) rfl ?_
  obtain ⟨v1, hv1, h⟩ := ob_some h
  refine RN.callV [.int p1, .int p2, .int (rg σ 13 8 (F_Drawing_fieldAt σ p1 p0))] (s_Layer_countFewest σ p1 p2 (rg σ 13 8 (F_Drawing_fieldAt σ p1 p0)) v1 hv1) [] (pc3 := 33) (st3 := []) (by decide +kernel) mk_Layer_countFewest (by decide) ?_
  refine RM.blk [(2, 0, 0, .null), (3, 6, 5, .null), (1, 2, 0, .null)] (pc' := 38) (L' := [some (.ref 35), some (.int p0), some (.int p1), some (.int p2), some (.int (F_Drawing_fieldAt σ p1 p0)), some (.int (rg σ 13 8 (F_Drawing_fieldAt σ p1 p0))), none, none]) (st' := [.int p1, .ref 40]) (σ1 := v1) (by decide +kernel) rfl ?_
  refine RN.callV [.int p1] (s_Row_get (q := 40) (a := 41) (n := 25) ⟨rfl, rfl, by decide⟩ v1 p1) [] (pc3 := 41) (st3 := [.int (rg v1 41 25 p1)]) (by decide +kernel) mk_Row_get (by decide) ?_
  refine RM.blk [(0, 0, 0, .int 1000000)] (pc' := 43) (L' := [some (.ref 35), some (.int p0), some (.int p1), some (.int p2), some (.int (F_Drawing_fieldAt σ p1 p0)), some (.int (rg σ 13 8 (F_Drawing_fieldAt σ p1 p0))), none, none]) (st' := [.int 1000000, .int (rg v1 41 25 p1)]) (σ1 := v1) (by decide +kernel) rfl ?_
  refine RM.icmp_lt (tgt := 48) (by decide +kernel) (fun c2 => ?_) (fun c2 => ?_)
  · rw [if_pos c2] at h
    refine RM.blk [(0, 0, 0, .int 1), (4, 6, 0, .null), (1, 2, 0, .null), (4, 7, 0, .null)] (pc' := 54) (L' := [some (.ref 35), some (.int p0), some (.int p1), some (.int p2), some (.int (F_Drawing_fieldAt σ p1 p0)), some (.int (rg σ 13 8 (F_Drawing_fieldAt σ p1 p0))), some (.int 1), some (.int p1)]) (st' := []) (σ1 := v1) (by decide +kernel) rfl ?_
    have hL3 : ∀ (n : Nat) (x3 : Int32 × SG) (y3 : SG), lpW (L_Layer_layStrip_54 σ p0 p1 p2) n x3 = some y3 → RN 5 M_Layer_layStrip (some (.int (bI rr))) so 121 [none, none, none, none, none, none, none, none] [] y3 → RN 5 M_Layer_layStrip (some (.int (bI rr))) so 54 [some (.ref 35), some (.int p0), none, some (.int p2), some (.int (F_Drawing_fieldAt σ p1 p0)), some (.int (rg σ 13 8 (F_Drawing_fieldAt σ p1 p0))), none, some (.int x3.1)] [] x3.2 := by
      intro n
      induction n with
      | zero => intro x3 y3 hy3; cases hy3
      | succ n ih3 =>
        intro x3 y3 hy3 hK3
        obtain ⟨z3, e3, hy3⟩ := ob_some hy3
        unfold L_Layer_layStrip_54 at e3
        refine RM.blk [(1, 7, 0, .null), (1, 3, 0, .null)] (pc' := 57) (L' := [some (.ref 35), some (.int p0), none, some (.int p2), some (.int (F_Drawing_fieldAt σ p1 p0)), some (.int (rg σ 13 8 (F_Drawing_fieldAt σ p1 p0))), none, some (.int x3.1)]) (st' := [.int p2, .int x3.1]) (σ1 := x3.2) (by decide +kernel) rfl ?_
        refine RM.icmp_ge (tgt := 121) (by decide +kernel) (fun c4 => ?_) (fun c4 => ?_)
        · rw [if_pos c4] at e3
          obtain rfl := Option.some.inj e3
          obtain rfl := Option.some.inj (show some (x3.2 : SG) = some y3 from hy3)
          refine RN.dropB [false, false, false, false, false, false, false, false] rfl ?_
          exact hK3
        · rw [if_neg c4] at e3
          refine RM.blk [(0, 0, 0, .int 1), (2, 0, 0, .null), (1, 7, 0, .null), (1, 3, 0, .null), (1, 5, 0, .null)] (pc' := 67) (L' := [some (.ref 35), some (.int p0), none, some (.int p2), some (.int (F_Drawing_fieldAt σ p1 p0)), some (.int (rg σ 13 8 (F_Drawing_fieldAt σ p1 p0))), none, some (.int x3.1)]) (st' := [.int (rg σ 13 8 (F_Drawing_fieldAt σ p1 p0)), .int p2, .int x3.1, .ref 35, .int 1]) (σ1 := x3.2) (by decide +kernel) rfl ?_
          obtain ⟨v5, hv5, e3⟩ := ob_some e3
          refine RN.callV [.int x3.1, .int p2, .int (rg σ 13 8 (F_Drawing_fieldAt σ p1 p0))] (s_Layer_widestOfFewest x3.2 x3.1 p2 (rg σ 13 8 (F_Drawing_fieldAt σ p1 p0)) v5 hv5) [.int 1] (pc3 := 70) (st3 := [.int v5, .int 1]) (by decide +kernel) mk_Layer_widestOfFewest (by decide) ?_
          refine RM.mmax (by decide +kernel) (by decide) (Nat.le_of_ble_eq_true rfl) ⟨Nat.le_refl _, Nat.le_refl _⟩ ?_
          refine RM.blk [(4, 6, 0, .null), (2, 0, 0, .null), (3, 6, 2, .null), (1, 1, 0, .null), (1, 7, 0, .null), (1, 6, 0, .null), (1, 4, 0, .null)] (pc' := 86) (L' := [some (.ref 35), some (.int p0), none, some (.int p2), some (.int (F_Drawing_fieldAt σ p1 p0)), some (.int (rg σ 13 8 (F_Drawing_fieldAt σ p1 p0))), some (.int (mxI 1 v5)), some (.int x3.1)]) (st' := [.int (F_Drawing_fieldAt σ p1 p0), .int (mxI 1 v5), .int x3.1, .int p0, .ref 18]) (σ1 := x3.2) (by decide +kernel) rfl ?_
          obtain ⟨v6, hv6, e3⟩ := ob_some e3
          refine RN.callV [.int p0, .int x3.1, .int (mxI 1 v5), .int (F_Drawing_fieldAt σ p1 p0)] (s_Cubes_put x3.2 p0 x3.1 (mxI 1 v5) (F_Drawing_fieldAt σ p1 p0) v6 hv6) [] (pc3 := 89) (st3 := []) (by decide +kernel) mk_Cubes_put (by decide) ?_
          refine RM.blk [(1, 7, 0, .null), (1, 6, 0, .null), (5, 0, 0, .null), (1, 3, 0, .null)] (pc' := 95) (L' := [some (.ref 35), some (.int p0), none, some (.int p2), some (.int (F_Drawing_fieldAt σ p1 p0)), some (.int (rg σ 13 8 (F_Drawing_fieldAt σ p1 p0))), some (.int (mxI 1 v5)), some (.int x3.1)]) (st' := [.int p2, .int (x3.1 + (mxI 1 v5))]) (σ1 := v6) (by decide +kernel) rfl ?_
          refine RM.icmp_ge (tgt := 111) (by decide +kernel) (fun c7 => ?_) (fun c7 => ?_)
          · rw [if_pos c7] at e3
            refine RM.blk [(1, 7, 0, .null), (1, 6, 0, .null), (5, 0, 0, .null), (4, 7, 0, .null), (23, 0, 0, .null)] (pc' := 54) (L' := [some (.ref 35), some (.int p0), none, some (.int p2), some (.int (F_Drawing_fieldAt σ p1 p0)), some (.int (rg σ 13 8 (F_Drawing_fieldAt σ p1 p0))), some (.int (mxI 1 v5)), some (.int (x3.1 + (mxI 1 v5)))]) (st' := []) (σ1 := v6) (by decide +kernel) rfl ?_
            obtain rfl := Option.some.inj e3
            refine RN.dropB [true, true, false, true, true, true, false, true] rfl ?_
            exact ih3 ((x3.1 + (mxI 1 v5)), v6) _ hy3 hK3
          · rw [if_neg c7] at e3
            refine RM.blk [(2, 0, 0, .null), (3, 6, 4, .null), (1, 7, 0, .null), (1, 6, 0, .null), (5, 0, 0, .null), (0, 0, 0, .int 1)] (pc' := 108) (L' := [some (.ref 35), some (.int p0), none, some (.int p2), some (.int (F_Drawing_fieldAt σ p1 p0)), some (.int (rg σ 13 8 (F_Drawing_fieldAt σ p1 p0))), some (.int (mxI 1 v5)), some (.int x3.1)]) (st' := [.int 1, .int (x3.1 + (mxI 1 v5)), .ref 38]) (σ1 := v6) (by decide +kernel) rfl ?_
            refine RN.callV [.int (x3.1 + (mxI 1 v5)), .int 1] (s_Row_set (q := 38) (a := 39) (n := 25) ⟨rfl, rfl, by decide⟩ v6 (x3.1 + (mxI 1 v5)) 1) [] (pc3 := 111) (st3 := []) (by decide +kernel) mk_Row_set (by decide) ?_
            refine RM.blk [(1, 7, 0, .null), (1, 6, 0, .null), (5, 0, 0, .null), (4, 7, 0, .null), (23, 0, 0, .null)] (pc' := 54) (L' := [some (.ref 35), some (.int p0), none, some (.int p2), some (.int (F_Drawing_fieldAt σ p1 p0)), some (.int (rg σ 13 8 (F_Drawing_fieldAt σ p1 p0))), some (.int (mxI 1 v5)), some (.int (x3.1 + (mxI 1 v5)))]) (st' := []) (σ1 := (rs v6 39 25 (x3.1 + (mxI 1 v5)) 1)) (by decide +kernel) rfl ?_
            obtain rfl := Option.some.inj e3
            refine RN.dropB [true, true, false, true, true, true, false, true] rfl ?_
            exact ih3 ((x3.1 + (mxI 1 v5)), (rs v6 39 25 (x3.1 + (mxI 1 v5)) 1)) _ hy3 hK3
    obtain ⟨y3, hl3, h⟩ := ob_some h
    refine RN.dropB [true, true, false, true, true, true, false, true] rfl ?_
    refine hL3 FU (p1, v1) y3 hl3 ?_
    refine RM.blk [(0, 0, 0, .int 1)] (pc' := 122) (L' := [none, none, none, none, none, none, none, none]) (st' := [.int 1]) (σ1 := y3) (by decide +kernel) rfl ?_
    obtain ⟨rfl, rfl⟩ := Prod.mk.inj (Option.some.inj h)
    exact RM.retz (z := true) (by decide +kernel) rfl
  · rw [if_neg c2] at h
    refine RM.blk [(0, 0, 0, .int 0)] (pc' := 47) (L' := [some (.ref 35), some (.int p0), some (.int p1), some (.int p2), some (.int (F_Drawing_fieldAt σ p1 p0)), some (.int (rg σ 13 8 (F_Drawing_fieldAt σ p1 p0))), none, none]) (st' := [.int 0]) (σ1 := v1) (by decide +kernel) rfl ?_
    obtain ⟨rfl, rfl⟩ := Prod.mk.inj (Option.some.inj h)
    exact RM.retz (z := false) (by decide +kernel) rfl
def M_Layer_layRows : MI := (yX6_layRows, cX6_layRows, 3, some .int, 6)
theorem mk_Layer_layRows : mOK M_Layer_layRows 0 = true := by decide +kernel
def L_Layer_layRows_42 (x1 : Int32 × SG) (x3 : Int32 × SG) : Option ((Int32 × SG) ⊕ ((SG) ⊕ (Int32 × SG))) := (if (x3.2 1 0) ≤ x3.1 then some (.inr (.inl x3.2)) else (ob (F_Drawing_stripEnd x3.2 x3.1 x1.1) (fun v5 => (ob (F_Layer_layStrip x3.2 x1.1 x3.1 v5) (fun v6 => (if v6.1 = true then (ob (F_Drawing_stripEnd v6.2 x3.1 x1.1) (fun v8 => some (.inl ((mxI (x3.1 + 1) v8), v6.2)))) else some (.inr (.inr ((F_Drawing_place x3.1 x1.1), v6.2)))))))))
def L_Layer_layRows_10 (x1 : Int32 × SG) : Option ((Int32 × SG) ⊕ ((SG) ⊕ (Int32 × SG))) := (if (x1.2 1 1) ≤ x1.1 then some (.inr (.inl x1.2)) else (ob (lpW (L_Layer_layRows_42 x1) FU (0, (rf (rc x1.2 37 25 39 25) 39 25 0))) (fun y3 => Sum.elim (fun y3 : SG => some (.inl ((x1.1 + 1), y3))) (fun q3 : Int32 × SG => some (.inr (.inr q3))) y3)))
def F_Layer_layRows (σ : SG) : Option (Int32 × SG) := (ob (lpW L_Layer_layRows_10 FU (0, (rf σ 39 25 0))) (fun y1 => Sum.elim (fun y1 : SG => some ((-1), y1)) (fun q1 : Int32 × SG => some q1) y1))
set_option maxRecDepth 100000 in
set_option maxHeartbeats 4000000 in
theorem s_Layer_layRows (σ : SG) (rr : Int32) (so : SG) (h : F_Layer_layRows σ = some (rr, so)) : SpN 6 M_Layer_layRows [.ref 35] σ (some (.int rr)) so := by
  unfold F_Layer_layRows at h
  refine Sp.of mk_Layer_layRows rfl (Nat.le_of_ble_eq_true rfl) ?_
  refine RM.blk [(2, 0, 0, .null), (3, 6, 4, .null), (0, 0, 0, .int 0)] (pc' := 5) (L' := [some (.ref 35), none, none]) (st' := [.int 0, .ref 38]) (σ1 := σ) (by decide +kernel) rfl ?_
  refine RN.callV [.int 0] (s_Row_fill (q := 38) (a := 39) (n := 25) ⟨rfl, rfl, by decide⟩ σ 0) [] (pc3 := 8) (st3 := []) (by decide +kernel) mk_Row_fill (by decide) ?_
  refine RM.blk [(0, 0, 0, .int 0), (4, 1, 0, .null)] (pc' := 10) (L' := [some (.ref 35), some (.int 0), none]) (st' := []) (σ1 := (rf σ 39 25 0)) (by decide +kernel) rfl ?_
  have hL1 : ∀ (n : Nat) (x1 : Int32 × SG) (y1 : (SG) ⊕ (Int32 × SG)), lpW L_Layer_layRows_10 n x1 = some y1 → Sum.elim (fun y1 : SG => RN 6 M_Layer_layRows (some (.int rr)) so 102 [none, none, none] [] y1) (fun q : Int32 × SG => q = (rr, so)) y1 → RN 6 M_Layer_layRows (some (.int rr)) so 10 [some (.ref 35), some (.int x1.1), none] [] x1.2 := by
    intro n
    induction n with
    | zero => intro x1 y1 hy1; cases hy1
    | succ n ih1 =>
      intro x1 y1 hy1 hK1
      obtain ⟨z1, e1, hy1⟩ := ob_some hy1
      unfold L_Layer_layRows_10 at e1
      refine RM.blk [(1, 1, 0, .null), (2, 0, 0, .null), (3, 6, 0, .null), (3, 3, 1, .null)] (pc' := 18) (L' := [some (.ref 35), some (.int x1.1), none]) (st' := [.int (x1.2 1 1), .int x1.1]) (σ1 := x1.2) (by decide +kernel) rfl ?_
      refine RM.icmp_ge (tgt := 102) (by decide +kernel) (fun c2 => ?_) (fun c2 => ?_)
      · rw [if_pos c2] at e1
        obtain rfl := Option.some.inj e1
        obtain rfl := Option.some.inj (show some ((.inl x1.2) : (SG) ⊕ (Int32 × SG)) = some y1 from hy1)
        refine RN.dropB [false, false, false] rfl ?_
        exact hK1
      · rw [if_neg c2] at e1
        refine RM.blk [(2, 0, 0, .null), (3, 6, 3, .null), (2, 0, 0, .null), (3, 6, 4, .null)] (pc' := 29) (L' := [some (.ref 35), some (.int x1.1), none]) (st' := [.ref 38, .ref 36]) (σ1 := x1.2) (by decide +kernel) rfl ?_
        refine RN.callV [.ref 38] (s_Row_copyFrom (q := 36) (a := 37) (n := 25) ⟨rfl, rfl, by decide⟩ (q2 := 38) (a2 := 39) (n2 := 25) ⟨rfl, rfl, by decide⟩ (by decide) x1.2) [] (pc3 := 32) (st3 := []) (by decide +kernel) mk_Row_copyFrom (by decide) ?_
        refine RM.blk [(2, 0, 0, .null), (3, 6, 4, .null), (0, 0, 0, .int 0)] (pc' := 37) (L' := [some (.ref 35), some (.int x1.1), none]) (st' := [.int 0, .ref 38]) (σ1 := (rc x1.2 37 25 39 25)) (by decide +kernel) rfl ?_
        refine RN.callV [.int 0] (s_Row_fill (q := 38) (a := 39) (n := 25) ⟨rfl, rfl, by decide⟩ (rc x1.2 37 25 39 25) 0) [] (pc3 := 40) (st3 := []) (by decide +kernel) mk_Row_fill (by decide) ?_
        refine RM.blk [(0, 0, 0, .int 0), (4, 2, 0, .null)] (pc' := 42) (L' := [some (.ref 35), some (.int x1.1), some (.int 0)]) (st' := []) (σ1 := (rf (rc x1.2 37 25 39 25) 39 25 0)) (by decide +kernel) rfl ?_
        have hL3 : ∀ (n : Nat) (x3 : Int32 × SG) (y3 : (SG) ⊕ (Int32 × SG)), lpW (L_Layer_layRows_42 x1) n x3 = some y3 → Sum.elim (fun y3 : SG => RN 6 M_Layer_layRows (some (.int rr)) so 96 [some (.ref 35), some (.int x1.1), none] [] y3) (fun q : Int32 × SG => q = (rr, so)) y3 → RN 6 M_Layer_layRows (some (.int rr)) so 42 [some (.ref 35), some (.int x1.1), some (.int x3.1)] [] x3.2 := by
          intro n
          induction n with
          | zero => intro x3 y3 hy3; cases hy3
          | succ n ih3 =>
            intro x3 y3 hy3 hK3
            obtain ⟨z3, e3, hy3⟩ := ob_some hy3
            unfold L_Layer_layRows_42 at e3
            refine RM.blk [(1, 2, 0, .null), (2, 0, 0, .null), (3, 6, 0, .null), (3, 3, 0, .null)] (pc' := 50) (L' := [some (.ref 35), some (.int x1.1), some (.int x3.1)]) (st' := [.int (x3.2 1 0), .int x3.1]) (σ1 := x3.2) (by decide +kernel) rfl ?_
            refine RM.icmp_ge (tgt := 96) (by decide +kernel) (fun c4 => ?_) (fun c4 => ?_)
            · rw [if_pos c4] at e3
              obtain rfl := Option.some.inj e3
              obtain rfl := Option.some.inj (show some ((.inl x3.2) : (SG) ⊕ (Int32 × SG)) = some y3 from hy3)
              refine RN.dropB [true, true, false] rfl ?_
              exact hK3
            · rw [if_neg c4] at e3
              refine RM.blk [(2, 0, 0, .null), (1, 1, 0, .null), (1, 2, 0, .null), (2, 0, 0, .null), (3, 6, 0, .null), (1, 2, 0, .null), (1, 1, 0, .null)] (pc' := 62) (L' := [some (.ref 35), some (.int x1.1), some (.int x3.1)]) (st' := [.int x1.1, .int x3.1, .ref 1, .int x3.1, .int x1.1, .ref 35]) (σ1 := x3.2) (by decide +kernel) rfl ?_
              obtain ⟨v5, hv5, e3⟩ := ob_some e3
              refine RN.callV [.int x3.1, .int x1.1] (s_Drawing_stripEnd x3.2 x3.1 x1.1 v5 hv5) [.int x3.1, .int x1.1, .ref 35] (pc3 := 65) (st3 := [.int v5, .int x3.1, .int x1.1, .ref 35]) (by decide +kernel) mk_Drawing_stripEnd (by decide) ?_
              obtain ⟨v6, hv6, e3⟩ := ob_some e3
              refine RN.callV [.int x1.1, .int x3.1, .int v5] (s_Layer_layStrip x3.2 x1.1 x3.1 v5 v6.1 v6.2 hv6) [] (pc3 := 68) (st3 := [.int (bI v6.1)]) (by decide +kernel) mk_Layer_layStrip (by decide) ?_
              refine RM.zne (tgt := 77) (by decide +kernel) (fun c7 => ?_) (fun c7 => ?_)
              · rw [if_pos c7] at e3
                refine RM.blk [(1, 2, 0, .null), (0, 0, 0, .int 1), (5, 0, 0, .null), (2, 0, 0, .null), (3, 6, 0, .null), (1, 2, 0, .null), (1, 1, 0, .null)] (pc' := 86) (L' := [some (.ref 35), some (.int x1.1), some (.int x3.1)]) (st' := [.int x1.1, .int x3.1, .ref 1, .int (x3.1 + 1)]) (σ1 := v6.2) (by decide +kernel) rfl ?_
                obtain ⟨v8, hv8, e3⟩ := ob_some e3
                refine RN.callV [.int x3.1, .int x1.1] (s_Drawing_stripEnd v6.2 x3.1 x1.1 v8 hv8) [.int (x3.1 + 1)] (pc3 := 89) (st3 := [.int v8, .int (x3.1 + 1)]) (by decide +kernel) mk_Drawing_stripEnd (by decide) ?_
                refine RM.mmax (by decide +kernel) (by decide) (Nat.le_of_ble_eq_true rfl) ⟨Nat.le_refl _, Nat.le_refl _⟩ ?_
                refine RM.blk [(4, 2, 0, .null), (23, 0, 0, .null)] (pc' := 42) (L' := [some (.ref 35), some (.int x1.1), some (.int (mxI (x3.1 + 1) v8))]) (st' := []) (σ1 := v6.2) (by decide +kernel) rfl ?_
                obtain rfl := Option.some.inj e3
                refine RN.dropB [true, true, true] rfl ?_
                exact ih3 ((mxI (x3.1 + 1) v8), v6.2) _ hy3 hK3
              · rw [if_neg (bf c7)] at e3
                refine RM.blk [(1, 2, 0, .null), (1, 1, 0, .null)] (pc' := 73) (L' := [some (.ref 35), some (.int x1.1), some (.int x3.1)]) (st' := [.int x1.1, .int x3.1]) (σ1 := v6.2) (by decide +kernel) rfl ?_
                refine RN.callS [.int x3.1, .int x1.1] (s_Drawing_place v6.2 x3.1 x1.1) [] (pc3 := 76) (st3 := [.int (F_Drawing_place x3.1 x1.1)]) (by decide +kernel) mk_Drawing_place (by decide) ?_
                obtain rfl := Option.some.inj e3
                obtain rfl := Option.some.inj (show some (.inr ((F_Drawing_place x3.1 x1.1), v6.2) : (SG) ⊕ (Int32 × SG)) = some y3 from hy3)
                obtain ⟨rfl, rfl⟩ := Prod.mk.inj (show (((F_Drawing_place x3.1 x1.1), v6.2) : Int32 × SG) = (rr, so) from hK3)
                exact RM.reti (by decide +kernel) rfl
        obtain ⟨y3, hl3, e1⟩ := ob_some e1
        refine RN.dropB [true, true, true] rfl ?_
        refine hL3 FU (0, (rf (rc x1.2 37 25 39 25) 39 25 0)) y3 hl3 ?_
        rcases y3 with y3 | q3
        · simp only [Sum.elim_inl] at e1 ⊢
          refine RM.blk [(10, 1, 0, .int 1), (23, 0, 0, .null)] (pc' := 10) (L' := [some (.ref 35), some (.int (x1.1 + 1)), none]) (st' := []) (σ1 := y3) (by decide +kernel) rfl ?_
          obtain rfl := Option.some.inj e1
          refine RN.dropB [true, true, false] rfl ?_
          exact ih1 ((x1.1 + 1), y3) _ hy1 hK1
        · simp only [Sum.elim_inr] at e1 ⊢
          obtain rfl := Option.some.inj e1
          obtain rfl := Option.some.inj (show some (.inr q3 : (SG) ⊕ (Int32 × SG)) = some y1 from hy1)
          exact hK1
  obtain ⟨y1, hl1, h⟩ := ob_some h
  refine RN.dropB [true, true, false] rfl ?_
  refine hL1 FU (0, (rf σ 39 25 0)) y1 hl1 ?_
  rcases y1 with y1 | q1
  · simp only [Sum.elim_inl] at h ⊢
    refine RM.blk [(0, 0, 0, .int (-1))] (pc' := 103) (L' := [none, none, none]) (st' := [.int (-1)]) (σ1 := y1) (by decide +kernel) rfl ?_
    obtain ⟨rfl, rfl⟩ := Prod.mk.inj (Option.some.inj h)
    exact RM.reti (by decide +kernel) rfl
  · simp only [Sum.elim_inr] at h ⊢
    exact Option.some.inj h
def M_Shop_lay : MI := (yX11_lay, cX11_lay, 2, some .int, 11)
theorem mk_Shop_lay : mOK M_Shop_lay 0 = true := by decide +kernel
def F_Shop_lay (σ : SG) : Option (Int32 × SG) := (ob (F_Layer_layRows (F_Shop_takeDown σ)) (fun v1 => (if v1.1 = (-1) then some ((v1.2 18 0), v1.2) else some (((-1000) - v1.1), (F_Cubes_clear v1.2)))))
set_option maxRecDepth 100000 in
set_option maxHeartbeats 4000000 in
theorem s_Shop_lay (σ : SG) (rr : Int32) (so : SG) (h : F_Shop_lay σ = some (rr, so)) : SpN 7 M_Shop_lay [.ref 0] σ (some (.int rr)) so := by
  unfold F_Shop_lay at h
  refine Sp.of mk_Shop_lay rfl (Nat.le_of_ble_eq_true rfl) ?_
  refine RM.blk [(2, 0, 0, .null)] (pc' := 1) (L' := [some (.ref 0), none]) (st' := [.ref 0]) (σ1 := σ) (by decide +kernel) rfl ?_
  refine RN.callV [] (s_Shop_takeDown σ _ rfl) [] (pc3 := 4) (st3 := []) (by decide +kernel) mk_Shop_takeDown (by decide) ?_
  refine RM.blk [(2, 0, 0, .null), (3, 11, 3, .null)] (pc' := 8) (L' := [some (.ref 0), none]) (st' := [.ref 35]) (σ1 := (F_Shop_takeDown σ)) (by decide +kernel) rfl ?_
  obtain ⟨v1, hv1, h⟩ := ob_some h
  refine RN.callV [] (s_Layer_layRows (F_Shop_takeDown σ) v1.1 v1.2 hv1) [] (pc3 := 11) (st3 := [.int v1.1]) (by decide +kernel) mk_Layer_layRows (by decide) ?_
  refine RM.blk [(4, 1, 0, .null), (1, 1, 0, .null), (0, 0, 0, .int (-1))] (pc' := 14) (L' := [some (.ref 0), some (.int v1.1)]) (st' := [.int (-1), .int v1.1]) (σ1 := v1.2) (by decide +kernel) rfl ?_
  refine RM.icmp_eq (tgt := 30) (by decide +kernel) (fun c2 => ?_) (fun c2 => ?_)
  · rw [if_pos c2] at h
    refine RM.blk [(2, 0, 0, .null), (3, 11, 2, .null), (3, 1, 0, .null)] (pc' := 37) (L' := [some (.ref 0), some (.int v1.1)]) (st' := [.int (v1.2 18 0)]) (σ1 := v1.2) (by decide +kernel) rfl ?_
    obtain ⟨rfl, rfl⟩ := Prod.mk.inj (Option.some.inj h)
    exact RM.reti (by decide +kernel) rfl
  · rw [if_neg c2] at h
    refine RM.blk [(2, 0, 0, .null), (3, 11, 2, .null)] (pc' := 21) (L' := [some (.ref 0), some (.int v1.1)]) (st' := [.ref 18]) (σ1 := v1.2) (by decide +kernel) rfl ?_
    refine RN.callV [] (s_Cubes_clear v1.2 _ rfl) [] (pc3 := 24) (st3 := []) (by decide +kernel) mk_Cubes_clear (by decide) ?_
    refine RM.blk [(0, 0, 0, .int (-1000)), (1, 1, 0, .null), (6, 0, 0, .null)] (pc' := 29) (L' := [some (.ref 0), some (.int v1.1)]) (st' := [.int ((-1000) - v1.1)]) (σ1 := (F_Cubes_clear v1.2)) (by decide +kernel) rfl ?_
    obtain ⟨rfl, rfl⟩ := Prod.mk.inj (Option.some.inj h)
    exact RM.reti (by decide +kernel) rfl
def M_Shop_isLaid : MI := (yX11_isLaid, cX11_isLaid, 1, some .boolean, 11)
theorem mk_Shop_isLaid : mOK M_Shop_isLaid 0 = true := by decide +kernel
def F_Shop_isLaid (σ : SG) : Bool := (if (σ 18 0) ≤ 0 then false else true)
set_option maxRecDepth 100000 in
set_option maxHeartbeats 4000000 in
theorem s_Shop_isLaid (σ : SG) : SpN 1 M_Shop_isLaid [.ref 0] σ (some (.int (bI (F_Shop_isLaid σ)))) σ := by
  generalize h : F_Shop_isLaid σ = rr
  unfold F_Shop_isLaid at h
  refine Sp.of mk_Shop_isLaid rfl (Nat.le_of_ble_eq_true rfl) ?_
  refine RM.blk [(2, 0, 0, .null), (3, 11, 2, .null), (3, 1, 0, .null)] (pc' := 7) (L' := [some (.ref 0)]) (st' := [.int (σ 18 0)]) (σ1 := σ) (by decide +kernel) rfl ?_
  refine RM.if_le (tgt := 14) (by decide +kernel) (fun c1 => ?_) (fun c1 => ?_)
  · rw [if_pos c1] at h
    refine RM.blk [(0, 0, 0, .int 0)] (pc' := 15) (L' := [some (.ref 0)]) (st' := [.int 0]) (σ1 := σ) (by decide +kernel) rfl ?_
    obtain rfl := h
    exact RM.retz (z := false) (by decide +kernel) rfl
  · rw [if_neg c1] at h
    refine RM.blk [(0, 0, 0, .int 1), (23, 0, 0, .null)] (pc' := 15) (L' := [some (.ref 0)]) (st' := [.int 1]) (σ1 := σ) (by decide +kernel) rfl ?_
    obtain rfl := h
    exact RM.retz (z := true) (by decide +kernel) rfl
def M_Cubes_over : MI := (yX1_over, cX1_over, 3, some .int, 1)
theorem mk_Cubes_over : mOK M_Cubes_over 2 = true := by decide +kernel
def F_Cubes_over (σ : SG) (p0 : Int32) (p1 : Int32) : Int32 := (rg σ 34 240 (F_Drawing_place p0 p1))
set_option maxRecDepth 100000 in
set_option maxHeartbeats 4000000 in
theorem s_Cubes_over (σ : SG) (p0 : Int32) (p1 : Int32) : SpN 3 M_Cubes_over [.ref 18, .int p0, .int p1] σ (some (.int (F_Cubes_over σ p0 p1))) σ := by
  generalize h : F_Cubes_over σ p0 p1 = rr
  unfold F_Cubes_over at h
  refine Sp.of mk_Cubes_over rfl (Nat.le_of_ble_eq_true rfl) ?_
  refine RM.blk [(2, 0, 0, .null), (3, 1, 8, .null), (1, 1, 0, .null), (1, 2, 0, .null)] (pc' := 6) (L' := [some (.ref 18), some (.int p0), some (.int p1)]) (st' := [.int p1, .int p0, .ref 33]) (σ1 := σ) (by decide +kernel) rfl ?_
  refine RN.callS [.int p0, .int p1] (s_Drawing_place σ p0 p1) [.ref 33] (pc3 := 9) (st3 := [.int (F_Drawing_place p0 p1), .ref 33]) (by decide +kernel) mk_Drawing_place (by decide) ?_
  refine RN.callV [.int (F_Drawing_place p0 p1)] (s_Row_get (q := 33) (a := 34) (n := 240) ⟨rfl, rfl, by decide⟩ σ (F_Drawing_place p0 p1)) [] (pc3 := 12) (st3 := [.int (rg σ 34 240 (F_Drawing_place p0 p1))]) (by decide +kernel) mk_Row_get (by decide) ?_
  obtain rfl := h
  exact RM.reti (by decide +kernel) rfl
def M_Shop_at : MI := (yX11_at, cX11_at, 3, some .int, 11)
theorem mk_Shop_at : mOK M_Shop_at 2 = true := by decide +kernel
def F_Shop_at (σ : SG) (p0 : Int32) (p1 : Int32) : Int32 := (if (F_Drawing_has σ p0 p1) = true then (if (F_Shop_isLaid σ) = true then (F_Cubes_over σ p0 p1) else (-1)) else (-2))
set_option maxRecDepth 100000 in
set_option maxHeartbeats 4000000 in
theorem s_Shop_at (σ : SG) (p0 : Int32) (p1 : Int32) : SpN 4 M_Shop_at [.ref 0, .int p0, .int p1] σ (some (.int (F_Shop_at σ p0 p1))) σ := by
  generalize h : F_Shop_at σ p0 p1 = rr
  unfold F_Shop_at at h
  refine Sp.of mk_Shop_at rfl (Nat.le_of_ble_eq_true rfl) ?_
  refine RM.blk [(2, 0, 0, .null), (3, 11, 0, .null), (1, 1, 0, .null), (1, 2, 0, .null)] (pc' := 6) (L' := [some (.ref 0), some (.int p0), some (.int p1)]) (st' := [.int p1, .int p0, .ref 1]) (σ1 := σ) (by decide +kernel) rfl ?_
  refine RN.callV [.int p0, .int p1] (s_Drawing_has σ p0 p1) [] (pc3 := 9) (st3 := [.int (bI (F_Drawing_has σ p0 p1))]) (by decide +kernel) mk_Drawing_has (by decide) ?_
  refine RM.zne (tgt := 15) (by decide +kernel) (fun c1 => ?_) (fun c1 => ?_)
  · rw [if_pos c1] at h
    refine RM.blk [(2, 0, 0, .null)] (pc' := 16) (L' := [some (.ref 0), some (.int p0), some (.int p1)]) (st' := [.ref 0]) (σ1 := σ) (by decide +kernel) rfl ?_
    refine RN.callV [] (s_Shop_isLaid σ) [] (pc3 := 19) (st3 := [.int (bI (F_Shop_isLaid σ))]) (by decide +kernel) mk_Shop_isLaid (by decide) ?_
    refine RM.zeq (tgt := 34) (by decide +kernel) (fun c2 => ?_) (fun c2 => ?_)
    · rw [if_neg (bf c2)] at h
      refine RM.blk [(0, 0, 0, .int (-1))] (pc' := 35) (L' := [some (.ref 0), some (.int p0), some (.int p1)]) (st' := [.int (-1)]) (σ1 := σ) (by decide +kernel) rfl ?_
      obtain rfl := h
      exact RM.reti (by decide +kernel) rfl
    · rw [if_pos c2] at h
      refine RM.blk [(2, 0, 0, .null), (3, 11, 2, .null), (1, 1, 0, .null), (1, 2, 0, .null)] (pc' := 28) (L' := [some (.ref 0), some (.int p0), some (.int p1)]) (st' := [.int p1, .int p0, .ref 18]) (σ1 := σ) (by decide +kernel) rfl ?_
      refine RN.callV [.int p0, .int p1] (s_Cubes_over σ p0 p1) [] (pc3 := 31) (st3 := [.int (F_Cubes_over σ p0 p1)]) (by decide +kernel) mk_Cubes_over (by decide) ?_
      refine RM.blk [(23, 0, 0, .null)] (pc' := 35) (L' := [some (.ref 0), some (.int p0), some (.int p1)]) (st' := [.int (F_Cubes_over σ p0 p1)]) (σ1 := σ) (by decide +kernel) rfl ?_
      obtain rfl := h
      exact RM.reti (by decide +kernel) rfl
  · rw [if_neg (bf c1)] at h
    refine RM.blk [(0, 0, 0, .int (-2))] (pc' := 14) (L' := [some (.ref 0), some (.int p0), some (.int p1)]) (st' := [.int (-2)]) (σ1 := σ) (by decide +kernel) rfl ?_
    obtain rfl := h
    exact RM.reti (by decide +kernel) rfl
def M_Cubes_has : MI := (yX1_has, cX1_has, 2, some .boolean, 1)
theorem mk_Cubes_has : mOK M_Cubes_has 1 = true := by decide +kernel
def F_Cubes_has (σ : SG) (p0 : Int32) : Bool := (if p0 < 0 then false else (if (σ 18 0) ≤ p0 then false else true))
set_option maxRecDepth 100000 in
set_option maxHeartbeats 4000000 in
theorem s_Cubes_has (σ : SG) (p0 : Int32) : SpN 1 M_Cubes_has [.ref 18, .int p0] σ (some (.int (bI (F_Cubes_has σ p0)))) σ := by
  generalize h : F_Cubes_has σ p0 = rr
  unfold F_Cubes_has at h
  refine Sp.of mk_Cubes_has rfl (Nat.le_of_ble_eq_true rfl) ?_
  refine RM.blk [(1, 1, 0, .null)] (pc' := 1) (L' := [some (.ref 18), some (.int p0)]) (st' := [.int p0]) (σ1 := σ) (by decide +kernel) rfl ?_
  refine RM.if_lt (tgt := 16) (by decide +kernel) (fun c1 => ?_) (fun c1 => ?_)
  · rw [if_pos c1] at h
    refine RM.blk [(0, 0, 0, .int 0)] (pc' := 17) (L' := [some (.ref 18), some (.int p0)]) (st' := [.int 0]) (σ1 := σ) (by decide +kernel) rfl ?_
    obtain rfl := h
    exact RM.retz (z := false) (by decide +kernel) rfl
  · rw [if_neg c1] at h
    refine RM.blk [(1, 1, 0, .null), (2, 0, 0, .null), (3, 1, 0, .null)] (pc' := 9) (L' := [some (.ref 18), some (.int p0)]) (st' := [.int (σ 18 0), .int p0]) (σ1 := σ) (by decide +kernel) rfl ?_
    refine RM.icmp_ge (tgt := 16) (by decide +kernel) (fun c2 => ?_) (fun c2 => ?_)
    · rw [if_pos c2] at h
      refine RM.blk [(0, 0, 0, .int 0)] (pc' := 17) (L' := [some (.ref 18), some (.int p0)]) (st' := [.int 0]) (σ1 := σ) (by decide +kernel) rfl ?_
      obtain rfl := h
      exact RM.retz (z := false) (by decide +kernel) rfl
    · rw [if_neg c2] at h
      refine RM.blk [(0, 0, 0, .int 1), (23, 0, 0, .null)] (pc' := 17) (L' := [some (.ref 18), some (.int p0)]) (st' := [.int 1]) (σ1 := σ) (by decide +kernel) rfl ?_
      obtain rfl := h
      exact RM.retz (z := true) (by decide +kernel) rfl
def M_Cubes_tell : MI := (yX1_tell, cX1_tell, 3, some .int, 1)
theorem mk_Cubes_tell : mOK M_Cubes_tell 2 = true := by decide +kernel
def F_Cubes_tell (σ : SG) (p0 : Int32) (p1 : Int32) : Int32 := (tsS p1 0 [(rg σ 20 240 p0), (rg σ 22 240 p0), (rg σ 24 240 p0), (rg σ 26 240 p0), (rg σ 28 240 p0), (rg σ 30 240 p0)] (rg σ 32 240 p0))
set_option maxRecDepth 100000 in
set_option maxHeartbeats 4000000 in
theorem s_Cubes_tell (σ : SG) (p0 : Int32) (p1 : Int32) : SpN 3 M_Cubes_tell [.ref 18, .int p0, .int p1] σ (some (.int (F_Cubes_tell σ p0 p1))) σ := by
  generalize h : F_Cubes_tell σ p0 p1 = rr
  unfold F_Cubes_tell at h
  refine Sp.of mk_Cubes_tell rfl (Nat.le_of_ble_eq_true rfl) ?_
  refine RM.blk [(1, 2, 0, .null)] (pc' := 1) (L' := [some (.ref 18), some (.int p0), some (.int p1)]) (st' := [.int p1]) (σ1 := σ) (by decide +kernel) rfl ?_
  refine RM.tsw (ts := [40, 49, 58, 67, 76, 85]) (df := 94) (by decide +kernel) (by decide) ⟨fun c1 => ?_, fun c1 => ?_, fun c1 => ?_, fun c1 => ?_, fun c1 => ?_, fun c1 => ?_, trivial⟩ (fun c1 => ?_)
  · rw [tsS_at (j := 0) c1 rfl rfl] at h
    refine RM.blk [(2, 0, 0, .null), (3, 1, 1, .null), (1, 1, 0, .null)] (pc' := 45) (L' := [some (.ref 18), some (.int p0), some (.int p1)]) (st' := [.int p0, .ref 19]) (σ1 := σ) (by decide +kernel) rfl ?_
    refine RN.callV [.int p0] (s_Row_get (q := 19) (a := 20) (n := 240) ⟨rfl, rfl, by decide⟩ σ p0) [] (pc3 := 48) (st3 := [.int (rg σ 20 240 p0)]) (by decide +kernel) mk_Row_get (by decide) ?_
    obtain rfl := h
    exact RM.reti (by decide +kernel) rfl
  · rw [tsS_at (j := 1) c1 rfl rfl] at h
    refine RM.blk [(2, 0, 0, .null), (3, 1, 2, .null), (1, 1, 0, .null)] (pc' := 54) (L' := [some (.ref 18), some (.int p0), some (.int p1)]) (st' := [.int p0, .ref 21]) (σ1 := σ) (by decide +kernel) rfl ?_
    refine RN.callV [.int p0] (s_Row_get (q := 21) (a := 22) (n := 240) ⟨rfl, rfl, by decide⟩ σ p0) [] (pc3 := 57) (st3 := [.int (rg σ 22 240 p0)]) (by decide +kernel) mk_Row_get (by decide) ?_
    obtain rfl := h
    exact RM.reti (by decide +kernel) rfl
  · rw [tsS_at (j := 2) c1 rfl rfl] at h
    refine RM.blk [(2, 0, 0, .null), (3, 1, 3, .null), (1, 1, 0, .null)] (pc' := 63) (L' := [some (.ref 18), some (.int p0), some (.int p1)]) (st' := [.int p0, .ref 23]) (σ1 := σ) (by decide +kernel) rfl ?_
    refine RN.callV [.int p0] (s_Row_get (q := 23) (a := 24) (n := 240) ⟨rfl, rfl, by decide⟩ σ p0) [] (pc3 := 66) (st3 := [.int (rg σ 24 240 p0)]) (by decide +kernel) mk_Row_get (by decide) ?_
    obtain rfl := h
    exact RM.reti (by decide +kernel) rfl
  · rw [tsS_at (j := 3) c1 rfl rfl] at h
    refine RM.blk [(2, 0, 0, .null), (3, 1, 4, .null), (1, 1, 0, .null)] (pc' := 72) (L' := [some (.ref 18), some (.int p0), some (.int p1)]) (st' := [.int p0, .ref 25]) (σ1 := σ) (by decide +kernel) rfl ?_
    refine RN.callV [.int p0] (s_Row_get (q := 25) (a := 26) (n := 240) ⟨rfl, rfl, by decide⟩ σ p0) [] (pc3 := 75) (st3 := [.int (rg σ 26 240 p0)]) (by decide +kernel) mk_Row_get (by decide) ?_
    obtain rfl := h
    exact RM.reti (by decide +kernel) rfl
  · rw [tsS_at (j := 4) c1 rfl rfl] at h
    refine RM.blk [(2, 0, 0, .null), (3, 1, 5, .null), (1, 1, 0, .null)] (pc' := 81) (L' := [some (.ref 18), some (.int p0), some (.int p1)]) (st' := [.int p0, .ref 27]) (σ1 := σ) (by decide +kernel) rfl ?_
    refine RN.callV [.int p0] (s_Row_get (q := 27) (a := 28) (n := 240) ⟨rfl, rfl, by decide⟩ σ p0) [] (pc3 := 84) (st3 := [.int (rg σ 28 240 p0)]) (by decide +kernel) mk_Row_get (by decide) ?_
    obtain rfl := h
    exact RM.reti (by decide +kernel) rfl
  · rw [tsS_at (j := 5) c1 rfl rfl] at h
    refine RM.blk [(2, 0, 0, .null), (3, 1, 6, .null), (1, 1, 0, .null)] (pc' := 90) (L' := [some (.ref 18), some (.int p0), some (.int p1)]) (st' := [.int p0, .ref 29]) (σ1 := σ) (by decide +kernel) rfl ?_
    refine RN.callV [.int p0] (s_Row_get (q := 29) (a := 30) (n := 240) ⟨rfl, rfl, by decide⟩ σ p0) [] (pc3 := 93) (st3 := [.int (rg σ 30 240 p0)]) (by decide +kernel) mk_Row_get (by decide) ?_
    obtain rfl := h
    exact RM.reti (by decide +kernel) rfl
  · rw [tsS_out c1 rfl] at h
    refine RM.blk [(2, 0, 0, .null), (3, 1, 7, .null), (1, 1, 0, .null)] (pc' := 99) (L' := [some (.ref 18), some (.int p0), some (.int p1)]) (st' := [.int p0, .ref 31]) (σ1 := σ) (by decide +kernel) rfl ?_
    refine RN.callV [.int p0] (s_Row_get (q := 31) (a := 32) (n := 240) ⟨rfl, rfl, by decide⟩ σ p0) [] (pc3 := 102) (st3 := [.int (rg σ 32 240 p0)]) (by decide +kernel) mk_Row_get (by decide) ?_
    obtain rfl := h
    exact RM.reti (by decide +kernel) rfl
def M_Shop_cube : MI := (yX11_cube, cX11_cube, 3, some .int, 11)
theorem mk_Shop_cube : mOK M_Shop_cube 2 = true := by decide +kernel
def F_Shop_cube (σ : SG) (p0 : Int32) (p1 : Int32) : Int32 := (if (F_Shop_within p1 0 6) = true then (if (F_Cubes_has σ p0) = true then (F_Cubes_tell σ p0 p1) else (-1)) else (-2))
set_option maxRecDepth 100000 in
set_option maxHeartbeats 4000000 in
theorem s_Shop_cube (σ : SG) (p0 : Int32) (p1 : Int32) : SpN 4 M_Shop_cube [.ref 0, .int p0, .int p1] σ (some (.int (F_Shop_cube σ p0 p1))) σ := by
  generalize h : F_Shop_cube σ p0 p1 = rr
  unfold F_Shop_cube at h
  refine Sp.of mk_Shop_cube rfl (Nat.le_of_ble_eq_true rfl) ?_
  refine RM.blk [(1, 2, 0, .null), (0, 0, 0, .int 0), (0, 0, 0, .int 6)] (pc' := 4) (L' := [some (.ref 0), some (.int p0), some (.int p1)]) (st' := [.int 6, .int 0, .int p1]) (σ1 := σ) (by decide +kernel) rfl ?_
  refine RN.callS [.int p1, .int 0, .int 6] (s_Shop_within σ p1 0 6) [] (pc3 := 7) (st3 := [.int (bI (F_Shop_within p1 0 6))]) (by decide +kernel) mk_Shop_within (by decide) ?_
  refine RM.zne (tgt := 13) (by decide +kernel) (fun c1 => ?_) (fun c1 => ?_)
  · rw [if_pos c1] at h
    refine RM.blk [(2, 0, 0, .null), (3, 11, 2, .null), (1, 1, 0, .null)] (pc' := 18) (L' := [some (.ref 0), some (.int p0), some (.int p1)]) (st' := [.int p0, .ref 18]) (σ1 := σ) (by decide +kernel) rfl ?_
    refine RN.callV [.int p0] (s_Cubes_has σ p0) [] (pc3 := 21) (st3 := [.int (bI (F_Cubes_has σ p0))]) (by decide +kernel) mk_Cubes_has (by decide) ?_
    refine RM.zeq (tgt := 36) (by decide +kernel) (fun c2 => ?_) (fun c2 => ?_)
    · rw [if_neg (bf c2)] at h
      refine RM.blk [(0, 0, 0, .int (-1))] (pc' := 37) (L' := [some (.ref 0), some (.int p0), some (.int p1)]) (st' := [.int (-1)]) (σ1 := σ) (by decide +kernel) rfl ?_
      obtain rfl := h
      exact RM.reti (by decide +kernel) rfl
    · rw [if_pos c2] at h
      refine RM.blk [(2, 0, 0, .null), (3, 11, 2, .null), (1, 1, 0, .null), (1, 2, 0, .null)] (pc' := 30) (L' := [some (.ref 0), some (.int p0), some (.int p1)]) (st' := [.int p1, .int p0, .ref 18]) (σ1 := σ) (by decide +kernel) rfl ?_
      refine RN.callV [.int p0, .int p1] (s_Cubes_tell σ p0 p1) [] (pc3 := 33) (st3 := [.int (F_Cubes_tell σ p0 p1)]) (by decide +kernel) mk_Cubes_tell (by decide) ?_
      refine RM.blk [(23, 0, 0, .null)] (pc' := 37) (L' := [some (.ref 0), some (.int p0), some (.int p1)]) (st' := [.int (F_Cubes_tell σ p0 p1)]) (σ1 := σ) (by decide +kernel) rfl ?_
      obtain rfl := h
      exact RM.reti (by decide +kernel) rfl
  · rw [if_neg (bf c1)] at h
    refine RM.blk [(0, 0, 0, .int (-2))] (pc' := 12) (L' := [some (.ref 0), some (.int p0), some (.int p1)]) (st' := [.int (-2)]) (σ1 := σ) (by decide +kernel) rfl ?_
    obtain rfl := h
    exact RM.reti (by decide +kernel) rfl
def F_Colours_put_45 (σ : SG) (p0 : Int32) (p1 : Int32) (p2 : Int32) (p3 : Int32) : SG := (nm (rs (rs (rs σ 47 10 p0 p1) 49 10 p0 p2) 51 10 p0 p3) (fun s1 => s1))
set_option maxRecDepth 100000 in
set_option maxHeartbeats 4000000 in
theorem s_Colours_put_45 (σ : SG) (p0 : Int32) (p1 : Int32) (p2 : Int32) (p3 : Int32) (so : SG) (h : F_Colours_put_45 σ p0 p1 p2 p3 = so) : SpN 3 M_Colours_put [.ref 45, .int p0, .int p1, .int p2, .int p3] σ none so := by
  unfold F_Colours_put_45 at h
  refine Sp.of mk_Colours_put rfl (Nat.le_of_ble_eq_true rfl) ?_
  refine RM.blk [(2, 0, 0, .null), (3, 0, 0, .null), (1, 1, 0, .null), (1, 2, 0, .null)] (pc' := 6) (L' := [some (.ref 45), some (.int p0), some (.int p1), some (.int p2), some (.int p3)]) (st' := [.int p1, .int p0, .ref 46]) (σ1 := σ) (by decide +kernel) rfl ?_
  refine RN.callV [.int p0, .int p1] (s_Row_set (q := 46) (a := 47) (n := 10) ⟨rfl, rfl, by decide⟩ σ p0 p1) [] (pc3 := 9) (st3 := []) (by decide +kernel) mk_Row_set (by decide) ?_
  refine RM.blk [(2, 0, 0, .null), (3, 0, 1, .null), (1, 1, 0, .null), (1, 3, 0, .null)] (pc' := 15) (L' := [some (.ref 45), some (.int p0), some (.int p1), some (.int p2), some (.int p3)]) (st' := [.int p2, .int p0, .ref 48]) (σ1 := (rs σ 47 10 p0 p1)) (by decide +kernel) rfl ?_
  refine RN.callV [.int p0, .int p2] (s_Row_set (q := 48) (a := 49) (n := 10) ⟨rfl, rfl, by decide⟩ (rs σ 47 10 p0 p1) p0 p2) [] (pc3 := 18) (st3 := []) (by decide +kernel) mk_Row_set (by decide) ?_
  refine RM.blk [(2, 0, 0, .null), (3, 0, 2, .null), (1, 1, 0, .null), (1, 4, 0, .null)] (pc' := 25) (L' := [some (.ref 45), some (.int p0), some (.int p1), some (.int p2), some (.int p3)]) (st' := [.int p3, .int p0, .ref 50]) (σ1 := (rs (rs σ 47 10 p0 p1) 49 10 p0 p2)) (by decide +kernel) rfl ?_
  refine RN.callV [.int p0, .int p3] (s_Row_set (q := 50) (a := 51) (n := 10) ⟨rfl, rfl, by decide⟩ (rs (rs σ 47 10 p0 p1) 49 10 p0 p2) p0 p3) [] (pc3 := 28) (st3 := []) (by decide +kernel) mk_Row_set (by decide) ?_
  generalize ns1 : (rs (rs (rs σ 47 10 p0 p1) 49 10 p0 p2) 51 10 p0 p3) = s1 at h ⊢
  replace h := nm_h h
  obtain rfl := h
  exact RM.retv (by decide +kernel) rfl
def M_Lots_bring : MI := (yX7_bring, cX7_bring, 5, some .int, 7)
theorem mk_Lots_bring : mOK M_Lots_bring 4 = true := by decide +kernel
def F_Lots_bring (σ : SG) (p0 : Int32) (p1 : Int32) (p2 : Int32) (p3 : Int32) : Int32 × SG := (nm (rs (F_Colours_put_45 σ (σ 42 0) p0 p1 p2) 44 10 ((F_Colours_put_45 σ (σ 42 0) p0 p1 p2) 42 0) p3) (fun s1 => ((((up s1 42 0 ((s1 42 0) + 1)) 42 0) - 1), (up s1 42 0 ((s1 42 0) + 1)))))
set_option maxRecDepth 100000 in
set_option maxHeartbeats 4000000 in
theorem s_Lots_bring (σ : SG) (p0 : Int32) (p1 : Int32) (p2 : Int32) (p3 : Int32) (rr : Int32) (so : SG) (h : F_Lots_bring σ p0 p1 p2 p3 = (rr, so)) : SpN 4 M_Lots_bring [.ref 42, .int p0, .int p1, .int p2, .int p3] σ (some (.int rr)) so := by
  unfold F_Lots_bring at h
  refine Sp.of mk_Lots_bring rfl (Nat.le_of_ble_eq_true rfl) ?_
  refine RM.blk [(2, 0, 0, .null), (3, 7, 2, .null), (2, 0, 0, .null), (3, 7, 0, .null), (1, 1, 0, .null), (1, 2, 0, .null), (1, 3, 0, .null)] (pc' := 11) (L' := [some (.ref 42), some (.int p0), some (.int p1), some (.int p2), some (.int p3)]) (st' := [.int p2, .int p1, .int p0, .int (σ 42 0), .ref 45]) (σ1 := σ) (by decide +kernel) rfl ?_
  refine RN.callV [.int (σ 42 0), .int p0, .int p1, .int p2] (s_Colours_put_45 σ (σ 42 0) p0 p1 p2 _ rfl) [] (pc3 := 14) (st3 := []) (by decide +kernel) mk_Colours_put (by decide) ?_
  refine RM.blk [(2, 0, 0, .null), (3, 7, 1, .null), (2, 0, 0, .null), (3, 7, 0, .null), (1, 4, 0, .null)] (pc' := 24) (L' := [some (.ref 42), some (.int p0), some (.int p1), some (.int p2), some (.int p3)]) (st' := [.int p3, .int ((F_Colours_put_45 σ (σ 42 0) p0 p1 p2) 42 0), .ref 43]) (σ1 := (F_Colours_put_45 σ (σ 42 0) p0 p1 p2)) (by decide +kernel) rfl ?_
  refine RN.callV [.int ((F_Colours_put_45 σ (σ 42 0) p0 p1 p2) 42 0), .int p3] (s_Row_set (q := 43) (a := 44) (n := 10) ⟨rfl, rfl, by decide⟩ (F_Colours_put_45 σ (σ 42 0) p0 p1 p2) ((F_Colours_put_45 σ (σ 42 0) p0 p1 p2) 42 0) p3) [] (pc3 := 27) (st3 := []) (by decide +kernel) mk_Row_set (by decide) ?_
  generalize ns1 : (rs (F_Colours_put_45 σ (σ 42 0) p0 p1 p2) 44 10 ((F_Colours_put_45 σ (σ 42 0) p0 p1 p2) 42 0) p3) = s1 at h ⊢
  replace h := nm_h h
  refine RM.blk [(2, 0, 0, .null), (11, 0, 0, .null), (3, 7, 0, .null), (0, 0, 0, .int 1), (5, 0, 0, .null), (15, 7, 0, .null), (2, 0, 0, .null), (3, 7, 0, .null), (0, 0, 0, .int 1), (6, 0, 0, .null)] (pc' := 43) (L' := [some (.ref 42), some (.int p0), some (.int p1), some (.int p2), some (.int p3)]) (st' := [.int (((up s1 42 0 ((s1 42 0) + 1)) 42 0) - 1)]) (σ1 := (up s1 42 0 ((s1 42 0) + 1))) (by decide +kernel) rfl ?_
  obtain ⟨rfl, rfl⟩ := Prod.mk.inj h
  exact RM.reti (by decide +kernel) rfl
def M_Shop_lot : MI := (yX11_lot, cX11_lot, 5, some .int, 11)
theorem mk_Shop_lot : mOK M_Shop_lot 4 = true := by decide +kernel
def F_Shop_lot (σ : SG) (p0 : Int32) (p1 : Int32) (p2 : Int32) (p3 : Int32) : Int32 × SG := (if (F_Shop_isColour p0 p1 p2) = true then (if (F_Shop_within p3 0 1000) = true then (if 10 ≤ (σ 42 0) then ((-4), σ) else ((F_Lots_bring σ p0 p1 p2 p3).1, (F_Lots_bring σ p0 p1 p2 p3).2)) else ((-2), σ)) else ((-2), σ))
set_option maxRecDepth 100000 in
set_option maxHeartbeats 4000000 in
theorem s_Shop_lot (σ : SG) (p0 : Int32) (p1 : Int32) (p2 : Int32) (p3 : Int32) (rr : Int32) (so : SG) (h : F_Shop_lot σ p0 p1 p2 p3 = (rr, so)) : SpN 5 M_Shop_lot [.ref 0, .int p0, .int p1, .int p2, .int p3] σ (some (.int rr)) so := by
  unfold F_Shop_lot at h
  refine Sp.of mk_Shop_lot rfl (Nat.le_of_ble_eq_true rfl) ?_
  refine RM.blk [(1, 1, 0, .null), (1, 2, 0, .null), (1, 3, 0, .null)] (pc' := 3) (L' := [some (.ref 0), some (.int p0), some (.int p1), some (.int p2), some (.int p3)]) (st' := [.int p2, .int p1, .int p0]) (σ1 := σ) (by decide +kernel) rfl ?_
  refine RN.callS [.int p0, .int p1, .int p2] (s_Shop_isColour σ p0 p1 p2) [] (pc3 := 6) (st3 := [.int (bI (F_Shop_isColour p0 p1 p2))]) (by decide +kernel) mk_Shop_isColour (by decide) ?_
  refine RM.zeq (tgt := 21) (by decide +kernel) (fun c1 => ?_) (fun c1 => ?_)
  · rw [if_neg (bf c1)] at h
    refine RM.blk [(0, 0, 0, .int (-2))] (pc' := 23) (L' := [some (.ref 0), some (.int p0), some (.int p1), some (.int p2), some (.int p3)]) (st' := [.int (-2)]) (σ1 := σ) (by decide +kernel) rfl ?_
    obtain ⟨rfl, rfl⟩ := Prod.mk.inj h
    exact RM.reti (by decide +kernel) rfl
  · rw [if_pos c1] at h
    refine RM.blk [(1, 4, 0, .null), (0, 0, 0, .int 0), (0, 0, 0, .int 1000)] (pc' := 15) (L' := [some (.ref 0), some (.int p0), some (.int p1), some (.int p2), some (.int p3)]) (st' := [.int 1000, .int 0, .int p3]) (σ1 := σ) (by decide +kernel) rfl ?_
    refine RN.callS [.int p3, .int 0, .int 1000] (s_Shop_within σ p3 0 1000) [] (pc3 := 18) (st3 := [.int (bI (F_Shop_within p3 0 1000))]) (by decide +kernel) mk_Shop_within (by decide) ?_
    refine RM.zne (tgt := 24) (by decide +kernel) (fun c2 => ?_) (fun c2 => ?_)
    · rw [if_pos c2] at h
      refine RM.blk [(2, 0, 0, .null), (3, 11, 4, .null), (3, 7, 0, .null), (0, 0, 0, .int 10)] (pc' := 33) (L' := [some (.ref 0), some (.int p0), some (.int p1), some (.int p2), some (.int p3)]) (st' := [.int 10, .int (σ 42 0)]) (σ1 := σ) (by decide +kernel) rfl ?_
      refine RM.icmp_ge (tgt := 51) (by decide +kernel) (fun c3 => ?_) (fun c3 => ?_)
      · rw [if_pos c3] at h
        refine RM.blk [(0, 0, 0, .int (-4))] (pc' := 53) (L' := [some (.ref 0), some (.int p0), some (.int p1), some (.int p2), some (.int p3)]) (st' := [.int (-4)]) (σ1 := σ) (by decide +kernel) rfl ?_
        obtain ⟨rfl, rfl⟩ := Prod.mk.inj h
        exact RM.reti (by decide +kernel) rfl
      · rw [if_neg c3] at h
        refine RM.blk [(2, 0, 0, .null), (3, 11, 4, .null), (1, 1, 0, .null), (1, 2, 0, .null), (1, 3, 0, .null), (1, 4, 0, .null)] (pc' := 45) (L' := [some (.ref 0), some (.int p0), some (.int p1), some (.int p2), some (.int p3)]) (st' := [.int p3, .int p2, .int p1, .int p0, .ref 42]) (σ1 := σ) (by decide +kernel) rfl ?_
        refine RN.callV [.int p0, .int p1, .int p2, .int p3] (s_Lots_bring σ p0 p1 p2 p3 _ _ rfl) [] (pc3 := 48) (st3 := [.int ((F_Lots_bring σ p0 p1 p2 p3).1)]) (by decide +kernel) mk_Lots_bring (by decide) ?_
        refine RM.blk [(23, 0, 0, .null)] (pc' := 53) (L' := [some (.ref 0), some (.int p0), some (.int p1), some (.int p2), some (.int p3)]) (st' := [.int ((F_Lots_bring σ p0 p1 p2 p3).1)]) (σ1 := (F_Lots_bring σ p0 p1 p2 p3).2) (by decide +kernel) rfl ?_
        obtain ⟨rfl, rfl⟩ := Prod.mk.inj h
        exact RM.reti (by decide +kernel) rfl
    · rw [if_neg (bf c2)] at h
      refine RM.blk [(0, 0, 0, .int (-2))] (pc' := 23) (L' := [some (.ref 0), some (.int p0), some (.int p1), some (.int p2), some (.int p3)]) (st' := [.int (-2)]) (σ1 := σ) (by decide +kernel) rfl ?_
      obtain ⟨rfl, rfl⟩ := Prod.mk.inj h
      exact RM.reti (by decide +kernel) rfl
def M_Lots_has : MI := (yX7_has, cX7_has, 2, some .boolean, 7)
theorem mk_Lots_has : mOK M_Lots_has 1 = true := by decide +kernel
def F_Lots_has (σ : SG) (p0 : Int32) : Bool := (if p0 < 0 then false else (if (σ 42 0) ≤ p0 then false else true))
set_option maxRecDepth 100000 in
set_option maxHeartbeats 4000000 in
theorem s_Lots_has (σ : SG) (p0 : Int32) : SpN 1 M_Lots_has [.ref 42, .int p0] σ (some (.int (bI (F_Lots_has σ p0)))) σ := by
  generalize h : F_Lots_has σ p0 = rr
  unfold F_Lots_has at h
  refine Sp.of mk_Lots_has rfl (Nat.le_of_ble_eq_true rfl) ?_
  refine RM.blk [(1, 1, 0, .null)] (pc' := 1) (L' := [some (.ref 42), some (.int p0)]) (st' := [.int p0]) (σ1 := σ) (by decide +kernel) rfl ?_
  refine RM.if_lt (tgt := 16) (by decide +kernel) (fun c1 => ?_) (fun c1 => ?_)
  · rw [if_pos c1] at h
    refine RM.blk [(0, 0, 0, .int 0)] (pc' := 17) (L' := [some (.ref 42), some (.int p0)]) (st' := [.int 0]) (σ1 := σ) (by decide +kernel) rfl ?_
    obtain rfl := h
    exact RM.retz (z := false) (by decide +kernel) rfl
  · rw [if_neg c1] at h
    refine RM.blk [(1, 1, 0, .null), (2, 0, 0, .null), (3, 7, 0, .null)] (pc' := 9) (L' := [some (.ref 42), some (.int p0)]) (st' := [.int (σ 42 0), .int p0]) (σ1 := σ) (by decide +kernel) rfl ?_
    refine RM.icmp_ge (tgt := 16) (by decide +kernel) (fun c2 => ?_) (fun c2 => ?_)
    · rw [if_pos c2] at h
      refine RM.blk [(0, 0, 0, .int 0)] (pc' := 17) (L' := [some (.ref 42), some (.int p0)]) (st' := [.int 0]) (σ1 := σ) (by decide +kernel) rfl ?_
      obtain rfl := h
      exact RM.retz (z := false) (by decide +kernel) rfl
    · rw [if_neg c2] at h
      refine RM.blk [(0, 0, 0, .int 1), (23, 0, 0, .null)] (pc' := 17) (L' := [some (.ref 42), some (.int p0)]) (st' := [.int 1]) (σ1 := σ) (by decide +kernel) rfl ?_
      obtain rfl := h
      exact RM.retz (z := true) (by decide +kernel) rfl
def M_Shop_left : MI := (yX11_left, cX11_left, 2, some .int, 11)
theorem mk_Shop_left : mOK M_Shop_left 1 = true := by decide +kernel
def F_Shop_left (σ : SG) (p0 : Int32) : Int32 := (if (F_Lots_has σ p0) = true then (rg σ 44 10 p0) else (-2))
set_option maxRecDepth 100000 in
set_option maxHeartbeats 4000000 in
theorem s_Shop_left (σ : SG) (p0 : Int32) : SpN 3 M_Shop_left [.ref 0, .int p0] σ (some (.int (F_Shop_left σ p0))) σ := by
  generalize h : F_Shop_left σ p0 = rr
  unfold F_Shop_left at h
  refine Sp.of mk_Shop_left rfl (Nat.le_of_ble_eq_true rfl) ?_
  refine RM.blk [(2, 0, 0, .null), (3, 11, 4, .null), (1, 1, 0, .null)] (pc' := 5) (L' := [some (.ref 0), some (.int p0)]) (st' := [.int p0, .ref 42]) (σ1 := σ) (by decide +kernel) rfl ?_
  refine RN.callV [.int p0] (s_Lots_has σ p0) [] (pc3 := 8) (st3 := [.int (bI (F_Lots_has σ p0))]) (by decide +kernel) mk_Lots_has (by decide) ?_
  refine RM.zeq (tgt := 25) (by decide +kernel) (fun c1 => ?_) (fun c1 => ?_)
  · rw [if_neg (bf c1)] at h
    refine RM.blk [(0, 0, 0, .int (-2))] (pc' := 27) (L' := [some (.ref 0), some (.int p0)]) (st' := [.int (-2)]) (σ1 := σ) (by decide +kernel) rfl ?_
    obtain rfl := h
    exact RM.reti (by decide +kernel) rfl
  · rw [if_pos c1] at h
    refine RM.blk [(2, 0, 0, .null), (3, 11, 4, .null), (3, 7, 1, .null), (1, 1, 0, .null)] (pc' := 19) (L' := [some (.ref 0), some (.int p0)]) (st' := [.int p0, .ref 43]) (σ1 := σ) (by decide +kernel) rfl ?_
    refine RN.callV [.int p0] (s_Row_get (q := 43) (a := 44) (n := 10) ⟨rfl, rfl, by decide⟩ σ p0) [] (pc3 := 22) (st3 := [.int (rg σ 44 10 p0)]) (by decide +kernel) mk_Row_get (by decide) ?_
    refine RM.blk [(23, 0, 0, .null)] (pc' := 27) (L' := [some (.ref 0), some (.int p0)]) (st' := [.int (rg σ 44 10 p0)]) (σ1 := σ) (by decide +kernel) rfl ?_
    obtain rfl := h
    exact RM.reti (by decide +kernel) rfl
end
