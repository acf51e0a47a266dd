-- ===== PART A: goes FIRST, ahead of the names: the tables' words, and 'selects' of the private methods out of them =====
/-- a private method of a class that the tables say can be made, by its rows of tables_1 -/
def lw_okq (q : MethodName × Nat) : Prop := (q.1.cls ≠ "java/lang/invoke/MethodHandle" ∧ q.1.cls ≠ "java/lang/invoke/VarHandle") ∧ Cond.instantiable q.1.cls q.2 ∈ tables_1 ∧ Cond.privateMethod q.1 ∈ tables_1 ∧ Cond.instanceMethod q.1 ∈ tables_1
theorem lw_p0 : lw_okq (⟨"MosaicShop", "takeDown", "()V"⟩, 9) := ⟨⟨by decide +kernel, by decide +kernel⟩, List.mem_of_getElem? (i := 16) (by decide +kernel), List.mem_of_getElem? (i := 367) (by decide +kernel), List.mem_of_getElem? (i := 368) (by decide +kernel)⟩
theorem lw_p1 : lw_okq (⟨"MosaicShop$Layer", "layStrip", "(III)Z"⟩, 6) := ⟨⟨by decide +kernel, by decide +kernel⟩, List.mem_of_getElem? (i := 160) (by decide +kernel), List.mem_of_getElem? (i := 446) (by decide +kernel), List.mem_of_getElem? (i := 447) (by decide +kernel)⟩
theorem lw_p2 : lw_okq (⟨"MosaicShop$Layer", "countFewest", "(III)V"⟩, 6) := ⟨⟨by decide +kernel, by decide +kernel⟩, List.mem_of_getElem? (i := 160) (by decide +kernel), List.mem_of_getElem? (i := 452) (by decide +kernel), List.mem_of_getElem? (i := 453) (by decide +kernel)⟩
theorem lw_p3 : lw_okq (⟨"MosaicShop$Layer", "mayEnd", "(II)Z"⟩, 6) := ⟨⟨by decide +kernel, by decide +kernel⟩, List.mem_of_getElem? (i := 160) (by decide +kernel), List.mem_of_getElem? (i := 458) (by decide +kernel), List.mem_of_getElem? (i := 459) (by decide +kernel)⟩
theorem lw_p4 : lw_okq (⟨"MosaicShop$Layer", "widestOfFewest", "(III)I"⟩, 6) := ⟨⟨by decide +kernel, by decide +kernel⟩, List.mem_of_getElem? (i := 160) (by decide +kernel), List.mem_of_getElem? (i := 465) (by decide +kernel), List.mem_of_getElem? (i := 466) (by decide +kernel)⟩
theorem lw_p5 : lw_okq (⟨"MosaicShop", "isLaid", "()Z"⟩, 9) := ⟨⟨by decide +kernel, by decide +kernel⟩, List.mem_of_getElem? (i := 16) (by decide +kernel), List.mem_of_getElem? (i := 481) (by decide +kernel), List.mem_of_getElem? (i := 482) (by decide +kernel)⟩
theorem lw_p6 : lw_okq (⟨"MosaicShop$Painter", "paintField", "(II)V"⟩, 7) := ⟨⟨by decide +kernel, by decide +kernel⟩, List.mem_of_getElem? (i := 210) (by decide +kernel), List.mem_of_getElem? (i := 542) (by decide +kernel), List.mem_of_getElem? (i := 543) (by decide +kernel)⟩
theorem lw_p7 : lw_okq (⟨"MosaicShop$Painter", "nearestFor", "(I)I"⟩, 7) := ⟨⟨by decide +kernel, by decide +kernel⟩, List.mem_of_getElem? (i := 210) (by decide +kernel), List.mem_of_getElem? (i := 558) (by decide +kernel), List.mem_of_getElem? (i := 559) (by decide +kernel)⟩
theorem lw_p8 : lw_okq (⟨"MosaicShop$Painter", "give", "(II)V"⟩, 7) := ⟨⟨by decide +kernel, by decide +kernel⟩, List.mem_of_getElem? (i := 210) (by decide +kernel), List.mem_of_getElem? (i := 562) (by decide +kernel), List.mem_of_getElem? (i := 563) (by decide +kernel)⟩
theorem lw_p9 : lw_okq (⟨"MosaicShop$Sheets", "cutsLeftOf", "(II)I"⟩, 5) := ⟨⟨by decide +kernel, by decide +kernel⟩, List.mem_of_getElem? (i := 241) (by decide +kernel), List.mem_of_getElem? (i := 602) (by decide +kernel), List.mem_of_getElem? (i := 603) (by decide +kernel)⟩
theorem lw_p10 : lw_okq (⟨"MosaicShop$Sheets", "cutNear", "(II)I"⟩, 5) := ⟨⟨by decide +kernel, by decide +kernel⟩, List.mem_of_getElem? (i := 241) (by decide +kernel), List.mem_of_getElem? (i := 606) (by decide +kernel), List.mem_of_getElem? (i := 607) (by decide +kernel)⟩
theorem lw_p11 : lw_okq (⟨"MosaicShop$Sheets", "isBorder", "(II)Z"⟩, 5) := ⟨⟨by decide +kernel, by decide +kernel⟩, List.mem_of_getElem? (i := 241) (by decide +kernel), List.mem_of_getElem? (i := 610) (by decide +kernel), List.mem_of_getElem? (i := 611) (by decide +kernel)⟩
theorem lw_p12 : lw_okq (⟨"MosaicShop$Sheets", "turnOver", "()V"⟩, 5) := ⟨⟨by decide +kernel, by decide +kernel⟩, List.mem_of_getElem? (i := 241) (by decide +kernel), List.mem_of_getElem? (i := 619) (by decide +kernel), List.mem_of_getElem? (i := 620) (by decide +kernel)⟩
theorem lw_p13 : lw_okq (⟨"MosaicShop", "maySheet", "(I)Z"⟩, 9) := ⟨⟨by decide +kernel, by decide +kernel⟩, List.mem_of_getElem? (i := 16) (by decide +kernel), List.mem_of_getElem? (i := 627) (by decide +kernel), List.mem_of_getElem? (i := 628) (by decide +kernel)⟩
theorem lw_p14 : lw_okq (⟨"MosaicShop", "isCut", "()Z"⟩, 9) := ⟨⟨by decide +kernel, by decide +kernel⟩, List.mem_of_getElem? (i := 16) (by decide +kernel), List.mem_of_getElem? (i := 631) (by decide +kernel), List.mem_of_getElem? (i := 632) (by decide +kernel)⟩
theorem lw_p15 : lw_okq (⟨"MosaicShop$Sheets", "cubesOn", "(I)I"⟩, 5) := ⟨⟨by decide +kernel, by decide +kernel⟩, List.mem_of_getElem? (i := 241) (by decide +kernel), List.mem_of_getElem? (i := 639) (by decide +kernel), List.mem_of_getElem? (i := 640) (by decide +kernel)⟩
def lw_privs_1 : List (MethodName × Nat) := [(⟨"MosaicShop", "takeDown", "()V"⟩, 9), (⟨"MosaicShop$Layer", "layStrip", "(III)Z"⟩, 6), (⟨"MosaicShop$Layer", "countFewest", "(III)V"⟩, 6), (⟨"MosaicShop$Layer", "mayEnd", "(II)Z"⟩, 6), (⟨"MosaicShop$Layer", "widestOfFewest", "(III)I"⟩, 6), (⟨"MosaicShop", "isLaid", "()Z"⟩, 9), (⟨"MosaicShop$Painter", "paintField", "(II)V"⟩, 7), (⟨"MosaicShop$Painter", "nearestFor", "(I)I"⟩, 7), (⟨"MosaicShop$Painter", "give", "(II)V"⟩, 7), (⟨"MosaicShop$Sheets", "cutsLeftOf", "(II)I"⟩, 5), (⟨"MosaicShop$Sheets", "cutNear", "(II)I"⟩, 5), (⟨"MosaicShop$Sheets", "isBorder", "(II)Z"⟩, 5), (⟨"MosaicShop$Sheets", "turnOver", "()V"⟩, 5), (⟨"MosaicShop", "maySheet", "(I)Z"⟩, 9), (⟨"MosaicShop", "isCut", "()Z"⟩, 9), (⟨"MosaicShop$Sheets", "cubesOn", "(I)I"⟩, 5)]
theorem lw_r1 : ∀ q ∈ lw_privs_1, lw_okq q := List.forall_mem_cons.mpr ⟨lw_p0, List.forall_mem_cons.mpr ⟨lw_p1, List.forall_mem_cons.mpr ⟨lw_p2, List.forall_mem_cons.mpr ⟨lw_p3, List.forall_mem_cons.mpr ⟨lw_p4, List.forall_mem_cons.mpr ⟨lw_p5, List.forall_mem_cons.mpr ⟨lw_p6, List.forall_mem_cons.mpr ⟨lw_p7, List.forall_mem_cons.mpr ⟨lw_p8, List.forall_mem_cons.mpr ⟨lw_p9, List.forall_mem_cons.mpr ⟨lw_p10, List.forall_mem_cons.mpr ⟨lw_p11, List.forall_mem_cons.mpr ⟨lw_p12, List.forall_mem_cons.mpr ⟨lw_p13, List.forall_mem_cons.mpr ⟨lw_p14, List.forall_mem_cons.mpr ⟨lw_p15, fun _ h => absurd h List.not_mem_nil⟩⟩⟩⟩⟩⟩⟩⟩⟩⟩⟩⟩⟩⟩⟩⟩
theorem lw_p16 : lw_okq (⟨"MosaicShop$Sheets", "placesMarked", "(ILMosaicShop$Row;)I"⟩, 5) := ⟨⟨by decide +kernel, by decide +kernel⟩, List.mem_of_getElem? (i := 241) (by decide +kernel), List.mem_of_getElem? (i := 643) (by decide +kernel), List.mem_of_getElem? (i := 644) (by decide +kernel)⟩
theorem lw_p17 : lw_okq (⟨"MosaicShop$Sheets", "leftEdge", "(I)I"⟩, 5) := ⟨⟨by decide +kernel, by decide +kernel⟩, List.mem_of_getElem? (i := 241) (by decide +kernel), List.mem_of_getElem? (i := 651) (by decide +kernel), List.mem_of_getElem? (i := 652) (by decide +kernel)⟩
theorem lw_p18 : lw_okq (⟨"MosaicShop$Sheets", "rightEdge", "(I)I"⟩, 5) := ⟨⟨by decide +kernel, by decide +kernel⟩, List.mem_of_getElem? (i := 241) (by decide +kernel), List.mem_of_getElem? (i := 655) (by decide +kernel), List.mem_of_getElem? (i := 656) (by decide +kernel)⟩
theorem lw_p19 : lw_okq (⟨"MosaicShop$Dealer", "gather", "()Z"⟩, 9) := ⟨⟨by decide +kernel, by decide +kernel⟩, List.mem_of_getElem? (i := 289) (by decide +kernel), List.mem_of_getElem? (i := 701) (by decide +kernel), List.mem_of_getElem? (i := 702) (by decide +kernel)⟩
theorem lw_p20 : lw_okq (⟨"MosaicShopModel", "goes", "()V"⟩, 37) := ⟨⟨by decide +kernel, by decide +kernel⟩, List.mem_of_getElem? (i := 757) (by decide +kernel), List.mem_of_getElem? (i := 883) (by decide +kernel), List.mem_of_getElem? (i := 884) (by decide +kernel)⟩
theorem lw_p21 : lw_okq (⟨"MosaicShopModel", "isPlace", "(II)Z"⟩, 37) := ⟨⟨by decide +kernel, by decide +kernel⟩, List.mem_of_getElem? (i := 757) (by decide +kernel), List.mem_of_getElem? (i := 895) (by decide +kernel), List.mem_of_getElem? (i := 896) (by decide +kernel)⟩
theorem lw_p22 : lw_okq (⟨"MosaicShopModel", "strip", "(III)Z"⟩, 37) := ⟨⟨by decide +kernel, by decide +kernel⟩, List.mem_of_getElem? (i := 757) (by decide +kernel), List.mem_of_getElem? (i := 914) (by decide +kernel), List.mem_of_getElem? (i := 915) (by decide +kernel)⟩
theorem lw_p23 : lw_okq (⟨"MosaicShopModel", "faceDown", "(I)I"⟩, 37) := ⟨⟨by decide +kernel, by decide +kernel⟩, List.mem_of_getElem? (i := 757) (by decide +kernel), List.mem_of_getElem? (i := 926) (by decide +kernel), List.mem_of_getElem? (i := 927) (by decide +kernel)⟩
theorem lw_p24 : lw_okq (⟨"MosaicShopModel", "nearest", "(II[I)I"⟩, 37) := ⟨⟨by decide +kernel, by decide +kernel⟩, List.mem_of_getElem? (i := 757) (by decide +kernel), List.mem_of_getElem? (i := 946) (by decide +kernel), List.mem_of_getElem? (i := 947) (by decide +kernel)⟩
theorem lw_p25 : lw_okq (⟨"MosaicShopModel", "bare", "()I"⟩, 37) := ⟨⟨by decide +kernel, by decide +kernel⟩, List.mem_of_getElem? (i := 757) (by decide +kernel), List.mem_of_getElem? (i := 950) (by decide +kernel), List.mem_of_getElem? (i := 951) (by decide +kernel)⟩
theorem lw_p26 : lw_okq (⟨"MosaicShopModel", "nearestBorder", "(II)I"⟩, 37) := ⟨⟨by decide +kernel, by decide +kernel⟩, List.mem_of_getElem? (i := 757) (by decide +kernel), List.mem_of_getElem? (i := 966) (by decide +kernel), List.mem_of_getElem? (i := 967) (by decide +kernel)⟩
theorem lw_p27 : lw_okq (⟨"MosaicShopModel", "noSheet", "(I)I"⟩, 37) := ⟨⟨by decide +kernel, by decide +kernel⟩, List.mem_of_getElem? (i := 757) (by decide +kernel), List.mem_of_getElem? (i := 974) (by decide +kernel), List.mem_of_getElem? (i := 975) (by decide +kernel)⟩
theorem lw_p28 : lw_okq (⟨"MosaicShopModel", "sumOf", "(IZ)I"⟩, 37) := ⟨⟨by decide +kernel, by decide +kernel⟩, List.mem_of_getElem? (i := 757) (by decide +kernel), List.mem_of_getElem? (i := 978) (by decide +kernel), List.mem_of_getElem? (i := 979) (by decide +kernel)⟩
theorem lw_p29 : lw_okq (⟨"MosaicShopModel", "hasFace", "(I)Z"⟩, 37) := ⟨⟨by decide +kernel, by decide +kernel⟩, List.mem_of_getElem? (i := 757) (by decide +kernel), List.mem_of_getElem? (i := 982) (by decide +kernel), List.mem_of_getElem? (i := 983) (by decide +kernel)⟩
theorem lw_p30 : lw_okq (⟨"MosaicShopModel", "cratesTo", "(II)I"⟩, 37) := ⟨⟨by decide +kernel, by decide +kernel⟩, List.mem_of_getElem? (i := 757) (by decide +kernel), List.mem_of_getElem? (i := 994) (by decide +kernel), List.mem_of_getElem? (i := 995) (by decide +kernel)⟩
theorem lw_p31 : lw_okq (⟨"MosaicShopModel", "deal", "()Z"⟩, 37) := ⟨⟨by decide +kernel, by decide +kernel⟩, List.mem_of_getElem? (i := 757) (by decide +kernel), List.mem_of_getElem? (i := 1010) (by decide +kernel), List.mem_of_getElem? (i := 1011) (by decide +kernel)⟩
def lw_privs_2 : List (MethodName × Nat) := [(⟨"MosaicShop$Sheets", "placesMarked", "(ILMosaicShop$Row;)I"⟩, 5), (⟨"MosaicShop$Sheets", "leftEdge", "(I)I"⟩, 5), (⟨"MosaicShop$Sheets", "rightEdge", "(I)I"⟩, 5), (⟨"MosaicShop$Dealer", "gather", "()Z"⟩, 9), (⟨"MosaicShopModel", "goes", "()V"⟩, 37), (⟨"MosaicShopModel", "isPlace", "(II)Z"⟩, 37), (⟨"MosaicShopModel", "strip", "(III)Z"⟩, 37), (⟨"MosaicShopModel", "faceDown", "(I)I"⟩, 37), (⟨"MosaicShopModel", "nearest", "(II[I)I"⟩, 37), (⟨"MosaicShopModel", "bare", "()I"⟩, 37), (⟨"MosaicShopModel", "nearestBorder", "(II)I"⟩, 37), (⟨"MosaicShopModel", "noSheet", "(I)I"⟩, 37), (⟨"MosaicShopModel", "sumOf", "(IZ)I"⟩, 37), (⟨"MosaicShopModel", "hasFace", "(I)Z"⟩, 37), (⟨"MosaicShopModel", "cratesTo", "(II)I"⟩, 37), (⟨"MosaicShopModel", "deal", "()Z"⟩, 37)]
theorem lw_r2 : ∀ q ∈ lw_privs_2, lw_okq q := List.forall_mem_cons.mpr ⟨lw_p16, List.forall_mem_cons.mpr ⟨lw_p17, List.forall_mem_cons.mpr ⟨lw_p18, List.forall_mem_cons.mpr ⟨lw_p19, List.forall_mem_cons.mpr ⟨lw_p20, List.forall_mem_cons.mpr ⟨lw_p21, List.forall_mem_cons.mpr ⟨lw_p22, List.forall_mem_cons.mpr ⟨lw_p23, List.forall_mem_cons.mpr ⟨lw_p24, List.forall_mem_cons.mpr ⟨lw_p25, List.forall_mem_cons.mpr ⟨lw_p26, List.forall_mem_cons.mpr ⟨lw_p27, List.forall_mem_cons.mpr ⟨lw_p28, List.forall_mem_cons.mpr ⟨lw_p29, List.forall_mem_cons.mpr ⟨lw_p30, List.forall_mem_cons.mpr ⟨lw_p31, fun _ h => absurd h List.not_mem_nil⟩⟩⟩⟩⟩⟩⟩⟩⟩⟩⟩⟩⟩⟩⟩⟩
theorem lw_p32 : lw_okq (⟨"MosaicShopModel", "greatestOf", "(II)I"⟩, 37) := ⟨⟨by decide +kernel, by decide +kernel⟩, List.mem_of_getElem? (i := 757) (by decide +kernel), List.mem_of_getElem? (i := 1014) (by decide +kernel), List.mem_of_getElem? (i := 1015) (by decide +kernel)⟩
def lw_privs_3 : List (MethodName × Nat) := [(⟨"MosaicShopModel", "greatestOf", "(II)I"⟩, 37)]
theorem lw_r3 : ∀ q ∈ lw_privs_3, lw_okq q := List.forall_mem_cons.mpr ⟨lw_p32, fun _ h => absurd h List.not_mem_nil⟩
def lw_privs : List (MethodName × Nat) := lw_privs_1 ++ (lw_privs_2 ++ (lw_privs_3))
def lw_tbl : List Cond := k2_sels lw_privs ++ tables_1
theorem lw_privs_ok : ∀ q ∈ lw_privs, lw_okq q := by
  show ∀ q ∈ lw_privs_1 ++ (lw_privs_2 ++ (lw_privs_3)), lw_okq q
  exact List.forall_mem_append.mpr ⟨lw_r1, List.forall_mem_append.mpr ⟨lw_r2, lw_r3⟩⟩
-- ===== end of PART A; then your names; then what follows =====
def RX0 : String := "MosaicShop$Colours"
def TX0 : u_T := fun k => match k with
  | 0 => ("MosaicShop$Colours", "reds", "LMosaicShop$Row;", true)
  | 1 => ("MosaicShop$Colours", "greens", "LMosaicShop$Row;", true)
  | _ => ("MosaicShop$Colours", "blues", "LMosaicShop$Row;", true)
def tyX0 : Nat → FieldType := fun k => match k with
  | 0 => .object "MosaicShop$Row"
  | 1 => .object "MosaicShop$Row"
  | _ => .object "MosaicShop$Row"
abbrev wsX00 : List Cond := u_ws RX0 TX0 3
theorem nmX0 : ∀ a, a < 3 → ∀ b, b < 3 → a ≠ b → (TX0 a).2.1 ≠ (TX0 b).2.1 := by decide +kernel
theorem tyX0_ok : ∀ k, k < 3 → parseFieldDescriptor (TX0 k).2.2.1 = some (tyX0 k) := by decide +kernel
abbrev cX0_init : ByteArray := prog_2_method_1_code
def yX0_init : MethodName := ⟨RX0, "<init>", "(I)V"⟩
abbrev cX0_put : ByteArray := prog_2_method_2_code
def yX0_put : MethodName := ⟨RX0, "put", "(IIII)V"⟩
abbrev cX0_apart : ByteArray := prog_2_method_3_code
def yX0_apart : MethodName := ⟨RX0, "apart", "(ILMosaicShop$Colours;I)I"⟩
def RX1 : String := "MosaicShop$Cubes"
def TX1 : u_T := fun k => match k with
  | 0 => ("MosaicShop$Cubes", "many", "I", false)
  | 1 => ("MosaicShop$Cubes", "rows", "LMosaicShop$Row;", true)
  | 2 => ("MosaicShop$Cubes", "lefts", "LMosaicShop$Row;", true)
  | 3 => ("MosaicShop$Cubes", "widths", "LMosaicShop$Row;", true)
  | 4 => ("MosaicShop$Cubes", "fieldNumbers", "LMosaicShop$Row;", true)
  | 5 => ("MosaicShop$Cubes", "lotNumbers", "LMosaicShop$Row;", true)
  | 6 => ("MosaicShop$Cubes", "sheetNumbers", "LMosaicShop$Row;", true)
  | 7 => ("MosaicShop$Cubes", "turnedOver", "LMosaicShop$Row;", true)
  | _ => ("MosaicShop$Cubes", "overPlaces", "LMosaicShop$Row;", true)
def tyX1 : Nat → FieldType := fun k => match k with
  | 0 => .int
  | 1 => .object "MosaicShop$Row"
  | 2 => .object "MosaicShop$Row"
  | 3 => .object "MosaicShop$Row"
  | 4 => .object "MosaicShop$Row"
  | 5 => .object "MosaicShop$Row"
  | 6 => .object "MosaicShop$Row"
  | 7 => .object "MosaicShop$Row"
  | _ => .object "MosaicShop$Row"
abbrev wsX10 : List Cond := u_ws RX1 TX1 9
theorem nmX1 : ∀ a, a < 9 → ∀ b, b < 9 → a ≠ b → (TX1 a).2.1 ≠ (TX1 b).2.1 := by decide +kernel
theorem tyX1_ok : ∀ k, k < 9 → parseFieldDescriptor (TX1 k).2.2.1 = some (tyX1 k) := by decide +kernel
abbrev cX1_init : ByteArray := prog_3_method_1_code
def yX1_init : MethodName := ⟨RX1, "<init>", "()V"⟩
abbrev cX1_clear : ByteArray := prog_3_method_2_code
def yX1_clear : MethodName := ⟨RX1, "clear", "()V"⟩
abbrev cX1_has : ByteArray := prog_3_method_3_code
def yX1_has : MethodName := ⟨RX1, "has", "(I)Z"⟩
abbrev cX1_put : ByteArray := prog_3_method_4_code
def yX1_put : MethodName := ⟨RX1, "put", "(IIII)V"⟩
abbrev cX1_over : ByteArray := prog_3_method_5_code
def yX1_over : MethodName := ⟨RX1, "over", "(II)I"⟩
abbrev cX1_rightOf : ByteArray := prog_3_method_6_code
def yX1_rightOf : MethodName := ⟨RX1, "rightOf", "(I)I"⟩
abbrev cX1_tell : ByteArray := prog_3_method_7_code
def yX1_tell : MethodName := ⟨RX1, "tell", "(II)I"⟩
def RX2 : String := "MosaicShop$Dealer"
def TX2 : u_T := fun k => match k with
  | 0 => ("MosaicShop$Dealer", "least", "I", false)
  | 1 => ("MosaicShop$Dealer", "sheets", "LMosaicShop$Sheets;", true)
  | 2 => ("MosaicShop$Dealer", "hands", "LMosaicShop$Hands;", true)
  | 3 => ("MosaicShop$Dealer", "many", "I", false)
  | 4 => ("MosaicShop$Dealer", "sheetNumbers", "LMosaicShop$Row;", true)
  | 5 => ("MosaicShop$Dealer", "headed", "LMosaicShop$Row;", true)
  | 6 => ("MosaicShop$Dealer", "trial", "LMosaicShop$Row;", true)
  | 7 => ("MosaicShop$Dealer", "best", "LMosaicShop$Row;", true)
  | _ => ("MosaicShop$Dealer", "sums", "LMosaicShop$Row;", true)
def tyX2 : Nat → FieldType := fun k => match k with
  | 0 => .int
  | 1 => .object "MosaicShop$Sheets"
  | 2 => .object "MosaicShop$Hands"
  | 3 => .int
  | 4 => .object "MosaicShop$Row"
  | 5 => .object "MosaicShop$Row"
  | 6 => .object "MosaicShop$Row"
  | 7 => .object "MosaicShop$Row"
  | _ => .object "MosaicShop$Row"
abbrev wsX20 : List Cond := u_ws RX2 TX2 9
theorem nmX2 : ∀ a, a < 9 → ∀ b, b < 9 → a ≠ b → (TX2 a).2.1 ≠ (TX2 b).2.1 := by decide +kernel
theorem tyX2_ok : ∀ k, k < 9 → parseFieldDescriptor (TX2 k).2.2.1 = some (tyX2 k) := by decide +kernel
abbrev cX2_init : ByteArray := prog_4_method_1_code
def yX2_init : MethodName := ⟨RX2, "<init>", "(LMosaicShop$Sheets;LMosaicShop$Hands;)V"⟩
abbrev cX2_dealSheets : ByteArray := prog_4_method_2_code
def yX2_dealSheets : MethodName := ⟨RX2, "dealSheets", "()Z"⟩
abbrev cX2_handOf : ByteArray := prog_4_method_3_code
def yX2_handOf : MethodName := ⟨RX2, "handOf", "(I)I"⟩
abbrev cX2_gather : ByteArray := prog_4_method_4_code
def yX2_gather : MethodName := ⟨RX2, "gather", "()Z"⟩
abbrev cX2_dealFrom : ByteArray := prog_4_method_5_code
def yX2_dealFrom : MethodName := ⟨RX2, "dealFrom", "(LMosaicShop$Dealer;II)V"⟩
def RX3 : String := "MosaicShop$Drawing"
def TX3 : u_T := fun k => match k with
  | 0 => ("MosaicShop$Drawing", "wide", "I", false)
  | 1 => ("MosaicShop$Drawing", "high", "I", false)
  | _ => ("MosaicShop$Drawing", "places", "LMosaicShop$Row;", true)
def tyX3 : Nat → FieldType := fun k => match k with
  | 0 => .int
  | 1 => .int
  | _ => .object "MosaicShop$Row"
abbrev wsX30 : List Cond := u_ws RX3 TX3 3
theorem nmX3 : ∀ a, a < 3 → ∀ b, b < 3 → a ≠ b → (TX3 a).2.1 ≠ (TX3 b).2.1 := by decide +kernel
theorem tyX3_ok : ∀ k, k < 3 → parseFieldDescriptor (TX3 k).2.2.1 = some (tyX3 k) := by decide +kernel
abbrev cX3_init : ByteArray := prog_5_method_1_code
def yX3_init : MethodName := ⟨RX3, "<init>", "()V"⟩
abbrev cX3_place : ByteArray := prog_5_method_2_code
def yX3_place : MethodName := ⟨RX3, "place", "(II)I"⟩
abbrev cX3_has : ByteArray := prog_5_method_3_code
def yX3_has : MethodName := ⟨RX3, "has", "(II)Z"⟩
abbrev cX3_fieldAt : ByteArray := prog_5_method_4_code
def yX3_fieldAt : MethodName := ⟨RX3, "fieldAt", "(II)I"⟩
abbrev cX3_begin : ByteArray := prog_5_method_5_code
def yX3_begin : MethodName := ⟨RX3, "begin", "(II)V"⟩
abbrev cX3_fill : ByteArray := prog_5_method_6_code
def yX3_fill : MethodName := ⟨RX3, "fill", "(IIIII)I"⟩
abbrev cX3_stripEnd : ByteArray := prog_5_method_7_code
def yX3_stripEnd : MethodName := ⟨RX3, "stripEnd", "(II)I"⟩
abbrev cX3_placesOf : ByteArray := prog_5_method_8_code
def yX3_placesOf : MethodName := ⟨RX3, "placesOf", "(I)I"⟩
abbrev cX3_placesOfAll : ByteArray := prog_5_method_9_code
def yX3_placesOfAll : MethodName := ⟨RX3, "placesOfAll", "(LMosaicShop$Row;)I"⟩
def RX4 : String := "MosaicShop$Fields"
def TX4 : u_T := fun k => match k with
  | 0 => ("MosaicShop$Fields", "colours", "LMosaicShop$Colours;", true)
  | 1 => ("MosaicShop$Fields", "longest", "LMosaicShop$Row;", true)
  | 2 => ("MosaicShop$Fields", "gold", "LMosaicShop$Row;", true)
  | _ => ("MosaicShop$Fields", "heads", "LMosaicShop$Row;", true)
def tyX4 : Nat → FieldType := fun k => match k with
  | 0 => .object "MosaicShop$Colours"
  | 1 => .object "MosaicShop$Row"
  | 2 => .object "MosaicShop$Row"
  | _ => .object "MosaicShop$Row"
abbrev wsX40 : List Cond := u_ws RX4 TX4 4
theorem nmX4 : ∀ a, a < 4 → ∀ b, b < 4 → a ≠ b → (TX4 a).2.1 ≠ (TX4 b).2.1 := by decide +kernel
theorem tyX4_ok : ∀ k, k < 4 → parseFieldDescriptor (TX4 k).2.2.1 = some (tyX4 k) := by decide +kernel
abbrev cX4_init : ByteArray := prog_6_method_1_code
def yX4_init : MethodName := ⟨RX4, "<init>", "()V"⟩
def RX5 : String := "MosaicShop$Hands"
def TX5 : u_T := fun k => match k with
  | 0 => ("MosaicShop$Hands", "many", "I", false)
  | 1 => ("MosaicShop$Hands", "skills", "LMosaicShop$Row;", true)
  | _ => ("MosaicShop$Hands", "masters", "LMosaicShop$Row;", true)
def tyX5 : Nat → FieldType := fun k => match k with
  | 0 => .int
  | 1 => .object "MosaicShop$Row"
  | _ => .object "MosaicShop$Row"
abbrev wsX50 : List Cond := u_ws RX5 TX5 3
theorem nmX5 : ∀ a, a < 3 → ∀ b, b < 3 → a ≠ b → (TX5 a).2.1 ≠ (TX5 b).2.1 := by decide +kernel
theorem tyX5_ok : ∀ k, k < 3 → parseFieldDescriptor (TX5 k).2.2.1 = some (tyX5 k) := by decide +kernel
abbrev cX5_init : ByteArray := prog_7_method_1_code
def yX5_init : MethodName := ⟨RX5, "<init>", "()V"⟩
abbrev cX5_hire : ByteArray := prog_7_method_2_code
def yX5_hire : MethodName := ⟨RX5, "hire", "(IZ)I"⟩
abbrev cX5_isMaster : ByteArray := prog_7_method_3_code
def yX5_isMaster : MethodName := ⟨RX5, "isMaster", "(I)Z"⟩
abbrev cX5_haveMaster : ByteArray := prog_7_method_4_code
def yX5_haveMaster : MethodName := ⟨RX5, "haveMaster", "()Z"⟩
abbrev cX5_daysFor : ByteArray := prog_7_method_5_code
def yX5_daysFor : MethodName := ⟨RX5, "daysFor", "(II)I"⟩
def RX6 : String := "MosaicShop$Layer"
def TX6 : u_T := fun k => match k with
  | 0 => ("MosaicShop$Layer", "drawing", "LMosaicShop$Drawing;", true)
  | 1 => ("MosaicShop$Layer", "fields", "LMosaicShop$Fields;", true)
  | 2 => ("MosaicShop$Layer", "cubes", "LMosaicShop$Cubes;", true)
  | 3 => ("MosaicShop$Layer", "jointsAhead", "LMosaicShop$Row;", true)
  | 4 => ("MosaicShop$Layer", "joints", "LMosaicShop$Row;", true)
  | _ => ("MosaicShop$Layer", "fewest", "LMosaicShop$Row;", true)
def tyX6 : Nat → FieldType := fun k => match k with
  | 0 => .object "MosaicShop$Drawing"
  | 1 => .object "MosaicShop$Fields"
  | 2 => .object "MosaicShop$Cubes"
  | 3 => .object "MosaicShop$Row"
  | 4 => .object "MosaicShop$Row"
  | _ => .object "MosaicShop$Row"
abbrev wsX60 : List Cond := u_ws RX6 TX6 6
theorem nmX6 : ∀ a, a < 6 → ∀ b, b < 6 → a ≠ b → (TX6 a).2.1 ≠ (TX6 b).2.1 := by decide +kernel
theorem tyX6_ok : ∀ k, k < 6 → parseFieldDescriptor (TX6 k).2.2.1 = some (tyX6 k) := by decide +kernel
abbrev cX6_init : ByteArray := prog_8_method_1_code
def yX6_init : MethodName := ⟨RX6, "<init>", "(LMosaicShop$Drawing;LMosaicShop$Fields;LMosaicShop$Cubes;)V"⟩
abbrev cX6_layRows : ByteArray := prog_8_method_2_code
def yX6_layRows : MethodName := ⟨RX6, "layRows", "()I"⟩
abbrev cX6_layStrip : ByteArray := prog_8_method_3_code
def yX6_layStrip : MethodName := ⟨RX6, "layStrip", "(III)Z"⟩
abbrev cX6_countFewest : ByteArray := prog_8_method_4_code
def yX6_countFewest : MethodName := ⟨RX6, "countFewest", "(III)V"⟩
abbrev cX6_widestOfFewest : ByteArray := prog_8_method_5_code
def yX6_widestOfFewest : MethodName := ⟨RX6, "widestOfFewest", "(III)I"⟩
abbrev cX6_mayEnd : ByteArray := prog_8_method_6_code
def yX6_mayEnd : MethodName := ⟨RX6, "mayEnd", "(II)Z"⟩
def RX7 : String := "MosaicShop$Lots"
def TX7 : u_T := fun k => match k with
  | 0 => ("MosaicShop$Lots", "many", "I", false)
  | 1 => ("MosaicShop$Lots", "stock", "LMosaicShop$Row;", true)
  | _ => ("MosaicShop$Lots", "colours", "LMosaicShop$Colours;", true)
def tyX7 : Nat → FieldType := fun k => match k with
  | 0 => .int
  | 1 => .object "MosaicShop$Row"
  | _ => .object "MosaicShop$Colours"
abbrev wsX70 : List Cond := u_ws RX7 TX7 3
theorem nmX7 : ∀ a, a < 3 → ∀ b, b < 3 → a ≠ b → (TX7 a).2.1 ≠ (TX7 b).2.1 := by decide +kernel
theorem tyX7_ok : ∀ k, k < 3 → parseFieldDescriptor (TX7 k).2.2.1 = some (tyX7 k) := by decide +kernel
abbrev cX7_init : ByteArray := prog_9_method_1_code
def yX7_init : MethodName := ⟨RX7, "<init>", "()V"⟩
abbrev cX7_has : ByteArray := prog_9_method_2_code
def yX7_has : MethodName := ⟨RX7, "has", "(I)Z"⟩
abbrev cX7_bring : ByteArray := prog_9_method_3_code
def yX7_bring : MethodName := ⟨RX7, "bring", "(IIII)I"⟩
abbrev cX7_nearest : ByteArray := prog_9_method_4_code
def yX7_nearest : MethodName := ⟨RX7, "nearest", "(LMosaicShop$Colours;II)I"⟩
abbrev cX7_leftInAll : ByteArray := prog_9_method_5_code
def yX7_leftInAll : MethodName := ⟨RX7, "leftInAll", "()I"⟩
def RX8 : String := "MosaicShop$Painter"
def TX8 : u_T := fun k => match k with
  | 0 => ("MosaicShop$Painter", "painted", "Z", false)
  | 1 => ("MosaicShop$Painter", "drawing", "LMosaicShop$Drawing;", true)
  | 2 => ("MosaicShop$Painter", "fields", "LMosaicShop$Fields;", true)
  | 3 => ("MosaicShop$Painter", "cubes", "LMosaicShop$Cubes;", true)
  | 4 => ("MosaicShop$Painter", "lots", "LMosaicShop$Lots;", true)
  | 5 => ("MosaicShop$Painter", "stockBefore", "LMosaicShop$Row;", true)
  | _ => ("MosaicShop$Painter", "lotsBefore", "LMosaicShop$Row;", true)
def tyX8 : Nat → FieldType := fun k => match k with
  | 0 => .boolean
  | 1 => .object "MosaicShop$Drawing"
  | 2 => .object "MosaicShop$Fields"
  | 3 => .object "MosaicShop$Cubes"
  | 4 => .object "MosaicShop$Lots"
  | 5 => .object "MosaicShop$Row"
  | _ => .object "MosaicShop$Row"
abbrev wsX80 : List Cond := u_ws RX8 TX8 7
theorem nmX8 : ∀ a, a < 7 → ∀ b, b < 7 → a ≠ b → (TX8 a).2.1 ≠ (TX8 b).2.1 := by decide +kernel
theorem tyX8_ok : ∀ k, k < 7 → parseFieldDescriptor (TX8 k).2.2.1 = some (tyX8 k) := by decide +kernel
abbrev cX8_init : ByteArray := prog_10_method_1_code
def yX8_init : MethodName := ⟨RX8, "<init>", "(LMosaicShop$Drawing;LMosaicShop$Fields;LMosaicShop$Cubes;LMosaicShop$Lots;)V"⟩
abbrev cX8_paintFields : ByteArray := prog_10_method_2_code
def yX8_paintFields : MethodName := ⟨RX8, "paintFields", "()V"⟩
abbrev cX8_paintField : ByteArray := prog_10_method_3_code
def yX8_paintField : MethodName := ⟨RX8, "paintField", "(II)V"⟩
abbrev cX8_nearestFor : ByteArray := prog_10_method_4_code
def yX8_nearestFor : MethodName := ⟨RX8, "nearestFor", "(I)I"⟩
abbrev cX8_give : ByteArray := prog_10_method_5_code
def yX8_give : MethodName := ⟨RX8, "give", "(II)V"⟩
abbrev cX8_bareCubes : ByteArray := prog_10_method_6_code
def yX8_bareCubes : MethodName := ⟨RX8, "bareCubes", "()I"⟩
abbrev cX8_giveBack : ByteArray := prog_10_method_7_code
def yX8_giveBack : MethodName := ⟨RX8, "giveBack", "()I"⟩
abbrev cX8_changesOf : ByteArray := prog_10_method_8_code
def yX8_changesOf : MethodName := ⟨RX8, "changesOf", "(I)I"⟩
abbrev cX8_makeAnew : ByteArray := prog_10_method_9_code
def yX8_makeAnew : MethodName := ⟨RX8, "makeAnew", "(I)I"⟩
def RX9 : String := "MosaicShop$Row"
def TX9 : u_T := fun k => match k with
  | _ => ("MosaicShop$Row", "cells", "[I", true)
def tyX9 : Nat → FieldType := fun k => match k with
  | _ => .array .int
abbrev wsX90 : List Cond := u_ws RX9 TX9 1
theorem nmX9 : ∀ a, a < 1 → ∀ b, b < 1 → a ≠ b → (TX9 a).2.1 ≠ (TX9 b).2.1 := by decide +kernel
theorem tyX9_ok : ∀ k, k < 1 → parseFieldDescriptor (TX9 k).2.2.1 = some (tyX9 k) := by decide +kernel
abbrev cX9_init : ByteArray := prog_11_method_1_code
def yX9_init : MethodName := ⟨RX9, "<init>", "(I)V"⟩
abbrev cX9_get : ByteArray := prog_11_method_2_code
def yX9_get : MethodName := ⟨RX9, "get", "(I)I"⟩
abbrev cX9_set : ByteArray := prog_11_method_3_code
def yX9_set : MethodName := ⟨RX9, "set", "(II)V"⟩
abbrev cX9_add : ByteArray := prog_11_method_4_code
def yX9_add : MethodName := ⟨RX9, "add", "(II)V"⟩
abbrev cX9_fill : ByteArray := prog_11_method_5_code
def yX9_fill : MethodName := ⟨RX9, "fill", "(I)V"⟩
abbrev cX9_copyFrom : ByteArray := prog_11_method_6_code
def yX9_copyFrom : MethodName := ⟨RX9, "copyFrom", "(LMosaicShop$Row;)V"⟩
def RX10 : String := "MosaicShop$Sheets"
def TX10 : u_T := fun k => match k with
  | 0 => ("MosaicShop$Sheets", "many", "I", false)
  | 1 => ("MosaicShop$Sheets", "weights", "LMosaicShop$Row;", true)
  | 2 => ("MosaicShop$Sheets", "drawing", "LMosaicShop$Drawing;", true)
  | 3 => ("MosaicShop$Sheets", "fields", "LMosaicShop$Fields;", true)
  | _ => ("MosaicShop$Sheets", "cubes", "LMosaicShop$Cubes;", true)
def tyX10 : Nat → FieldType := fun k => match k with
  | 0 => .int
  | 1 => .object "MosaicShop$Row"
  | 2 => .object "MosaicShop$Drawing"
  | 3 => .object "MosaicShop$Fields"
  | _ => .object "MosaicShop$Cubes"
abbrev wsX100 : List Cond := u_ws RX10 TX10 5
theorem nmX10 : ∀ a, a < 5 → ∀ b, b < 5 → a ≠ b → (TX10 a).2.1 ≠ (TX10 b).2.1 := by decide +kernel
theorem tyX10_ok : ∀ k, k < 5 → parseFieldDescriptor (TX10 k).2.2.1 = some (tyX10 k) := by decide +kernel
abbrev cX10_init : ByteArray := prog_12_method_1_code
def yX10_init : MethodName := ⟨RX10, "<init>", "(LMosaicShop$Drawing;LMosaicShop$Fields;LMosaicShop$Cubes;)V"⟩
abbrev cX10_cutWall : ByteArray := prog_12_method_2_code
def yX10_cutWall : MethodName := ⟨RX10, "cutWall", "(II)V"⟩
abbrev cX10_cutsLeftOf : ByteArray := prog_12_method_3_code
def yX10_cutsLeftOf : MethodName := ⟨RX10, "cutsLeftOf", "(II)I"⟩
abbrev cX10_cutNear : ByteArray := prog_12_method_4_code
def yX10_cutNear : MethodName := ⟨RX10, "cutNear", "(II)I"⟩
abbrev cX10_isBorder : ByteArray := prog_12_method_5_code
def yX10_isBorder : MethodName := ⟨RX10, "isBorder", "(II)Z"⟩
abbrev cX10_turnOver : ByteArray := prog_12_method_6_code
def yX10_turnOver : MethodName := ⟨RX10, "turnOver", "()V"⟩
abbrev cX10_tell : ByteArray := prog_12_method_7_code
def yX10_tell : MethodName := ⟨RX10, "tell", "(II)I"⟩
abbrev cX10_cubesOn : ByteArray := prog_12_method_8_code
def yX10_cubesOn : MethodName := ⟨RX10, "cubesOn", "(I)I"⟩
abbrev cX10_placesMarked : ByteArray := prog_12_method_9_code
def yX10_placesMarked : MethodName := ⟨RX10, "placesMarked", "(ILMosaicShop$Row;)I"⟩
abbrev cX10_hasHead : ByteArray := prog_12_method_10_code
def yX10_hasHead : MethodName := ⟨RX10, "hasHead", "(I)Z"⟩
abbrev cX10_leftEdge : ByteArray := prog_12_method_11_code
def yX10_leftEdge : MethodName := ⟨RX10, "leftEdge", "(I)I"⟩
abbrev cX10_rightEdge : ByteArray := prog_12_method_12_code
def yX10_rightEdge : MethodName := ⟨RX10, "rightEdge", "(I)I"⟩
abbrev cX10_latestCrate : ByteArray := prog_12_method_13_code
def yX10_latestCrate : MethodName := ⟨RX10, "latestCrate", "(II)I"⟩
def RX11 : String := "MosaicShop"
def TX11 : u_T := fun k => match k with
  | 0 => ("MosaicShop", "drawing", "LMosaicShop$Drawing;", true)
  | 1 => ("MosaicShop", "fields", "LMosaicShop$Fields;", true)
  | 2 => ("MosaicShop", "cubes", "LMosaicShop$Cubes;", true)
  | 3 => ("MosaicShop", "layer", "LMosaicShop$Layer;", true)
  | 4 => ("MosaicShop", "lots", "LMosaicShop$Lots;", true)
  | 5 => ("MosaicShop", "painter", "LMosaicShop$Painter;", true)
  | 6 => ("MosaicShop", "sheets", "LMosaicShop$Sheets;", true)
  | 7 => ("MosaicShop", "hands", "LMosaicShop$Hands;", true)
  | _ => ("MosaicShop", "dealer", "LMosaicShop$Dealer;", true)
def tyX11 : Nat → FieldType := fun k => match k with
  | 0 => .object "MosaicShop$Drawing"
  | 1 => .object "MosaicShop$Fields"
  | 2 => .object "MosaicShop$Cubes"
  | 3 => .object "MosaicShop$Layer"
  | 4 => .object "MosaicShop$Lots"
  | 5 => .object "MosaicShop$Painter"
  | 6 => .object "MosaicShop$Sheets"
  | 7 => .object "MosaicShop$Hands"
  | _ => .object "MosaicShop$Dealer"
abbrev wsX110 : List Cond := u_ws RX11 TX11 9
theorem nmX11 : ∀ a, a < 9 → ∀ b, b < 9 → a ≠ b → (TX11 a).2.1 ≠ (TX11 b).2.1 := by decide +kernel
theorem tyX11_ok : ∀ k, k < 9 → parseFieldDescriptor (TX11 k).2.2.1 = some (tyX11 k) := by decide +kernel
abbrev cX11_init : ByteArray := prog_1_method_1_code
def yX11_init : MethodName := ⟨RX11, "<init>", "()V"⟩
abbrev cX11_wall : ByteArray := prog_1_method_2_code
def yX11_wall : MethodName := ⟨RX11, "wall", "(II)I"⟩
abbrev cX11_draw : ByteArray := prog_1_method_3_code
def yX11_draw : MethodName := ⟨RX11, "draw", "(IIIII)I"⟩
abbrev cX11_field : ByteArray := prog_1_method_4_code
def yX11_field : MethodName := ⟨RX11, "field", "(II)I"⟩
abbrev cX11_colour : ByteArray := prog_1_method_5_code
def yX11_colour : MethodName := ⟨RX11, "colour", "(IIII)I"⟩
abbrev cX11_mark : ByteArray := prog_1_method_6_code
def yX11_mark : MethodName := ⟨RX11, "mark", "(IIZZ)I"⟩
abbrev cX11_lay : ByteArray := prog_1_method_7_code
def yX11_lay : MethodName := ⟨RX11, "lay", "()I"⟩
abbrev cX11_at : ByteArray := prog_1_method_8_code
def yX11_at : MethodName := ⟨RX11, "at", "(II)I"⟩
abbrev cX11_cube : ByteArray := prog_1_method_9_code
def yX11_cube : MethodName := ⟨RX11, "cube", "(II)I"⟩
abbrev cX11_lot : ByteArray := prog_1_method_10_code
def yX11_lot : MethodName := ⟨RX11, "lot", "(IIII)I"⟩
abbrev cX11_left : ByteArray := prog_1_method_11_code
def yX11_left : MethodName := ⟨RX11, "left", "(I)I"⟩
abbrev cX11_more : ByteArray := prog_1_method_12_code
def yX11_more : MethodName := ⟨RX11, "more", "(II)I"⟩
abbrev cX11_paint : ByteArray := prog_1_method_13_code
def yX11_paint : MethodName := ⟨RX11, "paint", "()I"⟩
abbrev cX11_scrape : ByteArray := prog_1_method_14_code
def yX11_scrape : MethodName := ⟨RX11, "scrape", "()I"⟩
abbrev cX11_changes : ByteArray := prog_1_method_15_code
def yX11_changes : MethodName := ⟨RX11, "changes", "(I)I"⟩
abbrev cX11_cut : ByteArray := prog_1_method_16_code
def yX11_cut : MethodName := ⟨RX11, "cut", "(II)I"⟩
abbrev cX11_sheet : ByteArray := prog_1_method_17_code
def yX11_sheet : MethodName := ⟨RX11, "sheet", "(II)I"⟩
abbrev cX11_broken : ByteArray := prog_1_method_18_code
def yX11_broken : MethodName := ⟨RX11, "broken", "(I)I"⟩
abbrev cX11_crates : ByteArray := prog_1_method_19_code
def yX11_crates : MethodName := ⟨RX11, "crates", "(I)I"⟩
abbrev cX11_crate : ByteArray := prog_1_method_20_code
def yX11_crate : MethodName := ⟨RX11, "crate", "(II)I"⟩
abbrev cX11_hand : ByteArray := prog_1_method_21_code
def yX11_hand : MethodName := ⟨RX11, "hand", "(IZ)I"⟩
abbrev cX11_days : ByteArray := prog_1_method_22_code
def yX11_days : MethodName := ⟨RX11, "days", "()I"⟩
abbrev cX11_dealt : ByteArray := prog_1_method_23_code
def yX11_dealt : MethodName := ⟨RX11, "dealt", "(I)I"⟩
abbrev cX11_count : ByteArray := prog_1_method_24_code
def yX11_count : MethodName := ⟨RX11, "count", "(I)I"⟩
abbrev cX11_digest : ByteArray := prog_1_method_25_code
def yX11_digest : MethodName := ⟨RX11, "digest", "()J"⟩
abbrev cX11_isLaid : ByteArray := prog_1_method_26_code
def yX11_isLaid : MethodName := ⟨RX11, "isLaid", "()Z"⟩
abbrev cX11_isCut : ByteArray := prog_1_method_27_code
def yX11_isCut : MethodName := ⟨RX11, "isCut", "()Z"⟩
abbrev cX11_takeDown : ByteArray := prog_1_method_28_code
def yX11_takeDown : MethodName := ⟨RX11, "takeDown", "()V"⟩
abbrev cX11_maySheet : ByteArray := prog_1_method_29_code
def yX11_maySheet : MethodName := ⟨RX11, "maySheet", "(I)Z"⟩
abbrev cX11_isField : ByteArray := prog_1_method_30_code
def yX11_isField : MethodName := ⟨RX11, "isField", "(I)Z"⟩
abbrev cX11_isColour : ByteArray := prog_1_method_31_code
def yX11_isColour : MethodName := ⟨RX11, "isColour", "(III)Z"⟩
abbrev cX11_within : ByteArray := prog_1_method_32_code
def yX11_within : MethodName := ⟨RX11, "within", "(III)Z"⟩
abbrev cX11_roundedUp : ByteArray := prog_1_method_33_code
def yX11_roundedUp : MethodName := ⟨RX11, "roundedUp", "(II)I"⟩
def RX12 : String := "MosaicShopModel"
def TX12 : u_T := fun k => match k with
  | 0 => ("MosaicShopModel", "wide", "I", false)
  | 1 => ("MosaicShopModel", "high", "I", false)
  | 2 => ("MosaicShopModel", "fields", "[I", true)
  | 3 => ("MosaicShopModel", "colours", "[I", true)
  | 4 => ("MosaicShopModel", "shorter", "[I", true)
  | 5 => ("MosaicShopModel", "gold", "[Z", true)
  | 6 => ("MosaicShopModel", "face", "[Z", true)
  | 7 => ("MosaicShopModel", "laid", "Z", false)
  | 8 => ("MosaicShopModel", "painted", "Z", false)
  | 9 => ("MosaicShopModel", "isCut", "Z", false)
  | 10 => ("MosaicShopModel", "cubes", "I", false)
  | 11 => ("MosaicShopModel", "cubeRow", "[I", true)
  | 12 => ("MosaicShopModel", "cubeLeft", "[I", true)
  | 13 => ("MosaicShopModel", "cubeSize", "[I", true)
  | 14 => ("MosaicShopModel", "cubeField", "[I", true)
  | 15 => ("MosaicShopModel", "cubeLot", "[I", true)
  | 16 => ("MosaicShopModel", "cubeSheet", "[I", true)
  | 17 => ("MosaicShopModel", "sheets", "I", false)
  | 18 => ("MosaicShopModel", "lots", "I", false)
  | 19 => ("MosaicShopModel", "lotColours", "[I", true)
  | 20 => ("MosaicShopModel", "lotLeft", "[I", true)
  | 21 => ("MosaicShopModel", "hands", "I", false)
  | 22 => ("MosaicShopModel", "skills", "[I", true)
  | 23 => ("MosaicShopModel", "masters", "[Z", true)
  | 24 => ("MosaicShopModel", "jointAhead", "[Z", true)
  | 25 => ("MosaicShopModel", "jointHere", "[Z", true)
  | 26 => ("MosaicShopModel", "fewest", "[I", true)
  | 27 => ("MosaicShopModel", "first", "[I", true)
  | 28 => ("MosaicShopModel", "wouldLeft", "[I", true)
  | 29 => ("MosaicShopModel", "wouldLot", "[I", true)
  | 30 => ("MosaicShopModel", "heavy", "[I", true)
  | 31 => ("MosaicShopModel", "heavyMany", "I", false)
  | 32 => ("MosaicShopModel", "dealt", "[I", true)
  | 33 => ("MosaicShopModel", "least", "I", false)
  | 34 => ("MosaicShopModel", "weights", "[I", true)
  | 35 => ("MosaicShopModel", "onlyMasters", "[Z", true)
  | _ => ("MosaicShopModel", "sums", "[I", true)
def tyX12 : Nat → FieldType := fun k => match k with
  | 0 => .int
  | 1 => .int
  | 2 => .array .int
  | 3 => .array .int
  | 4 => .array .int
  | 5 => .array .boolean
  | 6 => .array .boolean
  | 7 => .boolean
  | 8 => .boolean
  | 9 => .boolean
  | 10 => .int
  | 11 => .array .int
  | 12 => .array .int
  | 13 => .array .int
  | 14 => .array .int
  | 15 => .array .int
  | 16 => .array .int
  | 17 => .int
  | 18 => .int
  | 19 => .array .int
  | 20 => .array .int
  | 21 => .int
  | 22 => .array .int
  | 23 => .array .boolean
  | 24 => .array .boolean
  | 25 => .array .boolean
  | 26 => .array .int
  | 27 => .array .int
  | 28 => .array .int
  | 29 => .array .int
  | 30 => .array .int
  | 31 => .int
  | 32 => .array .int
  | 33 => .int
  | 34 => .array .int
  | 35 => .array .boolean
  | _ => .array .int
abbrev wsX120 : List Cond := u_ws RX12 TX12 37
theorem nmX12 : ∀ a, a < 37 → ∀ b, b < 37 → a ≠ b → (TX12 a).2.1 ≠ (TX12 b).2.1 := by decide +kernel
theorem tyX12_ok : ∀ k, k < 37 → parseFieldDescriptor (TX12 k).2.2.1 = some (tyX12 k) := by decide +kernel
abbrev cX12_init : ByteArray := prog_14_method_1_code
def yX12_init : MethodName := ⟨RX12, "<init>", "()V"⟩
abbrev cX12_in : ByteArray := prog_14_method_3_code
def yX12_in : MethodName := ⟨RX12, "in", "(III)Z"⟩
abbrev cX12_goes : ByteArray := prog_14_method_4_code
def yX12_goes : MethodName := ⟨RX12, "goes", "()V"⟩
abbrev cX12_wall : ByteArray := prog_14_method_5_code
def yX12_wall : MethodName := ⟨RX12, "wall", "(II)I"⟩
abbrev cX12_draw : ByteArray := prog_14_method_6_code
def yX12_draw : MethodName := ⟨RX12, "draw", "(IIIII)I"⟩
abbrev cX12_isPlace : ByteArray := prog_14_method_7_code
def yX12_isPlace : MethodName := ⟨RX12, "isPlace", "(II)Z"⟩
abbrev cX12_field : ByteArray := prog_14_method_8_code
def yX12_field : MethodName := ⟨RX12, "field", "(II)I"⟩
abbrev cX12_isColour : ByteArray := prog_14_method_9_code
def yX12_isColour : MethodName := ⟨RX12, "isColour", "(III)Z"⟩
abbrev cX12_colour : ByteArray := prog_14_method_10_code
def yX12_colour : MethodName := ⟨RX12, "colour", "(IIII)I"⟩
abbrev cX12_mark : ByteArray := prog_14_method_11_code
def yX12_mark : MethodName := ⟨RX12, "mark", "(IIZZ)I"⟩
abbrev cX12_strip : ByteArray := prog_14_method_12_code
def yX12_strip : MethodName := ⟨RX12, "strip", "(III)Z"⟩
abbrev cX12_lay : ByteArray := prog_14_method_13_code
def yX12_lay : MethodName := ⟨RX12, "lay", "()I"⟩
abbrev cX12_at : ByteArray := prog_14_method_14_code
def yX12_at : MethodName := ⟨RX12, "at", "(II)I"⟩
abbrev cX12_faceDown : ByteArray := prog_14_method_15_code
def yX12_faceDown : MethodName := ⟨RX12, "faceDown", "(I)I"⟩
abbrev cX12_cube : ByteArray := prog_14_method_16_code
def yX12_cube : MethodName := ⟨RX12, "cube", "(II)I"⟩
abbrev cX12_lot : ByteArray := prog_14_method_17_code
def yX12_lot : MethodName := ⟨RX12, "lot", "(IIII)I"⟩
abbrev cX12_left : ByteArray := prog_14_method_18_code
def yX12_left : MethodName := ⟨RX12, "left", "(I)I"⟩
abbrev cX12_more : ByteArray := prog_14_method_19_code
def yX12_more : MethodName := ⟨RX12, "more", "(II)I"⟩
abbrev cX12_nearest : ByteArray := prog_14_method_20_code
def yX12_nearest : MethodName := ⟨RX12, "nearest", "(II[I)I"⟩
abbrev cX12_bare : ByteArray := prog_14_method_21_code
def yX12_bare : MethodName := ⟨RX12, "bare", "()I"⟩
abbrev cX12_paint : ByteArray := prog_14_method_22_code
def yX12_paint : MethodName := ⟨RX12, "paint", "()I"⟩
abbrev cX12_scrape : ByteArray := prog_14_method_23_code
def yX12_scrape : MethodName := ⟨RX12, "scrape", "()I"⟩
abbrev cX12_changes : ByteArray := prog_14_method_24_code
def yX12_changes : MethodName := ⟨RX12, "changes", "(I)I"⟩
abbrev cX12_nearestBorder : ByteArray := prog_14_method_25_code
def yX12_nearestBorder : MethodName := ⟨RX12, "nearestBorder", "(II)I"⟩
abbrev cX12_cut : ByteArray := prog_14_method_26_code
def yX12_cut : MethodName := ⟨RX12, "cut", "(II)I"⟩
abbrev cX12_noSheet : ByteArray := prog_14_method_27_code
def yX12_noSheet : MethodName := ⟨RX12, "noSheet", "(I)I"⟩
abbrev cX12_sumOf : ByteArray := prog_14_method_28_code
def yX12_sumOf : MethodName := ⟨RX12, "sumOf", "(IZ)I"⟩
abbrev cX12_hasFace : ByteArray := prog_14_method_29_code
def yX12_hasFace : MethodName := ⟨RX12, "hasFace", "(I)Z"⟩
abbrev cX12_sheet : ByteArray := prog_14_method_30_code
def yX12_sheet : MethodName := ⟨RX12, "sheet", "(II)I"⟩
abbrev cX12_broken : ByteArray := prog_14_method_31_code
def yX12_broken : MethodName := ⟨RX12, "broken", "(I)I"⟩
abbrev cX12_cratesTo : ByteArray := prog_14_method_32_code
def yX12_cratesTo : MethodName := ⟨RX12, "cratesTo", "(II)I"⟩
abbrev cX12_crates : ByteArray := prog_14_method_33_code
def yX12_crates : MethodName := ⟨RX12, "crates", "(I)I"⟩
abbrev cX12_crate : ByteArray := prog_14_method_34_code
def yX12_crate : MethodName := ⟨RX12, "crate", "(II)I"⟩
abbrev cX12_hand : ByteArray := prog_14_method_35_code
def yX12_hand : MethodName := ⟨RX12, "hand", "(IZ)I"⟩
abbrev cX12_deal : ByteArray := prog_14_method_36_code
def yX12_deal : MethodName := ⟨RX12, "deal", "()Z"⟩
abbrev cX12_greatestOf : ByteArray := prog_14_method_37_code
def yX12_greatestOf : MethodName := ⟨RX12, "greatestOf", "(II)I"⟩
abbrev cX12_days : ByteArray := prog_14_method_38_code
def yX12_days : MethodName := ⟨RX12, "days", "()I"⟩
abbrev cX12_dealt : ByteArray := prog_14_method_39_code
def yX12_dealt : MethodName := ⟨RX12, "dealt", "(I)I"⟩
abbrev cX12_count : ByteArray := prog_14_method_40_code
def yX12_count : MethodName := ⟨RX12, "count", "(I)I"⟩
abbrev cX12_digest : ByteArray := prog_14_method_41_code
def yX12_digest : MethodName := ⟨RX12, "digest", "()J"⟩
def RJ9 : String := "java/lang/Math"
def TJ9 : u_T := fun k => match k with
  | _ => ("", "", "", false)
def tyJ9 : Nat → FieldType := fun k => match k with
  | _ => .int
abbrev wsJ90 : List Cond := u_ws RJ9 TJ9 0
theorem nmJ9 : ∀ a, a < 0 → ∀ b, b < 0 → a ≠ b → (TJ9 a).2.1 ≠ (TJ9 b).2.1 := by decide +kernel
theorem tyJ9_ok : ∀ k, k < 0 → parseFieldDescriptor (TJ9 k).2.2.1 = some (tyJ9 k) := by decide +kernel
abbrev cJ9_max_7cf53 : ByteArray := prog_15_method_65_code
def yJ9_max_7cf53 : MethodName := ⟨RJ9, "max", "(II)I"⟩
abbrev cJ9_min_7cf53 : ByteArray := prog_15_method_69_code
def yJ9_min_7cf53 : MethodName := ⟨RJ9, "min", "(II)I"⟩
def RL : String := "MosaicShopLaw"
abbrev cL_law : ByteArray := code
def yL_law : MethodName := ⟨RL, "law", "([I)Z"⟩
abbrev vwCl : List vw_C := [(RX0, TX0, 3), (RX1, TX1, 9), (RX2, TX2, 9), (RX3, TX3, 3), (RX4, TX4, 4), (RX5, TX5, 3), (RX6, TX6, 6), (RX7, TX7, 3), (RX8, TX8, 7), (RX9, TX9, 1), (RX10, TX10, 5), (RX11, TX11, 9), (RX12, TX12, 37)]
