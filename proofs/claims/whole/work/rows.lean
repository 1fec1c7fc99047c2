section
-- ===== PART A: goes FIRST, ahead of the names: the tables' words, and 'selects' of the private methods out of them =====
/-- a private method of a class that the tables say can be made, by its rows of tables_1 -/
def lw_okq (q : MethodName × Nat) : Prop := (q.1.cls ≠ "java/lang/invoke/MethodHandle" ∧ q.1.cls ≠ "java/lang/invoke/VarHandle") ∧ Cond.instantiable q.1.cls q.2 ∈ tables_1 ∧ Cond.privateMethod q.1 ∈ tables_1 ∧ Cond.instanceMethod q.1 ∈ tables_1
theorem lw_p0 : lw_okq (⟨"GapPieces$Paths", "survey", "(II)V"⟩, 9) := ⟨⟨by decide +kernel, by decide +kernel⟩, List.mem_of_getElem? (i := 50) (by decide +kernel), List.mem_of_getElem? (i := 250) (by decide +kernel), List.mem_of_getElem? (i := 251) (by decide +kernel)⟩
theorem lw_p1 : lw_okq (⟨"GapPieces$Paths", "markClear", "(I[I)V"⟩, 9) := ⟨⟨by decide +kernel, by decide +kernel⟩, List.mem_of_getElem? (i := 50) (by decide +kernel), List.mem_of_getElem? (i := 260) (by decide +kernel), List.mem_of_getElem? (i := 261) (by decide +kernel)⟩
theorem lw_p2 : lw_okq (⟨"GapPieces$Paths", "whereLies", "(I)I"⟩, 9) := ⟨⟨by decide +kernel, by decide +kernel⟩, List.mem_of_getElem? (i := 50) (by decide +kernel), List.mem_of_getElem? (i := 274) (by decide +kernel), List.mem_of_getElem? (i := 275) (by decide +kernel)⟩
theorem lw_p3 : lw_okq (⟨"GapPieces$Paths", "reach", "(II)V"⟩, 9) := ⟨⟨by decide +kernel, by decide +kernel⟩, List.mem_of_getElem? (i := 50) (by decide +kernel), List.mem_of_getElem? (i := 344) (by decide +kernel), List.mem_of_getElem? (i := 345) (by decide +kernel)⟩
theorem lw_p4 : lw_okq (⟨"GapPieces$Paths", "distanceOf", "(I)I"⟩, 9) := ⟨⟨by decide +kernel, by decide +kernel⟩, List.mem_of_getElem? (i := 50) (by decide +kernel), List.mem_of_getElem? (i := 348) (by decide +kernel), List.mem_of_getElem? (i := 349) (by decide +kernel)⟩
theorem lw_p5 : lw_okq (⟨"GapPieces$Paths", "spreadFrom", "(I)V"⟩, 9) := ⟨⟨by decide +kernel, by decide +kernel⟩, List.mem_of_getElem? (i := 50) (by decide +kernel), List.mem_of_getElem? (i := 352) (by decide +kernel), List.mem_of_getElem? (i := 353) (by decide +kernel)⟩
theorem lw_p6 : lw_okq (⟨"GapPieces$Paths", "keepSteps", "(II)V"⟩, 9) := ⟨⟨by decide +kernel, by decide +kernel⟩, List.mem_of_getElem? (i := 50) (by decide +kernel), List.mem_of_getElem? (i := 356) (by decide +kernel), List.mem_of_getElem? (i := 357) (by decide +kernel)⟩
theorem lw_p7 : lw_okq (⟨"GapPieces$Paths", "directionTo", "(II)I"⟩, 9) := ⟨⟨by decide +kernel, by decide +kernel⟩, List.mem_of_getElem? (i := 50) (by decide +kernel), List.mem_of_getElem? (i := 360) (by decide +kernel), List.mem_of_getElem? (i := 361) (by decide +kernel)⟩
theorem lw_p8 : lw_okq (⟨"GapPieces$Table", "piecesOn", "(II)I"⟩, 8) := ⟨⟨by decide +kernel, by decide +kernel⟩, List.mem_of_getElem? (i := 18) (by decide +kernel), List.mem_of_getElem? (i := 415) (by decide +kernel), List.mem_of_getElem? (i := 416) (by decide +kernel)⟩
theorem lw_p9 : lw_okq (⟨"GapPieces$Heap", "lowestToGo", "(I)I"⟩, 5) := ⟨⟨by decide +kernel, by decide +kernel⟩, List.mem_of_getElem? (i := 84) (by decide +kernel), List.mem_of_getElem? (i := 432) (by decide +kernel), List.mem_of_getElem? (i := 433) (by decide +kernel)⟩
theorem lw_p10 : lw_okq (⟨"GapPieces$Filler", "empty", "(I)V"⟩, 6) := ⟨⟨by decide +kernel, by decide +kernel⟩, List.mem_of_getElem? (i := 106) (by decide +kernel), List.mem_of_getElem? (i := 485) (by decide +kernel), List.mem_of_getElem? (i := 486) (by decide +kernel)⟩
theorem lw_p11 : lw_okq (⟨"GapPieces$Filler", "spotFor", "(I)I"⟩, 6) := ⟨⟨by decide +kernel, by decide +kernel⟩, List.mem_of_getElem? (i := 106) (by decide +kernel), List.mem_of_getElem? (i := 490) (by decide +kernel), List.mem_of_getElem? (i := 491) (by decide +kernel)⟩
theorem lw_p12 : lw_okq (⟨"GapPieces$Filler", "isClear", "(III)Z"⟩, 6) := ⟨⟨by decide +kernel, by decide +kernel⟩, List.mem_of_getElem? (i := 106) (by decide +kernel), List.mem_of_getElem? (i := 494) (by decide +kernel), List.mem_of_getElem? (i := 495) (by decide +kernel)⟩
theorem lw_p13 : lw_okq (⟨"GapPieces$Filler", "toggle", "(II)V"⟩, 6) := ⟨⟨by decide +kernel, by decide +kernel⟩, List.mem_of_getElem? (i := 106) (by decide +kernel), List.mem_of_getElem? (i := 499) (by decide +kernel), List.mem_of_getElem? (i := 500) (by decide +kernel)⟩
theorem lw_p14 : lw_okq (⟨"GapPiecesModel", "has", "(IIIII)Z"⟩, 17) := ⟨⟨by decide +kernel, by decide +kernel⟩, List.mem_of_getElem? (i := 543) (by decide +kernel), List.mem_of_getElem? (i := 613) (by decide +kernel), List.mem_of_getElem? (i := 614) (by decide +kernel)⟩
theorem lw_p15 : lw_okq (⟨"GapPiecesModel", "isPiece", "(I)Z"⟩, 17) := ⟨⟨by decide +kernel, by decide +kernel⟩, List.mem_of_getElem? (i := 543) (by decide +kernel), List.mem_of_getElem? (i := 627) (by decide +kernel), List.mem_of_getElem? (i := 628) (by decide +kernel)⟩
def lw_privs_1 : List (MethodName × Nat) := [(⟨"GapPieces$Paths", "survey", "(II)V"⟩, 9), (⟨"GapPieces$Paths", "markClear", "(I[I)V"⟩, 9), (⟨"GapPieces$Paths", "whereLies", "(I)I"⟩, 9), (⟨"GapPieces$Paths", "reach", "(II)V"⟩, 9), (⟨"GapPieces$Paths", "distanceOf", "(I)I"⟩, 9), (⟨"GapPieces$Paths", "spreadFrom", "(I)V"⟩, 9), (⟨"GapPieces$Paths", "keepSteps", "(II)V"⟩, 9), (⟨"GapPieces$Paths", "directionTo", "(II)I"⟩, 9), (⟨"GapPieces$Table", "piecesOn", "(II)I"⟩, 8), (⟨"GapPieces$Heap", "lowestToGo", "(I)I"⟩, 5), (⟨"GapPieces$Filler", "empty", "(I)V"⟩, 6), (⟨"GapPieces$Filler", "spotFor", "(I)I"⟩, 6), (⟨"GapPieces$Filler", "isClear", "(III)Z"⟩, 6), (⟨"GapPieces$Filler", "toggle", "(II)V"⟩, 6), (⟨"GapPiecesModel", "has", "(IIIII)Z"⟩, 17), (⟨"GapPiecesModel", "isPiece", "(I)Z"⟩, 17)]
theorem lw_r1 : ∀ q ∈ lw_privs_1, lw_okq q := List.forall_mem_cons.mpr ⟨lw_p0, List.forall_mem_cons.mpr ⟨lw_p1, List.forall_mem_cons.mpr ⟨lw_p2, List.forall_mem_cons.mpr ⟨lw_p3, List.forall_mem_cons.mpr ⟨lw_p4, List.forall_mem_cons.mpr ⟨lw_p5, List.forall_mem_cons.mpr ⟨lw_p6, List.forall_mem_cons.mpr ⟨lw_p7, List.forall_mem_cons.mpr ⟨lw_p8, List.forall_mem_cons.mpr ⟨lw_p9, List.forall_mem_cons.mpr ⟨lw_p10, List.forall_mem_cons.mpr ⟨lw_p11, List.forall_mem_cons.mpr ⟨lw_p12, List.forall_mem_cons.mpr ⟨lw_p13, List.forall_mem_cons.mpr ⟨lw_p14, List.forall_mem_cons.mpr ⟨lw_p15, fun _ h => absurd h List.not_mem_nil⟩⟩⟩⟩⟩⟩⟩⟩⟩⟩⟩⟩⟩⟩⟩⟩
theorem lw_p16 : lw_okq (⟨"GapPiecesModel", "onBoard", "(III)I"⟩, 17) := ⟨⟨by decide +kernel, by decide +kernel⟩, List.mem_of_getElem? (i := 543) (by decide +kernel), List.mem_of_getElem? (i := 634) (by decide +kernel), List.mem_of_getElem? (i := 635) (by decide +kernel)⟩
theorem lw_p17 : lw_okq (⟨"GapPiecesModel", "isOnBoard", "(II)Z"⟩, 17) := ⟨⟨by decide +kernel, by decide +kernel⟩, List.mem_of_getElem? (i := 543) (by decide +kernel), List.mem_of_getElem? (i := 638) (by decide +kernel), List.mem_of_getElem? (i := 639) (by decide +kernel)⟩
theorem lw_p18 : lw_okq (⟨"GapPiecesModel", "stand", "(III)Z"⟩, 17) := ⟨⟨by decide +kernel, by decide +kernel⟩, List.mem_of_getElem? (i := 543) (by decide +kernel), List.mem_of_getElem? (i := 649) (by decide +kernel), List.mem_of_getElem? (i := 650) (by decide +kernel)⟩
theorem lw_p19 : lw_okq (⟨"GapPiecesModel", "lays", "(I)V"⟩, 17) := ⟨⟨by decide +kernel, by decide +kernel⟩, List.mem_of_getElem? (i := 543) (by decide +kernel), List.mem_of_getElem? (i := 675) (by decide +kernel), List.mem_of_getElem? (i := 676) (by decide +kernel)⟩
theorem lw_p20 : lw_okq (⟨"GapPiecesModel", "spreads", "(I)V"⟩, 17) := ⟨⟨by decide +kernel, by decide +kernel⟩, List.mem_of_getElem? (i := 543) (by decide +kernel), List.mem_of_getElem? (i := 682) (by decide +kernel), List.mem_of_getElem? (i := 683) (by decide +kernel)⟩
theorem lw_p21 : lw_okq (⟨"GapPiecesModel", "outOf", "(I)I"⟩, 17) := ⟨⟨by decide +kernel, by decide +kernel⟩, List.mem_of_getElem? (i := 543) (by decide +kernel), List.mem_of_getElem? (i := 694) (by decide +kernel), List.mem_of_getElem? (i := 695) (by decide +kernel)⟩
theorem lw_p22 : lw_okq (⟨"GapPiecesModel", "lying", "()I"⟩, 17) := ⟨⟨by decide +kernel, by decide +kernel⟩, List.mem_of_getElem? (i := 543) (by decide +kernel), List.mem_of_getElem? (i := 706) (by decide +kernel), List.mem_of_getElem? (i := 707) (by decide +kernel)⟩
theorem lw_p23 : lw_okq (⟨"GapPiecesModel", "blockers", "(III)I"⟩, 17) := ⟨⟨by decide +kernel, by decide +kernel⟩, List.mem_of_getElem? (i := 543) (by decide +kernel), List.mem_of_getElem? (i := 710) (by decide +kernel), List.mem_of_getElem? (i := 711) (by decide +kernel)⟩
theorem lw_p24 : lw_okq (⟨"GapPiecesModel", "blocks0", "(III)Z"⟩, 17) := ⟨⟨by decide +kernel, by decide +kernel⟩, List.mem_of_getElem? (i := 543) (by decide +kernel), List.mem_of_getElem? (i := 714) (by decide +kernel), List.mem_of_getElem? (i := 715) (by decide +kernel)⟩
theorem lw_p25 : lw_okq (⟨"GapPiecesModel", "meet", "(IIII)Z"⟩, 17) := ⟨⟨by decide +kernel, by decide +kernel⟩, List.mem_of_getElem? (i := 543) (by decide +kernel), List.mem_of_getElem? (i := 733) (by decide +kernel), List.mem_of_getElem? (i := 734) (by decide +kernel)⟩
theorem lw_p26 : lw_okq (⟨"GapPiecesModel", "fills", "(III)I"⟩, 17) := ⟨⟨by decide +kernel, by decide +kernel⟩, List.mem_of_getElem? (i := 543) (by decide +kernel), List.mem_of_getElem? (i := 741) (by decide +kernel), List.mem_of_getElem? (i := 742) (by decide +kernel)⟩
theorem lw_p27 : lw_okq (⟨"GapPiecesModel", "isFree", "(III)Z"⟩, 17) := ⟨⟨by decide +kernel, by decide +kernel⟩, List.mem_of_getElem? (i := 543) (by decide +kernel), List.mem_of_getElem? (i := 745) (by decide +kernel), List.mem_of_getElem? (i := 746) (by decide +kernel)⟩
theorem lw_p28 : lw_okq (⟨"GapPiecesModel", "rowOf", "(II)I"⟩, 17) := ⟨⟨by decide +kernel, by decide +kernel⟩, List.mem_of_getElem? (i := 543) (by decide +kernel), List.mem_of_getElem? (i := 749) (by decide +kernel), List.mem_of_getElem? (i := 750) (by decide +kernel)⟩
def lw_privs_2 : List (MethodName × Nat) := [(⟨"GapPiecesModel", "onBoard", "(III)I"⟩, 17), (⟨"GapPiecesModel", "isOnBoard", "(II)Z"⟩, 17), (⟨"GapPiecesModel", "stand", "(III)Z"⟩, 17), (⟨"GapPiecesModel", "lays", "(I)V"⟩, 17), (⟨"GapPiecesModel", "spreads", "(I)V"⟩, 17), (⟨"GapPiecesModel", "outOf", "(I)I"⟩, 17), (⟨"GapPiecesModel", "lying", "()I"⟩, 17), (⟨"GapPiecesModel", "blockers", "(III)I"⟩, 17), (⟨"GapPiecesModel", "blocks0", "(III)Z"⟩, 17), (⟨"GapPiecesModel", "meet", "(IIII)Z"⟩, 17), (⟨"GapPiecesModel", "fills", "(III)I"⟩, 17), (⟨"GapPiecesModel", "isFree", "(III)Z"⟩, 17), (⟨"GapPiecesModel", "rowOf", "(II)I"⟩, 17)]
theorem lw_r2 : ∀ q ∈ lw_privs_2, lw_okq q := List.forall_mem_cons.mpr ⟨lw_p16, List.forall_mem_cons.mpr ⟨lw_p17, List.forall_mem_cons.mpr ⟨lw_p18, List.forall_mem_cons.mpr ⟨lw_p19, List.forall_mem_cons.mpr ⟨lw_p20, List.forall_mem_cons.mpr ⟨lw_p21, List.forall_mem_cons.mpr ⟨lw_p22, List.forall_mem_cons.mpr ⟨lw_p23, List.forall_mem_cons.mpr ⟨lw_p24, List.forall_mem_cons.mpr ⟨lw_p25, List.forall_mem_cons.mpr ⟨lw_p26, List.forall_mem_cons.mpr ⟨lw_p27, List.forall_mem_cons.mpr ⟨lw_p28, fun _ h => absurd h List.not_mem_nil⟩⟩⟩⟩⟩⟩⟩⟩⟩⟩⟩⟩⟩
def lw_privs : List (MethodName × Nat) := lw_privs_1 ++ (lw_privs_2)
def lw_tbl : List Cond := k2_sels lw_privs ++ tables_1
theorem lw_privs_ok : ∀ q ∈ lw_privs, lw_okq q := by
  show ∀ q ∈ lw_privs_1 ++ (lw_privs_2), lw_okq q
  exact List.forall_mem_append.mpr ⟨lw_r1, lw_r2⟩
def RX0 : String := "GapPieces$Filler"
def TX0 : u_T := fun k => match k with
  | 0 => ("GapPieces$Filler", "table", "LGapPieces$Table;", true)
  | 1 => ("GapPieces$Filler", "filled", "[I", true)
  | 2 => ("GapPieces$Filler", "spots", "[I", true)
  | 3 => ("GapPieces$Filler", "width", "I", false)
  | 4 => ("GapPieces$Filler", "leastHeight", "I", false)
  | _ => ("GapPieces$Filler", "leastOrder", "I", false)
def tyX0 : Nat → FieldType := fun k => match k with
  | 0 => .object "GapPieces$Table"
  | 1 => .array .int
  | 2 => .array .int
  | 3 => .int
  | 4 => .int
  | _ => .int
abbrev wsX00 : List Cond := u_ws RX0 TX0 6
theorem nmX0 : ∀ a, a < 6 → ∀ b, b < 6 → a ≠ b → (TX0 a).2.1 ≠ (TX0 b).2.1 := by decide +kernel
theorem tyX0_ok : ∀ k, k < 6 → parseFieldDescriptor (TX0 k).2.2.1 = some (tyX0 k) := by decide +kernel
abbrev cX0_init : ByteArray := prog_2_method_1_code
def yX0_init : MethodName := ⟨RX0, "<init>", "(LGapPieces$Table;)V"⟩
abbrev cX0_fits : ByteArray := prog_2_method_2_code
def yX0_fits : MethodName := ⟨RX0, "fits", "(II)Z"⟩
abbrev cX0_fill : ByteArray := prog_2_method_3_code
def yX0_fill : MethodName := ⟨RX0, "fill", "(III)I"⟩
abbrev cX0_spotAt : ByteArray := prog_2_method_4_code
def yX0_spotAt : MethodName := ⟨RX0, "spotAt", "(I)I"⟩
abbrev cX0_findBest : ByteArray := prog_2_method_5_code
def yX0_findBest : MethodName := ⟨RX0, "findBest", "(II)V"⟩
abbrev cX0_bestHeight : ByteArray := prog_2_method_6_code
def yX0_bestHeight : MethodName := ⟨RX0, "bestHeight", "()I"⟩
abbrev cX0_bestOrder : ByteArray := prog_2_method_7_code
def yX0_bestOrder : MethodName := ⟨RX0, "bestOrder", "()I"⟩
abbrev cX0_search : ByteArray := prog_2_method_8_code
def yX0_search : MethodName := ⟨RX0, "search", "(LGapPieces$Filler;IIII)V"⟩
abbrev cX0_empty : ByteArray := prog_2_method_9_code
def yX0_empty : MethodName := ⟨RX0, "empty", "(I)V"⟩
abbrev cX0_spotFor : ByteArray := prog_2_method_10_code
def yX0_spotFor : MethodName := ⟨RX0, "spotFor", "(I)I"⟩
abbrev cX0_isClear : ByteArray := prog_2_method_11_code
def yX0_isClear : MethodName := ⟨RX0, "isClear", "(III)Z"⟩
abbrev cX0_toggle : ByteArray := prog_2_method_12_code
def yX0_toggle : MethodName := ⟨RX0, "toggle", "(II)V"⟩
def RX1 : String := "GapPieces$Heap"
def TX1 : u_T := fun k => match k with
  | 0 => ("GapPieces$Heap", "table", "LGapPieces$Table;", true)
  | 1 => ("GapPieces$Heap", "paths", "LGapPieces$Paths;", true)
  | 2 => ("GapPieces$Heap", "gone", "[I", true)
  | 3 => ("GapPieces$Heap", "goneCount", "I", false)
  | _ => ("GapPieces$Heap", "left", "I", false)
def tyX1 : Nat → FieldType := fun k => match k with
  | 0 => .object "GapPieces$Table"
  | 1 => .object "GapPieces$Paths"
  | 2 => .array .int
  | 3 => .int
  | _ => .int
abbrev wsX10 : List Cond := u_ws RX1 TX1 5
theorem nmX1 : ∀ a, a < 5 → ∀ b, b < 5 → a ≠ b → (TX1 a).2.1 ≠ (TX1 b).2.1 := by decide +kernel
theorem tyX1_ok : ∀ k, k < 5 → parseFieldDescriptor (TX1 k).2.2.1 = some (tyX1 k) := by decide +kernel
abbrev cX1_init : ByteArray := prog_3_method_1_code
def yX1_init : MethodName := ⟨RX1, "<init>", "(LGapPieces$Table;LGapPieces$Paths;)V"⟩
abbrev cX1_clearOff : ByteArray := prog_3_method_2_code
def yX1_clearOff : MethodName := ⟨RX1, "clearOff", "(I)V"⟩
abbrev cX1_told : ByteArray := prog_3_method_3_code
def yX1_told : MethodName := ⟨RX1, "told", "(I)I"⟩
abbrev cX1_lowestToGo : ByteArray := prog_3_method_4_code
def yX1_lowestToGo : MethodName := ⟨RX1, "lowestToGo", "(I)I"⟩
def RX2 : String := "GapPieces$Paths"
def TX2 : u_T := fun k => match k with
  | 0 => ("GapPieces$Paths", "table", "LGapPieces$Table;", true)
  | 1 => ("GapPieces$Paths", "taken", "[I", true)
  | 2 => ("GapPieces$Paths", "open", "[I", true)
  | 3 => ("GapPieces$Paths", "outside", "[I", true)
  | 4 => ("GapPieces$Paths", "distances", "[I", true)
  | 5 => ("GapPieces$Paths", "queue", "[I", true)
  | 6 => ("GapPieces$Paths", "queued", "I", false)
  | 7 => ("GapPieces$Paths", "steps", "[I", true)
  | _ => ("GapPieces$Paths", "stepCount", "I", false)
def tyX2 : Nat → FieldType := fun k => match k with
  | 0 => .object "GapPieces$Table"
  | 1 => .array .int
  | 2 => .array .int
  | 3 => .array .int
  | 4 => .array .int
  | 5 => .array .int
  | 6 => .int
  | 7 => .array .int
  | _ => .int
abbrev wsX20 : List Cond := u_ws RX2 TX2 9
theorem nmX2 : ∀ a, a < 9 → ∀ b, b < 9 → a ≠ b → (TX2 a).2.1 ≠ (TX2 b).2.1 := by decide +kernel
theorem tyX2_ok : ∀ k, k < 9 → parseFieldDescriptor (TX2 k).2.2.1 = some (tyX2 k) := by decide +kernel
abbrev cX2_init : ByteArray := prog_4_method_1_code
def yX2_init : MethodName := ⟨RX2, "<init>", "(LGapPieces$Table;)V"⟩
abbrev cX2_forgetSteps : ByteArray := prog_4_method_2_code
def yX2_forgetSteps : MethodName := ⟨RX2, "forgetSteps", "()V"⟩
abbrev cX2_stepAt : ByteArray := prog_4_method_3_code
def yX2_stepAt : MethodName := ⟨RX2, "stepAt", "(I)I"⟩
abbrev cX2_canStand : ByteArray := prog_4_method_4_code
def yX2_canStand : MethodName := ⟨RX2, "canStand", "(III)Z"⟩
abbrev cX2_isOutWhereItLies : ByteArray := prog_4_method_5_code
def yX2_isOutWhereItLies : MethodName := ⟨RX2, "isOutWhereItLies", "(I)Z"⟩
abbrev cX2_stepsOnward : ByteArray := prog_4_method_6_code
def yX2_stepsOnward : MethodName := ⟨RX2, "stepsOnward", "(III)I"⟩
abbrev cX2_stepsOut : ByteArray := prog_4_method_7_code
def yX2_stepsOut : MethodName := ⟨RX2, "stepsOut", "(II)I"⟩
abbrev cX2_findWay : ByteArray := prog_4_method_8_code
def yX2_findWay : MethodName := ⟨RX2, "findWay", "(III)I"⟩
abbrev cX2_countInside : ByteArray := prog_4_method_9_code
def yX2_countInside : MethodName := ⟨RX2, "countInside", "(I)I"⟩
abbrev cX2_countRooms : ByteArray := prog_4_method_10_code
def yX2_countRooms : MethodName := ⟨RX2, "countRooms", "(I)I"⟩
abbrev cX2_keepSteps : ByteArray := prog_4_method_11_code
def yX2_keepSteps : MethodName := ⟨RX2, "keepSteps", "(II)V"⟩
abbrev cX2_directionTo : ByteArray := prog_4_method_12_code
def yX2_directionTo : MethodName := ⟨RX2, "directionTo", "(II)I"⟩
abbrev cX2_survey : ByteArray := prog_4_method_13_code
def yX2_survey : MethodName := ⟨RX2, "survey", "(II)V"⟩
abbrev cX2_markClear : ByteArray := prog_4_method_14_code
def yX2_markClear : MethodName := ⟨RX2, "markClear", "(I[I)V"⟩
abbrev cX2_hitPlaces : ByteArray := prog_4_method_15_code
def yX2_hitPlaces : MethodName := ⟨RX2, "hitPlaces", "(II)I"⟩
abbrev cX2_spreadFrom : ByteArray := prog_4_method_16_code
def yX2_spreadFrom : MethodName := ⟨RX2, "spreadFrom", "(I)V"⟩
abbrev cX2_reach : ByteArray := prog_4_method_17_code
def yX2_reach : MethodName := ⟨RX2, "reach", "(II)V"⟩
abbrev cX2_distanceOf : ByteArray := prog_4_method_18_code
def yX2_distanceOf : MethodName := ⟨RX2, "distanceOf", "(I)I"⟩
abbrev cX2_isMarked : ByteArray := prog_4_method_19_code
def yX2_isMarked : MethodName := ⟨RX2, "isMarked", "([II)Z"⟩
abbrev cX2_whereLies : ByteArray := prog_4_method_20_code
def yX2_whereLies : MethodName := ⟨RX2, "whereLies", "(I)I"⟩
abbrev cX2_placeAt : ByteArray := prog_4_method_21_code
def yX2_placeAt : MethodName := ⟨RX2, "placeAt", "(II)I"⟩
abbrev cX2_beside : ByteArray := prog_4_method_22_code
def yX2_beside : MethodName := ⟨RX2, "beside", "(II)I"⟩
def RX3 : String := "GapPieces$Table"
def TX3 : u_T := fun k => match k with
  | 0 => ("GapPieces$Table", "wallRows", "[I", true)
  | 1 => ("GapPieces$Table", "shapes", "[I", true)
  | 2 => ("GapPieces$Table", "xs", "[I", true)
  | 3 => ("GapPieces$Table", "ys", "[I", true)
  | 4 => ("GapPieces$Table", "columns", "I", false)
  | 5 => ("GapPieces$Table", "rows", "I", false)
  | 6 => ("GapPieces$Table", "pieces", "I", false)
  | _ => ("GapPieces$Table", "lying", "I", false)
def tyX3 : Nat → FieldType := fun k => match k with
  | 0 => .array .int
  | 1 => .array .int
  | 2 => .array .int
  | 3 => .array .int
  | 4 => .int
  | 5 => .int
  | 6 => .int
  | _ => .int
abbrev wsX30 : List Cond := u_ws RX3 TX3 8
theorem nmX3 : ∀ a, a < 8 → ∀ b, b < 8 → a ≠ b → (TX3 a).2.1 ≠ (TX3 b).2.1 := by decide +kernel
theorem tyX3_ok : ∀ k, k < 8 → parseFieldDescriptor (TX3 k).2.2.1 = some (tyX3 k) := by decide +kernel
abbrev cX3_init : ByteArray := prog_5_method_1_code
def yX3_init : MethodName := ⟨RX3, "<init>", "()V"⟩
abbrev cX3_renew : ByteArray := prog_5_method_2_code
def yX3_renew : MethodName := ⟨RX3, "renew", "(II)V"⟩
abbrev cX3_columnCount : ByteArray := prog_5_method_3_code
def yX3_columnCount : MethodName := ⟨RX3, "columnCount", "()I"⟩
abbrev cX3_rowCount : ByteArray := prog_5_method_4_code
def yX3_rowCount : MethodName := ⟨RX3, "rowCount", "()I"⟩
abbrev cX3_pieceCount : ByteArray := prog_5_method_5_code
def yX3_pieceCount : MethodName := ⟨RX3, "pieceCount", "()I"⟩
abbrev cX3_lyingSet : ByteArray := prog_5_method_6_code
def yX3_lyingSet : MethodName := ⟨RX3, "lyingSet", "()I"⟩
abbrev cX3_wallCount : ByteArray := prog_5_method_7_code
def yX3_wallCount : MethodName := ⟨RX3, "wallCount", "()I"⟩
abbrev cX3_hasRow : ByteArray := prog_5_method_8_code
def yX3_hasRow : MethodName := ⟨RX3, "hasRow", "(I)Z"⟩
abbrev cX3_wholeRow : ByteArray := prog_5_method_9_code
def yX3_wholeRow : MethodName := ⟨RX3, "wholeRow", "()I"⟩
abbrev cX3_setWalls : ByteArray := prog_5_method_10_code
def yX3_setWalls : MethodName := ⟨RX3, "setWalls", "(II)V"⟩
abbrev cX3_addPiece : ByteArray := prog_5_method_11_code
def yX3_addPiece : MethodName := ⟨RX3, "addPiece", "(I)I"⟩
abbrev cX3_has : ByteArray := prog_5_method_12_code
def yX3_has : MethodName := ⟨RX3, "has", "(I)Z"⟩
abbrev cX3_isLying : ByteArray := prog_5_method_13_code
def yX3_isLying : MethodName := ⟨RX3, "isLying", "(I)Z"⟩
abbrev cX3_lyingBeside : ByteArray := prog_5_method_14_code
def yX3_lyingBeside : MethodName := ⟨RX3, "lyingBeside", "(I)I"⟩
abbrev cX3_shapeOf : ByteArray := prog_5_method_15_code
def yX3_shapeOf : MethodName := ⟨RX3, "shapeOf", "(I)I"⟩
abbrev cX3_xOf : ByteArray := prog_5_method_16_code
def yX3_xOf : MethodName := ⟨RX3, "xOf", "(I)I"⟩
abbrev cX3_yOf : ByteArray := prog_5_method_17_code
def yX3_yOf : MethodName := ⟨RX3, "yOf", "(I)I"⟩
abbrev cX3_lay : ByteArray := prog_5_method_18_code
def yX3_lay : MethodName := ⟨RX3, "lay", "(III)V"⟩
abbrev cX3_take : ByteArray := prog_5_method_19_code
def yX3_take : MethodName := ⟨RX3, "take", "(I)V"⟩
abbrev cX3_boardSquares : ByteArray := prog_5_method_20_code
def yX3_boardSquares : MethodName := ⟨RX3, "boardSquares", "(I)I"⟩
abbrev cX3_wallSquares : ByteArray := prog_5_method_21_code
def yX3_wallSquares : MethodName := ⟨RX3, "wallSquares", "(I)I"⟩
abbrev cX3_squaresOf : ByteArray := prog_5_method_22_code
def yX3_squaresOf : MethodName := ⟨RX3, "squaresOf", "(II)I"⟩
abbrev cX3_squaresOfSet : ByteArray := prog_5_method_23_code
def yX3_squaresOfSet : MethodName := ⟨RX3, "squaresOfSet", "(II)I"⟩
abbrev cX3_isLainOn : ByteArray := prog_5_method_24_code
def yX3_isLainOn : MethodName := ⟨RX3, "isLainOn", "(II)Z"⟩
abbrev cX3_blockersOf : ByteArray := prog_5_method_25_code
def yX3_blockersOf : MethodName := ⟨RX3, "blockersOf", "(II)I"⟩
abbrev cX3_sweptAlong : ByteArray := prog_5_method_26_code
def yX3_sweptAlong : MethodName := ⟨RX3, "sweptAlong", "(II)I"⟩
abbrev cX3_piecesOn : ByteArray := prog_5_method_27_code
def yX3_piecesOn : MethodName := ⟨RX3, "piecesOn", "(II)I"⟩
def RX4 : String := "GapPieces"
def TX4 : u_T := fun k => match k with
  | 0 => ("GapPieces", "table", "LGapPieces$Table;", true)
  | 1 => ("GapPieces", "paths", "LGapPieces$Paths;", true)
  | 2 => ("GapPieces", "heap", "LGapPieces$Heap;", true)
  | _ => ("GapPieces", "filler", "LGapPieces$Filler;", true)
def tyX4 : Nat → FieldType := fun k => match k with
  | 0 => .object "GapPieces$Table"
  | 1 => .object "GapPieces$Paths"
  | 2 => .object "GapPieces$Heap"
  | _ => .object "GapPieces$Filler"
abbrev wsX40 : List Cond := u_ws RX4 TX4 4
theorem nmX4 : ∀ a, a < 4 → ∀ b, b < 4 → a ≠ b → (TX4 a).2.1 ≠ (TX4 b).2.1 := by decide +kernel
theorem tyX4_ok : ∀ k, k < 4 → parseFieldDescriptor (TX4 k).2.2.1 = some (tyX4 k) := by decide +kernel
abbrev cX4_init : ByteArray := prog_1_method_1_code
def yX4_init : MethodName := ⟨RX4, "<init>", "()V"⟩
abbrev cX4_board : ByteArray := prog_1_method_2_code
def yX4_board : MethodName := ⟨RX4, "board", "(II)I"⟩
abbrev cX4_walls : ByteArray := prog_1_method_3_code
def yX4_walls : MethodName := ⟨RX4, "walls", "(II)I"⟩
abbrev cX4_piece : ByteArray := prog_1_method_4_code
def yX4_piece : MethodName := ⟨RX4, "piece", "(I)I"⟩
abbrev cX4_about : ByteArray := prog_1_method_5_code
def yX4_about : MethodName := ⟨RX4, "about", "(II)I"⟩
abbrev cX4_put : ByteArray := prog_1_method_6_code
def yX4_put : MethodName := ⟨RX4, "put", "(III)I"⟩
abbrev cX4_away : ByteArray := prog_1_method_7_code
def yX4_away : MethodName := ⟨RX4, "away", "(I)I"⟩
abbrev cX4_stands : ByteArray := prog_1_method_8_code
def yX4_stands : MethodName := ⟨RX4, "stands", "(III)I"⟩
abbrev cX4_slide : ByteArray := prog_1_method_9_code
def yX4_slide : MethodName := ⟨RX4, "slide", "(III)I"⟩
abbrev cX4_way : ByteArray := prog_1_method_10_code
def yX4_way : MethodName := ⟨RX4, "way", "(III)I"⟩
abbrev cX4_stepOf : ByteArray := prog_1_method_11_code
def yX4_stepOf : MethodName := ⟨RX4, "stepOf", "(I)I"⟩
abbrev cX4_out : ByteArray := prog_1_method_12_code
def yX4_out : MethodName := ⟨RX4, "out", "(I)I"⟩
abbrev cX4_places : ByteArray := prog_1_method_13_code
def yX4_places : MethodName := ⟨RX4, "places", "(II)I"⟩
abbrev cX4_blocks : ByteArray := prog_1_method_14_code
def yX4_blocks : MethodName := ⟨RX4, "blocks", "(II)I"⟩
abbrev cX4_order : ByteArray := prog_1_method_15_code
def yX4_order : MethodName := ⟨RX4, "order", "(II)I"⟩
abbrev cX4_apart : ByteArray := prog_1_method_16_code
def yX4_apart : MethodName := ⟨RX4, "apart", "(I)I"⟩
abbrev cX4_push : ByteArray := prog_1_method_17_code
def yX4_push : MethodName := ⟨RX4, "push", "(III)I"⟩
abbrev cX4_strip : ByteArray := prog_1_method_18_code
def yX4_strip : MethodName := ⟨RX4, "strip", "(IIII)I"⟩
abbrev cX4_best : ByteArray := prog_1_method_19_code
def yX4_best : MethodName := ⟨RX4, "best", "(III)I"⟩
abbrev cX4_count : ByteArray := prog_1_method_20_code
def yX4_count : MethodName := ⟨RX4, "count", "(I)I"⟩
abbrev cX4_isPlace : ByteArray := prog_1_method_21_code
def yX4_isPlace : MethodName := ⟨RX4, "isPlace", "(II)Z"⟩
abbrev cX4_isDirection : ByteArray := prog_1_method_22_code
def yX4_isDirection : MethodName := ⟨RX4, "isDirection", "(I)Z"⟩
abbrev cX4_stepX : ByteArray := prog_1_method_23_code
def yX4_stepX : MethodName := ⟨RX4, "stepX", "(I)I"⟩
abbrev cX4_stepY : ByteArray := prog_1_method_24_code
def yX4_stepY : MethodName := ⟨RX4, "stepY", "(I)I"⟩
abbrev cX4_isIn : ByteArray := prog_1_method_25_code
def yX4_isIn : MethodName := ⟨RX4, "isIn", "(II)Z"⟩
abbrev cX4_movedToCorner : ByteArray := prog_1_method_26_code
def yX4_movedToCorner : MethodName := ⟨RX4, "movedToCorner", "(I)I"⟩
abbrev cX4_rowOf : ByteArray := prog_1_method_27_code
def yX4_rowOf : MethodName := ⟨RX4, "rowOf", "(II)I"⟩
abbrev cX4_columnsOf : ByteArray := prog_1_method_28_code
def yX4_columnsOf : MethodName := ⟨RX4, "columnsOf", "(I)I"⟩
abbrev cX4_rowsOf : ByteArray := prog_1_method_29_code
def yX4_rowsOf : MethodName := ⟨RX4, "rowsOf", "(I)I"⟩
abbrev cX4_leastPush : ByteArray := prog_1_method_30_code
def yX4_leastPush : MethodName := ⟨RX4, "leastPush", "(III)I"⟩
abbrev cX4_meet : ByteArray := prog_1_method_31_code
def yX4_meet : MethodName := ⟨RX4, "meet", "(IIII)Z"⟩
abbrev cX4_pieceInOrder : ByteArray := prog_1_method_32_code
def yX4_pieceInOrder : MethodName := ⟨RX4, "pieceInOrder", "(II)I"⟩
abbrev cX4_setOf : ByteArray := prog_1_method_33_code
def yX4_setOf : MethodName := ⟨RX4, "setOf", "(II)I"⟩
def RX5 : String := "GapPiecesModel"
def TX5 : u_T := fun k => match k with
  | 0 => ("GapPiecesModel", "columns", "I", false)
  | 1 => ("GapPiecesModel", "rows", "I", false)
  | 2 => ("GapPiecesModel", "wall", "[I", true)
  | 3 => ("GapPiecesModel", "pieces", "I", false)
  | 4 => ("GapPiecesModel", "shape", "[I", true)
  | 5 => ("GapPiecesModel", "wide", "[I", true)
  | 6 => ("GapPiecesModel", "tall", "[I", true)
  | 7 => ("GapPiecesModel", "lies", "[Z", true)
  | 8 => ("GapPiecesModel", "px", "[I", true)
  | 9 => ("GapPiecesModel", "py", "[I", true)
  | 10 => ("GapPiecesModel", "stepMany", "I", false)
  | 11 => ("GapPiecesModel", "steps", "[I", true)
  | 12 => ("GapPiecesModel", "far", "[I", true)
  | 13 => ("GapPiecesModel", "queue", "[I", true)
  | 14 => ("GapPiecesModel", "taken", "[I", true)
  | 15 => ("GapPiecesModel", "stripX", "[I", true)
  | _ => ("GapPiecesModel", "stripY", "[I", true)
def tyX5 : Nat → FieldType := fun k => match k with
  | 0 => .int
  | 1 => .int
  | 2 => .array .int
  | 3 => .int
  | 4 => .array .int
  | 5 => .array .int
  | 6 => .array .int
  | 7 => .array .boolean
  | 8 => .array .int
  | 9 => .array .int
  | 10 => .int
  | 11 => .array .int
  | 12 => .array .int
  | 13 => .array .int
  | 14 => .array .int
  | 15 => .array .int
  | _ => .array .int
abbrev wsX50 : List Cond := u_ws RX5 TX5 17
theorem nmX5 : ∀ a, a < 17 → ∀ b, b < 17 → a ≠ b → (TX5 a).2.1 ≠ (TX5 b).2.1 := by decide +kernel
theorem tyX5_ok : ∀ k, k < 17 → parseFieldDescriptor (TX5 k).2.2.1 = some (tyX5 k) := by decide +kernel
abbrev cX5_init : ByteArray := prog_7_method_1_code
def yX5_init : MethodName := ⟨RX5, "<init>", "()V"⟩
abbrev cX5_in : ByteArray := prog_7_method_2_code
def yX5_in : MethodName := ⟨RX5, "in", "(III)Z"⟩
abbrev cX5_isPiece : ByteArray := prog_7_method_3_code
def yX5_isPiece : MethodName := ⟨RX5, "isPiece", "(I)Z"⟩
abbrev cX5_isSpot : ByteArray := prog_7_method_4_code
def yX5_isSpot : MethodName := ⟨RX5, "isSpot", "(II)Z"⟩
abbrev cX5_board : ByteArray := prog_7_method_5_code
def yX5_board : MethodName := ⟨RX5, "board", "(II)I"⟩
abbrev cX5_has : ByteArray := prog_7_method_6_code
def yX5_has : MethodName := ⟨RX5, "has", "(IIIII)Z"⟩
abbrev cX5_isOnBoard : ByteArray := prog_7_method_7_code
def yX5_isOnBoard : MethodName := ⟨RX5, "isOnBoard", "(II)Z"⟩
abbrev cX5_walls : ByteArray := prog_7_method_8_code
def yX5_walls : MethodName := ⟨RX5, "walls", "(II)I"⟩
abbrev cX5_piece : ByteArray := prog_7_method_9_code
def yX5_piece : MethodName := ⟨RX5, "piece", "(I)I"⟩
abbrev cX5_stand : ByteArray := prog_7_method_10_code
def yX5_stand : MethodName := ⟨RX5, "stand", "(III)Z"⟩
abbrev cX5_onBoard : ByteArray := prog_7_method_11_code
def yX5_onBoard : MethodName := ⟨RX5, "onBoard", "(III)I"⟩
abbrev cX5_squares : ByteArray := prog_7_method_12_code
def yX5_squares : MethodName := ⟨RX5, "squares", "(I)I"⟩
abbrev cX5_about : ByteArray := prog_7_method_13_code
def yX5_about : MethodName := ⟨RX5, "about", "(II)I"⟩
abbrev cX5_put : ByteArray := prog_7_method_14_code
def yX5_put : MethodName := ⟨RX5, "put", "(III)I"⟩
abbrev cX5_away : ByteArray := prog_7_method_15_code
def yX5_away : MethodName := ⟨RX5, "away", "(I)I"⟩
abbrev cX5_stands : ByteArray := prog_7_method_16_code
def yX5_stands : MethodName := ⟨RX5, "stands", "(III)I"⟩
abbrev cX5_dx : ByteArray := prog_7_method_17_code
def yX5_dx : MethodName := ⟨RX5, "dx", "(I)I"⟩
abbrev cX5_dy : ByteArray := prog_7_method_18_code
def yX5_dy : MethodName := ⟨RX5, "dy", "(I)I"⟩
abbrev cX5_slide : ByteArray := prog_7_method_19_code
def yX5_slide : MethodName := ⟨RX5, "slide", "(III)I"⟩
abbrev cX5_spot : ByteArray := prog_7_method_20_code
def yX5_spot : MethodName := ⟨RX5, "spot", "(II)I"⟩
abbrev cX5_lays : ByteArray := prog_7_method_21_code
def yX5_lays : MethodName := ⟨RX5, "lays", "(I)V"⟩
abbrev cX5_spreads : ByteArray := prog_7_method_22_code
def yX5_spreads : MethodName := ⟨RX5, "spreads", "(I)V"⟩
abbrev cX5_way : ByteArray := prog_7_method_23_code
def yX5_way : MethodName := ⟨RX5, "way", "(III)I"⟩
abbrev cX5_stepOf : ByteArray := prog_7_method_24_code
def yX5_stepOf : MethodName := ⟨RX5, "stepOf", "(I)I"⟩
abbrev cX5_outOf : ByteArray := prog_7_method_25_code
def yX5_outOf : MethodName := ⟨RX5, "outOf", "(I)I"⟩
abbrev cX5_out : ByteArray := prog_7_method_26_code
def yX5_out : MethodName := ⟨RX5, "out", "(I)I"⟩
abbrev cX5_places : ByteArray := prog_7_method_27_code
def yX5_places : MethodName := ⟨RX5, "places", "(II)I"⟩
abbrev cX5_blocks0 : ByteArray := prog_7_method_28_code
def yX5_blocks0 : MethodName := ⟨RX5, "blocks0", "(III)Z"⟩
abbrev cX5_blockers : ByteArray := prog_7_method_29_code
def yX5_blockers : MethodName := ⟨RX5, "blockers", "(III)I"⟩
abbrev cX5_lying : ByteArray := prog_7_method_30_code
def yX5_lying : MethodName := ⟨RX5, "lying", "()I"⟩
abbrev cX5_blocks : ByteArray := prog_7_method_31_code
def yX5_blocks : MethodName := ⟨RX5, "blocks", "(II)I"⟩
abbrev cX5_lowest : ByteArray := prog_7_method_32_code
def yX5_lowest : MethodName := ⟨RX5, "lowest", "(I)I"⟩
abbrev cX5_order : ByteArray := prog_7_method_33_code
def yX5_order : MethodName := ⟨RX5, "order", "(II)I"⟩
abbrev cX5_apart : ByteArray := prog_7_method_34_code
def yX5_apart : MethodName := ⟨RX5, "apart", "(I)I"⟩
abbrev cX5_meet : ByteArray := prog_7_method_35_code
def yX5_meet : MethodName := ⟨RX5, "meet", "(IIII)Z"⟩
abbrev cX5_push : ByteArray := prog_7_method_36_code
def yX5_push : MethodName := ⟨RX5, "push", "(III)I"⟩
abbrev cX5_rowOf : ByteArray := prog_7_method_37_code
def yX5_rowOf : MethodName := ⟨RX5, "rowOf", "(II)I"⟩
abbrev cX5_isFree : ByteArray := prog_7_method_38_code
def yX5_isFree : MethodName := ⟨RX5, "isFree", "(III)Z"⟩
abbrev cX5_fills : ByteArray := prog_7_method_39_code
def yX5_fills : MethodName := ⟨RX5, "fills", "(III)I"⟩
abbrev cX5_strip : ByteArray := prog_7_method_40_code
def yX5_strip : MethodName := ⟨RX5, "strip", "(IIII)I"⟩
abbrev cX5_bits : ByteArray := prog_7_method_41_code
def yX5_bits : MethodName := ⟨RX5, "bits", "(I)I"⟩
abbrev cX5_isOrder : ByteArray := prog_7_method_42_code
def yX5_isOrder : MethodName := ⟨RX5, "isOrder", "(III)Z"⟩
abbrev cX5_isLower : ByteArray := prog_7_method_43_code
def yX5_isLower : MethodName := ⟨RX5, "isLower", "(II)Z"⟩
abbrev cX5_best : ByteArray := prog_7_method_44_code
def yX5_best : MethodName := ⟨RX5, "best", "(III)I"⟩
abbrev cX5_count : ByteArray := prog_7_method_45_code
def yX5_count : MethodName := ⟨RX5, "count", "(I)I"⟩
def RJ6 : String := "java/lang/Integer"
def TJ6 : u_T := fun k => match k with
  | _ => ("", "", "", false)
def tyJ6 : Nat → FieldType := fun k => match k with
  | _ => .int
abbrev wsJ60 : List Cond := u_ws RJ6 TJ6 0
theorem nmJ6 : ∀ a, a < 0 → ∀ b, b < 0 → a ≠ b → (TJ6 a).2.1 ≠ (TJ6 b).2.1 := by decide +kernel
theorem tyJ6_ok : ∀ k, k < 0 → parseFieldDescriptor (TJ6 k).2.2.1 = some (tyJ6 k) := by decide +kernel
abbrev cJ6_bitCount_0f7a4 : ByteArray := prog_8_method_49_code
def yJ6_bitCount_0f7a4 : MethodName := ⟨RJ6, "bitCount", "(I)I"⟩
def RJ9 : String := "java/lang/Math"
def TJ9 : u_T := fun k => match k with
  | _ => ("", "", "", false)
def tyJ9 : Nat → FieldType := fun k => match k with
  | _ => .int
abbrev wsJ90 : List Cond := u_ws RJ9 TJ9 0
theorem nmJ9 : ∀ a, a < 0 → ∀ b, b < 0 → a ≠ b → (TJ9 a).2.1 ≠ (TJ9 b).2.1 := by decide +kernel
theorem tyJ9_ok : ∀ k, k < 0 → parseFieldDescriptor (TJ9 k).2.2.1 = some (tyJ9 k) := by decide +kernel
abbrev cJ9_abs_0f7a4 : ByteArray := prog_9_method_59_code
def yJ9_abs_0f7a4 : MethodName := ⟨RJ9, "abs", "(I)I"⟩
abbrev cJ9_max_7cf53 : ByteArray := prog_9_method_65_code
def yJ9_max_7cf53 : MethodName := ⟨RJ9, "max", "(II)I"⟩
def RL : String := "GapPiecesLaw"
abbrev cL_law : ByteArray := code
def yL_law : MethodName := ⟨RL, "law", "([I)Z"⟩
abbrev Meth : Type := MethodName × ByteArray × Nat × Option FieldType
def mX0_init : Meth := (yX0_init, cX0_init, 2, none)
def mX0_fits : Meth := (yX0_fits, cX0_fits, 4, (some .boolean))
def mX0_fill : Meth := (yX0_fill, cX0_fill, 7, (some .int))
def mX0_spotAt : Meth := (yX0_spotAt, cX0_spotAt, 2, (some .int))
def mX0_findBest : Meth := (yX0_findBest, cX0_findBest, 3, none)
def mX0_bestHeight : Meth := (yX0_bestHeight, cX0_bestHeight, 1, (some .int))
def mX0_bestOrder : Meth := (yX0_bestOrder, cX0_bestOrder, 1, (some .int))
def mX0_search : Meth := (yX0_search, cX0_search, 9, none)
def mX0_empty : Meth := (yX0_empty, cX0_empty, 3, none)
def mX0_spotFor : Meth := (yX0_spotFor, cX0_spotFor, 5, (some .int))
def mX0_isClear : Meth := (yX0_isClear, cX0_isClear, 5, (some .boolean))
def mX0_toggle : Meth := (yX0_toggle, cX0_toggle, 6, none)
def mX1_init : Meth := (yX1_init, cX1_init, 3, none)
def mX1_clearOff : Meth := (yX1_clearOff, cX1_clearOff, 4, none)
def mX1_told : Meth := (yX1_told, cX1_told, 2, (some .int))
def mX1_lowestToGo : Meth := (yX1_lowestToGo, cX1_lowestToGo, 5, (some .int))
def mX2_init : Meth := (yX2_init, cX2_init, 2, none)
def mX2_forgetSteps : Meth := (yX2_forgetSteps, cX2_forgetSteps, 1, none)
def mX2_stepAt : Meth := (yX2_stepAt, cX2_stepAt, 2, (some .int))
def mX2_canStand : Meth := (yX2_canStand, cX2_canStand, 4, (some .boolean))
def mX2_isOutWhereItLies : Meth := (yX2_isOutWhereItLies, cX2_isOutWhereItLies, 2, (some .boolean))
def mX2_stepsOnward : Meth := (yX2_stepsOnward, cX2_stepsOnward, 6, (some .int))
def mX2_stepsOut : Meth := (yX2_stepsOut, cX2_stepsOut, 4, (some .int))
def mX2_findWay : Meth := (yX2_findWay, cX2_findWay, 6, (some .int))
def mX2_countInside : Meth := (yX2_countInside, cX2_countInside, 8, (some .int))
def mX2_countRooms : Meth := (yX2_countRooms, cX2_countRooms, 5, (some .int))
def mX2_keepSteps : Meth := (yX2_keepSteps, cX2_keepSteps, 6, none)
def mX2_directionTo : Meth := (yX2_directionTo, cX2_directionTo, 4, (some .int))
def mX2_survey : Meth := (yX2_survey, cX2_survey, 5, none)
def mX2_markClear : Meth := (yX2_markClear, cX2_markClear, 6, none)
def mX2_hitPlaces : Meth := (yX2_hitPlaces, cX2_hitPlaces, 4, (some .int))
def mX2_spreadFrom : Meth := (yX2_spreadFrom, cX2_spreadFrom, 6, none)
def mX2_reach : Meth := (yX2_reach, cX2_reach, 3, none)
def mX2_distanceOf : Meth := (yX2_distanceOf, cX2_distanceOf, 2, (some .int))
def mX2_isMarked : Meth := (yX2_isMarked, cX2_isMarked, 2, (some .boolean))
def mX2_whereLies : Meth := (yX2_whereLies, cX2_whereLies, 2, (some .int))
def mX2_placeAt : Meth := (yX2_placeAt, cX2_placeAt, 2, (some .int))
def mX2_beside : Meth := (yX2_beside, cX2_beside, 4, (some .int))
def mX3_init : Meth := (yX3_init, cX3_init, 1, none)
def mX3_renew : Meth := (yX3_renew, cX3_renew, 4, none)
def mX3_columnCount : Meth := (yX3_columnCount, cX3_columnCount, 1, (some .int))
def mX3_rowCount : Meth := (yX3_rowCount, cX3_rowCount, 1, (some .int))
def mX3_pieceCount : Meth := (yX3_pieceCount, cX3_pieceCount, 1, (some .int))
def mX3_lyingSet : Meth := (yX3_lyingSet, cX3_lyingSet, 1, (some .int))
def mX3_wallCount : Meth := (yX3_wallCount, cX3_wallCount, 3, (some .int))
def mX3_hasRow : Meth := (yX3_hasRow, cX3_hasRow, 2, (some .boolean))
def mX3_wholeRow : Meth := (yX3_wholeRow, cX3_wholeRow, 1, (some .int))
def mX3_setWalls : Meth := (yX3_setWalls, cX3_setWalls, 3, none)
def mX3_addPiece : Meth := (yX3_addPiece, cX3_addPiece, 2, (some .int))
def mX3_has : Meth := (yX3_has, cX3_has, 2, (some .boolean))
def mX3_isLying : Meth := (yX3_isLying, cX3_isLying, 2, (some .boolean))
def mX3_lyingBeside : Meth := (yX3_lyingBeside, cX3_lyingBeside, 2, (some .int))
def mX3_shapeOf : Meth := (yX3_shapeOf, cX3_shapeOf, 2, (some .int))
def mX3_xOf : Meth := (yX3_xOf, cX3_xOf, 2, (some .int))
def mX3_yOf : Meth := (yX3_yOf, cX3_yOf, 2, (some .int))
def mX3_lay : Meth := (yX3_lay, cX3_lay, 4, none)
def mX3_take : Meth := (yX3_take, cX3_take, 2, none)
def mX3_boardSquares : Meth := (yX3_boardSquares, cX3_boardSquares, 2, (some .int))
def mX3_wallSquares : Meth := (yX3_wallSquares, cX3_wallSquares, 2, (some .int))
def mX3_squaresOf : Meth := (yX3_squaresOf, cX3_squaresOf, 3, (some .int))
def mX3_squaresOfSet : Meth := (yX3_squaresOfSet, cX3_squaresOfSet, 5, (some .int))
def mX3_isLainOn : Meth := (yX3_isLainOn, cX3_isLainOn, 3, (some .boolean))
def mX3_blockersOf : Meth := (yX3_blockersOf, cX3_blockersOf, 8, (some .int))
def mX3_sweptAlong : Meth := (yX3_sweptAlong, cX3_sweptAlong, 4, (some .int))
def mX3_piecesOn : Meth := (yX3_piecesOn, cX3_piecesOn, 5, (some .int))
def mX4_init : Meth := (yX4_init, cX4_init, 1, none)
def mX4_board : Meth := (yX4_board, cX4_board, 3, (some .int))
def mX4_walls : Meth := (yX4_walls, cX4_walls, 3, (some .int))
def mX4_piece : Meth := (yX4_piece, cX4_piece, 2, (some .int))
def mX4_about : Meth := (yX4_about, cX4_about, 5, (some .int))
def mX4_put : Meth := (yX4_put, cX4_put, 4, (some .int))
def mX4_away : Meth := (yX4_away, cX4_away, 2, (some .int))
def mX4_stands : Meth := (yX4_stands, cX4_stands, 4, (some .int))
def mX4_slide : Meth := (yX4_slide, cX4_slide, 5, (some .int))
def mX4_way : Meth := (yX4_way, cX4_way, 4, (some .int))
def mX4_stepOf : Meth := (yX4_stepOf, cX4_stepOf, 2, (some .int))
def mX4_out : Meth := (yX4_out, cX4_out, 2, (some .int))
def mX4_places : Meth := (yX4_places, cX4_places, 3, (some .int))
def mX4_blocks : Meth := (yX4_blocks, cX4_blocks, 3, (some .int))
def mX4_order : Meth := (yX4_order, cX4_order, 3, (some .int))
def mX4_apart : Meth := (yX4_apart, cX4_apart, 2, (some .int))
def mX4_push : Meth := (yX4_push, cX4_push, 4, (some .int))
def mX4_strip : Meth := (yX4_strip, cX4_strip, 7, (some .int))
def mX4_best : Meth := (yX4_best, cX4_best, 4, (some .int))
def mX4_count : Meth := (yX4_count, cX4_count, 2, (some .int))
def mX4_isPlace : Meth := (yX4_isPlace, cX4_isPlace, 2, (some .boolean))
def mX4_isDirection : Meth := (yX4_isDirection, cX4_isDirection, 1, (some .boolean))
def mX4_stepX : Meth := (yX4_stepX, cX4_stepX, 1, (some .int))
def mX4_stepY : Meth := (yX4_stepY, cX4_stepY, 1, (some .int))
def mX4_isIn : Meth := (yX4_isIn, cX4_isIn, 2, (some .boolean))
def mX4_movedToCorner : Meth := (yX4_movedToCorner, cX4_movedToCorner, 3, (some .int))
def mX4_rowOf : Meth := (yX4_rowOf, cX4_rowOf, 2, (some .int))
def mX4_columnsOf : Meth := (yX4_columnsOf, cX4_columnsOf, 3, (some .int))
def mX4_rowsOf : Meth := (yX4_rowsOf, cX4_rowsOf, 3, (some .int))
def mX4_leastPush : Meth := (yX4_leastPush, cX4_leastPush, 8, (some .int))
def mX4_meet : Meth := (yX4_meet, cX4_meet, 7, (some .boolean))
def mX4_pieceInOrder : Meth := (yX4_pieceInOrder, cX4_pieceInOrder, 2, (some .int))
def mX4_setOf : Meth := (yX4_setOf, cX4_setOf, 4, (some .int))
def mX5_init : Meth := (yX5_init, cX5_init, 1, none)
def mX5_in : Meth := (yX5_in, cX5_in, 3, (some .boolean))
def mX5_isPiece : Meth := (yX5_isPiece, cX5_isPiece, 2, (some .boolean))
def mX5_isSpot : Meth := (yX5_isSpot, cX5_isSpot, 2, (some .boolean))
def mX5_board : Meth := (yX5_board, cX5_board, 4, (some .int))
def mX5_has : Meth := (yX5_has, cX5_has, 6, (some .boolean))
def mX5_isOnBoard : Meth := (yX5_isOnBoard, cX5_isOnBoard, 3, (some .boolean))
def mX5_walls : Meth := (yX5_walls, cX5_walls, 5, (some .int))
def mX5_piece : Meth := (yX5_piece, cX5_piece, 6, (some .int))
def mX5_stand : Meth := (yX5_stand, cX5_stand, 8, (some .boolean))
def mX5_onBoard : Meth := (yX5_onBoard, cX5_onBoard, 6, (some .int))
def mX5_squares : Meth := (yX5_squares, cX5_squares, 3, (some .int))
def mX5_about : Meth := (yX5_about, cX5_about, 3, (some .int))
def mX5_put : Meth := (yX5_put, cX5_put, 4, (some .int))
def mX5_away : Meth := (yX5_away, cX5_away, 3, (some .int))
def mX5_stands : Meth := (yX5_stands, cX5_stands, 4, (some .int))
def mX5_dx : Meth := (yX5_dx, cX5_dx, 1, (some .int))
def mX5_dy : Meth := (yX5_dy, cX5_dy, 1, (some .int))
def mX5_slide : Meth := (yX5_slide, cX5_slide, 8, (some .int))
def mX5_spot : Meth := (yX5_spot, cX5_spot, 2, (some .int))
def mX5_lays : Meth := (yX5_lays, cX5_lays, 3, none)
def mX5_spreads : Meth := (yX5_spreads, cX5_spreads, 8, none)
def mX5_way : Meth := (yX5_way, cX5_way, 10, (some .int))
def mX5_stepOf : Meth := (yX5_stepOf, cX5_stepOf, 2, (some .int))
def mX5_outOf : Meth := (yX5_outOf, cX5_outOf, 5, (some .int))
def mX5_out : Meth := (yX5_out, cX5_out, 2, (some .int))
def mX5_places : Meth := (yX5_places, cX5_places, 6, (some .int))
def mX5_blocks0 : Meth := (yX5_blocks0, cX5_blocks0, 8, (some .boolean))
def mX5_blockers : Meth := (yX5_blockers, cX5_blockers, 6, (some .int))
def mX5_lying : Meth := (yX5_lying, cX5_lying, 3, (some .int))
def mX5_blocks : Meth := (yX5_blocks, cX5_blocks, 3, (some .int))
def mX5_lowest : Meth := (yX5_lowest, cX5_lowest, 2, (some .int))
def mX5_order : Meth := (yX5_order, cX5_order, 8, (some .int))
def mX5_apart : Meth := (yX5_apart, cX5_apart, 8, (some .int))
def mX5_meet : Meth := (yX5_meet, cX5_meet, 7, (some .boolean))
def mX5_push : Meth := (yX5_push, cX5_push, 10, (some .int))
def mX5_rowOf : Meth := (yX5_rowOf, cX5_rowOf, 3, (some .int))
def mX5_isFree : Meth := (yX5_isFree, cX5_isFree, 6, (some .boolean))
def mX5_fills : Meth := (yX5_fills, cX5_fills, 10, (some .int))
def mX5_strip : Meth := (yX5_strip, cX5_strip, 8, (some .int))
def mX5_bits : Meth := (yX5_bits, cX5_bits, 3, (some .int))
def mX5_isOrder : Meth := (yX5_isOrder, cX5_isOrder, 5, (some .boolean))
def mX5_isLower : Meth := (yX5_isLower, cX5_isLower, 3, (some .boolean))
def mX5_best : Meth := (yX5_best, cX5_best, 9, (some .int))
def mX5_count : Meth := (yX5_count, cX5_count, 5, (some .int))
def mJ6_bitCount_0f7a4 : Meth := (yJ6_bitCount_0f7a4, cJ6_bitCount_0f7a4, 1, (some .int))
def mJ9_abs_0f7a4 : Meth := (yJ9_abs_0f7a4, cJ9_abs_0f7a4, 1, (some .int))
def mJ9_max_7cf53 : Meth := (yJ9_max_7cf53, cJ9_max_7cf53, 2, (some .int))
def mL_law : Meth := (yL_law, cL_law, 4, (some .boolean))
abbrev clsT : List vw_C := [(RX0, TX0, 6), (RX1, TX1, 5), (RX2, TX2, 9), (RX3, TX3, 8), (RX4, TX4, 4), (RX5, TX5, 17)]
end
section
/-! THE STATE: all cells of class and reference as one table 'knd'; a memory is their ints -/
abbrev Mem : Type := Nat → Nat → Int32
abbrev Scr : Type := Option (Nat × (Nat → Int32))
abbrev Knd : Type := (Nat × FieldType) ⊕ (Nat × List (Option Nat))
def mput (M : Mem) (o : Nat) (f : Nat → Int32) : Mem := fun a => if a = o then f else M a
def mset (M : Mem) (o k : Nat) (v : Int32) : Mem := mput M o (upd (M o) k v)
/-- 0 GapPieces, 1 Table, 2 Paths, 3 Heap, 4 Filler, 5 wallRows, 6 shapes, 7 xs, 8 ys, 9 taken, 10 open, 11 outside, 12 distances, 13 queue, 14 steps, 15 gone, 16 filled, 17 spots; 18 the reference, 19 wall, 20 shape, 21 wide, 22 tall, 23 lies, 24 px, 25 py, 26 steps, 27 far, 28 queue, 29 taken, 30 stripX, 31 stripY -/
def knd : List Knd := [
  .inr (4, [some 1, some 2, some 3, some 4]),
  .inr (3, [some 5, some 6, some 7, some 8, none, none, none, none]),
  .inr (2, [some 1, some 9, some 10, some 11, some 12, some 13, none, some 14, none]),
  .inr (1, [some 1, some 2, some 15, none, none]),
  .inr (0, [some 1, some 16, some 17, none, none, none]),
  .inl (10, .int), .inl (8, .int), .inl (8, .int), .inl (8, .int),
  .inl (24, .int), .inl (20, .int), .inl (20, .int), .inl (400, .int), .inl (400, .int), .inl (400, .int),
  .inl (8, .int), .inl (25, .int), .inl (5, .int),
  .inr (5, [none, none, some 19, none, some 20, some 21, some 22, some 23, some 24, some 25, none, some 26, some 27, some 28, some 29, some 30, some 31]),
  .inl (10, .int), .inl (8, .int), .inl (8, .int), .inl (8, .int), .inl (8, .boolean), .inl (8, .int), .inl (8, .int), .inl (400, .int), .inl (400, .int), .inl (400, .int), .inl (40, .int), .inl (5, .int), .inl (5, .int)]
def fval (ad : Nat → Nat) (f : Nat → Int32) (k : Nat) (x : Option Nat) : Value := match x with
  | some r => .ref (ad r)
  | none => .int (f k)
def fvals (ad : Nat → Nat) (f : Nat → Int32) (fl : List (Option Nat)) : List Value := fl.mapIdx (fun k x => fval ad f k x)
def cel (cA : Nat → ClassId) (ad : Nat → Nat) (o : Nat) (f : Nat → Int32) (q : Knd) : va_E := match q with
  | .inl a => .inl (cA o, a.1, .inl f)
  | .inr b => .inr (b.1, fvals ad f b.2)
def wd (cA : Nat → ClassId) (ad : Nat → Nat) (M : Mem) : va_W := knd.mapIdx (fun o q => (ad o, cel cA ad o (M o) q))
theorem wd_at {cA : Nat → ClassId} {ad : Nat → Nat} {M : Mem} {o : Nat} {q : Knd} (h : knd[o]? = some q) : (wd cA ad M)[o]? = some (ad o, cel cA ad o (M o) q) := by
  unfold wd
  rw [List.getElem?_mapIdx, h]
  rfl
theorem wd_of {cA : Nat → ClassId} {ad : Nat → Nat} {M : Mem} {o : Nat} {x : Nat × va_E} (h : (wd cA ad M)[o]? = some x) : ∃ q, knd[o]? = some q ∧ x = (ad o, cel cA ad o (M o) q) := by
  unfold wd at h
  rw [List.getElem?_mapIdx] at h
  cases hq : knd[o]? with
  | none => rw [hq] at h; cases h
  | some q => rw [hq] at h; exact ⟨q, rfl, (Option.some.inj h).symm⟩
theorem wd_set {cA : Nat → ClassId} {ad : Nat → Nat} {M : Mem} {o : Nat} {q : Knd} {f : Nat → Int32} (h : knd[o]? = some q) : (wd cA ad M).set o (ad o, cel cA ad o f q) = wd cA ad (mput M o f) := by
  apply List.ext_getElem?
  intro i
  have hl : o < (wd cA ad M).length := (List.getElem?_eq_some_iff.mp (wd_at h)).1
  by_cases hi : i = o
  · subst hi
    rw [List.getElem?_set_self hl, wd_at h]
    simp [mput]
  · rw [List.getElem?_set_ne (Ne.symm hi)]
    unfold wd
    rw [List.getElem?_mapIdx, List.getElem?_mapIdx]
    cases knd[i]? with
    | none => rfl
    | some q => simp [mput, hi]
theorem fvals_at {ad : Nat → Nat} {f : Nat → Int32} {fl : List (Option Nat)} {k : Nat} {x : Option Nat} (h : fl[k]? = some x) : (fvals ad f fl)[k]? = some (fval ad f k x) := by
  unfold fvals
  rw [List.getElem?_mapIdx, h]
  rfl
theorem fvals_set {ad : Nat → Nat} {f : Nat → Int32} {fl : List (Option Nat)} {k : Nat} {v : Int32} (h : fl[k]? = some none) : (fvals ad f fl).set k (.int v) = fvals ad (upd f k v) fl := by
  apply List.ext_getElem?
  intro i
  have hl : k < (fvals ad f fl).length := (List.getElem?_eq_some_iff.mp (fvals_at h)).1
  by_cases hi : i = k
  · subst hi
    rw [List.getElem?_set_self hl, fvals_at h]
    simp [fval, upd]
  · rw [List.getElem?_set_ne (Ne.symm hi)]
    unfold fvals
    rw [List.getElem?_mapIdx, List.getElem?_mapIdx]
    cases hx : fl[i]? with
    | none => rfl
    | some x => cases x <;> simp [fval, upd, hi]
/-! values: a reference is the number of its cell -/
def cv (ad : Nat → Nat) : Value → Value
  | .ref a => .ref (ad a)
  | v => v
theorem cv_cat (ad : Nat → Nat) (v : Value) : (cv ad v).category = v.category := by cases v <;> rfl
theorem cv_sum (ad : Nat → Nat) (l : List Value) : ((l.map (cv ad)).map fun v => v.category).sum = (l.map fun v => v.category).sum := by
  rw [List.map_map]
  congr 1
  apply List.map_congr_left
  intro v _
  exact cv_cat ad v
def asc (ad : Nat → Nat) : Nat → List Value → List (Nat × Value)
  | _, [] => []
  | i, .int x :: t => (i, .int x) :: asc ad (i + 1) t
  | i, .ref a :: t => (i, .ref (ad a)) :: asc ad (i + 1) t
  | i, _ :: t => asc ad (i + 1) t
theorem asc_iff (ad : Nat → Nat) (q : Nat × Value) : ∀ (ls : List Value) (i : Nat), q ∈ asc ad i ls ↔ ∃ j, q.1 = i + j ∧ ((∃ x, ls[j]? = some (.int x) ∧ q.2 = .int x) ∨ ∃ a, ls[j]? = some (.ref a) ∧ q.2 = .ref (ad a)) := by
  intro ls
  induction ls with
  | nil => intro i; simp [asc]
  | cons v t ih =>
    intro i
    have key : (∃ j, q.1 = i + j ∧ ((∃ x, (v :: t)[j]? = some (.int x) ∧ q.2 = .int x) ∨ ∃ a, (v :: t)[j]? = some (.ref a) ∧ q.2 = .ref (ad a))) ↔ (q.1 = i ∧ ((∃ x, v = .int x ∧ q.2 = .int x) ∨ ∃ a, v = .ref a ∧ q.2 = .ref (ad a))) ∨ q ∈ asc ad (i + 1) t := by
      rw [ih (i + 1)]
      constructor
      · rintro ⟨j, h1, h2⟩
        cases j with
        | zero => left; exact ⟨h1, by simpa using h2⟩
        | succ j => right; exact ⟨j, by omega, by simpa using h2⟩
      · rintro (⟨h1, h2⟩ | ⟨j, h1, h2⟩)
        · exact ⟨0, h1, by simpa using h2⟩
        · exact ⟨j + 1, by omega, by simpa using h2⟩
    rw [key]
    cases v with
    | int x =>
      simp only [asc, List.mem_cons]
      constructor
      · rintro (rfl | h)
        · exact Or.inl ⟨rfl, Or.inl ⟨x, rfl, rfl⟩⟩
        · exact Or.inr h
      · rintro (⟨h1, h2⟩ | h)
        · rcases h2 with ⟨y, h3, h4⟩ | ⟨a, h3, h4⟩
          · cases h3; exact Or.inl (Prod.ext h1 h4)
          · cases h3
        · exact Or.inr h
    | ref x =>
      simp only [asc, List.mem_cons]
      constructor
      · rintro (rfl | h)
        · exact Or.inl ⟨rfl, Or.inr ⟨x, rfl, rfl⟩⟩
        · exact Or.inr h
      · rintro (⟨h1, h2⟩ | h)
        · rcases h2 with ⟨y, h3, h4⟩ | ⟨a, h3, h4⟩
          · cases h3
          · cases h3; exact Or.inl (Prod.ext h1 h4)
        · exact Or.inr h
    | _ =>
      simp only [asc]
      constructor
      · exact Or.inr
      · rintro (⟨h1, h2⟩ | h)
        · rcases h2 with ⟨y, h3, h4⟩ | ⟨a, h3, h4⟩ <;> cases h3
        · exact h
def Lh (n : Nat) (ad : Nat → Nat) (L : Array Slot) (ls : List Value) : Prop := lv_has L n (asc ad 0 ls)
theorem Lh.int {n : Nat} {ad : Nat → Nat} {L : Array Slot} {ls : List Value} (h : Lh n ad L ls) {i : Nat} {x : Int32} (hi : ls[i]? = some (.int x)) : L[i]? = some (.val (.int x)) :=
  h.2.2 (i, .int x) ((asc_iff ad _ ls 0).mpr ⟨i, by simp, Or.inl ⟨x, hi, rfl⟩⟩)
theorem Lh.ref {n : Nat} {ad : Nat → Nat} {L : Array Slot} {ls : List Value} (h : Lh n ad L ls) {i : Nat} {x : Nat} (hi : ls[i]? = some (.ref x)) : L[i]? = some (.val (.ref (ad x))) :=
  h.2.2 (i, .ref (ad x)) ((asc_iff ad _ ls 0).mpr ⟨i, by simp, Or.inr ⟨x, hi, rfl⟩⟩)
theorem Lh.sub {n : Nat} {ad : Nat → Nat} {L : Array Slot} {ls ls' : List Value} (h : Lh n ad L ls) (hs : ∀ (j : Nat) (v : Value), ls'[j]? = some v → v = .null ∨ ls[j]? = some v) : Lh n ad L ls' := by
  refine ⟨h.1, h.2.1, fun q hq => h.2.2 q ?_⟩
  obtain ⟨j, h1, h2⟩ := (asc_iff ad q ls' 0).mp hq
  refine (asc_iff ad q ls 0).mpr ⟨j, h1, ?_⟩
  rcases h2 with ⟨x, h3, h4⟩ | ⟨x, h3, h4⟩
  · rcases hs j _ h3 with h | h
    · cases h
    · exact Or.inl ⟨x, h, h4⟩
  · rcases hs j _ h3 with h | h
    · cases h
    · exact Or.inr ⟨x, h, h4⟩
theorem Lh.store {n : Nat} {ad : Nat → Nat} {L : Array Slot} {ls : List Value} {i : Nat} {v : Value} (h : lv_has L n ((i, cv ad v) :: (asc ad 0 ls).filter (fun q => !(q.1 == i) && !(q.1 + 1 == i && q.2.category == 2)))) : Lh n ad L (ls.set i v) := by
  refine ⟨h.1, h.2.1, fun q hq => h.2.2 q ?_⟩
  obtain ⟨j, h1, h2⟩ := (asc_iff ad q _ 0).mp hq
  rw [Nat.zero_add] at h1
  by_cases hj : j = i
  · subst hj
    have hv : ∀ w, (ls.set j v)[j]? = some w → w = v := by
      intro w hw
      have hl : j < (ls.set j v).length := (List.getElem?_eq_some_iff.mp hw).1
      rw [List.length_set] at hl
      rw [List.getElem?_set_self hl] at hw
      exact (Option.some.inj hw).symm
    refine List.mem_cons.mpr (Or.inl (Prod.ext h1 ?_))
    rcases h2 with ⟨x, h3, h4⟩ | ⟨x, h3, h4⟩
    · rw [h4, ← hv _ h3]; rfl
    · rw [h4, ← hv _ h3]; rfl
  · refine List.mem_cons.mpr (Or.inr (List.mem_filter.mpr ⟨(asc_iff ad q ls 0).mpr ⟨j, by omega, ?_⟩, ?_⟩))
    · rw [List.getElem?_set_ne (Ne.symm hj)] at h2
      exact h2
    · have hq1 : q.1 ≠ i := by omega
      have hc : q.2.category ≠ 2 := by
        rcases h2 with ⟨x, h3, h4⟩ | ⟨x, h3, h4⟩ <;> rw [h4] <;> simp [Value.category]
      simp [hq1, hc]
/-- locals that are forgotten -/
def kill : List Bool → List Value → List Value
  | true :: b, _ :: t => .null :: kill b t
  | false :: b, v :: t => v :: kill b t
  | [], l => l
  | _ :: _, [] => []
theorem kill_sub (b : List Bool) : ∀ (ls : List Value) (j : Nat) (v : Value), (kill b ls)[j]? = some v → v = .null ∨ ls[j]? = some v := by
  induction b with
  | nil => intro ls j v h; right; simpa [kill] using h
  | cons a b ih =>
    intro ls j v h
    cases ls with
    | nil => cases a <;> simp [kill] at h
    | cons w t =>
      cases a with
      | true =>
        cases j with
        | zero => left; simpa [kill, eq_comm] using h
        | succ j =>
          have h1 : (kill b t)[j]? = some v := by simpa [kill] using h
          rcases ih t j v h1 with h | h
          · exact Or.inl h
          · right; simpa using h
      | false =>
        cases j with
        | zero => right; simpa [kill] using h
        | succ j =>
          have h1 : (kill b t)[j]? = some v := by simpa [kill] using h
          rcases ih t j v h1 with h | h
          · exact Or.inl h
          · right; simpa using h
/-! words -/
def lw_w : List Cond := lw_tbl.filter goodWord
theorem lw_in {i : Nat} {w : Cond} (h : lw_tbl[i]? = some w) (g : goodWord w = true) : w ∈ lw_w := List.mem_filter.mpr ⟨List.mem_of_getElem? h, g⟩
theorem lw_good : ∀ w ∈ lw_w, (w.onTables && w.keeps) = true ∨ ∃ ty, w = .arrayClass ty := fun _ h => good_of_word (List.mem_filter.mp h).2
def WS (y : Meth) : List Cond := .code y.1 y.2.1 y.2.2.1 y.2.2.2 :: lw_w
theorem WS_in {y : Meth} {w : Cond} (h : w ∈ lw_w) : w ∈ WS y := List.mem_cons_of_mem _ h
def nst : List (String × Nat × MethodName × String) := [("GapPieces", 11, yX3_init, "GapPieces"), ("GapPieces$Table", 50, yX4_isIn, "GapPieces"), ("GapPieces$Table", 58, yX4_rowOf, "GapPieces"), ("GapPieces$Paths", 110, yX4_rowOf, "GapPieces"), ("GapPieces$Paths", 123, yX4_isPlace, "GapPieces"), ("GapPieces$Paths", 127, yX4_stepX, "GapPieces"), ("GapPieces$Paths", 130, yX4_stepY, "GapPieces"), ("GapPieces$Paths", 85, yX4_columnsOf, "GapPieces"), ("GapPieces$Paths", 91, yX4_rowsOf, "GapPieces"), ("GapPieces$Table", 68, yX4_stepX, "GapPieces"), ("GapPieces$Heap", 40, yX4_isIn, "GapPieces"), ("GapPieces$Filler", 38, yX4_isIn, "GapPieces"), ("GapPieces$Filler", 46, yX4_columnsOf, "GapPieces"), ("GapPieces$Filler", 53, yX4_pieceInOrder, "GapPieces"), ("GapPieces$Filler", 80, yX4_rowOf, "GapPieces"), ("GapPieces$Filler", 64, yX4_rowsOf, "GapPieces")]
def nstOK (U : State) : Prop := ∀ q ∈ nst, va_Nw (.methodLinkNest q.1 q.2.1 q.2.2.1 q.2.2.2) U
def KK (D : va_G) (cA : Nat → ClassId) (U : State) : Prop := va_K D clsT [] U ∧ (∀ (o n : Nat) (ty : FieldType), knd[o]? = some (.inl (n, ty)) → ArrOfT U (cA o) ty ∧ va_RA U (cA o) ty) ∧ nstOK U
theorem KK.arr {D : va_G} {cA : Nat → ClassId} {U : State} (h : KK D cA U) {o n : Nat} {ty : FieldType} (ho : knd[o]? = some (.inl (n, ty))) : va_K D clsT [(cA o, ty)] U :=
  ⟨h.1.1, fun k q hk => by
    cases k with
    | zero => cases hk; exact h.2.1 o n ty ho
    | succ k => simp at hk⟩
theorem KK.warm {D : va_G} {cA : Nat → ClassId} {s U : State} (hW : s.WarmedH U.vm) (h : KK D cA s) : KK D cA U :=
  ⟨va_K.moved hW.alike h.1, fun o n ty ho => ⟨arrOfT_moved hW.alike (h.2.1 o n ty ho).1, (h.2.1 o n ty ho).2.moved hW.alike⟩, fun q hq => va_Nw.warmM hW (h.2.2 q hq)⟩
theorem KK.calling {D : va_G} {cA : Nat → ClassId} {U : State} {g : JFrame} {mk : MethodId} {a : Array Value} (h : KK D cA U) : KK D cA (U.calling g mk a) :=
  ⟨va_K.moved (u := U) (U := U.calling g mk a) (Vm.Alike.refl U.vm) h.1, fun o n ty ho => ⟨arrOfT_moved (E := U.calling g mk a) (Vm.Alike.refl U.vm) (h.2.1 o n ty ho).1, va_RA.moved (u := U) (U := U.calling g mk a) (Vm.Alike.refl U.vm) (h.2.1 o n ty ho).2⟩, fun q hq => va_Nw.same rfl rfl (h.2.2 q hq)⟩
def rvv (r : Option Int32) : Option Value := r.map Value.int
def rv (r : Option Int32) : List Value := match r with
  | some v => [.int v]
  | none => []
def AA (ad : Nat → Nat) (sz : Nat) : Nat → Prop := fun q => (∃ i, i < 32 ∧ q = ad i) ∨ sz ≤ q
abbrev Post : Type := Option Int32 → Mem → Prop
def QM (D : va_G) (cA : Nat → ClassId) (ad : Nat → Nat) (A : Nat → Prop) (Q : Post) : Array Value → State → Outcome → State → Prop := fun _ st oc t => (∃ (r : Option Int32) (M : Mem), oc = .returned (rvv r) ∧ Q r M ∧ va_P D clsT (wd cA ad M) t.heap) ∧ va_F A st t
def rmD (d : Nat) : Room := { frames := d, cells := 0, slots := 0, locals := 40 * d }
def inj32 (ad : Nat → Nat) : Prop := ∀ i j, i < 32 → j < 32 → ad i = ad j → i = j
def Mraw (d : Nat) (y : Meth) (as : List Value) (M : Mem) (Q : Post) : Prop :=
  ∀ (l : Launch) (D : va_G) (cA : Nat → ClassId) (ad : Nat → Nat) (sz : Nat), Met l y.1 (WS y) (rmD d)
    (va_Pc (as.map (cv ad)) (fun U => U.heap.size = sz ∧ va_P D clsT (wd cA ad M) U.heap ∧ KK D cA U ∧ inj32 ad))
    (QM D cA ad (AA ad sz) Q) 0 0 (AA ad sz)
/-- a method's contract -/
def Mt (d : Nat) (y : Meth) (as : List Value) (M : Mem) (Q : Post) : Prop := ∃ Q0 : Post, (∀ r M', Q0 r M' → Q r M') ∧ Mraw d y as M Q0
theorem Mt.mono {d : Nat} {y : Meth} {as : List Value} {M : Mem} {Q Q' : Post} (h : Mt d y as M Q) (k : ∀ r M', Q r M' → Q' r M') : Mt d y as M Q' := by
  obtain ⟨Q0, h1, h2⟩ := h
  exact ⟨Q0, fun r M' q => k r M' (h1 r M' q), h2⟩
theorem knd_len : knd.length = 32 := rfl
theorem wd_D {A : Nat → Prop} {cA : Nat → ClassId} {ad : Nat → Nat} {M : Mem} (hi : inj32 ad) (hA : ∀ i, i < 32 → A (ad i)) : va_D A (wd cA ad M) := by
  have hl : ∀ (k : Nat) (q : Nat × va_E), (wd cA ad M)[k]? = some q → k < 32 ∧ q.1 = ad k := by
    intro k q hk
    obtain ⟨x, h1, h2⟩ := wd_of hk
    have := (List.getElem?_eq_some_iff.mp h1).1
    rw [knd_len] at this
    exact ⟨this, by rw [h2]⟩
  refine ⟨fun i j p q hp hq e => ?_, fun k q hk => ?_⟩
  · obtain ⟨h1, h2⟩ := hl i p hp
    obtain ⟨h3, h4⟩ := hl j q hq
    exact hi i j h1 h3 (by rw [← h2, ← h4]; exact e)
  · obtain ⟨h1, h2⟩ := hl k q hk
    rw [h2]
    exact hA k h1
/-! the walk of a body: at pc, with locals, stack, memory, it comes to an end that Q tells -/
def Cx (X : Scr) (d : Nat) (y : Meth) (Q : Post) (p : Program) (l : Launch) (e : Env) (rm : Room) (s : State) (m : MethodId) (args : Array Value) (below : List Frame) (meth : Method) (c : Code) (D : va_G) (cA : Nat → ClassId) (ad : Nat → Nat) (A : Nat → Prop) (cells slots : Nat) (Z : State → Prop) : Prop :=
  p.tables.exec = Jvm.exec ∧ c.code = y.2.1 ∧ c.maxLocals = y.2.2.1 ∧ s.vm.findClass y.1.cls = some m.cls ∧ (∀ w ∈ WS y, w.before args s = true) ∧ KK D cA s ∧ inj32 ad ∧ (∀ i, i < 32 → A (ad i)) ∧ (∀ q, s.heap.size ≤ q → A q) ∧
  (d ≤ rm.frames ∧ 40 * d ≤ rm.locals ∧ cells ≤ rm.cells ∧ slots ≤ rm.slots) ∧
  (∀ (r : Int32) (M : Mem) (H : Heap) (locs : List Loc) (pc : Nat) (L : Array Slot), Q (some r) M → va_P D clsT (wd cA ad M) H → va_S A s.heap H locs → decode y.2.1 pc = .ok (.ireturn, 1) → (∃ ty, y.2.2.2 = some ty ∧ narrow ty (.int r) = .int r) → W p l e rm s m args below meth c H locs cells slots Z (F0 m pc L [.int r])) ∧
  (∀ (M : Mem) (H : Heap) (locs : List Loc) (pc : Nat) (L : Array Slot), Q none M → va_P D clsT (wd cA ad M) H → va_S A s.heap H locs → decode y.2.1 pc = .ok (.return_, 1) → y.2.2.2 = none → W p l e rm s m args below meth c H locs cells slots Z (F0 m pc L [])) ∧
  (∀ n xs, X = some (n, xs) → va_X (ad 1000) n xs s s.heap ∧ ad 1000 < s.heap.size ∧ ¬ A (ad 1000))
def R (X : Scr) (d : Nat) (y : Meth) (pc : Nat) (ls st : List Value) (M : Mem) (Q : Post) : Prop :=
  ∀ (p : Program) (l : Launch) (e : Env) (rm : Room) (s : State) (m : MethodId) (args : Array Value) (below : List Frame) (meth : Method) (c : Code) (D : va_G) (cA : Nat → ClassId) (ad : Nat → Nat) (A : Nat → Prop) (cells slots : Nat) (Z : State → Prop),
    Cx X d y Q p l e rm s m args below meth c D cA ad A cells slots Z → ∀ (H : Heap) (locs : List Loc) (L : Array Slot), va_P D clsT (wd cA ad M) H → va_S A s.heap H locs → Lh y.2.2.1 ad L ls → W p l e rm s m args below meth c H locs cells slots Z (F0 m pc L (st.map (cv ad)))
section RULES
variable {X : Scr} {d : Nat} {y : Meth} {pc : Nat} {ls st : List Value} {M : Mem} {Q : Post}
theorem r_iconst {n : Int} {v : Int32} (hd : decode y.2.1 pc = .ok (.iconst n, 1)) (hv : Int32.ofInt n = v) (k : R X d y (pc + 1) ls (.int v :: st) M Q) : R X d y pc ls st M Q :=
  fun p l e rm s m args below meth c D cA ad A cells slots Z C H locs L hP hS hl => lv_iconst C.1 C.2.1 hd hv (k p l e rm s m args below meth c D cA ad A cells slots Z C H locs L hP hS hl)
theorem r_bipush {n : Int} {v : Int32} (hd : decode y.2.1 pc = .ok (.bipush n, 2)) (hv : (Int8.ofInt n).toInt32 = v) (k : R X d y (pc + 2) ls (.int v :: st) M Q) : R X d y pc ls st M Q :=
  fun p l e rm s m args below meth c D cA ad A cells slots Z C H locs L hP hS hl => lv_bipush C.1 C.2.1 hd hv (k p l e rm s m args below meth c D cA ad A cells slots Z C H locs L hP hS hl)
theorem r_sipush {n : Int} {v : Int32} (hd : decode y.2.1 pc = .ok (.sipush n, 3)) (hv : (Int16.ofInt n).toInt32 = v) (k : R X d y (pc + 3) ls (.int v :: st) M Q) : R X d y pc ls st M Q :=
  fun p l e rm s m args below meth c D cA ad A cells slots Z C H locs L hP hS hl => lv_sipush C.1 C.2.1 hd hv (k p l e rm s m args below meth c D cA ad A cells slots Z C H locs L hP hS hl)
theorem r_ldc {i : Nat} {v : Int32} (hd : decode y.2.1 pc = .ok (.ldc i, 2)) (hw : Cond.constant y.1.cls i v ∈ lw_w) (k : R X d y (pc + 2) ls (.int v :: st) M Q) : R X d y pc ls st M Q :=
  fun p l e rm s m args below meth c D cA ad A cells slots Z C H locs L hP hS hl => lv_ldc C.1 C.2.1 C.2.2.2.1 (C.2.2.2.2.1 _ (WS_in hw)) hd (k p l e rm s m args below meth c D cA ad A cells slots Z C H locs L hP hS hl)
theorem r_ldcw {i : Nat} {v : Int32} (hd : decode y.2.1 pc = .ok (.ldc_w i, 3)) (hw : Cond.constant y.1.cls i v ∈ lw_w) (k : R X d y (pc + 3) ls (.int v :: st) M Q) : R X d y pc ls st M Q :=
  fun p l e rm s m args below meth c D cA ad A cells slots Z C H locs L hP hS hl => lv_ldcw C.1 C.2.1 C.2.2.2.1 (C.2.2.2.2.1 _ (WS_in hw)) hd (k p l e rm s m args below meth c D cA ad A cells slots Z C H locs L hP hS hl)
theorem r_iload_n {i : Fin 4} {j : Nat} {x : Int32} (hd : decode y.2.1 pc = .ok (.iload_n i, 1)) (hj : (i : Nat) = j) (hx : ls[j]? = some (.int x)) (k : R X d y (pc + 1) ls (.int x :: st) M Q) : R X d y pc ls st M Q :=
  fun p l e rm s m args below meth c D cA ad A cells slots Z C H locs L hP hS hl => lv_iload_n C.1 C.2.1 hd hj (hl.int hx) (k p l e rm s m args below meth c D cA ad A cells slots Z C H locs L hP hS hl)
theorem r_iload {j : Nat} {x : Int32} (hd : decode y.2.1 pc = .ok (.iload j, 2)) (hx : ls[j]? = some (.int x)) (k : R X d y (pc + 2) ls (.int x :: st) M Q) : R X d y pc ls st M Q :=
  fun p l e rm s m args below meth c D cA ad A cells slots Z C H locs L hP hS hl => lv_iload C.1 C.2.1 hd (hl.int hx) (k p l e rm s m args below meth c D cA ad A cells slots Z C H locs L hP hS hl)
theorem r_aload_n {i : Fin 4} {j : Nat} {x : Nat} (hd : decode y.2.1 pc = .ok (.aload_n i, 1)) (hj : (i : Nat) = j) (hx : ls[j]? = some (.ref x)) (k : R X d y (pc + 1) ls (.ref x :: st) M Q) : R X d y pc ls st M Q :=
  fun p l e rm s m args below meth c D cA ad A cells slots Z C H locs L hP hS hl => lv_aload_n C.1 C.2.1 hd hj (hl.ref hx) (k p l e rm s m args below meth c D cA ad A cells slots Z C H locs L hP hS hl)
theorem r_istore_n {i : Fin 4} {j : Nat} {x : Int32} {ls' : List Value} (hd : decode y.2.1 pc = .ok (.istore_n i, 1)) (hj : (i : Nat) = j) (hn : j < y.2.2.1) (hs : ls.set j (.int x) = ls') (k : R X d y (pc + 1) ls' st M Q) : R X d y pc ls (.int x :: st) M Q := by
  subst hs
  exact fun p l e rm s m args below meth c D cA ad A cells slots Z C H locs L hP hS hl => lv_istore_n C.1 C.2.1 hd hj hl hn rfl (fun L' hl' => k p l e rm s m args below meth c D cA ad A cells slots Z C H locs L' hP hS (Lh.store hl'))
theorem r_istore {j : Nat} {x : Int32} {ls' : List Value} (hd : decode y.2.1 pc = .ok (.istore j, 2)) (hn : j < y.2.2.1) (hs : ls.set j (.int x) = ls') (k : R X d y (pc + 2) ls' st M Q) : R X d y pc ls (.int x :: st) M Q := by
  subst hs
  exact fun p l e rm s m args below meth c D cA ad A cells slots Z C H locs L hP hS hl => lv_istore C.1 C.2.1 hd hl hn rfl (fun L' hl' => k p l e rm s m args below meth c D cA ad A cells slots Z C H locs L' hP hS (Lh.store hl'))
theorem r_iinc {j : Nat} {n : Int} {x v : Int32} {ls' : List Value} (hd : decode y.2.1 pc = .ok (.iinc j n, 3)) (hx : ls[j]? = some (.int x)) (hv : Int32.ofInt n = v) (hn : j < y.2.2.1) (hs : ls.set j (.int (x + v)) = ls') (k : R X d y (pc + 3) ls' st M Q) : R X d y pc ls st M Q := by
  subst hs
  subst hv
  intro p l e rm s m args below meth c D cA ad A cells slots Z C H locs L hP hS hl
  have hm : ((j, Value.int x) : Nat × Value) ∈ asc ad 0 ls := (asc_iff ad _ ls 0).mpr ⟨j, by simp, Or.inl ⟨x, hx, rfl⟩⟩
  obtain ⟨q, hq⟩ := List.getElem?_of_mem hm
  exact lv_iinc (k := q) C.1 C.2.1 hd hl hq rfl hn rfl (fun L' hl' => k p l e rm s m args below meth c D cA ad A cells slots Z C H locs L' hP hS (Lh.store hl'))
theorem r_iadd {a b : Int32} (hd : decode y.2.1 pc = .ok (.iadd, 1)) (k : R X d y (pc + 1) ls (.int (a + b) :: st) M Q) : R X d y pc ls (.int b :: .int a :: st) M Q :=
  fun p l e rm s m args below meth c D cA ad A cells slots Z C H locs L hP hS hl => lv_iadd C.1 C.2.1 hd (k p l e rm s m args below meth c D cA ad A cells slots Z C H locs L hP hS hl)
theorem r_isub {a b : Int32} (hd : decode y.2.1 pc = .ok (.isub, 1)) (k : R X d y (pc + 1) ls (.int (a - b) :: st) M Q) : R X d y pc ls (.int b :: .int a :: st) M Q :=
  fun p l e rm s m args below meth c D cA ad A cells slots Z C H locs L hP hS hl => lv_isub C.1 C.2.1 hd (k p l e rm s m args below meth c D cA ad A cells slots Z C H locs L hP hS hl)
theorem r_imul {a b : Int32} (hd : decode y.2.1 pc = .ok (.imul, 1)) (k : R X d y (pc + 1) ls (.int (a * b) :: st) M Q) : R X d y pc ls (.int b :: .int a :: st) M Q :=
  fun p l e rm s m args below meth c D cA ad A cells slots Z C H locs L hP hS hl => lv_imul C.1 C.2.1 hd (k p l e rm s m args below meth c D cA ad A cells slots Z C H locs L hP hS hl)
theorem r_iand {a b : Int32} (hd : decode y.2.1 pc = .ok (.iand, 1)) (k : R X d y (pc + 1) ls (.int (a &&& b) :: st) M Q) : R X d y pc ls (.int b :: .int a :: st) M Q :=
  fun p l e rm s m args below meth c D cA ad A cells slots Z C H locs L hP hS hl => lv_iand C.1 C.2.1 hd (k p l e rm s m args below meth c D cA ad A cells slots Z C H locs L hP hS hl)
theorem r_ior {a b : Int32} (hd : decode y.2.1 pc = .ok (.ior, 1)) (k : R X d y (pc + 1) ls (.int (a ||| b) :: st) M Q) : R X d y pc ls (.int b :: .int a :: st) M Q :=
  fun p l e rm s m args below meth c D cA ad A cells slots Z C H locs L hP hS hl => lv_ior C.1 C.2.1 hd (k p l e rm s m args below meth c D cA ad A cells slots Z C H locs L hP hS hl)
theorem r_ixor {a b : Int32} (hd : decode y.2.1 pc = .ok (.ixor, 1)) (k : R X d y (pc + 1) ls (.int (a ^^^ b) :: st) M Q) : R X d y pc ls (.int b :: .int a :: st) M Q :=
  fun p l e rm s m args below meth c D cA ad A cells slots Z C H locs L hP hS hl => lv_ixor C.1 C.2.1 hd (k p l e rm s m args below meth c D cA ad A cells slots Z C H locs L hP hS hl)
theorem r_idiv {a b : Int32} (hd : decode y.2.1 pc = .ok (.idiv, 1)) (hn : ¬ b = 0) (k : R X d y (pc + 1) ls (.int (a / b) :: st) M Q) : R X d y pc ls (.int b :: .int a :: st) M Q :=
  fun p l e rm s m args below meth c D cA ad A cells slots Z C H locs L hP hS hl => lv_idiv C.1 C.2.1 hd hn (k p l e rm s m args below meth c D cA ad A cells slots Z C H locs L hP hS hl)
theorem r_irem {a b : Int32} (hd : decode y.2.1 pc = .ok (.irem, 1)) (hn : ¬ b = 0) (k : R X d y (pc + 1) ls (.int (a - a / b * b) :: st) M Q) : R X d y pc ls (.int b :: .int a :: st) M Q :=
  fun p l e rm s m args below meth c D cA ad A cells slots Z C H locs L hP hS hl => lv_irem C.1 C.2.1 hd hn (k p l e rm s m args below meth c D cA ad A cells slots Z C H locs L hP hS hl)
theorem r_ishl {a b : Int32} (hd : decode y.2.1 pc = .ok (.ishl, 1)) (k : R X d y (pc + 1) ls (.int (a <<< (b &&& 31)) :: st) M Q) : R X d y pc ls (.int b :: .int a :: st) M Q :=
  fun p l e rm s m args below meth c D cA ad A cells slots Z C H locs L hP hS hl => lv_ishl C.1 C.2.1 hd (k p l e rm s m args below meth c D cA ad A cells slots Z C H locs L hP hS hl)
theorem r_ishr {a b : Int32} (hd : decode y.2.1 pc = .ok (.ishr, 1)) (k : R X d y (pc + 1) ls (.int (a >>> (b &&& 31)) :: st) M Q) : R X d y pc ls (.int b :: .int a :: st) M Q :=
  fun p l e rm s m args below meth c D cA ad A cells slots Z C H locs L hP hS hl => lv_ishr C.1 C.2.1 hd (k p l e rm s m args below meth c D cA ad A cells slots Z C H locs L hP hS hl)
def ushr (x y : Int32) : Int32 := (x.toUInt32 >>> (y.toUInt32 &&& Int32.toUInt32 31)).toInt32
theorem r_iushr {a b : Int32} (hd : decode y.2.1 pc = .ok (.iushr, 1)) (k : R X d y (pc + 1) ls (.int (ushr a b) :: st) M Q) : R X d y pc ls (.int b :: .int a :: st) M Q :=
  fun p l e rm s m args below meth c D cA ad A cells slots Z C H locs L hP hS hl => lv_iushr C.1 C.2.1 hd rfl (k p l e rm s m args below meth c D cA ad A cells slots Z C H locs L hP hS hl)
theorem r_ineg {a : Int32} (hd : decode y.2.1 pc = .ok (.ineg, 1)) (k : R X d y (pc + 1) ls (.int (-a) :: st) M Q) : R X d y pc ls (.int a :: st) M Q :=
  fun p l e rm s m args below meth c D cA ad A cells slots Z C H locs L hP hS hl => lv_ineg C.1 C.2.1 hd (k p l e rm s m args below meth c D cA ad A cells slots Z C H locs L hP hS hl)
theorem r_dup {v : Value} (hd : decode y.2.1 pc = .ok (.dup, 1)) (hc : v.category = 1) (k : R X d y (pc + 1) ls (v :: v :: st) M Q) : R X d y pc ls (v :: st) M Q :=
  fun p l e rm s m args below meth c D cA ad A cells slots Z C H locs L hP hS hl => lv_dup C.1 C.2.1 hd (by rw [cv_cat]; exact hc) (k p l e rm s m args below meth c D cA ad A cells slots Z C H locs L hP hS hl)
theorem r_dup2 {v w : Value} (hd : decode y.2.1 pc = .ok (.dup2, 1)) (hc : v.category = 1) (hc2 : w.category = 1) (k : R X d y (pc + 1) ls (v :: w :: v :: w :: st) M Q) : R X d y pc ls (v :: w :: st) M Q :=
  fun p l e rm s m args below meth c D cA ad A cells slots Z C H locs L hP hS hl => lv_dup2_11 C.1 C.2.1 hd (by rw [cv_cat]; exact hc) (by rw [cv_cat]; exact hc2) (k p l e rm s m args below meth c D cA ad A cells slots Z C H locs L hP hS hl)
theorem r_dup_x1 {v w : Value} (hd : decode y.2.1 pc = .ok (.dup_x1, 1)) (hc : v.category = 1) (hc2 : w.category = 1) (k : R X d y (pc + 1) ls (v :: w :: v :: st) M Q) : R X d y pc ls (v :: w :: st) M Q :=
  fun p l e rm s m args below meth c D cA ad A cells slots Z C H locs L hP hS hl => lv_dup_x1 C.1 C.2.1 hd (by rw [cv_cat]; exact hc) (by rw [cv_cat]; exact hc2) (k p l e rm s m args below meth c D cA ad A cells slots Z C H locs L hP hS hl)
theorem r_goto {off : Int} {tgt : Nat} (hd : decode y.2.1 pc = .ok (.goto off, 3)) (ht : (pc : Int) + off = (tgt : Int)) (k : R X d y tgt ls st M Q) : R X d y pc ls st M Q :=
  fun p l e rm s m args below meth c D cA ad A cells slots Z C H locs L hP hS hl => lv_goto C.1 C.2.1 hd ht (k p l e rm s m args below meth c D cA ad A cells slots Z C H locs L hP hS hl)
theorem r_if_eq {x : Int32} {off : Int} {tgt : Nat} (hd : decode y.2.1 pc = .ok (.ifCond .eq off, 3)) (ht : (pc : Int) + off = (tgt : Int)) (kt : x = 0 → R X d y tgt ls st M Q) (kf : ¬ x = 0 → R X d y (pc + 3) ls st M Q) : R X d y pc ls (.int x :: st) M Q :=
  fun p l e rm s m args below meth c D cA ad A cells slots Z C H locs L hP hS hl => lv_if_eq C.1 C.2.1 hd ht (fun h => kt h p l e rm s m args below meth c D cA ad A cells slots Z C H locs L hP hS hl) (fun h => kf h p l e rm s m args below meth c D cA ad A cells slots Z C H locs L hP hS hl)
theorem r_if_ne {x : Int32} {off : Int} {tgt : Nat} (hd : decode y.2.1 pc = .ok (.ifCond .ne off, 3)) (ht : (pc : Int) + off = (tgt : Int)) (kt : ¬ x = 0 → R X d y tgt ls st M Q) (kf : x = 0 → R X d y (pc + 3) ls st M Q) : R X d y pc ls (.int x :: st) M Q :=
  fun p l e rm s m args below meth c D cA ad A cells slots Z C H locs L hP hS hl => lv_if_ne C.1 C.2.1 hd ht (fun h => kt h p l e rm s m args below meth c D cA ad A cells slots Z C H locs L hP hS hl) (fun h => kf h p l e rm s m args below meth c D cA ad A cells slots Z C H locs L hP hS hl)
theorem r_if_lt {x : Int32} {off : Int} {tgt : Nat} (hd : decode y.2.1 pc = .ok (.ifCond .lt off, 3)) (ht : (pc : Int) + off = (tgt : Int)) (kt : x < 0 → R X d y tgt ls st M Q) (kf : ¬ x < 0 → R X d y (pc + 3) ls st M Q) : R X d y pc ls (.int x :: st) M Q :=
  fun p l e rm s m args below meth c D cA ad A cells slots Z C H locs L hP hS hl => lv_if_lt C.1 C.2.1 hd ht (fun h => kt h p l e rm s m args below meth c D cA ad A cells slots Z C H locs L hP hS hl) (fun h => kf h p l e rm s m args below meth c D cA ad A cells slots Z C H locs L hP hS hl)
theorem r_if_ge {x : Int32} {off : Int} {tgt : Nat} (hd : decode y.2.1 pc = .ok (.ifCond .ge off, 3)) (ht : (pc : Int) + off = (tgt : Int)) (kt : 0 ≤ x → R X d y tgt ls st M Q) (kf : ¬ 0 ≤ x → R X d y (pc + 3) ls st M Q) : R X d y pc ls (.int x :: st) M Q :=
  fun p l e rm s m args below meth c D cA ad A cells slots Z C H locs L hP hS hl => lv_if_ge C.1 C.2.1 hd ht (fun h => kt h p l e rm s m args below meth c D cA ad A cells slots Z C H locs L hP hS hl) (fun h => kf h p l e rm s m args below meth c D cA ad A cells slots Z C H locs L hP hS hl)
theorem r_if_gt {x : Int32} {off : Int} {tgt : Nat} (hd : decode y.2.1 pc = .ok (.ifCond .gt off, 3)) (ht : (pc : Int) + off = (tgt : Int)) (kt : 0 < x → R X d y tgt ls st M Q) (kf : ¬ 0 < x → R X d y (pc + 3) ls st M Q) : R X d y pc ls (.int x :: st) M Q :=
  fun p l e rm s m args below meth c D cA ad A cells slots Z C H locs L hP hS hl => lv_if_gt C.1 C.2.1 hd ht (fun h => kt h p l e rm s m args below meth c D cA ad A cells slots Z C H locs L hP hS hl) (fun h => kf h p l e rm s m args below meth c D cA ad A cells slots Z C H locs L hP hS hl)
theorem r_if_le {x : Int32} {off : Int} {tgt : Nat} (hd : decode y.2.1 pc = .ok (.ifCond .le off, 3)) (ht : (pc : Int) + off = (tgt : Int)) (kt : x ≤ 0 → R X d y tgt ls st M Q) (kf : ¬ x ≤ 0 → R X d y (pc + 3) ls st M Q) : R X d y pc ls (.int x :: st) M Q :=
  fun p l e rm s m args below meth c D cA ad A cells slots Z C H locs L hP hS hl => lv_if_le C.1 C.2.1 hd ht (fun h => kt h p l e rm s m args below meth c D cA ad A cells slots Z C H locs L hP hS hl) (fun h => kf h p l e rm s m args below meth c D cA ad A cells slots Z C H locs L hP hS hl)
theorem r_icmp_eq {a b : Int32} {off : Int} {tgt : Nat} (hd : decode y.2.1 pc = .ok (.if_icmp .eq off, 3)) (ht : (pc : Int) + off = (tgt : Int)) (kt : a = b → R X d y tgt ls st M Q) (kf : ¬ a = b → R X d y (pc + 3) ls st M Q) : R X d y pc ls (.int b :: .int a :: st) M Q :=
  fun p l e rm s m args below meth c D cA ad A cells slots Z C H locs L hP hS hl => lv_icmp_eq C.1 C.2.1 hd ht (fun h => kt h p l e rm s m args below meth c D cA ad A cells slots Z C H locs L hP hS hl) (fun h => kf h p l e rm s m args below meth c D cA ad A cells slots Z C H locs L hP hS hl)
theorem r_icmp_ne {a b : Int32} {off : Int} {tgt : Nat} (hd : decode y.2.1 pc = .ok (.if_icmp .ne off, 3)) (ht : (pc : Int) + off = (tgt : Int)) (kt : ¬ a = b → R X d y tgt ls st M Q) (kf : a = b → R X d y (pc + 3) ls st M Q) : R X d y pc ls (.int b :: .int a :: st) M Q :=
  fun p l e rm s m args below meth c D cA ad A cells slots Z C H locs L hP hS hl => lv_icmp_ne C.1 C.2.1 hd ht (fun h => kt h p l e rm s m args below meth c D cA ad A cells slots Z C H locs L hP hS hl) (fun h => kf h p l e rm s m args below meth c D cA ad A cells slots Z C H locs L hP hS hl)
theorem r_icmp_lt {a b : Int32} {off : Int} {tgt : Nat} (hd : decode y.2.1 pc = .ok (.if_icmp .lt off, 3)) (ht : (pc : Int) + off = (tgt : Int)) (kt : a < b → R X d y tgt ls st M Q) (kf : ¬ a < b → R X d y (pc + 3) ls st M Q) : R X d y pc ls (.int b :: .int a :: st) M Q :=
  fun p l e rm s m args below meth c D cA ad A cells slots Z C H locs L hP hS hl => lv_icmp_lt C.1 C.2.1 hd ht (fun h => kt h p l e rm s m args below meth c D cA ad A cells slots Z C H locs L hP hS hl) (fun h => kf h p l e rm s m args below meth c D cA ad A cells slots Z C H locs L hP hS hl)
theorem r_icmp_ge {a b : Int32} {off : Int} {tgt : Nat} (hd : decode y.2.1 pc = .ok (.if_icmp .ge off, 3)) (ht : (pc : Int) + off = (tgt : Int)) (kt : b ≤ a → R X d y tgt ls st M Q) (kf : ¬ b ≤ a → R X d y (pc + 3) ls st M Q) : R X d y pc ls (.int b :: .int a :: st) M Q :=
  fun p l e rm s m args below meth c D cA ad A cells slots Z C H locs L hP hS hl => lv_icmp_ge C.1 C.2.1 hd ht (fun h => kt h p l e rm s m args below meth c D cA ad A cells slots Z C H locs L hP hS hl) (fun h => kf h p l e rm s m args below meth c D cA ad A cells slots Z C H locs L hP hS hl)
theorem r_icmp_gt {a b : Int32} {off : Int} {tgt : Nat} (hd : decode y.2.1 pc = .ok (.if_icmp .gt off, 3)) (ht : (pc : Int) + off = (tgt : Int)) (kt : b < a → R X d y tgt ls st M Q) (kf : ¬ b < a → R X d y (pc + 3) ls st M Q) : R X d y pc ls (.int b :: .int a :: st) M Q :=
  fun p l e rm s m args below meth c D cA ad A cells slots Z C H locs L hP hS hl => lv_icmp_gt C.1 C.2.1 hd ht (fun h => kt h p l e rm s m args below meth c D cA ad A cells slots Z C H locs L hP hS hl) (fun h => kf h p l e rm s m args below meth c D cA ad A cells slots Z C H locs L hP hS hl)
theorem r_icmp_le {a b : Int32} {off : Int} {tgt : Nat} (hd : decode y.2.1 pc = .ok (.if_icmp .le off, 3)) (ht : (pc : Int) + off = (tgt : Int)) (kt : a ≤ b → R X d y tgt ls st M Q) (kf : ¬ a ≤ b → R X d y (pc + 3) ls st M Q) : R X d y pc ls (.int b :: .int a :: st) M Q :=
  fun p l e rm s m args below meth c D cA ad A cells slots Z C H locs L hP hS hl => lv_icmp_le C.1 C.2.1 hd ht (fun h => kt h p l e rm s m args below meth c D cA ad A cells slots Z C H locs L hP hS hl) (fun h => kf h p l e rm s m args below meth c D cA ad A cells slots Z C H locs L hP hS hl)
theorem r_kill {ls' : List Value} (b : List Bool) (h : kill b ls = ls') (k : R X d y pc ls' st M Q) : R X d y pc ls st M Q := by
  subst h
  exact fun p l e rm s m args below meth c D cA ad A cells slots Z C H locs L hP hS hl => k p l e rm s m args below meth c D cA ad A cells slots Z C H locs L hP hS (hl.sub (kill_sub b ls))
end RULES
/-! fields and arrays -/
def FL (own : String) (idx ci k : Nat) : Prop := ∃ (C : String) (T : u_T) (N : Nat), clsT[ci]? = some (C, T, N) ∧ (∀ w ∈ u_ws C T N, w ∈ lw_w) ∧ k < N ∧ Cond.fieldLink own idx (T k).1 (T k).2.1 (T k).2.2.1 ∈ lw_w
def FW (own : String) (idx ci k : Nat) : Prop := ∃ (C : String) (T : u_T) (N : Nat) (ty : Nat → FieldType), clsT[ci]? = some (C, T, N) ∧ (∀ w ∈ u_ws C T N, w ∈ lw_w) ∧ k < N ∧ Cond.fieldLink own idx (T k).1 (T k).2.1 (T k).2.2.1 ∈ lw_w ∧ (∀ k, k < N → parseFieldDescriptor (T k).2.2.1 = some (ty k)) ∧ (∀ a, a < N → ∀ b, b < N → a ≠ b → (T a).2.1 ≠ (T b).2.1) ∧ (T k).2.2.2 = false ∧ parseFieldDescriptor (T k).2.2.1 = some .int
section RULES2
variable {X : Scr} {d : Nat} {y : Meth} {pc : Nat} {ls st : List Value} {M : Mem} {Q : Post}
theorem r_getI {o ci k idx : Nat} {fl : List (Option Nat)} (hd : decode y.2.1 pc = .ok (.getfield idx, 3)) (hF : FL y.1.cls idx ci k) (hk : knd[o]? = some (.inr (ci, fl))) (hf : fl[k]? = some none) (kk : R X d y (pc + 3) ls (.int (M o k) :: st) M Q) : R X d y pc ls (.ref o :: st) M Q := by
  intro p l e rm s m args below meth c D cA ad A cells slots Z C H locs L hP hS hl
  obtain ⟨Cn, T, N, h1, h2, h3, h4⟩ := hF
  exact va_get (v := .int (M o k)) C.1 C.2.1 C.2.2.2.2.1 (fun w hw => WS_in (h2 w hw)) C.2.2.2.1 C.2.2.2.2.2.1.1 hP o (wd_at hk) h1 k h3 (C.2.2.2.2.1 _ (WS_in h4)) (fun _ h9 => h9) (fvals_at hf) hd (kk p l e rm s m args below meth c D cA ad A cells slots Z C H locs L hP hS hl)
theorem r_getR {o ci k idx r : Nat} {fl : List (Option Nat)} (hd : decode y.2.1 pc = .ok (.getfield idx, 3)) (hF : FL y.1.cls idx ci k) (hk : knd[o]? = some (.inr (ci, fl))) (hf : fl[k]? = some (some r)) (kk : R X d y (pc + 3) ls (.ref r :: st) M Q) : R X d y pc ls (.ref o :: st) M Q := by
  intro p l e rm s m args below meth c D cA ad A cells slots Z C H locs L hP hS hl
  obtain ⟨Cn, T, N, h1, h2, h3, h4⟩ := hF
  exact va_get (v := .ref (ad r)) C.1 C.2.1 C.2.2.2.2.1 (fun w hw => WS_in (h2 w hw)) C.2.2.2.1 C.2.2.2.2.2.1.1 hP o (wd_at hk) h1 k h3 (C.2.2.2.2.1 _ (WS_in h4)) (fun _ h9 => h9) (fvals_at hf) hd (kk p l e rm s m args below meth c D cA ad A cells slots Z C H locs L hP hS hl)
theorem r_putI {o ci k idx : Nat} {v : Int32} {fl : List (Option Nat)} (hd : decode y.2.1 pc = .ok (.putfield idx, 3)) (hF : FW y.1.cls idx ci k) (hk : knd[o]? = some (.inr (ci, fl))) (hf : fl[k]? = some none) (kk : R X d y (pc + 3) ls st (mset M o k v) Q) : R X d y pc ls (.int v :: .ref o :: st) M Q := by
  intro p l e rm s m args below meth c D cA ad A cells slots Z C H locs L hP hS hl
  obtain ⟨Cn, T, N, ty, h1, h2, h3, h4, h5, h6, h7, h8⟩ := hF
  refine va_put (ty := .int) (v := .int v) C.1 C.2.1 C.2.2.2.2.1 (fun w hw => WS_in (h2 w hw)) ty h5 h6 C.2.2.2.1 C.2.2.2.2.2.1.1 hP (wd_D C.2.2.2.2.2.2.1 C.2.2.2.2.2.2.2.1) hS o (wd_at hk) h1 k h3 (C.2.2.2.2.1 _ (WS_in h4)) (fun _ h9 => h9) h7 h8 rfl rfl (List.getElem?_eq_some_iff.mp (fvals_at (ad := ad) (f := M o) hf)).1 hd (fun H1 locs1 hP1 hD1 hS1 => ?_)
  have e9 : (wd cA ad M).set o (ad o, .inr (ci, (fvals ad (M o) fl).set k (.int v))) = wd cA ad (mset M o k v) := by
    rw [fvals_set hf]
    exact wd_set (q := .inr (ci, fl)) hk
  rw [e9] at hP1
  exact kk p l e rm s m args below meth c D cA ad A cells slots Z C H1 locs1 L hP1 hS1 hl
theorem r_iald {o n : Nat} {i : Int32} (hd : decode y.2.1 pc = .ok (.iaload, 1)) (hk : knd[o]? = some (.inl (n, .int))) (hin : vp_in i n) (kk : R X d y (pc + 1) ls (.int (M o i.toNatClampNeg) :: st) M Q) : R X d y pc ls (.int i :: .ref o :: st) M Q := by
  intro p l e rm s m args below meth c D cA ad A cells slots Z C H locs L hP hS hl
  exact va_iald C.1 C.2.1 (C.2.2.2.2.2.1.arr hk) hP o 0 (wd_at hk) rfl hin hd (kk p l e rm s m args below meth c D cA ad A cells slots Z C H locs L hP hS hl)
theorem r_zald {o n : Nat} {i : Int32} (hd : decode y.2.1 pc = .ok (.baload, 1)) (hk : knd[o]? = some (.inl (n, .boolean))) (hin : vp_in i n) (kk : R X d y (pc + 1) ls (.int (M o i.toNatClampNeg) :: st) M Q) : R X d y pc ls (.int i :: .ref o :: st) M Q := by
  intro p l e rm s m args below meth c D cA ad A cells slots Z C H locs L hP hS hl
  exact va_zald C.1 C.2.1 (C.2.2.2.2.2.1.arr hk) hP o 0 (wd_at hk) rfl hin hd (kk p l e rm s m args below meth c D cA ad A cells slots Z C H locs L hP hS hl)
theorem r_iast {o n : Nat} {i v : Int32} (hd : decode y.2.1 pc = .ok (.iastore, 1)) (hk : knd[o]? = some (.inl (n, .int))) (hin : vp_in i n) (kk : R X d y (pc + 1) ls st (mset M o i.toNatClampNeg v) Q) : R X d y pc ls (.int v :: .int i :: .ref o :: st) M Q := by
  intro p l e rm s m args below meth c D cA ad A cells slots Z C H locs L hP hS hl
  refine va_iast C.1 C.2.1 (C.2.2.2.2.2.1.arr hk) hP (wd_D C.2.2.2.2.2.2.1 C.2.2.2.2.2.2.2.1) hS o 0 (wd_at hk) rfl hin hd (fun H1 locs1 hP1 hD1 hS1 => ?_)
  have e9 : (wd cA ad M).set o (ad o, .inl (cA o, n, .inl (upd (M o) i.toNatClampNeg v))) = wd cA ad (mset M o i.toNatClampNeg v) := wd_set (q := .inl (n, .int)) hk
  rw [e9] at hP1
  exact kk p l e rm s m args below meth c D cA ad A cells slots Z C H1 locs1 L hP1 hS1 hl
theorem r_zast {o n : Nat} {i v : Int32} (hd : decode y.2.1 pc = .ok (.bastore, 1)) (hk : knd[o]? = some (.inl (n, .boolean))) (hv : vp_nar .boolean v = v) (hin : vp_in i n) (kk : R X d y (pc + 1) ls st (mset M o i.toNatClampNeg v) Q) : R X d y pc ls (.int v :: .int i :: .ref o :: st) M Q := by
  intro p l e rm s m args below meth c D cA ad A cells slots Z C H locs L hP hS hl
  refine va_zast C.1 C.2.1 (C.2.2.2.2.2.1.arr hk) hP (wd_D C.2.2.2.2.2.2.1 C.2.2.2.2.2.2.2.1) hS o 0 (wd_at hk) rfl hin hd (fun H1 locs1 hP1 hD1 hS1 => ?_)
  have e9 : (wd cA ad M).set o (ad o, .inl (cA o, n, .inl (upd (M o) i.toNatClampNeg v))) = wd cA ad (mset M o i.toNatClampNeg v) := wd_set (q := .inl (n, .boolean)) hk
  rw [hv, e9] at hP1
  exact kk p l e rm s m args below meth c D cA ad A cells slots Z C H1 locs1 L hP1 hS1 hl
theorem r_alen {o n : Nat} {ty : FieldType} {v : Int32} (hd : decode y.2.1 pc = .ok (.arraylength, 1)) (hk : knd[o]? = some (.inl (n, ty))) (hv : Int32.ofNat n = v) (kk : R X d y (pc + 1) ls (.int v :: st) M Q) : R X d y pc ls (.ref o :: st) M Q := by
  intro p l e rm s m args below meth c D cA ad A cells slots Z C H locs L hP hS hl
  exact va_alen C.1 C.2.1 (C.2.2.2.2.2.1.arr hk) hP o 0 (wd_at hk) rfl hv hd (kk p l e rm s m args below meth c D cA ad A cells slots Z C H locs L hP hS hl)
theorem r_sld {n : Nat} {xs : Nat → Int32} {i : Int32} (hd : decode y.2.1 pc = .ok (.iaload, 1)) (hX : X = some (n, xs)) (hin : vp_in i n) (kk : R X d y (pc + 1) ls (.int (xs i.toNatClampNeg) :: st) M Q) : R X d y pc ls (.int i :: .ref 1000 :: st) M Q := by
  intro p l e rm s m args below meth c D cA ad A cells slots Z C H locs L hP hS hl
  obtain ⟨h1, h2, h3⟩ := C.2.2.2.2.2.2.2.2.2.2.2.2 n xs hX
  exact va_sld C.1 C.2.1 h1 h2 h3 hS hin hd (kk p l e rm s m args below meth c D cA ad A cells slots Z C H locs L hP hS hl)
theorem r_slen {n : Nat} {xs : Nat → Int32} (hd : decode y.2.1 pc = .ok (.arraylength, 1)) (hX : X = some (n, xs)) (kk : R X d y (pc + 1) ls (.int (Int32.ofNat n) :: st) M Q) : R X d y pc ls (.ref 1000 :: st) M Q := by
  intro p l e rm s m args below meth c D cA ad A cells slots Z C H locs L hP hS hl
  obtain ⟨h1, h2, h3⟩ := C.2.2.2.2.2.2.2.2.2.2.2.2 n xs hX
  exact va_slen C.1 C.2.1 h1 h2 h3 hS hd (kk p l e rm s m args below meth c D cA ad A cells slots Z C H locs L hP hS hl)
theorem r_table {x : Int32} {dflt lo hi : Int} {offs : Array Int} {len tgt : Nat} {off : Int} (hd : decode y.2.1 pc = .ok (.tableswitch dflt lo hi offs, len)) (ho : (if x.toInt < lo ∨ hi < x.toInt then some dflt else offs[(x.toInt - lo).toNat]?) = some off) (ht : (pc : Int) + off = (tgt : Int)) (kk : R X d y tgt ls st M Q) : R X d y pc ls (.int x :: st) M Q := by
  intro p l e rm s m args below meth c D cA ad A cells slots Z C H locs L hP hS hl
  by_cases h : x.toInt < lo ∨ hi < x.toInt
  · rw [if_pos h] at ho
    cases ho
    exact lv_tableOut C.1 C.2.1 hd h ht (kk p l e rm s m args below meth c D cA ad A cells slots Z C H locs L hP hS hl)
  · rw [if_neg h] at ho
    exact lv_tableIn C.1 C.2.1 hd (fun q => h (Or.inl q)) (fun q => h (Or.inr q)) ho ht (kk p l e rm s m args below meth c D cA ad A cells slots Z C H locs L hP hS hl)
theorem r_ret {v : Int32} {ty : FieldType} (hd : decode y.2.1 pc = .ok (.ireturn, 1)) (ht : y.2.2.2 = some ty) (hn : narrow ty (.int v) = .int v) (hq : Q (some v) M) : R X d y pc ls [.int v] M Q := by
  intro p l e rm s m args below meth c D cA ad A cells slots Z C H locs L hP hS hl
  exact C.2.2.2.2.2.2.2.2.2.2.1 v M H locs pc L hq hP hS hd ⟨ty, ht, hn⟩
theorem r_vret (hd : decode y.2.1 pc = .ok (.return_, 1)) (ht : y.2.2.2 = none) (hq : Q none M) : R X d y pc ls [] M Q := by
  intro p l e rm s m args below meth c D cA ad A cells slots Z C H locs L hP hS hl
  exact C.2.2.2.2.2.2.2.2.2.2.2.1 M H locs pc L hq hP hS hd ht
end RULES2
/-! calls -/
def CO (y' : Meth) (n : Nat) : Prop := y'.1.cls ≠ "java/lang/invoke/MethodHandle" ∧ y'.1.cls ≠ "java/lang/invoke/VarHandle" ∧ (parseMethodDescriptor y'.1.desc).map (fun d => d.parameters.length) = some n ∧ y'.2.2.1 ≤ 20 ∧ Cond.code y'.1 y'.2.1 y'.2.2.1 y'.2.2.2 ∈ lw_w ∧ Cond.initialized y'.1.cls ∈ lw_w
def CV (own : String) (idx : Nat) (y' : Meth) (n : Nat) : Prop := CO y' n ∧ Cond.methodLink own idx y'.1 ∈ lw_w ∧ Cond.instanceMethod y'.1 ∈ lw_w ∧ Cond.selects y'.1.cls y'.1 y'.1 ∈ lw_w
def CS (own : String) (idx : Nat) (y' : Meth) (n : Nat) : Prop := CO y' n ∧ Cond.methodLink own idx y'.1 ∈ lw_w ∧ Cond.static y'.1 ∈ lw_w
def CN (own : String) (idx : Nat) (y' : Meth) (n : Nat) : Prop := CO y' n ∧ (∃ host, (own, idx, y'.1, host) ∈ nst) ∧ Cond.static y'.1 ∈ lw_w
theorem WS_good {y y' : Meth} (h : Cond.code y'.1 y'.2.1 y'.2.2.1 y'.2.2.2 ∈ lw_w) : GoodIn (WS y) (WS y') := by
  intro w hw
  rcases List.mem_cons.mp hw with rfl | hw
  · exact ⟨WS_in h, lw_good _ h⟩
  · exact ⟨WS_in hw, lw_good _ hw⟩
section CALL
variable {p : Program} {l : Launch} {e : Env} {rm : Room} {s : State} {m : MethodId} {args : Array Value} {below : List Frame} {meth : Method} {c : Code} {H : Heap} {locs : List Loc} {cells slots : Nat} {Z : State → Prop}
theorem W_call {D : va_G} {cA : Nat → ClassId} {ad : Nat → Nat} {A A1 : Nat → Prop} {Q' : Post} {a : Array Value} {pc : Nat} {L : Array Slot} {stk rest : List Value} (hr : va_Run p l e rm s m args below meth c H locs cells slots 0 0 (F0 m pc L stk) rest (QM D cA ad A1 Q' a) A1) (hS : va_S A s.heap H locs) (hA : ∀ q, A1 q → A q)
    (kk : ∀ (r : Option Int32) (M' : Mem) (H1 : Heap) (locs1 : List Loc), Q' r M' → va_P D clsT (wd cA ad M') H1 → va_S A s.heap H1 locs1 → W p l e rm s m args below meth c H1 locs1 cells slots Z (F0 m (pc + 3) L ((rvv r).toList ++ rest))) : W p l e rm s m args below meth c H locs cells slots Z (F0 m pc L stk) := by
  intro T hT X
  obtain ⟨v, st₀, t, T', L1, h0, X', hL, e1, e2, ⟨⟨r, M', hv, hq, hP⟩, hz, hk⟩, st⟩ := hr T hT X
  cases hv
  rw [h0] at hz hk
  obtain ⟨t2, a1, b1⟩ := kk r M' T'.heap (locs ++ L1) hq (by rw [e1]; exact hP)
    ⟨Nat.le_trans hS.1 (by rw [e1]; exact hz), fun q h1 h2 => by rw [e1, hk q (Nat.lt_of_lt_of_le h1 hS.1) (fun z => h2 (hA q z))]; exact hS.2.1 q h1 h2, fun q hq => by
      rcases List.mem_append.mp hq with h | h
      · exact hS.2.2 q h
      · exact hA _ (hL q h)⟩ T' rfl X'
  exact ⟨t2, st t2 a1, b1⟩
end CALL
theorem rv_cv {ad : Nat → Nat} {r : Option Int32} {st : List Value} : (rvv r).toList ++ st.map (cv ad) = (rv r ++ st).map (cv ad) := by
  cases r <;> rfl
theorem AA_in {ad : Nat → Nat} {A : Nat → Prop} {H0 H : Heap} {locs : List Loc} (h1 : ∀ i, i < 32 → A (ad i)) (h2 : ∀ q, H0.size ≤ q → A q) (hS : va_S A H0 H locs) : ∀ q, AA ad H.size q → A q := by
  rintro q (⟨i, hi, rfl⟩ | h)
  · exact h1 i hi
  · exact h2 q (Nat.le_trans hS.1 h)
theorem pc_blind {D : va_G} {cA : Nat → ClassId} {ad : Nat → Nat} {M : Mem} {sz : Nat} {av : List Value} : FrameBlind (va_Pc av (fun U => U.heap.size = sz ∧ va_P D clsT (wd cA ad M) U.heap ∧ KK D cA U ∧ inj32 ad)) :=
  fun _ _ _ _ q => ⟨q.1, q.2.1, q.2.2.1, q.2.2.2.1.calling, q.2.2.2.2⟩
theorem st_room {pc : Nat} {ls : Array Slot} {m : MethodId} {stk st : List Value} {ad : Nat → Nat} (h : (st.map fun v => v.category).sum ≤ 8) : 2 * (F0 m pc ls stk).monitorRoom + ((st.map (cv ad)).map fun v => v.category).sum ≤ 8 := by
  rw [cv_sum]
  exact lv_room h
section RULES3
variable {X : Scr} {d : Nat} {y y' : Meth} {pc : Nat} {ls st stk : List Value} {M : Mem} {Q Q' : Post}
theorem rmD_ok {d : Nat} {rm : Room} {n : Nat} (h1 : d + 1 ≤ rm.frames) (h2 : 40 * (d + 1) ≤ rm.locals) (hn : n ≤ 20) : (rmD d).frames + 1 ≤ rm.frames ∧ 8 + (n + 11) + (rmD d).locals ≤ rm.locals := by
  refine ⟨h1, ?_⟩
  show 8 + (n + 11) + 40 * d ≤ rm.locals
  omega
theorem r_callS {idx n : Nat} {as : List Value} (hd : decode y.2.1 pc = .ok (.invokestatic idx, 3)) (hC : CS y.1.cls idx y' n) (hst : stk = as.reverse ++ st) (hn : as.length = n) (hs : (st.map fun v => v.category).sum ≤ 8) (hM : Mt d y' as M Q') (kk : ∀ r M', Q' r M' → R X (d + 1) y (pc + 3) ls (rv r ++ st) M' Q) : R X (d + 1) y pc ls stk M Q := by
  intro p l e rm s m args below meth c D cA ad A cells slots Z C H locs L hP hS hl
  obtain ⟨⟨c1, c2, c3, c4, c5, c6⟩, c7, c8⟩ := hC
  obtain ⟨Q0, hQ, hM⟩ := hM
  have hts := C.2.2.2.2.1
  have hcw : CallB rm s args y.1.cls idx y'.1 y'.2.1 y'.2.2.1 y'.2.2.2 (WS y') (rmD d) 0 0 n ∧ (Cond.static y'.1).before args s = true :=
    ⟨callB_of n hts (WS_good c5) rfl rfl rfl (hts _ (WS_in c6)) (hts _ (WS_in c7)) ⟨c1, c2, c3⟩ (rmD_ok C.2.2.2.2.2.2.2.2.2.1.1 C.2.2.2.2.2.2.2.2.2.1.2.1 c4), hts _ (WS_in c8)⟩
  have hpre : PreS s H (va_Pc (as.map (cv ad)) (fun U => U.heap.size = H.size ∧ va_P D clsT (wd cA ad M) U.heap ∧ KK D cA U ∧ inj32 ad)) (as.map (cv ad)) :=
    ⟨pc_blind, fun U hU hW => ⟨rfl, by rw [hU], by rw [hU]; exact hP, C.2.2.2.2.2.1.warm hW, C.2.2.2.2.2.2.1⟩⟩
  have hr := va_runS (H := H) (locs := locs) (cells := cells) (slots := slots) (g := F0 m pc L (stk.map (cv ad))) (rest := st.map (cv ad)) (As := as.map (cv ad)) (cc := y.2.1) (nL := y.2.2.1) (p := p) (e := e) (meth := meth) (below := below) ⟨C.1, C.2.1, C.2.2.1, C.2.2.2.1, hts⟩ (hM l D cA ad H.size) hcw hpre rfl (by rw [List.length_map]; exact hn) hl.1 (by rw [hst, List.map_append, List.map_reverse]) (st_room hs) hd ⟨C.2.2.2.2.2.2.2.2.2.1.2.2.1, C.2.2.2.2.2.2.2.2.2.1.2.2.2⟩
  refine W_call hr hS (AA_in C.2.2.2.2.2.2.2.1 C.2.2.2.2.2.2.2.2.1 hS) (fun r M' H1 locs1 hq hP1 hS1 => ?_)
  rw [rv_cv]
  exact kk r M' (hQ r M' hq) p l e rm s m args below meth c D cA ad A cells slots Z C H1 locs1 L hP1 hS1 hl
theorem r_callN {idx n : Nat} {as : List Value} (hd : decode y.2.1 pc = .ok (.invokestatic idx, 3)) (hC : CN y.1.cls idx y' n) (hst : stk = as.reverse ++ st) (hn : as.length = n) (hs : (st.map fun v => v.category).sum ≤ 8) (hM : Mt d y' as M Q') (kk : ∀ r M', Q' r M' → R X (d + 1) y (pc + 3) ls (rv r ++ st) M' Q) : R X (d + 1) y pc ls stk M Q := by
  intro p l e rm s m args below meth c D cA ad A cells slots Z C H locs L hP hS hl
  obtain ⟨⟨c1, c2, c3, c4, c5, c6⟩, ⟨host, c7⟩, c8⟩ := hC
  obtain ⟨Q0, hQ, hM⟩ := hM
  have hts := C.2.2.2.2.1
  have hcw := va_cnB (R := rm) (s := s) (args := args) (own := y.1.cls) (host := host) (index := idx) (y := y'.1) (bytes := y'.2.1) (maxL := y'.2.2.1) (ret := y'.2.2.2) (ws := WS y') (rm := rmD d) (mc := 0) (ms := 0) n hts (WS_good c5) rfl rfl rfl (C.2.2.2.2.2.1.2.2 _ c7) (hts _ (WS_in c6)) ⟨c1, c2, c3⟩ (rmD_ok C.2.2.2.2.2.2.2.2.2.1.1 C.2.2.2.2.2.2.2.2.2.1.2.1 c4)
  have hpre : PreS s H (va_Pc (as.map (cv ad)) (fun U => U.heap.size = H.size ∧ va_P D clsT (wd cA ad M) U.heap ∧ KK D cA U ∧ inj32 ad)) (as.map (cv ad)) :=
    ⟨pc_blind, fun U hU hW => ⟨rfl, by rw [hU], by rw [hU]; exact hP, C.2.2.2.2.2.1.warm hW, C.2.2.2.2.2.2.1⟩⟩
  have hr := va_runSN (H := H) (locs := locs) (cells := cells) (slots := slots) (g := F0 m pc L (stk.map (cv ad))) (rest := st.map (cv ad)) (As := as.map (cv ad)) (cc := y.2.1) (nL := y.2.2.1) (p := p) (e := e) (meth := meth) (below := below) ⟨C.1, C.2.1, C.2.2.1, C.2.2.2.1, hts⟩ (hM l D cA ad H.size) ⟨hcw, hts _ (WS_in c8), trivial⟩ hpre rfl (by rw [List.length_map]; exact hn) hl.1 (by rw [hst, List.map_append, List.map_reverse]) (st_room hs) hd ⟨C.2.2.2.2.2.2.2.2.2.1.2.2.1, C.2.2.2.2.2.2.2.2.2.1.2.2.2⟩
  refine W_call hr hS (AA_in C.2.2.2.2.2.2.2.1 C.2.2.2.2.2.2.2.2.1 hS) (fun r M' H1 locs1 hq hP1 hS1 => ?_)
  rw [rv_cv]
  exact kk r M' (hQ r M' hq) p l e rm s m args below meth c D cA ad A cells slots Z C H1 locs1 L hP1 hS1 hl
theorem r_callV {idx n o ci N : Nat} {T : u_T} {fl : List (Option Nat)} {as : List Value} (hd : decode y.2.1 pc = .ok (.invokevirtual idx, 3)) (hC : CV y.1.cls idx y' n) (hk : knd[o]? = some (.inr (ci, fl))) (hci : clsT[ci]? = some (y'.1.cls, T, N)) (hst : stk = as.reverse ++ .ref o :: st) (hn : as.length = n) (hs : (st.map fun v => v.category).sum ≤ 8) (hM : Mt d y' (.ref o :: as) M Q') (kk : ∀ r M', Q' r M' → R X (d + 1) y (pc + 3) ls (rv r ++ st) M' Q) : R X (d + 1) y pc ls stk M Q := by
  intro p l e rm s m args below meth c D cA ad A cells slots Z C H locs L hP hS hl
  obtain ⟨⟨c1, c2, c3, c4, c5, c6⟩, c7, c8, c9⟩ := hC
  obtain ⟨Q0, hQ, hM⟩ := hM
  have hts := C.2.2.2.2.1
  have hcw : CallW rm s args y.1.cls y'.1.cls idx y'.1 y'.2.1 y'.2.2.1 y'.2.2.2 (WS y') (rmD d) 0 0 n :=
    ⟨callB_of n hts (WS_good c5) rfl rfl rfl (hts _ (WS_in c6)) (hts _ (WS_in c7)) ⟨c1, c2, c3⟩ (rmD_ok C.2.2.2.2.2.2.2.2.2.1.1 C.2.2.2.2.2.2.2.2.2.1.2.1 c4), hts _ (WS_in c8), hts _ (WS_in c9)⟩
  have hpre : PreV s H y'.1.cls (ad o) (va_Pc ((Value.ref o :: as).map (cv ad)) (fun U => U.heap.size = H.size ∧ va_P D clsT (wd cA ad M) U.heap ∧ KK D cA U ∧ inj32 ad)) (as.map (cv ad)) :=
    ⟨pc_blind, va_recv C.2.2.2.2.2.1.1 hP hci (wd_at hk), fun U hU hW => ⟨rfl, by rw [hU], by rw [hU]; exact hP, C.2.2.2.2.2.1.warm hW, C.2.2.2.2.2.2.1⟩⟩
  have hr := va_runV (H := H) (locs := locs) (cells := cells) (slots := slots) (g := F0 m pc L (stk.map (cv ad))) (rest := st.map (cv ad)) (As := as.map (cv ad)) (b := ad o) (cc := y.2.1) (nL := y.2.2.1) (p := p) (e := e) (meth := meth) (below := below) ⟨C.1, C.2.1, C.2.2.1, C.2.2.2.1, hts⟩ (hM l D cA ad H.size) hcw hpre rfl (by rw [List.length_map]; exact hn) hl.1 (by rw [hst, List.map_append, List.map_reverse]; rfl) (st_room hs) hd ⟨C.2.2.2.2.2.2.2.2.2.1.2.2.1, C.2.2.2.2.2.2.2.2.2.1.2.2.2⟩
  refine W_call hr hS (AA_in C.2.2.2.2.2.2.2.1 C.2.2.2.2.2.2.2.2.1 hS) (fun r M' H1 locs1 hq hP1 hS1 => ?_)
  rw [rv_cv]
  exact kk r M' (hQ r M' hq) p l e rm s m args below meth c D cA ad A cells slots Z C H1 locs1 L hP1 hS1 hl
end RULES3
/-! a contract out of a walk -/
def okA (as : List Value) : Prop := ∀ v ∈ as, (∃ x, v = .int x) ∨ ∃ a, v = .ref a
theorem lv_args_in {ad : Nat → Nat} : ∀ (as : List Value) (i : Nat), okA as → ∀ q ∈ asc ad i as, q ∈ lv_args i (as.map (cv ad)) := by
  intro as
  induction as with
  | nil => intro i _ q hq; exact hq
  | cons v t ih =>
    intro i hok q hq
    have ht : okA t := fun v hv => hok v (List.mem_cons_of_mem _ hv)
    rcases hok v List.mem_cons_self with ⟨x, rfl⟩ | ⟨x, rfl⟩
    · rcases List.mem_cons.mp hq with rfl | hq
      · exact List.mem_cons_self
      · exact List.mem_cons_of_mem _ (by simpa [Value.category, cv] using ih (i + 1) ht q hq)
    · rcases List.mem_cons.mp hq with rfl | hq
      · exact List.mem_cons_self
      · exact List.mem_cons_of_mem _ (by simpa [Value.category, cv] using ih (i + 1) ht q hq)
theorem sl_len {ad : Nat → Nat} : ∀ (as : List Value), okA as → (lg_sl (as.map (cv ad))).length = as.length := by
  intro as
  induction as with
  | nil => intro _; rfl
  | cons v t ih =>
    intro hok
    have ht : okA t := fun v hv => hok v (List.mem_cons_of_mem _ hv)
    have := ih ht
    rcases hok v List.mem_cons_self with ⟨x, rfl⟩ | ⟨x, rfl⟩
    · simpa [lg_sl, Value.category, cv] using this
    · simpa [lg_sl, Value.category, cv] using this
theorem Lh_entry {n k : Nat} {ad : Nat → Nat} {as ls : List Value} (h1 : okA as) (h2 : as.length ≤ n) (hls : as ++ List.replicate k .null = ls) : Lh n ad ((lg_sl (as.map (cv ad)) ++ List.replicate (n - (lg_sl (as.map (cv ad))).length) Slot.unset).toArray) ls := by
  have h := lv_entry (as.map (cv ad)) (n := n) (by rw [sl_len as h1]; exact h2)
  have h3 : Lh n ad ((lg_sl (as.map (cv ad)) ++ List.replicate (n - (lg_sl (as.map (cv ad))).length) Slot.unset).toArray) as := ⟨h.1, h.2.1, fun q hq => h.2.2 q (lv_args_in as 0 h1 q hq)⟩
  refine h3.sub (fun j v hv => ?_)
  subst hls
  by_cases hj : j < as.length
  · rw [List.getElem?_append_left hj] at hv
    exact Or.inr hv
  · rw [List.getElem?_append_right (by omega)] at hv
    left
    exact List.eq_of_mem_replicate (List.mem_of_getElem? hv)
theorem Mt.of {d k : Nat} {y : Meth} {as ls : List Value} {M : Mem} {Q : Post} (h0 : plainName y.1.cls = true) (h1 : okA as) (h2 : as.length ≤ y.2.2.1) (hls : as ++ List.replicate k .null = ls) (hR : R none d y 0 ls [] M Q) : Mt d y as M Q := by
  refine ⟨Q, fun _ _ h => h, fun l D cA ad sz => ?_⟩
  refine Met.ofW (cc := y.2.1) (maxL := y.2.2.1) (ret := y.2.2.2) h0 rfl ?_
  intro p e s m args below meth c s₁ B hml hv
  obtain ⟨rfl, hsz, hP, hK, hi⟩ := hv
  have hts := atoms_spec (ws := WS y) B.pre
  have hr := B.returns
  have hlocks := B.notSynchronized
  subst hsz
  rw [lg_entry_eq]
  have hA : ∀ i, i < 32 → AA ad s.heap.size (ad i) := fun i hi => Or.inl ⟨i, hi, rfl⟩
  refine hR p l e (headSpec (WS y) (rmD d)).room s m _ below meth c D cA ad (AA ad s.heap.size) 0 0 _ ⟨B.exec, B.bytes, hml, findClass_of_methodNamed B.named, hts, hK, hi, hA, fun q h => Or.inr h, ⟨Nat.le_refl _, Nat.le_refl _, Nat.le_refl _, Nat.le_refl _⟩, ?_, ?_, fun n xs h => by cases h⟩ s.heap [] _ hP va_S.rf (Lh_entry h1 h2 hls)
  · rintro r M' H locs pc L hq hP1 hS1 hdg ⟨ty, ht, hn⟩
    exact W.zret B.exec B.bytes (hr.trans ht) hn (fun t ht hW => ⟨⟨some r, M', rfl, hq, by rw [ht]; exact hP1⟩, hS1.F ht⟩) hS1.2.2 hdg hlocks
  · intro M' H locs pc L hq hP1 hS1 hdg ht
    exact W.vret B.exec B.bytes (hr.trans ht) (fun t ht hW => ⟨⟨none, M', rfl, hq, by rw [ht]; exact hP1⟩, hS1.F ht⟩) hS1.2.2 hdg hlocks
end
