section
-- ===== PART A: goes FIRST, ahead of the names: the tables' words, and 'selects' of the private methods out of them =====
/-- a private method of a class that the tables say can be made, by its rows of tables_1 -/
def lw_okq (q : MethodName × Nat) : Prop := (q.1.cls ≠ "java/lang/invoke/MethodHandle" ∧ q.1.cls ≠ "java/lang/invoke/VarHandle") ∧ Cond.instantiable q.1.cls q.2 ∈ tables_1 ∧ Cond.privateMethod q.1 ∈ tables_1 ∧ Cond.instanceMethod q.1 ∈ tables_1
theorem lw_p0 : lw_okq (⟨"MappingMoves", "inWayOfCell", "(IIZ)I"⟩, 5) := ⟨⟨by decide +kernel, by decide +kernel⟩, List.mem_of_getElem? (i := 14) (by decide +kernel), List.mem_of_getElem? (i := 118) (by decide +kernel), List.mem_of_getElem? (i := 119) (by decide +kernel)⟩
theorem lw_p1 : lw_okq (⟨"MappingMoves", "inWayOfCells", "(IZ)I"⟩, 5) := ⟨⟨by decide +kernel, by decide +kernel⟩, List.mem_of_getElem? (i := 14) (by decide +kernel), List.mem_of_getElem? (i := 122) (by decide +kernel), List.mem_of_getElem? (i := 123) (by decide +kernel)⟩
theorem lw_p2 : lw_okq (⟨"MappingMoves", "partNumbered", "(J)LMappingMoves$Part;"⟩, 5) := ⟨⟨by decide +kernel, by decide +kernel⟩, List.mem_of_getElem? (i := 14) (by decide +kernel), List.mem_of_getElem? (i := 211) (by decide +kernel), List.mem_of_getElem? (i := 212) (by decide +kernel)⟩
theorem lw_p3 : lw_okq (⟨"MappingMoves", "countThatMayLieOn", "(ILMappingMoves$Column;II)I"⟩, 5) := ⟨⟨by decide +kernel, by decide +kernel⟩, List.mem_of_getElem? (i := 14) (by decide +kernel), List.mem_of_getElem? (i := 247) (by decide +kernel), List.mem_of_getElem? (i := 248) (by decide +kernel)⟩
theorem lw_p4 : lw_okq (⟨"MappingMoves", "putSparesInto", "(I)I"⟩, 5) := ⟨⟨by decide +kernel, by decide +kernel⟩, List.mem_of_getElem? (i := 14) (by decide +kernel), List.mem_of_getElem? (i := 275) (by decide +kernel), List.mem_of_getElem? (i := 276) (by decide +kernel)⟩
theorem lw_p5 : lw_okq (⟨"MappingMoves", "countColumns", "()I"⟩, 5) := ⟨⟨by decide +kernel, by decide +kernel⟩, List.mem_of_getElem? (i := 14) (by decide +kernel), List.mem_of_getElem? (i := 291) (by decide +kernel), List.mem_of_getElem? (i := 292) (by decide +kernel)⟩
theorem lw_p6 : lw_okq (⟨"MappingMoves", "countCells", "()I"⟩, 5) := ⟨⟨by decide +kernel, by decide +kernel⟩, List.mem_of_getElem? (i := 14) (by decide +kernel), List.mem_of_getElem? (i := 295) (by decide +kernel), List.mem_of_getElem? (i := 296) (by decide +kernel)⟩
theorem lw_p7 : lw_okq (⟨"MappingMoves", "countFilledCells", "()I"⟩, 5) := ⟨⟨by decide +kernel, by decide +kernel⟩, List.mem_of_getElem? (i := 14) (by decide +kernel), List.mem_of_getElem? (i := 299) (by decide +kernel), List.mem_of_getElem? (i := 300) (by decide +kernel)⟩
theorem lw_p8 : lw_okq (⟨"java/lang/NullPointerException", "getExtendedNPEMessage", "()Ljava/lang/String;"⟩, 8) := ⟨⟨by decide +kernel, by decide +kernel⟩, List.mem_of_getElem? (i := 310) (by decide +kernel), List.mem_of_getElem? (i := 335) (by decide +kernel), List.mem_of_getElem? (i := 336) (by decide +kernel)⟩
theorem lw_p9 : lw_okq (⟨"java/lang/Throwable", "fillInStackTrace", "(I)Ljava/lang/Throwable;"⟩, 6) := ⟨⟨by decide +kernel, by decide +kernel⟩, List.mem_of_getElem? (i := 345) (by decide +kernel), List.mem_of_getElem? (i := 343) (by decide +kernel), List.mem_of_getElem? (i := 344) (by decide +kernel)⟩
theorem lw_p10 : lw_okq (⟨"MappingMovesModel", "isNone", "(I)Z"⟩, 17) := ⟨⟨by decide +kernel, by decide +kernel⟩, List.mem_of_getElem? (i := 438) (by decide +kernel), List.mem_of_getElem? (i := 517) (by decide +kernel), List.mem_of_getElem? (i := 518) (by decide +kernel)⟩
theorem lw_p11 : lw_okq (⟨"MappingMovesModel", "way", "(IZ)I"⟩, 17) := ⟨⟨by decide +kernel, by decide +kernel⟩, List.mem_of_getElem? (i := 438) (by decide +kernel), List.mem_of_getElem? (i := 537) (by decide +kernel), List.mem_of_getElem? (i := 538) (by decide +kernel)⟩
theorem lw_p12 : lw_okq (⟨"MappingMovesModel", "has", "(II)Z"⟩, 17) := ⟨⟨by decide +kernel, by decide +kernel⟩, List.mem_of_getElem? (i := 438) (by decide +kernel), List.mem_of_getElem? (i := 541) (by decide +kernel), List.mem_of_getElem? (i := 542) (by decide +kernel)⟩
theorem lw_p13 : lw_okq (⟨"MappingMovesModel", "telling", "(II)J"⟩, 17) := ⟨⟨by decide +kernel, by decide +kernel⟩, List.mem_of_getElem? (i := 438) (by decide +kernel), List.mem_of_getElem? (i := 555) (by decide +kernel), List.mem_of_getElem? (i := 556) (by decide +kernel)⟩
theorem lw_p14 : lw_okq (⟨"MappingMovesModel", "canBe", "(III)Z"⟩, 17) := ⟨⟨by decide +kernel, by decide +kernel⟩, List.mem_of_getElem? (i := 438) (by decide +kernel), List.mem_of_getElem? (i := 567) (by decide +kernel), List.mem_of_getElem? (i := 568) (by decide +kernel)⟩
theorem lw_p15 : lw_okq (⟨"MappingMovesModel", "takes", "(IJ)Z"⟩, 17) := ⟨⟨by decide +kernel, by decide +kernel⟩, List.mem_of_getElem? (i := 438) (by decide +kernel), List.mem_of_getElem? (i := 590) (by decide +kernel), List.mem_of_getElem? (i := 591) (by decide +kernel)⟩
def lw_privs_1 : List (MethodName × Nat) := [(⟨"MappingMoves", "inWayOfCell", "(IIZ)I"⟩, 5), (⟨"MappingMoves", "inWayOfCells", "(IZ)I"⟩, 5), (⟨"MappingMoves", "partNumbered", "(J)LMappingMoves$Part;"⟩, 5), (⟨"MappingMoves", "countThatMayLieOn", "(ILMappingMoves$Column;II)I"⟩, 5), (⟨"MappingMoves", "putSparesInto", "(I)I"⟩, 5), (⟨"MappingMoves", "countColumns", "()I"⟩, 5), (⟨"MappingMoves", "countCells", "()I"⟩, 5), (⟨"MappingMoves", "countFilledCells", "()I"⟩, 5), (⟨"java/lang/NullPointerException", "getExtendedNPEMessage", "()Ljava/lang/String;"⟩, 8), (⟨"java/lang/Throwable", "fillInStackTrace", "(I)Ljava/lang/Throwable;"⟩, 6), (⟨"MappingMovesModel", "isNone", "(I)Z"⟩, 17), (⟨"MappingMovesModel", "way", "(IZ)I"⟩, 17), (⟨"MappingMovesModel", "has", "(II)Z"⟩, 17), (⟨"MappingMovesModel", "telling", "(II)J"⟩, 17), (⟨"MappingMovesModel", "canBe", "(III)Z"⟩, 17), (⟨"MappingMovesModel", "takes", "(IJ)Z"⟩, 17)]
theorem lw_r1 : ∀ q ∈ lw_privs_1, lw_okq q := List.forall_mem_cons.mpr ⟨lw_p0, List.forall_mem_cons.mpr ⟨lw_p1, List.forall_mem_cons.mpr ⟨lw_p2, List.forall_mem_cons.mpr ⟨lw_p3, List.forall_mem_cons.mpr ⟨lw_p4, List.forall_mem_cons.mpr ⟨lw_p5, List.forall_mem_cons.mpr ⟨lw_p6, List.forall_mem_cons.mpr ⟨lw_p7, List.forall_mem_cons.mpr ⟨lw_p8, List.forall_mem_cons.mpr ⟨lw_p9, List.forall_mem_cons.mpr ⟨lw_p10, List.forall_mem_cons.mpr ⟨lw_p11, List.forall_mem_cons.mpr ⟨lw_p12, List.forall_mem_cons.mpr ⟨lw_p13, List.forall_mem_cons.mpr ⟨lw_p14, List.forall_mem_cons.mpr ⟨lw_p15, fun _ h => absurd h List.not_mem_nil⟩⟩⟩⟩⟩⟩⟩⟩⟩⟩⟩⟩⟩⟩⟩⟩
theorem lw_p16 : lw_okq (⟨"MappingMovesModel", "wayTo", "(II)I"⟩, 17) := ⟨⟨by decide +kernel, by decide +kernel⟩, List.mem_of_getElem? (i := 438) (by decide +kernel), List.mem_of_getElem? (i := 598) (by decide +kernel), List.mem_of_getElem? (i := 599) (by decide +kernel)⟩
theorem lw_p17 : lw_okq (⟨"MappingMovesModel", "take", "(II)V"⟩, 17) := ⟨⟨by decide +kernel, by decide +kernel⟩, List.mem_of_getElem? (i := 438) (by decide +kernel), List.mem_of_getElem? (i := 630) (by decide +kernel), List.mem_of_getElem? (i := 631) (by decide +kernel)⟩
def lw_privs_2 : List (MethodName × Nat) := [(⟨"MappingMovesModel", "wayTo", "(II)I"⟩, 17), (⟨"MappingMovesModel", "take", "(II)V"⟩, 17)]
theorem lw_r2 : ∀ q ∈ lw_privs_2, lw_okq q := List.forall_mem_cons.mpr ⟨lw_p16, List.forall_mem_cons.mpr ⟨lw_p17, fun _ h => absurd h List.not_mem_nil⟩⟩
def lw_privs : List (MethodName × Nat) := lw_privs_1 ++ (lw_privs_2)
def lw_tbl : List Cond := k2_sels lw_privs ++ tables_1
theorem lw_privs_ok : ∀ q ∈ lw_privs, lw_okq q := by
  show ∀ q ∈ lw_privs_1 ++ (lw_privs_2), lw_okq q
  exact List.forall_mem_append.mpr ⟨lw_r1, lw_r2⟩
/-- the streams that the claim lets the run draw from -/
abbrev lw_cs : List Choice := [Jvm.Choice.named "NaN.bits"]
theorem lw_bits : nanBits ∈ lw_cs := by first | decide | exact List.mem_cons_self | simp [lw_cs, nanBits]
end
section
/-! ===== BEGIN words of one list among another's, by their places ===== -/
theorem goodIn_r {big : List Cond} (ws : List Cond) (ps : List Nat) (hp : ws = ps.filterMap (fun i => big[i]?)) (h : ws.all goodWord = true) : GoodIn big ws := by
  intro w hw
  have h1 := List.all_eq_true.mp h w hw
  rw [hp] at hw
  obtain ⟨i, -, hi⟩ := List.mem_filterMap.mp hw
  have hm : w ∈ big := by first | exact List.mem_of_getElem? hi | exact List.getElem?_mem hi
  exact ⟨hm, good_of_word h1⟩
theorem goodIn_app {big a b : List Cond} (ha : GoodIn big a) (hb : GoodIn big b) : GoodIn big (a ++ b) := fun w h => (List.mem_append.mp h).elim (ha w) (hb w)
theorem goodIn_ca {big a b : List Cond} {c : Cond} (ha : GoodIn big (c :: a)) (hb : GoodIn big b) : GoodIn big (c :: (a ++ b)) := fun w h => (List.mem_cons.mp h).elim (fun e => ha w (List.mem_cons.mpr (Or.inl e))) (fun h => (List.mem_append.mp h).elim (fun h => ha w (List.mem_cons.mpr (Or.inr h))) (hb w))
theorem goodIn_sub {big ws : List Cond} (hm : ∀ w ∈ ws, w ∈ big) (h : ws.all goodWord = true) : GoodIn big ws := fun w hw => ⟨hm w hw, good_of_word (List.all_eq_true.mp h w hw)⟩
/-! ===== END ===== -/
def RX0 : String := "MappingMoves$Column"
def TX0 : u_T := fun k => match k with
  | 0 => ("MappingMoves$Column", "kind", "I", false)
  | 1 => ("MappingMoves$Column", "size", "I", false)
  | 2 => ("MappingMoves$Column", "wholes", "[J", true)
  | _ => ("MappingMoves$Column", "reals", "[D", true)
def tyX0 : Nat → FieldType := fun k => match k with
  | 0 => .int
  | 1 => .int
  | 2 => .array .long
  | _ => .array .double
abbrev wsX00 : List Cond := u_ws RX0 TX0 4
theorem nmX0 : ∀ a, a < 4 → ∀ b, b < 4 → a ≠ b → (TX0 a).2.1 ≠ (TX0 b).2.1 := by decide +kernel
theorem tyX0_ok : ∀ k, k < 4 → parseFieldDescriptor (TX0 k).2.2.1 = some (tyX0 k) := by decide +kernel
abbrev cX0_init : ByteArray := prog_2_method_1_code
def yX0_init : MethodName := ⟨RX0, "<init>", "()V"⟩
abbrev cX0_begin : ByteArray := prog_2_method_2_code
def yX0_begin : MethodName := ⟨RX0, "begin", "(II)V"⟩
abbrev cX0_letGo : ByteArray := prog_2_method_3_code
def yX0_letGo : MethodName := ⟨RX0, "letGo", "()V"⟩
abbrev cX0_vanish : ByteArray := prog_2_method_4_code
def yX0_vanish : MethodName := ⟨RX0, "vanish", "()V"⟩
abbrev cX0_isThere : ByteArray := prog_2_method_5_code
def yX0_isThere : MethodName := ⟨RX0, "isThere", "()Z"⟩
abbrev cX0_hasCells : ByteArray := prog_2_method_6_code
def yX0_hasCells : MethodName := ⟨RX0, "hasCells", "()Z"⟩
abbrev cX0_isShelf : ByteArray := prog_2_method_7_code
def yX0_isShelf : MethodName := ⟨RX0, "isShelf", "()Z"⟩
abbrev cX0_hasCell : ByteArray := prog_2_method_8_code
def yX0_hasCell : MethodName := ⟨RX0, "hasCell", "(I)Z"⟩
abbrev cX0_hasRun : ByteArray := prog_2_method_9_code
def yX0_hasRun : MethodName := ⟨RX0, "hasRun", "(II)Z"⟩
abbrev cX0_store : ByteArray := prog_2_method_10_code
def yX0_store : MethodName := ⟨RX0, "store", "(IJ)V"⟩
abbrev cX0_tell : ByteArray := prog_2_method_11_code
def yX0_tell : MethodName := ⟨RX0, "tell", "(I)J"⟩
abbrev cX0_addUp : ByteArray := prog_2_method_12_code
def yX0_addUp : MethodName := ⟨RX0, "addUp", "()I"⟩
abbrev cX0_firstUnfit : ByteArray := prog_2_method_13_code
def yX0_firstUnfit : MethodName := ⟨RX0, "firstUnfit", "(I)I"⟩
abbrev cX0_wholeFits : ByteArray := prog_2_method_14_code
def yX0_wholeFits : MethodName := ⟨RX0, "wholeFits", "(JI)Z"⟩
abbrev cX0_realFits : ByteArray := prog_2_method_15_code
def yX0_realFits : MethodName := ⟨RX0, "realFits", "(DI)Z"⟩
abbrev cX0_isWithin : ByteArray := prog_2_method_16_code
def yX0_isWithin : MethodName := ⟨RX0, "isWithin", "(JI)Z"⟩
abbrev cX0_become : ByteArray := prog_2_method_17_code
def yX0_become : MethodName := ⟨RX0, "become", "(I)V"⟩
abbrev cX0_becomeLike : ByteArray := prog_2_method_18_code
def yX0_becomeLike : MethodName := ⟨RX0, "becomeLike", "(LMappingMoves$Column;)V"⟩
abbrev cX0_copyRun : ByteArray := prog_2_method_19_code
def yX0_copyRun : MethodName := ⟨RX0, "copyRun", "(LMappingMoves$Column;III)V"⟩
abbrev cX0_hasSameCells : ByteArray := prog_2_method_20_code
def yX0_hasSameCells : MethodName := ⟨RX0, "hasSameCells", "(LMappingMoves$Column;)Z"⟩
abbrev cX0_countFilled : ByteArray := prog_2_method_21_code
def yX0_countFilled : MethodName := ⟨RX0, "countFilled", "()I"⟩
def RX1 : String := "MappingMoves$Part"
def TX1 : u_T := fun k => match k with
  | 0 => ("MappingMoves$Part", "sort", "I", true)
  | 1 => ("MappingMoves$Part", "weight", "I", true)
  | 2 => ("MappingMoves$Part", "timesLaid", "I", false)
  | _ => ("MappingMoves$Part", "faultCode", "I", false)
def tyX1 : Nat → FieldType := fun k => match k with
  | 0 => .int
  | 1 => .int
  | 2 => .int
  | _ => .int
abbrev wsX10 : List Cond := u_ws RX1 TX1 4
theorem nmX1 : ∀ a, a < 4 → ∀ b, b < 4 → a ≠ b → (TX1 a).2.1 ≠ (TX1 b).2.1 := by decide +kernel
theorem tyX1_ok : ∀ k, k < 4 → parseFieldDescriptor (TX1 k).2.2.1 = some (tyX1 k) := by decide +kernel
abbrev cX1_init : ByteArray := prog_3_method_1_code
def yX1_init : MethodName := ⟨RX1, "<init>", "(II)V"⟩
abbrev cX1_weighed : ByteArray := prog_3_method_2_code
def yX1_weighed : MethodName := ⟨RX1, "weighed", "()I"⟩
abbrev cX1_mayLieOn : ByteArray := prog_3_method_3_code
def yX1_mayLieOn : MethodName := ⟨RX1, "mayLieOn", "(I)Z"⟩
def RX2 : String := "MappingMoves"
def TX2 : u_T := fun k => match k with
  | 0 => ("MappingMoves", "columns", "[LMappingMoves$Column;", true)
  | 1 => ("MappingMoves", "spare", "[LMappingMoves$Column;", true)
  | 2 => ("MappingMoves", "parts", "[LMappingMoves$Part;", true)
  | 3 => ("MappingMoves", "partCount", "I", false)
  | _ => ("MappingMoves", "copiedCells", "I", false)
def tyX2 : Nat → FieldType := fun k => match k with
  | 0 => .array (.object "MappingMoves$Column")
  | 1 => .array (.object "MappingMoves$Column")
  | 2 => .array (.object "MappingMoves$Part")
  | 3 => .int
  | _ => .int
abbrev wsX20 : List Cond := u_ws RX2 TX2 5
theorem nmX2 : ∀ a, a < 5 → ∀ b, b < 5 → a ≠ b → (TX2 a).2.1 ≠ (TX2 b).2.1 := by decide +kernel
theorem tyX2_ok : ∀ k, k < 5 → parseFieldDescriptor (TX2 k).2.2.1 = some (tyX2 k) := by decide +kernel
abbrev cX2_init : ByteArray := prog_1_method_1_code
def yX2_init : MethodName := ⟨RX2, "<init>", "()V"⟩
abbrev cX2_make : ByteArray := prog_1_method_2_code
def yX2_make : MethodName := ⟨RX2, "make", "(III)I"⟩
abbrev cX2_let : ByteArray := prog_1_method_3_code
def yX2_let : MethodName := ⟨RX2, "let", "(I)I"⟩
abbrev cX2_drop : ByteArray := prog_1_method_4_code
def yX2_drop : MethodName := ⟨RX2, "drop", "(I)I"⟩
abbrev cX2_kind : ByteArray := prog_1_method_5_code
def yX2_kind : MethodName := ⟨RX2, "kind", "(I)I"⟩
abbrev cX2_length : ByteArray := prog_1_method_6_code
def yX2_length : MethodName := ⟨RX2, "length", "(I)I"⟩
abbrev cX2_put : ByteArray := prog_1_method_7_code
def yX2_put : MethodName := ⟨RX2, "put", "(IIJ)I"⟩
abbrev cX2_get : ByteArray := prog_1_method_8_code
def yX2_get : MethodName := ⟨RX2, "get", "(II)J"⟩
abbrev cX2_sum : ByteArray := prog_1_method_9_code
def yX2_sum : MethodName := ⟨RX2, "sum", "(II)I"⟩
abbrev cX2_turn : ByteArray := prog_1_method_10_code
def yX2_turn : MethodName := ⟨RX2, "turn", "(II)I"⟩
abbrev cX2_part : ByteArray := prog_1_method_11_code
def yX2_part : MethodName := ⟨RX2, "part", "(II)I"⟩
abbrev cX2_lay : ByteArray := prog_1_method_12_code
def yX2_lay : MethodName := ⟨RX2, "lay", "(III)I"⟩
abbrev cX2_weigh : ByteArray := prog_1_method_13_code
def yX2_weigh : MethodName := ⟨RX2, "weigh", "(II)I"⟩
abbrev cX2_rigid : ByteArray := prog_1_method_14_code
def yX2_rigid : MethodName := ⟨RX2, "rigid", "(II)I"⟩
abbrev cX2_fault : ByteArray := prog_1_method_15_code
def yX2_fault : MethodName := ⟨RX2, "fault", "(II)I"⟩
abbrev cX2_raise : ByteArray := prog_1_method_16_code
def yX2_raise : MethodName := ⟨RX2, "raise", "(II)I"⟩
abbrev cX2_copy : ByteArray := prog_1_method_17_code
def yX2_copy : MethodName := ⟨RX2, "copy", "(IIIII)I"⟩
abbrev cX2_copied : ByteArray := prog_1_method_18_code
def yX2_copied : MethodName := ⟨RX2, "copied", "()I"⟩
abbrev cX2_move : ByteArray := prog_1_method_19_code
def yX2_move : MethodName := ⟨RX2, "move", "(III)I"⟩
abbrev cX2_like : ByteArray := prog_1_method_20_code
def yX2_like : MethodName := ⟨RX2, "like", "(II)I"⟩
abbrev cX2_told : ByteArray := prog_1_method_21_code
def yX2_told : MethodName := ⟨RX2, "told", "(I)I"⟩
abbrev cX2_isPlace : ByteArray := prog_1_method_22_code
def yX2_isPlace : MethodName := ⟨RX2, "isPlace", "(I)Z"⟩
abbrev cX2_isMapping : ByteArray := prog_1_method_23_code
def yX2_isMapping : MethodName := ⟨RX2, "isMapping", "(I)Z"⟩
abbrev cX2_isNumberKind : ByteArray := prog_1_method_24_code
def yX2_isNumberKind : MethodName := ⟨RX2, "isNumberKind", "(I)Z"⟩
abbrev cX2_isRealKind : ByteArray := prog_1_method_25_code
def yX2_isRealKind : MethodName := ⟨RX2, "isRealKind", "(I)Z"⟩
abbrev cX2_inWayOfCells : ByteArray := prog_1_method_26_code
def yX2_inWayOfCells : MethodName := ⟨RX2, "inWayOfCells", "(IZ)I"⟩
abbrev cX2_inWayOfCell : ByteArray := prog_1_method_27_code
def yX2_inWayOfCell : MethodName := ⟨RX2, "inWayOfCell", "(IIZ)I"⟩
abbrev cX2_partNumbered : ByteArray := prog_1_method_28_code
def yX2_partNumbered : MethodName := ⟨RX2, "partNumbered", "(J)LMappingMoves$Part;"⟩
abbrev cX2_countThatMayLieOn : ByteArray := prog_1_method_29_code
def yX2_countThatMayLieOn : MethodName := ⟨RX2, "countThatMayLieOn", "(ILMappingMoves$Column;II)I"⟩
abbrev cX2_putSparesInto : ByteArray := prog_1_method_30_code
def yX2_putSparesInto : MethodName := ⟨RX2, "putSparesInto", "(I)I"⟩
abbrev cX2_countColumns : ByteArray := prog_1_method_31_code
def yX2_countColumns : MethodName := ⟨RX2, "countColumns", "()I"⟩
abbrev cX2_countCells : ByteArray := prog_1_method_32_code
def yX2_countCells : MethodName := ⟨RX2, "countCells", "()I"⟩
abbrev cX2_countFilledCells : ByteArray := prog_1_method_33_code
def yX2_countFilledCells : MethodName := ⟨RX2, "countFilledCells", "()I"⟩
def RX3 : String := "MappingMovesModel"
def TX3 : u_T := fun k => match k with
  | 0 => ("MappingMovesModel", "code", "I", false)
  | 1 => ("MappingMovesModel", "kinds", "[I", true)
  | 2 => ("MappingMovesModel", "counts", "[I", true)
  | 3 => ("MappingMovesModel", "gone", "[Z", true)
  | 4 => ("MappingMovesModel", "cells", "[J", true)
  | 5 => ("MappingMovesModel", "reals", "[D", true)
  | 6 => ("MappingMovesModel", "hadKinds", "[I", true)
  | 7 => ("MappingMovesModel", "hadCounts", "[I", true)
  | 8 => ("MappingMovesModel", "hadGone", "[Z", true)
  | 9 => ("MappingMovesModel", "hadCells", "[J", true)
  | 10 => ("MappingMovesModel", "hadReals", "[D", true)
  | 11 => ("MappingMovesModel", "parts", "I", false)
  | 12 => ("MappingMovesModel", "sorts", "[I", true)
  | 13 => ("MappingMovesModel", "weights", "[I", true)
  | 14 => ("MappingMovesModel", "laid", "[I", true)
  | 15 => ("MappingMovesModel", "faults", "[I", true)
  | _ => ("MappingMovesModel", "copies", "I", false)
def tyX3 : Nat → FieldType := fun k => match k with
  | 0 => .int
  | 1 => .array .int
  | 2 => .array .int
  | 3 => .array .boolean
  | 4 => .array .long
  | 5 => .array .double
  | 6 => .array .int
  | 7 => .array .int
  | 8 => .array .boolean
  | 9 => .array .long
  | 10 => .array .double
  | 11 => .int
  | 12 => .array .int
  | 13 => .array .int
  | 14 => .array .int
  | 15 => .array .int
  | _ => .int
abbrev wsX30 : List Cond := u_ws RX3 TX3 17
theorem nmX3 : ∀ a, a < 17 → ∀ b, b < 17 → a ≠ b → (TX3 a).2.1 ≠ (TX3 b).2.1 := by decide +kernel
theorem tyX3_ok : ∀ k, k < 17 → parseFieldDescriptor (TX3 k).2.2.1 = some (tyX3 k) := by decide +kernel
abbrev cX3_init : ByteArray := prog_5_method_1_code
def yX3_init : MethodName := ⟨RX3, "<init>", "()V"⟩
abbrev cX3_thrown : ByteArray := prog_5_method_2_code
def yX3_thrown : MethodName := ⟨RX3, "thrown", "()I"⟩
abbrev cX3_in : ByteArray := prog_5_method_3_code
def yX3_in : MethodName := ⟨RX3, "in", "(III)Z"⟩
abbrev cX3_isPlace : ByteArray := prog_5_method_4_code
def yX3_isPlace : MethodName := ⟨RX3, "isPlace", "(I)Z"⟩
abbrev cX3_has : ByteArray := prog_5_method_5_code
def yX3_has : MethodName := ⟨RX3, "has", "(II)Z"⟩
abbrev cX3_way : ByteArray := prog_5_method_6_code
def yX3_way : MethodName := ⟨RX3, "way", "(IZ)I"⟩
abbrev cX3_isNone : ByteArray := prog_5_method_7_code
def yX3_isNone : MethodName := ⟨RX3, "isNone", "(I)Z"⟩
abbrev cX3_make : ByteArray := prog_5_method_8_code
def yX3_make : MethodName := ⟨RX3, "make", "(III)I"⟩
abbrev cX3_let : ByteArray := prog_5_method_9_code
def yX3_let : MethodName := ⟨RX3, "let", "(I)I"⟩
abbrev cX3_drop : ByteArray := prog_5_method_10_code
def yX3_drop : MethodName := ⟨RX3, "drop", "(I)I"⟩
abbrev cX3_kind : ByteArray := prog_5_method_11_code
def yX3_kind : MethodName := ⟨RX3, "kind", "(I)I"⟩
abbrev cX3_length : ByteArray := prog_5_method_12_code
def yX3_length : MethodName := ⟨RX3, "length", "(I)I"⟩
abbrev cX3_low : ByteArray := prog_5_method_13_code
def yX3_low : MethodName := ⟨RX3, "low", "(IJ)J"⟩
abbrev cX3_put : ByteArray := prog_5_method_14_code
def yX3_put : MethodName := ⟨RX3, "put", "(IIJ)I"⟩
abbrev cX3_telling : ByteArray := prog_5_method_15_code
def yX3_telling : MethodName := ⟨RX3, "telling", "(II)J"⟩
abbrev cX3_get : ByteArray := prog_5_method_16_code
def yX3_get : MethodName := ⟨RX3, "get", "(II)J"⟩
abbrev cX3_sum : ByteArray := prog_5_method_17_code
def yX3_sum : MethodName := ⟨RX3, "sum", "(II)I"⟩
abbrev cX3_isWhole : ByteArray := prog_5_method_18_code
def yX3_isWhole : MethodName := ⟨RX3, "isWhole", "(I)Z"⟩
abbrev cX3_fits : ByteArray := prog_5_method_19_code
def yX3_fits : MethodName := ⟨RX3, "fits", "(IJ)Z"⟩
abbrev cX3_isInLongs : ByteArray := prog_5_method_20_code
def yX3_isInLongs : MethodName := ⟨RX3, "isInLongs", "(D)Z"⟩
abbrev cX3_canBe : ByteArray := prog_5_method_21_code
def yX3_canBe : MethodName := ⟨RX3, "canBe", "(III)Z"⟩
abbrev cX3_turn : ByteArray := prog_5_method_22_code
def yX3_turn : MethodName := ⟨RX3, "turn", "(II)I"⟩
abbrev cX3_part : ByteArray := prog_5_method_23_code
def yX3_part : MethodName := ⟨RX3, "part", "(II)I"⟩
abbrev cX3_takes : ByteArray := prog_5_method_24_code
def yX3_takes : MethodName := ⟨RX3, "takes", "(IJ)Z"⟩
abbrev cX3_lay : ByteArray := prog_5_method_25_code
def yX3_lay : MethodName := ⟨RX3, "lay", "(III)I"⟩
abbrev cX3_wayTo : ByteArray := prog_5_method_26_code
def yX3_wayTo : MethodName := ⟨RX3, "wayTo", "(II)I"⟩
abbrev cX3_weigh : ByteArray := prog_5_method_27_code
def yX3_weigh : MethodName := ⟨RX3, "weigh", "(II)I"⟩
abbrev cX3_rigid : ByteArray := prog_5_method_28_code
def yX3_rigid : MethodName := ⟨RX3, "rigid", "(II)I"⟩
abbrev cX3_fault : ByteArray := prog_5_method_29_code
def yX3_fault : MethodName := ⟨RX3, "fault", "(II)I"⟩
abbrev cX3_raise : ByteArray := prog_5_method_30_code
def yX3_raise : MethodName := ⟨RX3, "raise", "(II)I"⟩
abbrev cX3_reaches : ByteArray := prog_5_method_31_code
def yX3_reaches : MethodName := ⟨RX3, "reaches", "(III)Z"⟩
abbrev cX3_copy : ByteArray := prog_5_method_32_code
def yX3_copy : MethodName := ⟨RX3, "copy", "(IIIII)I"⟩
abbrev cX3_copied : ByteArray := prog_5_method_33_code
def yX3_copied : MethodName := ⟨RX3, "copied", "()I"⟩
abbrev cX3_move : ByteArray := prog_5_method_34_code
def yX3_move : MethodName := ⟨RX3, "move", "(III)I"⟩
abbrev cX3_take : ByteArray := prog_5_method_35_code
def yX3_take : MethodName := ⟨RX3, "take", "(II)V"⟩
abbrev cX3_like : ByteArray := prog_5_method_36_code
def yX3_like : MethodName := ⟨RX3, "like", "(II)I"⟩
abbrev cX3_told : ByteArray := prog_5_method_37_code
def yX3_told : MethodName := ⟨RX3, "told", "(I)I"⟩
def RJx00060 : String := "java/lang/ArrayIndexOutOfBoundsException"
def TJx00060 : u_T := fun k => match k with
  | 0 => ("java/lang/Throwable", "backtrace", "Ljava/lang/Object;", false)
  | 1 => ("java/lang/Throwable", "detailMessage", "Ljava/lang/String;", false)
  | 2 => ("java/lang/Throwable", "cause", "Ljava/lang/Throwable;", false)
  | 3 => ("java/lang/Throwable", "stackTrace", "[Ljava/lang/StackTraceElement;", false)
  | 4 => ("java/lang/Throwable", "depth", "I", false)
  | _ => ("java/lang/Throwable", "suppressedExceptions", "Ljava/util/List;", false)
def tyJx00060 : Nat → FieldType := fun k => match k with
  | 0 => .object "java/lang/Object"
  | 1 => .object "java/lang/String"
  | 2 => .object "java/lang/Throwable"
  | 3 => .array (.object "java/lang/StackTraceElement")
  | 4 => .int
  | _ => .object "java/util/List"
abbrev wsJx000600 : List Cond := u_ws RJx00060 TJx00060 6
theorem nmJx00060 : ∀ a, a < 6 → ∀ b, b < 6 → a ≠ b → (TJx00060 a).2.1 ≠ (TJx00060 b).2.1 := by decide +kernel
theorem tyJx00060_ok : ∀ k, k < 6 → parseFieldDescriptor (TJx00060 k).2.2.1 = some (tyJx00060 k) := by decide +kernel
abbrev cJx00060_init_a7421 : ByteArray := prog_6_method_2_code
def yJx00060_init_a7421 : MethodName := ⟨RJx00060, "<init>", "(Ljava/lang/String;)V"⟩
def RJx5d777 : String := "java/lang/NullPointerException"
def TJx5d777 : u_T := fun k => match k with
  | 0 => ("java/lang/Throwable", "backtrace", "Ljava/lang/Object;", false)
  | 1 => ("java/lang/Throwable", "detailMessage", "Ljava/lang/String;", false)
  | 2 => ("java/lang/Throwable", "cause", "Ljava/lang/Throwable;", false)
  | 3 => ("java/lang/Throwable", "stackTrace", "[Ljava/lang/StackTraceElement;", false)
  | 4 => ("java/lang/Throwable", "depth", "I", false)
  | 5 => ("java/lang/Throwable", "suppressedExceptions", "Ljava/util/List;", false)
  | 6 => ("java/lang/NullPointerException", "extendedMessageState", "I", false)
  | _ => ("java/lang/NullPointerException", "extendedMessage", "Ljava/lang/String;", false)
def tyJx5d777 : Nat → FieldType := fun k => match k with
  | 0 => .object "java/lang/Object"
  | 1 => .object "java/lang/String"
  | 2 => .object "java/lang/Throwable"
  | 3 => .array (.object "java/lang/StackTraceElement")
  | 4 => .int
  | 5 => .object "java/util/List"
  | 6 => .int
  | _ => .object "java/lang/String"
abbrev wsJx5d7770 : List Cond := u_ws RJx5d777 TJx5d777 8
theorem nmJx5d777 : ∀ a, a < 8 → ∀ b, b < 8 → a ≠ b → (TJx5d777 a).2.1 ≠ (TJx5d777 b).2.1 := by decide +kernel
theorem tyJx5d777_ok : ∀ k, k < 8 → parseFieldDescriptor (TJx5d777 k).2.2.1 = some (tyJx5d777 k) := by decide +kernel
abbrev cJx5d777_init_da8c8 : ByteArray := prog_9_method_1_code
def yJx5d777_init_da8c8 : MethodName := ⟨RJx5d777, "<init>", "()V"⟩
abbrev cJx5d777_init_a7421 : ByteArray := prog_9_method_2_code
def yJx5d777_init_a7421 : MethodName := ⟨RJx5d777, "<init>", "(Ljava/lang/String;)V"⟩
abbrev cJx5d777_fillInStackTrace_cddbd : ByteArray := prog_9_method_3_code
def yJx5d777_fillInStackTrace_cddbd : MethodName := ⟨RJx5d777, "fillInStackTrace", "()Ljava/lang/Throwable;"⟩
def RJ0 : String := "java/lang/String"
def TJ0 : u_T := fun k => match k with
  | 0 => ("java/lang/String", "value", "[B", true)
  | _ => ("java/lang/String", "coder", "B", true)
def tyJ0 : Nat → FieldType := fun k => match k with
  | 0 => .array .byte
  | _ => .byte
abbrev wsJ00 : List Cond := u_ws RJ0 TJ0 2
theorem nmJ0 : ∀ a, a < 2 → ∀ b, b < 2 → a ≠ b → (TJ0 a).2.1 ≠ (TJ0 b).2.1 := by decide +kernel
theorem tyJ0_ok : ∀ k, k < 2 → parseFieldDescriptor (TJ0 k).2.2.1 = some (tyJ0 k) := by decide +kernel
def RJ10 : String := "java/lang/System"
def TJ10 : u_T := fun k => match k with
  | _ => ("", "", "", false)
def tyJ10 : Nat → FieldType := fun k => match k with
  | _ => .int
abbrev wsJ100 : List Cond := u_ws RJ10 TJ10 0
theorem nmJ10 : ∀ a, a < 0 → ∀ b, b < 0 → a ≠ b → (TJ10 a).2.1 ≠ (TJ10 b).2.1 := by decide +kernel
theorem tyJ10_ok : ∀ k, k < 0 → parseFieldDescriptor (TJ10 k).2.2.1 = some (tyJ10 k) := by decide +kernel
def RL : String := "MappingMovesLaw"
abbrev cL_get : ByteArray := method_3_code
def yL_get : MethodName := ⟨RL, "get", "(LMappingMoves;II[J)I"⟩
abbrev cL_law : ByteArray := code
def yL_law : MethodName := ⟨RL, "law", "([I)Z"⟩
def wsL_law0_r1 : List Cond := [Cond.classLink RL 8 RX2, Cond.instantiable RX2 5, Cond.initialized RX2, Cond.classLink RL 18 RX3, Cond.instantiable RX3 17, Cond.initialized RX3, Cond.arrayClass .long, Cond.constantLong RL 43 (4294967295), Cond.methodLink RL 17 yX2_init, Cond.instanceMethod yX2_init, Cond.code yX2_init cX2_init 2 none, Cond.methodLink RX2 1 objectInit, Cond.instanceMethod objectInit, Cond.code objectInit ⟨#[0xb1]⟩ 1 none, Cond.classLink RX2 9 RX0, Cond.fieldLink RX2 11 "MappingMoves" "columns" "[LMappingMoves$Column;", Cond.instantiable RX0 4, Cond.initialized RX0, Cond.fieldLink RX2 16 "MappingMoves" "spare" "[LMappingMoves$Column;", Cond.classLink RX2 19 RX1, Cond.fieldLink RX2 21 "MappingMoves" "parts" "[LMappingMoves$Part;", Cond.fieldLink RX2 25 "MappingMoves" "partCount" "I", Cond.fieldLink RX2 29 "MappingMoves" "copiedCells" "I", Cond.methodLink RX2 15 yX0_init]
def wsL_law0_r2 : List Cond := [Cond.instanceMethod yX0_init, Cond.code yX0_init cX0_init 1 none, Cond.methodLink RX0 3 objectInit, Cond.fieldLink RX0 11 "MappingMoves$Column" "kind" "I", Cond.fieldLink RX0 15 "MappingMoves$Column" "size" "I", Cond.fieldLink RX0 18 "MappingMoves$Column" "wholes" "[J", Cond.arrayClass .double, Cond.fieldLink RX0 22 "MappingMoves$Column" "reals" "[D", Cond.methodLink RL 20 yX3_init, Cond.instanceMethod yX3_init, Cond.code yX3_init cX3_init 2 none, Cond.methodLink RX3 1 objectInit, Cond.arrayClass .int, Cond.fieldLink RX3 7 "MappingMovesModel" "kinds" "[I", Cond.fieldLink RX3 13 "MappingMovesModel" "counts" "[I", Cond.arrayClass .boolean, Cond.fieldLink RX3 16 "MappingMovesModel" "gone" "[Z", Cond.fieldLink RX3 20 "MappingMovesModel" "cells" "[J", Cond.fieldLink RX3 24 "MappingMovesModel" "reals" "[D", Cond.fieldLink RX3 28 "MappingMovesModel" "hadKinds" "[I", Cond.fieldLink RX3 31 "MappingMovesModel" "hadCounts" "[I", Cond.fieldLink RX3 34 "MappingMovesModel" "hadGone" "[Z", Cond.fieldLink RX3 37 "MappingMovesModel" "hadCells" "[J", Cond.fieldLink RX3 40 "MappingMovesModel" "hadReals" "[D"]
def wsL_law0_r3 : List Cond := [Cond.fieldLink RX3 43 "MappingMovesModel" "sorts" "[I", Cond.fieldLink RX3 46 "MappingMovesModel" "weights" "[I", Cond.fieldLink RX3 49 "MappingMovesModel" "laid" "[I", Cond.fieldLink RX3 52 "MappingMovesModel" "faults" "[I", Cond.methodLink RL 21 yX2_make, Cond.instanceMethod yX2_make, Cond.selects RX2 yX2_make yX2_make, Cond.code yX2_make cX2_make 4 (some .int), Cond.methodLink RX2 32 yX2_isPlace, Cond.static yX2_isPlace, Cond.code yX2_isPlace cX2_isPlace 1 (some .boolean), Cond.methodLink RX2 36 yX0_begin, Cond.instanceMethod yX0_begin, Cond.selects RX0 yX0_begin yX0_begin, Cond.code yX0_begin cX0_begin 6 none, Cond.constantLong RX0 30 (-1), Cond.methodLink RX0 26 yX0_isShelf, Cond.instanceMethod yX0_isShelf, Cond.selects RX0 yX0_isShelf yX0_isShelf, Cond.code yX0_isShelf cX0_isShelf 1 (some .boolean), Cond.methodLink RL 25 yX3_make, Cond.instanceMethod yX3_make, Cond.selects RX3 yX3_make yX3_make, Cond.code yX3_make cX3_make 5 (some .int)]
def wsL_law0_r4 : List Cond := [Cond.fieldLink RX3 55 "MappingMovesModel" "code" "I", Cond.constantLong RX3 67 (-1), Cond.methodLink RX3 63 yX3_isPlace, Cond.static yX3_isPlace, Cond.code yX3_isPlace cX3_isPlace 1 (some .boolean), Cond.methodLink RX3 59 yX3_in, Cond.static yX3_in, Cond.code yX3_in cX3_in 3 (some .boolean), Cond.methodLink RL 26 yX2_let, Cond.instanceMethod yX2_let, Cond.selects RX2 yX2_let yX2_let, Cond.code yX2_let cX2_let 3 (some .int), Cond.methodLink RX2 40 yX2_length, Cond.instanceMethod yX2_length, Cond.selects RX2 yX2_length yX2_length, Cond.code yX2_length cX2_length 2 (some .int), Cond.methodLink RX2 57 yX0_hasCells, Cond.instanceMethod yX0_hasCells, Cond.selects RX0 yX0_hasCells yX0_hasCells, Cond.code yX0_hasCells cX0_hasCells 1 (some .boolean), Cond.methodLink RX2 44 yX0_letGo, Cond.instanceMethod yX0_letGo, Cond.selects RX0 yX0_letGo yX0_letGo, Cond.code yX0_letGo cX0_letGo 1 none]
def wsL_law0_r5 : List Cond := [Cond.methodLink RL 30 yX3_let, Cond.instanceMethod yX3_let, Cond.selects RX3 yX3_let yX3_let, Cond.code yX3_let cX3_let 3 (some .int), Cond.methodLink RX3 69 yX3_isNone, Cond.instanceMethod yX3_isNone, Cond.selects RX3 yX3_isNone yX3_isNone, Cond.code yX3_isNone cX3_isNone 2 (some .boolean), Cond.methodLink RL 31 yX2_drop, Cond.instanceMethod yX2_drop, Cond.selects RX2 yX2_drop yX2_drop, Cond.code yX2_drop cX2_drop 3 (some .int), Cond.methodLink RX2 47 yX0_isThere, Cond.instanceMethod yX0_isThere, Cond.selects RX0 yX0_isThere yX0_isThere, Cond.code yX0_isThere cX0_isThere 1 (some .boolean), Cond.methodLink RX2 51 yX0_vanish, Cond.instanceMethod yX0_vanish, Cond.selects RX0 yX0_vanish yX0_vanish, Cond.code yX0_vanish cX0_vanish 1 none, Cond.methodLink RL 34 yX3_drop, Cond.instanceMethod yX3_drop, Cond.selects RX3 yX3_drop yX3_drop, Cond.code yX3_drop cX3_drop 3 (some .int)]
def wsL_law0_r6 : List Cond := [Cond.methodLink RL 35 yX2_kind, Cond.instanceMethod yX2_kind, Cond.selects RX2 yX2_kind yX2_kind, Cond.code yX2_kind cX2_kind 2 (some .int), Cond.methodLink RL 38 yX3_kind, Cond.instanceMethod yX3_kind, Cond.selects RX3 yX3_kind yX3_kind, Cond.code yX3_kind cX3_kind 2 (some .int), Cond.methodLink RL 39 yX2_length, Cond.methodLink RL 42 yX3_length, Cond.instanceMethod yX3_length, Cond.selects RX3 yX3_length yX3_length, Cond.code yX3_length cX3_length 2 (some .int), Cond.methodLink RL 45 yX2_put, Cond.instanceMethod yX2_put, Cond.selects RX2 yX2_put yX2_put, Cond.code yX2_put cX2_put 6 (some .int), Cond.methodLink RX2 63 yX2_inWayOfCell, Cond.instanceMethod yX2_inWayOfCell, Cond.selects RX2 yX2_inWayOfCell yX2_inWayOfCell, Cond.code yX2_inWayOfCell cX2_inWayOfCell 5 (some .int), Cond.methodLink RX2 110 yX2_inWayOfCells, Cond.instanceMethod yX2_inWayOfCells, Cond.selects RX2 yX2_inWayOfCells yX2_inWayOfCells]
def wsL_law0_r7 : List Cond := [Cond.code yX2_inWayOfCells cX2_inWayOfCells 4 (some .int), Cond.methodLink RX2 88 yX0_isShelf, Cond.methodLink RX2 83 yX0_hasCell, Cond.instanceMethod yX0_hasCell, Cond.selects RX0 yX0_hasCell yX0_hasCell, Cond.code yX0_hasCell cX0_hasCell 2 (some .boolean), Cond.methodLink RX2 67 yX0_store, Cond.instanceMethod yX0_store, Cond.selects RX0 yX0_store yX0_store, Cond.code yX0_store cX0_store 4 none, Cond.constantFloat RX0 32 (1090519040), Cond.constantDouble RX0 33 (4620693217682128896), Cond.methodLink RL 49 yX3_put, Cond.instanceMethod yX3_put, Cond.selects RX3 yX3_put yX3_put, Cond.code yX3_put cX3_put 7 (some .int), Cond.constantFloat RX3 82 (1090519040), Cond.constantDouble RX3 83 (4620693217682128896), Cond.methodLink RX3 74 yX3_way, Cond.instanceMethod yX3_way, Cond.selects RX3 yX3_way yX3_way, Cond.code yX3_way cX3_way 3 (some .int), Cond.methodLink RX3 78 yX3_has, Cond.instanceMethod yX3_has]
def wsL_law0_r8 : List Cond := [Cond.selects RX3 yX3_has yX3_has, Cond.code yX3_has cX3_has 3 (some .boolean), Cond.methodLink RX3 85 yX3_low, Cond.static yX3_low, Cond.code yX3_low cX3_low 3 (some .long), Cond.constantLong RX3 72 (65535), Cond.methodLink RL 50 yL_get, Cond.static yL_get, Cond.initialized RL, Cond.codeWith yL_get cL_get 5 (some .int) [(0, 9, 12, 13), (0, 9, 16, 15)], Cond.classLink RL 13 "java/lang/NullPointerException", Cond.classLink RL 15 "java/lang/ArrayIndexOutOfBoundsException", Cond.methodLink RL 7 yX2_get, Cond.instanceMethod yX2_get, Cond.selects RX2 yX2_get yX2_get, Cond.code yX2_get cX2_get 4 (some .long), Cond.classLink RX2 71 RJx00060, Cond.instantiable RJx00060 6, Cond.initialized RJx00060, Cond.classLink RX2 78 RJx5d777, Cond.instantiable RJx5d777 8, Cond.initialized RJx5d777, Cond.constantLong RX2 95 (-1), Cond.methodLink RX2 99 yX0_tell]
def wsL_law0_r9 : List Cond := [Cond.instanceMethod yX0_tell, Cond.selects RX0 yX0_tell yX0_tell, Cond.code yX0_tell cX0_tell 2 (some .long), Cond.methodLink RL 55 yX3_get, Cond.instanceMethod yX3_get, Cond.selects RX3 yX3_get yX3_get, Cond.code yX3_get cX3_get 3 (some .long), Cond.methodLink RX3 89 yX3_telling, Cond.instanceMethod yX3_telling, Cond.selects RX3 yX3_telling yX3_telling, Cond.code yX3_telling cX3_telling 4 (some .long), Cond.methodLink RL 56 yX3_thrown, Cond.instanceMethod yX3_thrown, Cond.selects RX3 yX3_thrown yX3_thrown, Cond.code yX3_thrown cX3_thrown 1 (some .int), Cond.methodLink RL 60 yX2_sum, Cond.instanceMethod yX2_sum, Cond.selects RX2 yX2_sum yX2_sum, Cond.code yX2_sum cX2_sum 4 (some .int), Cond.methodLink RX2 103 yX2_isNumberKind, Cond.static yX2_isNumberKind, Cond.code yX2_isNumberKind cX2_isNumberKind 1 (some .boolean), Cond.methodLink RX2 106 yX0_addUp, Cond.instanceMethod yX0_addUp]
def wsL_law0_r10 : List Cond := [Cond.selects RX0 yX0_addUp yX0_addUp, Cond.code yX0_addUp cX0_addUp 3 (some .int), Cond.methodLink RX0 35 yX0_tell, Cond.methodLink RL 64 yX3_sum, Cond.instanceMethod yX3_sum, Cond.selects RX3 yX3_sum yX3_sum, Cond.code yX3_sum cX3_sum 5 (some .int), Cond.methodLink RL 65 yX2_turn, Cond.instanceMethod yX2_turn, Cond.selects RX2 yX2_turn yX2_turn, Cond.code yX2_turn cX2_turn 6 (some .int), Cond.methodLink RX2 114 yX0_firstUnfit, Cond.instanceMethod yX0_firstUnfit, Cond.selects RX0 yX0_firstUnfit yX0_firstUnfit, Cond.code yX0_firstUnfit cX0_firstUnfit 4 (some .int), Cond.static yX2_isRealKind, Cond.code yX2_isRealKind cX2_isRealKind 1 (some .boolean), Cond.methodLink RX0 43 yX0_realFits, Cond.static yX0_realFits, Cond.code yX0_realFits cX0_realFits 5 (some .boolean), Cond.constantDouble RX0 56 (14114281232179134464), Cond.constantDouble RX0 54 (4890909195324358656), Cond.methodLink RX0 51 yX0_isWithin, Cond.static yX0_isWithin]
def wsL_law0_r11 : List Cond := [Cond.code yX0_isWithin cX0_isWithin 3 (some .boolean), Cond.fieldLink RX0 58 "MappingMoves$Column" "LEAST" "[J", Cond.fieldLink RX0 61 "MappingMoves$Column" "GREATEST" "[J", Cond.methodLink RX0 47 yX0_wholeFits, Cond.static yX0_wholeFits, Cond.code yX0_wholeFits cX0_wholeFits 5 (some .boolean), Cond.methodLink RX2 117 yX0_become, Cond.instanceMethod yX0_become, Cond.selects RX0 yX0_become yX0_become, Cond.code yX0_become cX0_become 3 none, Cond.methodLink RL 68 yX3_turn, Cond.instanceMethod yX3_turn, Cond.selects RX3 yX3_turn yX3_turn, Cond.code yX3_turn cX3_turn 7 (some .int), Cond.methodLink RX3 108 yX3_canBe, Cond.instanceMethod yX3_canBe, Cond.selects RX3 yX3_canBe yX3_canBe, Cond.code yX3_canBe cX3_canBe 8 (some .boolean), Cond.methodLink RX3 97 yX3_isWhole, Cond.static yX3_isWhole, Cond.code yX3_isWhole cX3_isWhole 1 (some .boolean), Cond.methodLink RX3 100 yX3_fits, Cond.static yX3_fits, Cond.code yX3_fits cX3_fits 3 (some .boolean)]
def wsL_law0_r12 : List Cond := [Cond.methodLink RX3 104 yX3_isInLongs, Cond.static yX3_isInLongs, Cond.code yX3_isInLongs cX3_isInLongs 2 (some .boolean), Cond.constantDouble RX3 93 (14114281232179134464), Cond.constantDouble RX3 95 (4890909195324358656), Cond.methodLink RL 69 yX2_part, Cond.instanceMethod yX2_part, Cond.selects RX2 yX2_part yX2_part, Cond.code yX2_part cX2_part 3 (some .int), Cond.instantiable RX1 4, Cond.initialized RX1, Cond.methodLink RX2 121 yX1_init, Cond.instanceMethod yX1_init, Cond.code yX1_init cX1_init 3 none, Cond.methodLink RX1 3 objectInit, Cond.fieldLink RX1 9 "MappingMoves$Part" "sort" "I", Cond.fieldLink RX1 15 "MappingMoves$Part" "weight" "I", Cond.fieldLink RX1 18 "MappingMoves$Part" "timesLaid" "I", Cond.fieldLink RX1 21 "MappingMoves$Part" "faultCode" "I", Cond.methodLink RL 72 yX3_part, Cond.instanceMethod yX3_part, Cond.selects RX3 yX3_part yX3_part, Cond.code yX3_part cX3_part 3 (some .int), Cond.fieldLink RX3 111 "MappingMovesModel" "parts" "I"]
def wsL_law0_r13 : List Cond := [Cond.methodLink RL 73 yX2_lay, Cond.instanceMethod yX2_lay, Cond.selects RX2 yX2_lay yX2_lay, Cond.code yX2_lay cX2_lay 6 (some .int), Cond.methodLink RX2 123 yX2_partNumbered, Cond.instanceMethod yX2_partNumbered, Cond.selects RX2 yX2_partNumbered yX2_partNumbered, Cond.code yX2_partNumbered cX2_partNumbered 3 (some (.object "MappingMoves$Part")), Cond.methodLink RX2 127 yX1_mayLieOn, Cond.instanceMethod yX1_mayLieOn, Cond.selects RX1 yX1_mayLieOn yX1_mayLieOn, Cond.code yX1_mayLieOn cX1_mayLieOn 2 (some .boolean), Cond.methodLink RL 76 yX3_lay, Cond.instanceMethod yX3_lay, Cond.selects RX3 yX3_lay yX3_lay, Cond.code yX3_lay cX3_lay 5 (some .int), Cond.methodLink RX3 114 yX3_takes, Cond.instanceMethod yX3_takes, Cond.selects RX3 yX3_takes yX3_takes, Cond.code yX3_takes cX3_takes 4 (some .boolean), Cond.methodLink RL 77 yX2_weigh, Cond.instanceMethod yX2_weigh, Cond.selects RX2 yX2_weigh yX2_weigh, Cond.code yX2_weigh cX2_weigh 5 (some .int)]
def wsL_law0_r14 : List Cond := [Cond.methodLink RX2 133 yX1_weighed, Cond.instanceMethod yX1_weighed, Cond.selects RX1 yX1_weighed yX1_weighed, Cond.code yX1_weighed cX1_weighed 1 (some .int), Cond.methodLink RL 80 yX3_weigh, Cond.instanceMethod yX3_weigh, Cond.selects RX3 yX3_weigh yX3_weigh, Cond.code yX3_weigh cX3_weigh 5 (some .int), Cond.methodLink RX3 117 yX3_wayTo, Cond.instanceMethod yX3_wayTo, Cond.selects RX3 yX3_wayTo yX3_wayTo, Cond.code yX3_wayTo cX3_wayTo 4 (some .int), Cond.methodLink RL 81 yX2_rigid, Cond.instanceMethod yX2_rigid, Cond.selects RX2 yX2_rigid yX2_rigid, Cond.code yX2_rigid cX2_rigid 5 (some .int), Cond.methodLink RL 84 yX3_rigid, Cond.instanceMethod yX3_rigid, Cond.selects RX3 yX3_rigid yX3_rigid, Cond.code yX3_rigid cX3_rigid 5 (some .int), Cond.methodLink RL 85 yX2_fault, Cond.instanceMethod yX2_fault, Cond.selects RX2 yX2_fault yX2_fault, Cond.code yX2_fault cX2_fault 4 (some .int)]
def wsL_law0_r15 : List Cond := [Cond.methodLink RL 88 yX3_fault, Cond.instanceMethod yX3_fault, Cond.selects RX3 yX3_fault yX3_fault, Cond.code yX3_fault cX3_fault 3 (some .int), Cond.methodLink RL 89 yX2_raise, Cond.instanceMethod yX2_raise, Cond.selects RX2 yX2_raise yX2_raise, Cond.code yX2_raise cX2_raise 5 (some .int), Cond.methodLink RL 92 yX3_raise, Cond.instanceMethod yX3_raise, Cond.selects RX3 yX3_raise yX3_raise, Cond.code yX3_raise cX3_raise 5 (some .int), Cond.methodLink RL 93 yX2_copy, Cond.instanceMethod yX2_copy, Cond.selects RX2 yX2_copy yX2_copy, Cond.code yX2_copy cX2_copy 9 (some .int), Cond.methodLink RX2 142 yX0_hasRun, Cond.instanceMethod yX0_hasRun, Cond.selects RX0 yX0_hasRun yX0_hasRun, Cond.code yX0_hasRun cX0_hasRun 3 (some .boolean), Cond.methodLink RX2 146 yX2_countThatMayLieOn, Cond.instanceMethod yX2_countThatMayLieOn, Cond.selects RX2 yX2_countThatMayLieOn yX2_countThatMayLieOn, Cond.code yX2_countThatMayLieOn cX2_countThatMayLieOn 7 (some .int)]
def wsL_law0_r16 : List Cond := [Cond.methodLink RX2 150 yX0_copyRun, Cond.instanceMethod yX0_copyRun, Cond.selects RX0 yX0_copyRun yX0_copyRun, Cond.code yX0_copyRun cX0_copyRun 5 none, Cond.methodLink RX0 68 arraycopyName, Cond.native arraycopyName, Cond.static arraycopyName, Cond.initialized "java/lang/System", Cond.methodLink RL 97 yX3_copy, Cond.instanceMethod yX3_copy, Cond.selects RX3 yX3_copy yX3_copy, Cond.code yX3_copy cX3_copy 12 (some .int), Cond.fieldLink RX3 121 "MappingMovesModel" "copies" "I", Cond.methodLink RX3 124 yX3_reaches, Cond.static yX3_reaches, Cond.code yX3_reaches cX3_reaches 3 (some .boolean), Cond.methodLink RL 98 yX2_copied, Cond.instanceMethod yX2_copied, Cond.selects RX2 yX2_copied yX2_copied, Cond.code yX2_copied cX2_copied 1 (some .int), Cond.methodLink RL 101 yX3_copied, Cond.instanceMethod yX3_copied, Cond.selects RX3 yX3_copied yX3_copied, Cond.code yX3_copied cX3_copied 1 (some .int)]
def wsL_law0_r17 : List Cond := [Cond.methodLink RL 102 yX2_move, Cond.instanceMethod yX2_move, Cond.selects RX2 yX2_move yX2_move, Cond.code yX2_move cX2_move 7 (some .int), Cond.constant RX2 157 (262143), Cond.methodLink RX2 154 yX2_isMapping, Cond.static yX2_isMapping, Cond.code yX2_isMapping cX2_isMapping 1 (some .boolean), Cond.methodLink RX2 158 yX0_becomeLike, Cond.instanceMethod yX0_becomeLike, Cond.selects RX0 yX0_becomeLike yX0_becomeLike, Cond.code yX0_becomeLike cX0_becomeLike 2 none, Cond.methodLink RX0 64 yX0_copyRun, Cond.methodLink RX2 162 yX2_putSparesInto, Cond.instanceMethod yX2_putSparesInto, Cond.selects RX2 yX2_putSparesInto yX2_putSparesInto, Cond.code yX2_putSparesInto cX2_putSparesInto 6 (some .int), Cond.methodLink RL 105 yX3_move, Cond.instanceMethod yX3_move, Cond.selects RX3 yX3_move yX3_move, Cond.code yX3_move cX3_move 8 (some .int), Cond.constant RX3 127 (262143), Cond.methodLink RX3 128 yX3_take, Cond.instanceMethod yX3_take]
def wsL_law0_r18 : List Cond := [Cond.selects RX3 yX3_take yX3_take, Cond.code yX3_take cX3_take 4 none, Cond.methodLink RL 106 yX2_like, Cond.instanceMethod yX2_like, Cond.selects RX2 yX2_like yX2_like, Cond.code yX2_like cX2_like 3 (some .int), Cond.methodLink RX2 165 yX0_hasSameCells, Cond.instanceMethod yX0_hasSameCells, Cond.selects RX0 yX0_hasSameCells yX0_hasSameCells, Cond.code yX0_hasSameCells cX0_hasSameCells 4 (some .boolean), Cond.methodLink RL 109 yX3_like, Cond.instanceMethod yX3_like, Cond.selects RX3 yX3_like yX3_like, Cond.code yX3_like cX3_like 6 (some .int), Cond.methodLink RL 110 yX2_told, Cond.instanceMethod yX2_told, Cond.selects RX2 yX2_told yX2_told, Cond.code yX2_told cX2_told 2 (some .int), Cond.methodLink RX2 169 yX2_countColumns, Cond.instanceMethod yX2_countColumns, Cond.selects RX2 yX2_countColumns yX2_countColumns, Cond.code yX2_countColumns cX2_countColumns 3 (some .int), Cond.methodLink RX2 172 yX2_countCells, Cond.instanceMethod yX2_countCells]
def wsL_law0_r19 : List Cond := [Cond.selects RX2 yX2_countCells yX2_countCells, Cond.code yX2_countCells cX2_countCells 3 (some .int), Cond.methodLink RX2 175 yX2_countFilledCells, Cond.instanceMethod yX2_countFilledCells, Cond.selects RX2 yX2_countFilledCells yX2_countFilledCells, Cond.code yX2_countFilledCells cX2_countFilledCells 3 (some .int), Cond.methodLink RX2 178 yX0_countFilled, Cond.instanceMethod yX0_countFilled, Cond.selects RX0 yX0_countFilled yX0_countFilled, Cond.code yX0_countFilled cX0_countFilled 3 (some .int), Cond.methodLink RL 113 yX3_told, Cond.instanceMethod yX3_told, Cond.selects RX3 yX3_told yX3_told, Cond.code yX3_told cX3_told 7 (some .int)]
def wsL_law0 : List Cond := (wsL_law0_r1 ++ (wsL_law0_r2 ++ (wsL_law0_r3 ++ (wsL_law0_r4 ++ (wsL_law0_r5 ++ (wsL_law0_r6 ++ (wsL_law0_r7 ++ (wsL_law0_r8 ++ (wsL_law0_r9 ++ (wsL_law0_r10 ++ (wsL_law0_r11 ++ (wsL_law0_r12 ++ (wsL_law0_r13 ++ (wsL_law0_r14 ++ (wsL_law0_r15 ++ (wsL_law0_r16 ++ (wsL_law0_r17 ++ (wsL_law0_r18 ++ wsL_law0_r19)))))))))))))))))) ++ wsX20 ++ wsX30 ++ wsX00 ++ wsJx000600 ++ wsJx5d7770 ++ wsX10 ++ ([] : List Cond)
theorem wsL_law_in0 : ∀ w ∈ wsL_law0, w ∈ lw_tbl := fun w h => (goodIn_p wsL_law0 [35, 38, 44, 459, 85, 88, 92, 96, 522, 525, 528, 101, 105, 109, 113, 533, 537, 117, 121, 125, 541, 129, 545, 549, 134, 138, 142, 147, 151, 553, 557, 561, 566, 441, 168, 571, 575, 518, 157, 160, 164, 579, 172, 176, 179, 182, 187, 194, 198, 583, 587, 590, 593, 596, 202, 206, 602, 227, 231, 235, 606, 610, 239, 243, 614, 618, 247, 622, 251, 626, 255, 630, 259, 263, 267, 271, 634, 637, 278, 641, 282, 285, 290, 295, 645, 650, 299, 303, 654, 307, 311, 315, 319, 323, 658] (by decide +kernel) (by decide +kernel) w h).1
abbrev vwCl : List vw_C := [(RJ0, TJ0, 2), (RJx00060, TJx00060, 6), (RJx5d777, TJx5d777, 8), (RX0, TX0, 4), (RX1, TX1, 4), (RX2, TX2, 5), (RX3, TX3, 17)]
end
section
/-! memory as a map: what stands at an address; one world for a whole run, no cutting and joining -/
abbrev mw_M : Type := Nat → Option va_E
def mw_up (M : mw_M) (a : Nat) (e : va_E) : mw_M := fun q => if q = a then some e else M q
theorem mw_up_s (M : mw_M) (a : Nat) (e : va_E) : mw_up M a e a = some e := by simp [mw_up]
theorem mw_up_n {M : mw_M} {a q : Nat} {e : va_E} (h : q ≠ a) : mw_up M a e q = M q := by simp [mw_up, h]
/-- what is fixed for a run: class and slot numbers, array classes, the first address that is ours, the constant tables' addresses -/
abbrev mw_G : Type := va_G × (Nat → ClassId) × Nat × (Nat → Nat)
def mw_A (g : mw_G) : Nat → Prop := fun q => g.2.2.1 ≤ q
def mw_tys (g : mw_G) : List (ClassId × FieldType) := [(g.2.1 0, .int), (g.2.1 1, .long), (g.2.1 2, .double), (g.2.1 3, .boolean), (g.2.1 4, .object "MappingMoves$Column"), (g.2.1 5, .object "MappingMoves$Part")]
def mw_H (g : mw_G) (M : mw_M) (H : Heap) : Prop := ∃ ws : va_W, va_P g.1 vwCl ws H ∧ va_D (mw_A g) ws ∧ ∀ (a : Nat) (e : va_E), M a = some e → ∃ k : Nat, ws[k]? = some (a, e)
theorem mw_H.set {g : mw_G} {M : mw_M} {H1 : Heap} {ws : va_W} {k a : Nat} {e0 e : va_E} (hk : ws[k]? = some (a, e0)) (hM : ∀ (a : Nat) (e : va_E), M a = some e → ∃ k : Nat, ws[k]? = some (a, e)) (hP : va_P g.1 vwCl (ws.set k (a, e)) H1) (hD : va_D (mw_A g) (ws.set k (a, e))) : mw_H g (mw_up M a e) H1 := by
  refine ⟨_, hP, hD, fun q x hq => ?_⟩
  by_cases h : q = a
  · subst h
    rw [mw_up_s] at hq
    cases hq
    exact ⟨k, List.getElem?_set_self (List.getElem?_eq_some_iff.mp hk).1⟩
  · rw [mw_up_n h] at hq
    obtain ⟨j, hj⟩ := hM q x hq
    refine ⟨j, ?_⟩
    rw [List.getElem?_set_ne]
    · exact hj
    · intro hjk
      subst hjk
      rw [hk] at hj
      cases hj
      exact h rfl
theorem mw_H.push {g : mw_G} {M : mw_M} {H1 : Heap} {ws : va_W} {a : Nat} {e : va_E} (hM : ∀ (a : Nat) (e : va_E), M a = some e → ∃ k : Nat, ws[k]? = some (a, e)) (hP : va_P g.1 vwCl (ws ++ [(a, e)]) H1) (hD : va_D (mw_A g) (ws ++ [(a, e)])) : M a = none ∧ mw_H g (mw_up M a e) H1 := by
  have hlast : (ws ++ [(a, e)])[ws.length]? = some (a, e) := by simp
  have hin : ∀ (q : Nat) (x : va_E), M q = some x → ∃ k : Nat, k < ws.length ∧ (ws ++ [(a, e)])[k]? = some (q, x) := by
    intro q x hq
    obtain ⟨k, hk⟩ := hM q x hq
    have hl := (List.getElem?_eq_some_iff.mp hk).1
    exact ⟨k, hl, by rw [List.getElem?_append_left hl]; exact hk⟩
  refine ⟨?_, _, hP, hD, fun q x hq => ?_⟩
  · cases h : M a with
    | none => rfl
    | some x =>
      obtain ⟨k, hl, hk⟩ := hin a x h
      have := hD.1 k ws.length _ _ hk hlast rfl
      omega
  · by_cases h : q = a
    · subst h
      rw [mw_up_s] at hq
      cases hq
      exact ⟨_, hlast⟩
    · rw [mw_up_n h] at hq
      obtain ⟨k, -, hk⟩ := hin q x hq
      exact ⟨k, hk⟩
/-- a method: its name, code, locals, answer, words, room -/
abbrev mw_I : Type := MethodName × ByteArray × Nat × Option FieldType × List Cond × Room
/-- words across the nest -/
def mw_nest : List Cond := [.fieldLinkNest "MappingMoves" 54 "MappingMoves$Column" "kind" "I" "MappingMoves", .fieldLinkNest "MappingMoves" 60 "MappingMoves$Column" "size" "I" "MappingMoves", .fieldLinkNest "MappingMoves" 91 "MappingMoves$Column" "wholes" "[J" "MappingMoves", .fieldLinkNest "MappingMoves" 136 "MappingMoves$Part" "sort" "I" "MappingMoves", .fieldLinkNest "MappingMoves" 130 "MappingMoves$Part" "timesLaid" "I" "MappingMoves", .fieldLinkNest "MappingMoves" 139 "MappingMoves$Part" "faultCode" "I" "MappingMoves", .methodLinkNest "MappingMoves$Column" 39 yX2_isRealKind "MappingMoves"]
def mw_least (j : Nat) : Int64 := match j with
  | 0 => -128
  | 1 => -32768
  | 2 => 0
  | 3 => -2147483648
  | _ => -9223372036854775808
def mw_great (j : Nat) : Int64 := match j with
  | 0 => 127
  | 1 => 32767
  | 2 => 65535
  | 3 => 2147483647
  | _ => 9223372036854775807
/-- what holds of the tables and of the constant cells, wherever the run is -/
def mw_K (g : mw_G) (U : State) (H : Heap) : Prop :=
  va_K g.1 vwCl (mw_tys g) U ∧ (∀ w ∈ mw_nest, va_Nw w U) ∧ (va_AO "MappingMoves$Column" U ∧ va_AO "MappingMoves$Part" U) ∧
  (va_Z "MappingMoves$Column" "LEAST" "[J" (.ref (g.2.2.2 0)) (mw_A g) U H ∧ va_T .long (g.2.2.2 0) 5 (fun j => .long (mw_least j)) (mw_A g) U H) ∧
  (va_Z "MappingMoves$Column" "GREATEST" "[J" (.ref (g.2.2.2 1)) (mw_A g) U H ∧ va_T .long (g.2.2.2 1) 5 (fun j => .long (mw_great j)) (mw_A g) U H)
theorem mw_Nw_warm {s U : State} (hW : s.WarmedH U.vm) : ∀ w ∈ mw_nest, va_Nw w s → va_Nw w U := by
  intro w hw h
  simp only [mw_nest, List.mem_cons, List.not_mem_nil, or_false] at hw
  rcases hw with rfl | rfl | rfl | rfl | rfl | rfl | rfl
  · exact va_Nw.warmF hW h
  · exact va_Nw.warmF hW h
  · exact va_Nw.warmF hW h
  · exact va_Nw.warmF hW h
  · exact va_Nw.warmF hW h
  · exact va_Nw.warmF hW h
  · exact va_Nw.warmM hW h
end
