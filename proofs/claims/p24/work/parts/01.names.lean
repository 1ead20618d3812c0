/-- a private method of a class that the tables say can be made, by its rows of tables_1 -/
def lw_okq (q : MethodName × Nat) : Prop := (q.1.cls ≠ "java/lang/invoke/MethodHandle" ∧ q.1.cls ≠ "java/lang/invoke/VarHandle") ∧ Cond.instantiable q.1.cls q.2 ∈ tables_1 ∧ Cond.privateMethod q.1 ∈ tables_1 ∧ Cond.instanceMethod q.1 ∈ tables_1
theorem lw_p0 : lw_okq (⟨"SlidingBlocks$Text", "startParse", "()V"⟩, 9) := ⟨⟨by decide +kernel, by decide +kernel⟩, List.mem_of_getElem? (i := 22) (by decide +kernel), List.mem_of_getElem? (i := 312) (by decide +kernel), List.mem_of_getElem? (i := 313) (by decide +kernel)⟩
theorem lw_p1 : lw_okq (⟨"SlidingBlocks$Text", "endRow", "()Z"⟩, 9) := ⟨⟨by decide +kernel, by decide +kernel⟩, List.mem_of_getElem? (i := 22) (by decide +kernel), List.mem_of_getElem? (i := 316) (by decide +kernel), List.mem_of_getElem? (i := 317) (by decide +kernel)⟩
theorem lw_p2 : lw_okq (⟨"SlidingBlocks$Text", "isRowWhole", "()Z"⟩, 9) := ⟨⟨by decide +kernel, by decide +kernel⟩, List.mem_of_getElem? (i := 22) (by decide +kernel), List.mem_of_getElem? (i := 320) (by decide +kernel), List.mem_of_getElem? (i := 321) (by decide +kernel)⟩
theorem lw_p3 : lw_okq (⟨"SlidingBlocks$Text", "addCell", "(I)Z"⟩, 9) := ⟨⟨by decide +kernel, by decide +kernel⟩, List.mem_of_getElem? (i := 22) (by decide +kernel), List.mem_of_getElem? (i := 324) (by decide +kernel), List.mem_of_getElem? (i := 325) (by decide +kernel)⟩
theorem lw_p4 : lw_okq (⟨"SlidingBlocks$Text", "contentOf", "(I)I"⟩, 9) := ⟨⟨by decide +kernel, by decide +kernel⟩, List.mem_of_getElem? (i := 22) (by decide +kernel), List.mem_of_getElem? (i := 328) (by decide +kernel), List.mem_of_getElem? (i := 329) (by decide +kernel)⟩
theorem lw_p5 : lw_okq (⟨"SlidingBlocks$Text", "fill", "(LSlidingBlocks$Board;)I"⟩, 9) := ⟨⟨by decide +kernel, by decide +kernel⟩, List.mem_of_getElem? (i := 22) (by decide +kernel), List.mem_of_getElem? (i := 338) (by decide +kernel), List.mem_of_getElem? (i := 339) (by decide +kernel)⟩
theorem lw_p6 : lw_okq (⟨"SlidingBlocks$Text", "cellsWith", "(I)I"⟩, 9) := ⟨⟨by decide +kernel, by decide +kernel⟩, List.mem_of_getElem? (i := 22) (by decide +kernel), List.mem_of_getElem? (i := 343) (by decide +kernel), List.mem_of_getElem? (i := 344) (by decide +kernel)⟩
theorem lw_p7 : lw_okq (⟨"SlidingBlocks$Text", "firstCell", "(I)I"⟩, 9) := ⟨⟨by decide +kernel, by decide +kernel⟩, List.mem_of_getElem? (i := 22) (by decide +kernel), List.mem_of_getElem? (i := 351) (by decide +kernel), List.mem_of_getElem? (i := 352) (by decide +kernel)⟩
theorem lw_p8 : lw_okq (⟨"SlidingBlocks$Text", "textIndex", "(I)I"⟩, 9) := ⟨⟨by decide +kernel, by decide +kernel⟩, List.mem_of_getElem? (i := 22) (by decide +kernel), List.mem_of_getElem? (i := 355) (by decide +kernel), List.mem_of_getElem? (i := 356) (by decide +kernel)⟩
theorem lw_p9 : lw_okq (⟨"SlidingBlocks$History", "boardAt", "(I)LSlidingBlocks$Board;"⟩, 3) := ⟨⟨by decide +kernel, by decide +kernel⟩, List.mem_of_getElem? (i := 150) (by decide +kernel), List.mem_of_getElem? (i := 374) (by decide +kernel), List.mem_of_getElem? (i := 375) (by decide +kernel)⟩
theorem lw_p10 : lw_okq (⟨"SlidingBlocks$Space", "add", "(J)V"⟩, 9) := ⟨⟨by decide +kernel, by decide +kernel⟩, List.mem_of_getElem? (i := 202) (by decide +kernel), List.mem_of_getElem? (i := 498) (by decide +kernel), List.mem_of_getElem? (i := 499) (by decide +kernel)⟩
theorem lw_p11 : lw_okq (⟨"SlidingBlocks$Space", "slotOf", "(J)I"⟩, 9) := ⟨⟨by decide +kernel, by decide +kernel⟩, List.mem_of_getElem? (i := 202) (by decide +kernel), List.mem_of_getElem? (i := 502) (by decide +kernel), List.mem_of_getElem? (i := 503) (by decide +kernel)⟩
theorem lw_p12 : lw_okq (⟨"SlidingBlocks$Space", "expand", "(LSlidingBlocks$Board;I)V"⟩, 9) := ⟨⟨by decide +kernel, by decide +kernel⟩, List.mem_of_getElem? (i := 202) (by decide +kernel), List.mem_of_getElem? (i := 512) (by decide +kernel), List.mem_of_getElem? (i := 513) (by decide +kernel)⟩
theorem lw_p13 : lw_okq (⟨"SlidingBlocks$Space", "takenIn", "(LSlidingBlocks$Board;J)I"⟩, 9) := ⟨⟨by decide +kernel, by decide +kernel⟩, List.mem_of_getElem? (i := 202) (by decide +kernel), List.mem_of_getElem? (i := 519) (by decide +kernel), List.mem_of_getElem? (i := 520) (by decide +kernel)⟩
theorem lw_p14 : lw_okq (⟨"SlidingBlocks", "greatest", "(LSlidingBlocks$Space;IZ)I"⟩, 8) := ⟨⟨by decide +kernel, by decide +kernel⟩, List.mem_of_getElem? (i := 14) (by decide +kernel), List.mem_of_getElem? (i := 562) (by decide +kernel), List.mem_of_getElem? (i := 563) (by decide +kernel)⟩
theorem lw_p15 : lw_okq (⟨"SlidingBlocks$Distances", "beginAtSolved", "(LSlidingBlocks$Space;)V"⟩, 8) := ⟨⟨by decide +kernel, by decide +kernel⟩, List.mem_of_getElem? (i := 208) (by decide +kernel), List.mem_of_getElem? (i := 574) (by decide +kernel), List.mem_of_getElem? (i := 575) (by decide +kernel)⟩
def lw_privs_1 : List (MethodName × Nat) := [(⟨"SlidingBlocks$Text", "startParse", "()V"⟩, 9), (⟨"SlidingBlocks$Text", "endRow", "()Z"⟩, 9), (⟨"SlidingBlocks$Text", "isRowWhole", "()Z"⟩, 9), (⟨"SlidingBlocks$Text", "addCell", "(I)Z"⟩, 9), (⟨"SlidingBlocks$Text", "contentOf", "(I)I"⟩, 9), (⟨"SlidingBlocks$Text", "fill", "(LSlidingBlocks$Board;)I"⟩, 9), (⟨"SlidingBlocks$Text", "cellsWith", "(I)I"⟩, 9), (⟨"SlidingBlocks$Text", "firstCell", "(I)I"⟩, 9), (⟨"SlidingBlocks$Text", "textIndex", "(I)I"⟩, 9), (⟨"SlidingBlocks$History", "boardAt", "(I)LSlidingBlocks$Board;"⟩, 3), (⟨"SlidingBlocks$Space", "add", "(J)V"⟩, 9), (⟨"SlidingBlocks$Space", "slotOf", "(J)I"⟩, 9), (⟨"SlidingBlocks$Space", "expand", "(LSlidingBlocks$Board;I)V"⟩, 9), (⟨"SlidingBlocks$Space", "takenIn", "(LSlidingBlocks$Board;J)I"⟩, 9), (⟨"SlidingBlocks", "greatest", "(LSlidingBlocks$Space;IZ)I"⟩, 8), (⟨"SlidingBlocks$Distances", "beginAtSolved", "(LSlidingBlocks$Space;)V"⟩, 8)]
theorem lw_r1 : ∀ q ∈ lw_privs_1, lw_okq q := List.forall_mem_cons.mpr ⟨lw_p0, List.forall_mem_cons.mpr ⟨lw_p1, List.forall_mem_cons.mpr ⟨lw_p2, List.forall_mem_cons.mpr ⟨lw_p3, List.forall_mem_cons.mpr ⟨lw_p4, List.forall_mem_cons.mpr ⟨lw_p5, List.forall_mem_cons.mpr ⟨lw_p6, List.forall_mem_cons.mpr ⟨lw_p7, List.forall_mem_cons.mpr ⟨lw_p8, List.forall_mem_cons.mpr ⟨lw_p9, List.forall_mem_cons.mpr ⟨lw_p10, List.forall_mem_cons.mpr ⟨lw_p11, List.forall_mem_cons.mpr ⟨lw_p12, List.forall_mem_cons.mpr ⟨lw_p13, List.forall_mem_cons.mpr ⟨lw_p14, List.forall_mem_cons.mpr ⟨lw_p15, fun _ h => absurd h List.not_mem_nil⟩⟩⟩⟩⟩⟩⟩⟩⟩⟩⟩⟩⟩⟩⟩⟩
theorem lw_p16 : lw_okq (⟨"SlidingBlocks$Distances", "reach", "(II)V"⟩, 8) := ⟨⟨by decide +kernel, by decide +kernel⟩, List.mem_of_getElem? (i := 208) (by decide +kernel), List.mem_of_getElem? (i := 581) (by decide +kernel), List.mem_of_getElem? (i := 582) (by decide +kernel)⟩
theorem lw_p17 : lw_okq (⟨"SlidingBlocks$Distances", "slideFrom", "(LSlidingBlocks$Board;LSlidingBlocks$Space;II)V"⟩, 8) := ⟨⟨by decide +kernel, by decide +kernel⟩, List.mem_of_getElem? (i := 208) (by decide +kernel), List.mem_of_getElem? (i := 591) (by decide +kernel), List.mem_of_getElem? (i := 592) (by decide +kernel)⟩
theorem lw_p18 : lw_okq (⟨"SlidingBlocks$Distances", "stepFrom", "(LSlidingBlocks$Board;LSlidingBlocks$Space;II)V"⟩, 8) := ⟨⟨by decide +kernel, by decide +kernel⟩, List.mem_of_getElem? (i := 208) (by decide +kernel), List.mem_of_getElem? (i := 599) (by decide +kernel), List.mem_of_getElem? (i := 600) (by decide +kernel)⟩
theorem lw_p19 : lw_okq (⟨"SlidingBlocks", "nearerPlace", "(IZI)I"⟩, 8) := ⟨⟨by decide +kernel, by decide +kernel⟩, List.mem_of_getElem? (i := 14) (by decide +kernel), List.mem_of_getElem? (i := 646) (by decide +kernel), List.mem_of_getElem? (i := 647) (by decide +kernel)⟩
def lw_privs_2 : List (MethodName × Nat) := [(⟨"SlidingBlocks$Distances", "reach", "(II)V"⟩, 8), (⟨"SlidingBlocks$Distances", "slideFrom", "(LSlidingBlocks$Board;LSlidingBlocks$Space;II)V"⟩, 8), (⟨"SlidingBlocks$Distances", "stepFrom", "(LSlidingBlocks$Board;LSlidingBlocks$Space;II)V"⟩, 8), (⟨"SlidingBlocks", "nearerPlace", "(IZI)I"⟩, 8)]
theorem lw_r2 : ∀ q ∈ lw_privs_2, lw_okq q := List.forall_mem_cons.mpr ⟨lw_p16, List.forall_mem_cons.mpr ⟨lw_p17, List.forall_mem_cons.mpr ⟨lw_p18, List.forall_mem_cons.mpr ⟨lw_p19, fun _ h => absurd h List.not_mem_nil⟩⟩⟩⟩
def lw_privs : List (MethodName × Nat) := lw_privs_1 ++ (lw_privs_2)
def lw_tbl : List Cond := k2_sels lw_privs ++ tables_1
theorem lw_privs_ok : ∀ q ∈ lw_privs, lw_okq q := by
  show ∀ q ∈ lw_privs_1 ++ (lw_privs_2), lw_okq q
  exact List.forall_mem_append.mpr ⟨lw_r1, lw_r2⟩
/-- the streams that the claim lets the run draw from -/
abbrev lw_cs : List Choice := [Jvm.Choice.named "NaN.bits"]
theorem lw_bits : nanBits ∈ lw_cs := by first | decide | exact List.mem_cons_self | simp [lw_cs, nanBits]

/-! names, fields (copied from the printed names) -/
def RX0 : String := "SlidingBlocks$Board"
def TX0 : u_T := fun k => match k with
  | 0 => ("SlidingBlocks$Board", "serial", "I", false)
  | 1 => ("SlidingBlocks$Board", "width", "I", false)
  | 2 => ("SlidingBlocks$Board", "height", "I", false)
  | 3 => ("SlidingBlocks$Board", "walls", "I", false)
  | 4 => ("SlidingBlocks$Board", "count", "I", false)
  | 5 => ("SlidingBlocks$Board", "topRow", "I", false)
  | 6 => ("SlidingBlocks$Board", "rightColumn", "I", false)
  | 7 => ("SlidingBlocks$Board", "bottomRow", "I", false)
  | 8 => ("SlidingBlocks$Board", "leftColumn", "I", false)
  | 9 => ("SlidingBlocks$Board", "shapes", "[I", true)
  | 10 => ("SlidingBlocks$Board", "wide", "[I", true)
  | 11 => ("SlidingBlocks$Board", "high", "[I", true)
  | 12 => ("SlidingBlocks$Board", "spots", "[I", true)
  | 13 => ("SlidingBlocks$Board", "goalBlock", "I", false)
  | 14 => ("SlidingBlocks$Board", "goalPlace", "I", false)
  | 15 => ("SlidingBlocks$Board", "steps", "I", false)
  | 16 => ("SlidingBlocks$Board", "slides", "I", false)
  | _ => ("SlidingBlocks$Board", "latest", "I", false)
def tyX0 : Nat → FieldType := fun k => match k with
  | 0 => .int
  | 1 => .int
  | 2 => .int
  | 3 => .int
  | 4 => .int
  | 5 => .int
  | 6 => .int
  | 7 => .int
  | 8 => .int
  | 9 => .array .int
  | 10 => .array .int
  | 11 => .array .int
  | 12 => .array .int
  | 13 => .int
  | 14 => .int
  | 15 => .int
  | 16 => .int
  | _ => .int
abbrev wsX00 : List Cond := u_ws RX0 TX0 18
theorem nmX0 : ∀ a, a < 18 → ∀ b, b < 18 → a ≠ b → (TX0 a).2.1 ≠ (TX0 b).2.1 := by decide +kernel
theorem tyX0_ok : ∀ k, k < 18 → parseFieldDescriptor (TX0 k).2.2.1 = some (tyX0 k) := by decide +kernel
abbrev cX0_init : ByteArray := prog_2_method_1_code
def yX0_init : MethodName := ⟨RX0, "<init>", "()V"⟩
abbrev cX0_copy : ByteArray := prog_2_method_2_code
def yX0_copy : MethodName := ⟨RX0, "copy", "(LSlidingBlocks$Board;)V"⟩
abbrev cX0_empty : ByteArray := prog_2_method_3_code
def yX0_empty : MethodName := ⟨RX0, "empty", "(II)V"⟩
abbrev cX0_forgetMoves : ByteArray := prog_2_method_4_code
def yX0_forgetMoves : MethodName := ⟨RX0, "forgetMoves", "()V"⟩
abbrev cX0_add : ByteArray := prog_2_method_5_code
def yX0_add : MethodName := ⟨RX0, "add", "(I)V"⟩
abbrev cX0_isJoined : ByteArray := prog_2_method_6_code
def yX0_isJoined : MethodName := ⟨RX0, "isJoined", "(I)Z"⟩
abbrev cX0_has : ByteArray := prog_2_method_7_code
def yX0_has : MethodName := ⟨RX0, "has", "(I)Z"⟩
abbrev cX0_hasCell : ByteArray := prog_2_method_8_code
def yX0_hasCell : MethodName := ⟨RX0, "hasCell", "(I)Z"⟩
abbrev cX0_fits : ByteArray := prog_2_method_9_code
def yX0_fits : MethodName := ⟨RX0, "fits", "(II)Z"⟩
abbrev cX0_atGoal : ByteArray := prog_2_method_10_code
def yX0_atGoal : MethodName := ⟨RX0, "atGoal", "()Z"⟩
abbrev cX0_cellsOf : ByteArray := prog_2_method_11_code
def yX0_cellsOf : MethodName := ⟨RX0, "cellsOf", "(I)I"⟩
abbrev cX0_taken : ByteArray := prog_2_method_12_code
def yX0_taken : MethodName := ⟨RX0, "taken", "()I"⟩
abbrev cX0_firstAlike : ByteArray := prog_2_method_13_code
def yX0_firstAlike : MethodName := ⟨RX0, "firstAlike", "(I)I"⟩
abbrev cX0_offset : ByteArray := prog_2_method_14_code
def yX0_offset : MethodName := ⟨RX0, "offset", "(I)I"⟩
abbrev cX0_directions : ByteArray := prog_2_method_15_code
def yX0_directions : MethodName := ⟨RX0, "directions", "(II)I"⟩
abbrev cX0_directionsOf : ByteArray := prog_2_method_16_code
def yX0_directionsOf : MethodName := ⟨RX0, "directionsOf", "(I)I"⟩
abbrev cX0_move : ByteArray := prog_2_method_17_code
def yX0_move : MethodName := ⟨RX0, "move", "(IIIZ)V"⟩
abbrev cX0_key : ByteArray := prog_2_method_18_code
def yX0_key : MethodName := ⟨RX0, "key", "(I)J"⟩
abbrev cX0_keyAfter : ByteArray := prog_2_method_19_code
def yX0_keyAfter : MethodName := ⟨RX0, "keyAfter", "(II)J"⟩
abbrev cX0_arrange : ByteArray := prog_2_method_20_code
def yX0_arrange : MethodName := ⟨RX0, "arrange", "(J)V"⟩
def RX1 : String := "SlidingBlocks$Distances"
def TX1 : u_T := fun k => match k with
  | 0 => ("SlidingBlocks$Distances", "slides", "Z", true)
  | 1 => ("SlidingBlocks$Distances", "scratch", "LSlidingBlocks$Scratch;", true)
  | 2 => ("SlidingBlocks$Distances", "far", "[I", true)
  | 3 => ("SlidingBlocks$Distances", "goalBlock", "I", false)
  | 4 => ("SlidingBlocks$Distances", "goalPlace", "I", false)
  | 5 => ("SlidingBlocks$Distances", "found", "I", false)
  | 6 => ("SlidingBlocks$Distances", "sum", "I", false)
  | _ => ("SlidingBlocks$Distances", "greatest", "I", false)
def tyX1 : Nat → FieldType := fun k => match k with
  | 0 => .boolean
  | 1 => .object "SlidingBlocks$Scratch"
  | 2 => .array .int
  | 3 => .int
  | 4 => .int
  | 5 => .int
  | 6 => .int
  | _ => .int
abbrev wsX10 : List Cond := u_ws RX1 TX1 8
theorem nmX1 : ∀ a, a < 8 → ∀ b, b < 8 → a ≠ b → (TX1 a).2.1 ≠ (TX1 b).2.1 := by decide +kernel
theorem tyX1_ok : ∀ k, k < 8 → parseFieldDescriptor (TX1 k).2.2.1 = some (tyX1 k) := by decide +kernel
abbrev cX1_init : ByteArray := prog_3_method_1_code
def yX1_init : MethodName := ⟨RX1, "<init>", "(ZLSlidingBlocks$Scratch;)V"⟩
abbrev cX1_forget : ByteArray := prog_3_method_2_code
def yX1_forget : MethodName := ⟨RX1, "forget", "()V"⟩
abbrev cX1_measure : ByteArray := prog_3_method_3_code
def yX1_measure : MethodName := ⟨RX1, "measure", "(LSlidingBlocks$Board;LSlidingBlocks$Space;)V"⟩
abbrev cX1_beginAtSolved : ByteArray := prog_3_method_4_code
def yX1_beginAtSolved : MethodName := ⟨RX1, "beginAtSolved", "(LSlidingBlocks$Space;)V"⟩
abbrev cX1_reach : ByteArray := prog_3_method_5_code
def yX1_reach : MethodName := ⟨RX1, "reach", "(II)V"⟩
abbrev cX1_stepFrom : ByteArray := prog_3_method_6_code
def yX1_stepFrom : MethodName := ⟨RX1, "stepFrom", "(LSlidingBlocks$Board;LSlidingBlocks$Space;II)V"⟩
abbrev cX1_slideFrom : ByteArray := prog_3_method_7_code
def yX1_slideFrom : MethodName := ⟨RX1, "slideFrom", "(LSlidingBlocks$Board;LSlidingBlocks$Space;II)V"⟩
def RX2 : String := "SlidingBlocks$History"
def TX2 : u_T := fun k => match k with
  | 0 => ("SlidingBlocks$History", "kept", "[LSlidingBlocks$Board;", true)
  | 1 => ("SlidingBlocks$History", "first", "I", false)
  | _ => ("SlidingBlocks$History", "size", "I", false)
def tyX2 : Nat → FieldType := fun k => match k with
  | 0 => .array (.object "SlidingBlocks$Board")
  | 1 => .int
  | _ => .int
abbrev wsX20 : List Cond := u_ws RX2 TX2 3
theorem nmX2 : ∀ a, a < 3 → ∀ b, b < 3 → a ≠ b → (TX2 a).2.1 ≠ (TX2 b).2.1 := by decide +kernel
theorem tyX2_ok : ∀ k, k < 3 → parseFieldDescriptor (TX2 k).2.2.1 = some (tyX2 k) := by decide +kernel
abbrev cX2_init : ByteArray := prog_4_method_1_code
def yX2_init : MethodName := ⟨RX2, "<init>", "()V"⟩
abbrev cX2_keep : ByteArray := prog_4_method_2_code
def yX2_keep : MethodName := ⟨RX2, "keep", "(LSlidingBlocks$Board;)V"⟩
abbrev cX2_restore : ByteArray := prog_4_method_3_code
def yX2_restore : MethodName := ⟨RX2, "restore", "(LSlidingBlocks$Board;)I"⟩
abbrev cX2_boardAt : ByteArray := prog_4_method_4_code
def yX2_boardAt : MethodName := ⟨RX2, "boardAt", "(I)LSlidingBlocks$Board;"⟩
def RX3 : String := "SlidingBlocks$Reach"
def TX3 : u_T := fun k => match k with
  | 0 => ("SlidingBlocks$Reach", "far", "[I", true)
  | _ => ("SlidingBlocks$Reach", "queue", "[I", true)
def tyX3 : Nat → FieldType := fun k => match k with
  | 0 => .array .int
  | _ => .array .int
abbrev wsX30 : List Cond := u_ws RX3 TX3 2
theorem nmX3 : ∀ a, a < 2 → ∀ b, b < 2 → a ≠ b → (TX3 a).2.1 ≠ (TX3 b).2.1 := by decide +kernel
theorem tyX3_ok : ∀ k, k < 2 → parseFieldDescriptor (TX3 k).2.2.1 = some (tyX3 k) := by decide +kernel
abbrev cX3_init : ByteArray := prog_5_method_1_code
def yX3_init : MethodName := ⟨RX3, "<init>", "()V"⟩
abbrev cX3_spread : ByteArray := prog_5_method_2_code
def yX3_spread : MethodName := ⟨RX3, "spread", "(LSlidingBlocks$Board;I)I"⟩
def RX4 : String := "SlidingBlocks$Scratch"
def TX4 : u_T := fun k => match k with
  | 0 => ("SlidingBlocks$Scratch", "queue", "[I", true)
  | 1 => ("SlidingBlocks$Scratch", "marks", "[I", true)
  | _ => ("SlidingBlocks$Scratch", "line", "[I", true)
def tyX4 : Nat → FieldType := fun k => match k with
  | 0 => .array .int
  | 1 => .array .int
  | _ => .array .int
abbrev wsX40 : List Cond := u_ws RX4 TX4 3
theorem nmX4 : ∀ a, a < 3 → ∀ b, b < 3 → a ≠ b → (TX4 a).2.1 ≠ (TX4 b).2.1 := by decide +kernel
theorem tyX4_ok : ∀ k, k < 3 → parseFieldDescriptor (TX4 k).2.2.1 = some (tyX4 k) := by decide +kernel
abbrev cX4_init : ByteArray := prog_6_method_1_code
def yX4_init : MethodName := ⟨RX4, "<init>", "()V"⟩
def RX5 : String := "SlidingBlocks$Space"
def TX5 : u_T := fun k => match k with
  | 0 => ("SlidingBlocks$Space", "keys", "[J", true)
  | 1 => ("SlidingBlocks$Space", "steps", "[I", true)
  | 2 => ("SlidingBlocks$Space", "slots", "[I", true)
  | 3 => ("SlidingBlocks$Space", "bySteps", "LSlidingBlocks$Distances;", true)
  | 4 => ("SlidingBlocks$Space", "bySlides", "LSlidingBlocks$Distances;", true)
  | 5 => ("SlidingBlocks$Space", "size", "I", false)
  | 6 => ("SlidingBlocks$Space", "tooMany", "Z", false)
  | 7 => ("SlidingBlocks$Space", "serial", "I", false)
  | _ => ("SlidingBlocks$Space", "removed", "I", false)
def tyX5 : Nat → FieldType := fun k => match k with
  | 0 => .array .long
  | 1 => .array .int
  | 2 => .array .int
  | 3 => .object "SlidingBlocks$Distances"
  | 4 => .object "SlidingBlocks$Distances"
  | 5 => .int
  | 6 => .boolean
  | 7 => .int
  | _ => .int
abbrev wsX50 : List Cond := u_ws RX5 TX5 9
theorem nmX5 : ∀ a, a < 9 → ∀ b, b < 9 → a ≠ b → (TX5 a).2.1 ≠ (TX5 b).2.1 := by decide +kernel
theorem tyX5_ok : ∀ k, k < 9 → parseFieldDescriptor (TX5 k).2.2.1 = some (tyX5 k) := by decide +kernel
abbrev cX5_init : ByteArray := prog_7_method_1_code
def yX5_init : MethodName := ⟨RX5, "<init>", "(LSlidingBlocks$Scratch;)V"⟩
abbrev cX5_distances : ByteArray := prog_7_method_2_code
def yX5_distances : MethodName := ⟨RX5, "distances", "(Z)LSlidingBlocks$Distances;"⟩
abbrev cX5_explore : ByteArray := prog_7_method_3_code
def yX5_explore : MethodName := ⟨RX5, "explore", "(LSlidingBlocks$Board;I)V"⟩
abbrev cX5_expand : ByteArray := prog_7_method_4_code
def yX5_expand : MethodName := ⟨RX5, "expand", "(LSlidingBlocks$Board;I)V"⟩
abbrev cX5_takenIn : ByteArray := prog_7_method_5_code
def yX5_takenIn : MethodName := ⟨RX5, "takenIn", "(LSlidingBlocks$Board;J)I"⟩
abbrev cX5_add : ByteArray := prog_7_method_6_code
def yX5_add : MethodName := ⟨RX5, "add", "(J)V"⟩
abbrev cX5_slotOf : ByteArray := prog_7_method_7_code
def yX5_slotOf : MethodName := ⟨RX5, "slotOf", "(J)I"⟩
abbrev cX5_canMove : ByteArray := prog_7_method_8_code
def yX5_canMove : MethodName := ⟨RX5, "canMove", "(II)Z"⟩
abbrev cX5_after : ByteArray := prog_7_method_9_code
def yX5_after : MethodName := ⟨RX5, "after", "(LSlidingBlocks$Board;III)I"⟩
abbrev cX5_farOf : ByteArray := prog_7_method_10_code
def yX5_farOf : MethodName := ⟨RX5, "farOf", "(JZ)I"⟩
abbrev cX5_countAt : ByteArray := prog_7_method_11_code
def yX5_countAt : MethodName := ⟨RX5, "countAt", "(II)I"⟩
abbrev cX5_placesOf : ByteArray := prog_7_method_12_code
def yX5_placesOf : MethodName := ⟨RX5, "placesOf", "(I)I"⟩
abbrev cX5_firstFar : ByteArray := prog_7_method_13_code
def yX5_firstFar : MethodName := ⟨RX5, "firstFar", "(ZI)J"⟩
def RX6 : String := "SlidingBlocks$Text"
def TX6 : u_T := fun k => match k with
  | 0 => ("SlidingBlocks$Text", "signs", "[I", true)
  | 1 => ("SlidingBlocks$Text", "length", "I", false)
  | 2 => ("SlidingBlocks$Text", "cells", "[I", true)
  | 3 => ("SlidingBlocks$Text", "cellCount", "I", false)
  | 4 => ("SlidingBlocks$Text", "letters", "[I", true)
  | 5 => ("SlidingBlocks$Text", "letterCount", "I", false)
  | 6 => ("SlidingBlocks$Text", "width", "I", false)
  | 7 => ("SlidingBlocks$Text", "rows", "I", false)
  | _ => ("SlidingBlocks$Text", "column", "I", false)
def tyX6 : Nat → FieldType := fun k => match k with
  | 0 => .array .int
  | 1 => .int
  | 2 => .array .int
  | 3 => .int
  | 4 => .array .int
  | 5 => .int
  | 6 => .int
  | 7 => .int
  | _ => .int
abbrev wsX60 : List Cond := u_ws RX6 TX6 9
theorem nmX6 : ∀ a, a < 9 → ∀ b, b < 9 → a ≠ b → (TX6 a).2.1 ≠ (TX6 b).2.1 := by decide +kernel
theorem tyX6_ok : ∀ k, k < 9 → parseFieldDescriptor (TX6 k).2.2.1 = some (tyX6 k) := by decide +kernel
abbrev cX6_init : ByteArray := prog_8_method_1_code
def yX6_init : MethodName := ⟨RX6, "<init>", "()V"⟩
abbrev cX6_append : ByteArray := prog_8_method_2_code
def yX6_append : MethodName := ⟨RX6, "append", "(I)Z"⟩
abbrev cX6_parse : ByteArray := prog_8_method_3_code
def yX6_parse : MethodName := ⟨RX6, "parse", "(LSlidingBlocks$Board;)I"⟩
abbrev cX6_startParse : ByteArray := prog_8_method_4_code
def yX6_startParse : MethodName := ⟨RX6, "startParse", "()V"⟩
abbrev cX6_isRowWhole : ByteArray := prog_8_method_5_code
def yX6_isRowWhole : MethodName := ⟨RX6, "isRowWhole", "()Z"⟩
abbrev cX6_endRow : ByteArray := prog_8_method_6_code
def yX6_endRow : MethodName := ⟨RX6, "endRow", "()Z"⟩
abbrev cX6_addCell : ByteArray := prog_8_method_7_code
def yX6_addCell : MethodName := ⟨RX6, "addCell", "(I)Z"⟩
abbrev cX6_contentOf : ByteArray := prog_8_method_8_code
def yX6_contentOf : MethodName := ⟨RX6, "contentOf", "(I)I"⟩
abbrev cX6_fill : ByteArray := prog_8_method_9_code
def yX6_fill : MethodName := ⟨RX6, "fill", "(LSlidingBlocks$Board;)I"⟩
abbrev cX6_cellsWith : ByteArray := prog_8_method_10_code
def yX6_cellsWith : MethodName := ⟨RX6, "cellsWith", "(I)I"⟩
abbrev cX6_firstCell : ByteArray := prog_8_method_11_code
def yX6_firstCell : MethodName := ⟨RX6, "firstCell", "(I)I"⟩
abbrev cX6_textIndex : ByteArray := prog_8_method_12_code
def yX6_textIndex : MethodName := ⟨RX6, "textIndex", "(I)I"⟩
def RX7 : String := "SlidingBlocks"
def TX7 : u_T := fun k => match k with
  | 0 => ("SlidingBlocks", "text", "LSlidingBlocks$Text;", true)
  | 1 => ("SlidingBlocks", "board", "LSlidingBlocks$Board;", true)
  | 2 => ("SlidingBlocks", "draft", "LSlidingBlocks$Board;", true)
  | 3 => ("SlidingBlocks", "history", "LSlidingBlocks$History;", true)
  | 4 => ("SlidingBlocks", "reach", "LSlidingBlocks$Reach;", true)
  | 5 => ("SlidingBlocks", "space", "LSlidingBlocks$Space;", true)
  | 6 => ("SlidingBlocks", "trial", "LSlidingBlocks$Space;", true)
  | _ => ("SlidingBlocks", "readings", "I", false)
def tyX7 : Nat → FieldType := fun k => match k with
  | 0 => .object "SlidingBlocks$Text"
  | 1 => .object "SlidingBlocks$Board"
  | 2 => .object "SlidingBlocks$Board"
  | 3 => .object "SlidingBlocks$History"
  | 4 => .object "SlidingBlocks$Reach"
  | 5 => .object "SlidingBlocks$Space"
  | 6 => .object "SlidingBlocks$Space"
  | _ => .int
abbrev wsX70 : List Cond := u_ws RX7 TX7 8
theorem nmX7 : ∀ a, a < 8 → ∀ b, b < 8 → a ≠ b → (TX7 a).2.1 ≠ (TX7 b).2.1 := by decide +kernel
theorem tyX7_ok : ∀ k, k < 8 → parseFieldDescriptor (TX7 k).2.2.1 = some (tyX7 k) := by decide +kernel
abbrev cX7_init : ByteArray := prog_1_method_1_code
def yX7_init : MethodName := ⟨RX7, "<init>", "()V"⟩
abbrev cX7_type : ByteArray := prog_1_method_2_code
def yX7_type : MethodName := ⟨RX7, "type", "(I)I"⟩
abbrev cX7_clear : ByteArray := prog_1_method_3_code
def yX7_clear : MethodName := ⟨RX7, "clear", "()I"⟩
abbrev cX7_read : ByteArray := prog_1_method_4_code
def yX7_read : MethodName := ⟨RX7, "read", "()I"⟩
abbrev cX7_frame : ByteArray := prog_1_method_5_code
def yX7_frame : MethodName := ⟨RX7, "frame", "(I)I"⟩
abbrev cX7_cell : ByteArray := prog_1_method_6_code
def yX7_cell : MethodName := ⟨RX7, "cell", "(I)I"⟩
abbrev cX7_block : ByteArray := prog_1_method_7_code
def yX7_block : MethodName := ⟨RX7, "block", "(II)I"⟩
abbrev cX7_step : ByteArray := prog_1_method_8_code
def yX7_step : MethodName := ⟨RX7, "step", "(II)I"⟩
abbrev cX7_slide : ByteArray := prog_1_method_9_code
def yX7_slide : MethodName := ⟨RX7, "slide", "(II)I"⟩
abbrev cX7_goal : ByteArray := prog_1_method_10_code
def yX7_goal : MethodName := ⟨RX7, "goal", "(II)I"⟩
abbrev cX7_states : ByteArray := prog_1_method_11_code
def yX7_states : MethodName := ⟨RX7, "states", "()I"⟩
abbrev cX7_solved : ByteArray := prog_1_method_12_code
def yX7_solved : MethodName := ⟨RX7, "solved", "()I"⟩
abbrev cX7_distance : ByteArray := prog_1_method_13_code
def yX7_distance : MethodName := ⟨RX7, "distance", "(Z)I"⟩
abbrev cX7_hint : ByteArray := prog_1_method_14_code
def yX7_hint : MethodName := ⟨RX7, "hint", "(Z)I"⟩
abbrev cX7_follow : ByteArray := prog_1_method_15_code
def yX7_follow : MethodName := ⟨RX7, "follow", "(Z)I"⟩
abbrev cX7_worst : ByteArray := prog_1_method_16_code
def yX7_worst : MethodName := ⟨RX7, "worst", "(Z)I"⟩
abbrev cX7_hardest : ByteArray := prog_1_method_17_code
def yX7_hardest : MethodName := ⟨RX7, "hardest", "(Z)I"⟩
abbrev cX7_mean : ByteArray := prog_1_method_18_code
def yX7_mean : MethodName := ⟨RX7, "mean", "(Z)F"⟩
abbrev cX7_places : ByteArray := prog_1_method_19_code
def yX7_places : MethodName := ⟨RX7, "places", "(I)I"⟩
abbrev cX7_without : ByteArray := prog_1_method_20_code
def yX7_without : MethodName := ⟨RX7, "without", "(IZ)I"⟩
abbrev cX7_undo : ByteArray := prog_1_method_21_code
def yX7_undo : MethodName := ⟨RX7, "undo", "()I"⟩
abbrev cX7_fingerprint : ByteArray := prog_1_method_22_code
def yX7_fingerprint : MethodName := ⟨RX7, "fingerprint", "()J"⟩
abbrev cX7_greatest : ByteArray := prog_1_method_23_code
def yX7_greatest : MethodName := ⟨RX7, "greatest", "(LSlidingBlocks$Space;IZ)I"⟩
abbrev cX7_nearerPlace : ByteArray := prog_1_method_24_code
def yX7_nearerPlace : MethodName := ⟨RX7, "nearerPlace", "(IZI)I"⟩
abbrev cX7_at : ByteArray := prog_1_method_25_code
def yX7_at : MethodName := ⟨RX7, "at", "([II)I"⟩
abbrev cX7_at_ : ByteArray := prog_1_method_26_code
def yX7_at_ : MethodName := ⟨RX7, "at", "([JI)J"⟩
abbrev cX7_put : ByteArray := prog_1_method_27_code
def yX7_put : MethodName := ⟨RX7, "put", "([III)V"⟩
abbrev cX7_put_ : ByteArray := prog_1_method_28_code
def yX7_put_ : MethodName := ⟨RX7, "put", "([JIJ)V"⟩
abbrev cX7_copyRow : ByteArray := prog_1_method_29_code
def yX7_copyRow : MethodName := ⟨RX7, "copyRow", "([I[I)V"⟩
abbrev cX7_keyShift : ByteArray := prog_1_method_30_code
def yX7_keyShift : MethodName := ⟨RX7, "keyShift", "(I)I"⟩
abbrev cX7_placeIn : ByteArray := prog_1_method_31_code
def yX7_placeIn : MethodName := ⟨RX7, "placeIn", "(JI)I"⟩
def RX8 : String := "SlidingBlocksModel"
def TX8 : u_T := fun k => match k with
  | _ => ("", "", "", false)
def tyX8 : Nat → FieldType := fun k => match k with
  | _ => .int
abbrev wsX80 : List Cond := u_ws RX8 TX8 0
theorem nmX8 : ∀ a, a < 0 → ∀ b, b < 0 → a ≠ b → (TX8 a).2.1 ≠ (TX8 b).2.1 := by decide +kernel
theorem tyX8_ok : ∀ k, k < 0 → parseFieldDescriptor (TX8 k).2.2.1 = some (tyX8 k) := by decide +kernel
def RJ6 : String := "java/lang/Integer"
def TJ6 : u_T := fun k => match k with
  | _ => ("", "", "", false)
def tyJ6 : Nat → FieldType := fun k => match k with
  | _ => .int
abbrev wsJ60 : List Cond := u_ws RJ6 TJ6 0
theorem nmJ6 : ∀ a, a < 0 → ∀ b, b < 0 → a ≠ b → (TJ6 a).2.1 ≠ (TJ6 b).2.1 := by decide +kernel
theorem tyJ6_ok : ∀ k, k < 0 → parseFieldDescriptor (TJ6 k).2.2.1 = some (tyJ6 k) := by decide +kernel
abbrev cJ6_bitCount_0f7a4 : ByteArray := prog_11_method_49_code
def yJ6_bitCount_0f7a4 : MethodName := ⟨RJ6, "bitCount", "(I)I"⟩
def RJ9 : String := "java/lang/Math"
def TJ9 : u_T := fun k => match k with
  | _ => ("", "", "", false)
def tyJ9 : Nat → FieldType := fun k => match k with
  | _ => .int
abbrev wsJ90 : List Cond := u_ws RJ9 TJ9 0
theorem nmJ9 : ∀ a, a < 0 → ∀ b, b < 0 → a ≠ b → (TJ9 a).2.1 ≠ (TJ9 b).2.1 := by decide +kernel
theorem tyJ9_ok : ∀ k, k < 0 → parseFieldDescriptor (TJ9 k).2.2.1 = some (tyJ9 k) := by decide +kernel
abbrev cJ9_max_7cf53 : ByteArray := prog_12_method_65_code
def yJ9_max_7cf53 : MethodName := ⟨RJ9, "max", "(II)I"⟩
abbrev cJ9_min_7cf53 : ByteArray := prog_12_method_69_code
def yJ9_min_7cf53 : MethodName := ⟨RJ9, "min", "(II)I"⟩
def RJ10 : String := "java/lang/System"
def TJ10 : u_T := fun k => match k with
  | _ => ("", "", "", false)
def tyJ10 : Nat → FieldType := fun k => match k with
  | _ => .int
abbrev wsJ100 : List Cond := u_ws RJ10 TJ10 0
theorem nmJ10 : ∀ a, a < 0 → ∀ b, b < 0 → a ≠ b → (TJ10 a).2.1 ≠ (TJ10 b).2.1 := by decide +kernel
theorem tyJ10_ok : ∀ k, k < 0 → parseFieldDescriptor (TJ10 k).2.2.1 = some (tyJ10 k) := by decide +kernel
def RJ7 : String := "java/util/Arrays"
def TJ7 : u_T := fun k => match k with
  | _ => ("", "", "", false)
def tyJ7 : Nat → FieldType := fun k => match k with
  | _ => .int
abbrev wsJ70 : List Cond := u_ws RJ7 TJ7 0
theorem nmJ7 : ∀ a, a < 0 → ∀ b, b < 0 → a ≠ b → (TJ7 a).2.1 ≠ (TJ7 b).2.1 := by decide +kernel
theorem tyJ7_ok : ∀ k, k < 0 → parseFieldDescriptor (TJ7 k).2.2.1 = some (tyJ7 k) := by decide +kernel
abbrev cJ7_fill_53178 : ByteArray := prog_14_method_103_code
def yJ7_fill_53178 : MethodName := ⟨RJ7, "fill", "([II)V"⟩
def RL : String := "SlidingBlocksLaw"
abbrev cL_cell : ByteArray := method_2_code
def yL_cell : MethodName := ⟨RL, "cell", "([II)I"⟩
abbrev cL_up : ByteArray := method_3_code
def yL_up : MethodName := ⟨RL, "up", "(II)I"⟩
abbrev cL_fails : ByteArray := method_4_code
def yL_fails : MethodName := ⟨RL, "fails", "(LSlidingBlocks;)Z"⟩
abbrev cL_fits : ByteArray := method_5_code
def yL_fits : MethodName := ⟨RL, "fits", "([IIIIIII)Z"⟩
abbrev cL_frame : ByteArray := method_6_code
def yL_frame : MethodName := ⟨RL, "frame", "(LSlidingBlocks;[III)I"⟩
abbrev cL_agrees : ByteArray := method_7_code
def yL_agrees : MethodName := ⟨RL, "agrees", "(LSlidingBlocks;)Z"⟩
abbrev cL_ends : ByteArray := method_8_code
def yL_ends : MethodName := ⟨RL, "ends", "(LSlidingBlocks;ZI)Z"⟩
abbrev cL_law : ByteArray := code
def yL_law : MethodName := ⟨RL, "law", "([I)Z"⟩
abbrev vwCl : List vw_C := [(RX0, TX0, 18), (RX1, TX1, 8), (RX2, TX2, 3), (RX3, TX3, 2), (RX4, TX4, 3), (RX5, TX5, 9), (RX6, TX6, 9), (RX7, TX7, 8)]
/-- the words that pass on into every call -/
def lw_all : List Cond := lw_tbl.filter goodWord
theorem lw_all_tbl {w : Cond} (h : w ∈ lw_all) : w ∈ lw_tbl := (List.mem_filter.mp h).1
theorem lw_goodIn {ws : List Cond} (h : ∀ w ∈ ws, w ∈ lw_all) : GoodIn lw_all ws := fun w hw => ⟨h w hw, good_of_word (List.mem_filter.mp (h w hw)).2⟩
